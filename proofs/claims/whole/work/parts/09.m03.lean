def fX8_isSeen_92 (l1 : Int32) (σ : vMem) : Option (Int32 × vMem) :=
  if ¬ (l1 = 0 ∨ l1 = 1) then none else some (l1, σ)
theorem vX8_isSeen_92 {ad : Nat → Nat} {Q : Option Value → vMem → Prop} {r : (Int32 × vMem)} {l1 : Int32} {σ : vMem} (h : fX8_isSeen_92 l1 σ = some r) (hQ : Q (some (.int r.1)) r.2) : V GM mX8_isSeen ad Q 4 92 [none, some (.int l1), none, none, none] [] σ := by
  unfold fX8_isSeen_92 at h
  refine V.iload_n dX8_isSeen_92 rfl ?_
  obtain ⟨hb, h⟩ := ckn h
  obtain rfl := Option.some.inj h
  exact V.zret dX8_isSeen_93 rfl (Decidable.not_not.mp hb) hQ
def fX8_isSeen_85 (K8 : Int32 → Int32 → vMem → Option (Int32 × vMem)) (l2 : Int32) (s0 : Int32) (σ : vMem) : Option (Int32 × vMem) :=
  K8 s0 (l2 + (1 : Int32)) σ
theorem vX8_isSeen_85 {ad : Nat → Nat} {Q : Option Value → vMem → Prop} {r : (Int32 × vMem)} {K8 : Int32 → Int32 → vMem → Option (Int32 × vMem)} (hK8 : ∀ (l1 : Int32) (l2 : Int32) (σ : vMem), K8 l1 l2 σ = some r → V GM mX8_isSeen ad Q 4 8 [some (.ref (ad 0)), some (.int l1), some (.int l2), none, none] [] σ) {l2 : Int32} {s0 : Int32} {σ : vMem} (h : fX8_isSeen_85 K8 l2 s0 σ = some r) (hQ : Q (some (.int r.1)) r.2) : V GM mX8_isSeen ad Q 4 85 [some (.ref (ad 0)), none, some (.int l2), none, none] [.int s0] σ := by
  unfold fX8_isSeen_85 at h
  refine V.istore_n dX8_isSeen_85 (by decide) rfl ?_
  refine V.iinc dX8_isSeen_86 rfl (ii_1 _) (by decide) rfl ?_
  refine V.goto (tgt := 8) dX8_isSeen_89 (by decide) ?_
  exact V.forget (hK8 _ _ _ h) ⟨rfl, ⟨rfl, ⟨rfl, trivial⟩⟩⟩
def fX8_isSeen_84 (K8 : Int32 → Int32 → vMem → Option (Int32 × vMem)) (l2 : Int32) (σ : vMem) : Option (Int32 × vMem) :=
  fX8_isSeen_85 K8 l2 (0 : Int32) σ
theorem vX8_isSeen_84 {ad : Nat → Nat} {Q : Option Value → vMem → Prop} {r : (Int32 × vMem)} {K8 : Int32 → Int32 → vMem → Option (Int32 × vMem)} (hK8 : ∀ (l1 : Int32) (l2 : Int32) (σ : vMem), K8 l1 l2 σ = some r → V GM mX8_isSeen ad Q 4 8 [some (.ref (ad 0)), some (.int l1), some (.int l2), none, none] [] σ) {l2 : Int32} {σ : vMem} (h : fX8_isSeen_84 K8 l2 σ = some r) (hQ : Q (some (.int r.1)) r.2) : V GM mX8_isSeen ad Q 4 84 [some (.ref (ad 0)), none, some (.int l2), none, none] [] σ := by
  unfold fX8_isSeen_84 at h
  refine V.iconst ic_0 dX8_isSeen_84 ?_
  exact V.forget (vX8_isSeen_85 hK8 h hQ) ⟨rfl, ⟨rfl, trivial⟩⟩
def fX8_isSeen_71 (K8 : Int32 → Int32 → vMem → Option (Int32 × vMem)) (l2 : Int32) (s0 : Int32) (σ : vMem) : Option (Int32 × vMem) :=
  if l2 < 0 ∨ 8 ≤ l2.toNatClampNeg then none else if s0 = (σ.1 29 l2.toNatClampNeg) then (fX8_isSeen_85 K8 l2 (1 : Int32) σ) else
  (fX8_isSeen_84 K8 l2 σ)
theorem vX8_isSeen_71 {ad : Nat → Nat} {Q : Option Value → vMem → Prop} {r : (Int32 × vMem)} {K8 : Int32 → Int32 → vMem → Option (Int32 × vMem)} (hK8 : ∀ (l1 : Int32) (l2 : Int32) (σ : vMem), K8 l1 l2 σ = some r → V GM mX8_isSeen ad Q 4 8 [some (.ref (ad 0)), some (.int l1), some (.int l2), none, none] [] σ) {l2 : Int32} {s0 : Int32} {σ : vMem} (h : fX8_isSeen_71 K8 l2 s0 σ = some r) (hQ : Q (some (.int r.1)) r.2) : V GM mX8_isSeen ad Q 4 71 [some (.ref (ad 0)), none, some (.int l2), none, none] [.int s0] σ := by
  unfold fX8_isSeen_71 at h
  refine V.aload_n dX8_isSeen_71 rfl ?_
  refine V.get dX8_isSeen_72 flX8_95 nM_0 gM_0 (by decide) (eM_0_40 _ _) ?_
  refine V.iload_n dX8_isSeen_75 rfl ?_
  obtain ⟨hb, h⟩ := ckn h
  refine V.iald dX8_isSeen_76 nM_29 gM_29 hb ?_
  rcases itc h with ⟨hc, h⟩ | ⟨hc, h⟩
  · refine V.icmp_ne (tgt := 84) dX8_isSeen_77 (by decide) (fun hn => absurd hc hn) (fun _ => ?_)
    refine V.iconst ic_1 dX8_isSeen_80 ?_
    refine V.goto (tgt := 85) dX8_isSeen_81 (by decide) ?_
    exact V.forget (vX8_isSeen_85 hK8 h hQ) ⟨rfl, ⟨rfl, trivial⟩⟩
  · refine V.icmp_ne (tgt := 84) dX8_isSeen_77 (by decide) (fun _ => ?_) (fun hn => absurd hn hc)
    exact V.forget (vX8_isSeen_84 hK8 h hQ) ⟨rfl, ⟨rfl, trivial⟩⟩
def fX8_isSeen_8 (K8 : Int32 → Int32 → vMem → Option (Int32 × vMem)) (l1 : Int32) (l2 : Int32) (σ : vMem) : Option (Int32 × vMem) :=
  if (σ.1 0 37) ≤ l2 then (fX8_isSeen_92 l1 σ) else
  (if l1 = 0 then (fX8_isSeen_92 l1 σ) else
  (if l2 < 0 ∨ 8 ≤ l2.toNatClampNeg then none else if l2 < 0 ∨ 8 ≤ l2.toNatClampNeg then none else if (σ.1 0 6) ≤ (σ.1 27 l2.toNatClampNeg) then (fX8_isSeen_84 K8 l2 σ) else
  (if (σ.1 27 l2.toNatClampNeg) < 0 ∨ 8 ≤ (σ.1 27 l2.toNatClampNeg).toNatClampNeg then none else if (σ.1 14 (σ.1 27 l2.toNatClampNeg).toNatClampNeg) ≤ (σ.1 28 l2.toNatClampNeg) then (fX8_isSeen_71 K8 l2 (8 : Int32) σ) else
  (if (((24 : Int32) * (σ.1 27 l2.toNatClampNeg)) + (σ.1 28 l2.toNatClampNeg)) < 0 ∨ 192 ≤ (((24 : Int32) * (σ.1 27 l2.toNatClampNeg)) + (σ.1 28 l2.toNatClampNeg)).toNatClampNeg then none else fX8_isSeen_71 K8 l2 (σ.1 15 (((24 : Int32) * (σ.1 27 l2.toNatClampNeg)) + (σ.1 28 l2.toNatClampNeg)).toNatClampNeg) σ))))
theorem vX8_isSeen_8 {ad : Nat → Nat} {Q : Option Value → vMem → Prop} {r : (Int32 × vMem)} {K8 : Int32 → Int32 → vMem → Option (Int32 × vMem)} (hK8 : ∀ (l1 : Int32) (l2 : Int32) (σ : vMem), K8 l1 l2 σ = some r → V GM mX8_isSeen ad Q 4 8 [some (.ref (ad 0)), some (.int l1), some (.int l2), none, none] [] σ) {l1 : Int32} {l2 : Int32} {σ : vMem} (h : fX8_isSeen_8 K8 l1 l2 σ = some r) (hQ : Q (some (.int r.1)) r.2) : V GM mX8_isSeen ad Q 4 8 [some (.ref (ad 0)), some (.int l1), some (.int l2), none, none] [] σ := by
  unfold fX8_isSeen_8 at h
  refine V.iload_n dX8_isSeen_8 rfl ?_
  refine V.aload_n dX8_isSeen_9 rfl ?_
  refine V.get dX8_isSeen_10 flX8_295 nM_0 gM_0 (by decide) (eM_0_37 _ _) ?_
  rcases itc h with ⟨hc, h⟩ | ⟨hc, h⟩
  · refine V.icmp_ge (tgt := 92) dX8_isSeen_13 (by decide) (fun _ => ?_) (fun hn => absurd hc hn)
    exact V.forget (vX8_isSeen_92 h hQ) ⟨rfl, trivial⟩
  · refine V.icmp_ge (tgt := 92) dX8_isSeen_13 (by decide) (fun hn => absurd hn hc) (fun _ => ?_)
    refine V.iload_n dX8_isSeen_16 rfl ?_
    rcases itc h with ⟨hc, h⟩ | ⟨hc, h⟩
    · refine V.if_eq (tgt := 92) dX8_isSeen_17 (by decide) (fun _ => ?_) (fun hn => absurd hc hn)
      exact V.forget (vX8_isSeen_92 h hQ) ⟨rfl, trivial⟩
    · refine V.if_eq (tgt := 92) dX8_isSeen_17 (by decide) (fun hn => absurd hn hc) (fun _ => ?_)
      refine V.aload_n dX8_isSeen_20 rfl ?_
      refine V.get dX8_isSeen_21 flX8_89 nM_0 gM_0 (by decide) (eM_0_38 _ _) ?_
      refine V.iload_n dX8_isSeen_24 rfl ?_
      obtain ⟨hb, h⟩ := ckn h
      refine V.iald dX8_isSeen_25 nM_27 gM_27 hb ?_
      refine V.istore_n dX8_isSeen_26 (by decide) rfl ?_
      refine V.aload_n dX8_isSeen_27 rfl ?_
      refine V.get dX8_isSeen_28 flX8_92 nM_0 gM_0 (by decide) (eM_0_39 _ _) ?_
      refine V.iload_n dX8_isSeen_31 rfl ?_
      obtain ⟨hb, h⟩ := ckn h
      refine V.iald dX8_isSeen_32 nM_28 gM_28 hb ?_
      refine V.istore dX8_isSeen_33 (by decide) rfl ?_
      refine V.iload_n dX8_isSeen_35 rfl ?_
      refine V.aload_n dX8_isSeen_36 rfl ?_
      refine V.get dX8_isSeen_37 flX8_147 nM_0 gM_0 (by decide) (eM_0_6 _ _) ?_
      rcases itc h with ⟨hc, h⟩ | ⟨hc, h⟩
      · refine V.icmp_ge (tgt := 84) dX8_isSeen_40 (by decide) (fun _ => ?_) (fun hn => absurd hc hn)
        exact V.forget (vX8_isSeen_84 hK8 h hQ) ⟨rfl, ⟨rfl, trivial⟩⟩
      · refine V.icmp_ge (tgt := 84) dX8_isSeen_40 (by decide) (fun hn => absurd hn hc) (fun _ => ?_)
        refine V.iload dX8_isSeen_43 rfl ?_
        refine V.aload_n dX8_isSeen_45 rfl ?_
        refine V.get dX8_isSeen_46 flX8_49 nM_0 gM_0 (by decide) (eM_0_22 _ _) ?_
        refine V.iload_n dX8_isSeen_49 rfl ?_
        obtain ⟨hb, h⟩ := ckn h
        refine V.iald dX8_isSeen_50 nM_14 gM_14 hb ?_
        rcases itc h with ⟨hc, h⟩ | ⟨hc, h⟩
        · refine V.icmp_ge (tgt := 69) dX8_isSeen_51 (by decide) (fun _ => ?_) (fun hn => absurd hc hn)
          refine V.bipush bp_8 dX8_isSeen_69 ?_
          exact V.forget (vX8_isSeen_71 hK8 h hQ) ⟨rfl, ⟨rfl, trivial⟩⟩
        · refine V.icmp_ge (tgt := 69) dX8_isSeen_51 (by decide) (fun hn => absurd hn hc) (fun _ => ?_)
          refine V.aload_n dX8_isSeen_54 rfl ?_
          refine V.get dX8_isSeen_55 flX8_52 nM_0 gM_0 (by decide) (eM_0_23 _ _) ?_
          refine V.bipush bp_24 dX8_isSeen_58 ?_
          refine V.iload_n dX8_isSeen_60 rfl ?_
          refine V.imul dX8_isSeen_61 ?_
          refine V.iload dX8_isSeen_62 rfl ?_
          refine V.iadd dX8_isSeen_64 ?_
          obtain ⟨hb, h⟩ := ckn h
          refine V.iald dX8_isSeen_65 nM_15 gM_15 hb ?_
          refine V.goto (tgt := 71) dX8_isSeen_66 (by decide) ?_
          exact V.forget (vX8_isSeen_71 hK8 h hQ) ⟨rfl, ⟨rfl, trivial⟩⟩
def LfX8_isSeen_8 : Nat → Int32 → Int32 → vMem → Option (Int32 × vMem)
  | 0, _, _, _ => none
  | n + 1, l1, l2, σ => fX8_isSeen_8 (LfX8_isSeen_8 n) l1 l2 σ
theorem LvX8_isSeen_8 {ad : Nat → Nat} {Q : Option Value → vMem → Prop} {r : (Int32 × vMem)} (hQ : Q (some (.int r.1)) r.2) : ∀ (n : Nat) (l1 : Int32) (l2 : Int32) (σ : vMem), LfX8_isSeen_8 n l1 l2 σ = some r → V GM mX8_isSeen ad Q 4 8 [some (.ref (ad 0)), some (.int l1), some (.int l2), none, none] [] σ := by
  intro n
  induction n with
  | zero => intro l1 l2 σ h; cases h
  | succ n ih => intro l1 l2 σ h; exact vX8_isSeen_8 ih h hQ
def fX8_isSeen (σ : vMem) : Option (Int32 × vMem) :=
  (fX8_runs σ).bind fun q1 => LfX8_isSeen_8 200 (1 : Int32) (0 : Int32) q1
theorem vX8_isSeen {ad : Nat → Nat} {Q : Option Value → vMem → Prop} {r : (Int32 × vMem)} {σ : vMem} (h : fX8_isSeen σ = some r) (hQ : Q (some (.int r.1)) r.2) : V GM mX8_isSeen ad Q 4 0 [some (.ref (ad 0)), none, none, none, none] [] σ := by
  unfold fX8_isSeen at h
  refine V.aload_n dX8_isSeen_0 rfl ?_
  obtain ⟨q1, h1, h⟩ := bdc h
  refine V.callV0 (mc := mX8_runs) (d' := 3) dX8_isSeen_1 lkX8_245 hfX8_runs nM_0 gM_0 rfl (by decide) (Nat.le_of_ble_eq_true rfl) (Nat.le_of_ble_eq_true rfl) (vX8_runs h1 ?_)
  refine V.iconst ic_1 dX8_isSeen_4 ?_
  refine V.istore_n dX8_isSeen_5 (by decide) rfl ?_
  refine V.iconst ic_0 dX8_isSeen_6 ?_
  refine V.istore_n dX8_isSeen_7 (by decide) rfl ?_
  exact V.forget (LvX8_isSeen_8 hQ 200 _ _ _ h) ⟨rfl, ⟨rfl, ⟨rfl, trivial⟩⟩⟩
def fX8_neverNow_42 (K8 : Int32 → Int32 → vMem → Option (Int32 × vMem)) (l2 : Int32) (s0 : Int32) (s1 : Int32) (σ : vMem) : Option (Int32 × vMem) :=
  K8 (s0 ||| s1) (l2 + (1 : Int32)) σ
theorem vX8_neverNow_42 {ad : Nat → Nat} {Q : Option Value → vMem → Prop} {r : (Int32 × vMem)} {K8 : Int32 → Int32 → vMem → Option (Int32 × vMem)} (hK8 : ∀ (l1 : Int32) (l2 : Int32) (σ : vMem), K8 l1 l2 σ = some r → V GM mX8_neverNow ad Q 7 8 [some (.ref (ad 0)), some (.int l1), some (.int l2)] [] σ) {l2 : Int32} {s0 : Int32} {s1 : Int32} {σ : vMem} (h : fX8_neverNow_42 K8 l2 s0 s1 σ = some r) (hQ : Q (some (.int r.1)) r.2) : V GM mX8_neverNow ad Q 7 42 [some (.ref (ad 0)), none, some (.int l2)] [.int s1, .int s0] σ := by
  unfold fX8_neverNow_42 at h
  refine V.ior dX8_neverNow_42 ?_
  refine V.istore_n dX8_neverNow_43 (by decide) rfl ?_
  refine V.iinc dX8_neverNow_44 rfl (ii_1 _) (by decide) rfl ?_
  refine V.goto (tgt := 8) dX8_neverNow_47 (by decide) ?_
  exact V.forget (hK8 _ _ _ h) ⟨rfl, ⟨rfl, ⟨rfl, trivial⟩⟩⟩
def fX8_neverNow_27 (K8 : Int32 → Int32 → vMem → Option (Int32 × vMem)) (l1 : Int32) (l2 : Int32) (σ : vMem) : Option (Int32 × vMem) :=
  (fX8_isSeen σ).bind fun q1 => if q1.1 = 0 then (fX8_neverNow_42 K8 l2 l1 (0 : Int32) q1.2) else
  (fX8_neverNow_42 K8 l2 l1 ((1 : Int32) <<< (l2 &&& 31)) q1.2)
theorem vX8_neverNow_27 {ad : Nat → Nat} {Q : Option Value → vMem → Prop} {r : (Int32 × vMem)} {K8 : Int32 → Int32 → vMem → Option (Int32 × vMem)} (hK8 : ∀ (l1 : Int32) (l2 : Int32) (σ : vMem), K8 l1 l2 σ = some r → V GM mX8_neverNow ad Q 7 8 [some (.ref (ad 0)), some (.int l1), some (.int l2)] [] σ) {l1 : Int32} {l2 : Int32} {σ : vMem} (h : fX8_neverNow_27 K8 l1 l2 σ = some r) (hQ : Q (some (.int r.1)) r.2) : V GM mX8_neverNow ad Q 7 27 [some (.ref (ad 0)), some (.int l1), some (.int l2)] [] σ := by
  unfold fX8_neverNow_27 at h
  refine V.iload_n dX8_neverNow_27 rfl ?_
  refine V.aload_n dX8_neverNow_28 rfl ?_
  obtain ⟨q1, h1, h⟩ := bdc h
  refine V.callV0 (mc := mX8_isSeen) (d' := 4) dX8_neverNow_29 lkX8_298 hfX8_isSeen nM_0 gM_0 rfl (by decide) (Nat.le_of_ble_eq_true rfl) (Nat.le_of_ble_eq_true rfl) (vX8_isSeen h1 ?_)
  rcases itc h with ⟨hc, h⟩ | ⟨hc, h⟩
  · refine V.if_eq (tgt := 41) dX8_neverNow_32 (by decide) (fun _ => ?_) (fun hn => absurd hc hn)
    refine V.iconst ic_0 dX8_neverNow_41 ?_
    exact V.forget (vX8_neverNow_42 hK8 h hQ) ⟨rfl, ⟨rfl, trivial⟩⟩
  · refine V.if_eq (tgt := 41) dX8_neverNow_32 (by decide) (fun hn => absurd hn hc) (fun _ => ?_)
    refine V.iconst ic_1 dX8_neverNow_35 ?_
    refine V.iload_n dX8_neverNow_36 rfl ?_
    refine V.ishl dX8_neverNow_37 ?_
    refine V.goto (tgt := 42) dX8_neverNow_38 (by decide) ?_
    exact V.forget (vX8_neverNow_42 hK8 h hQ) ⟨rfl, ⟨rfl, trivial⟩⟩
def fX8_neverNow_8 (K8 : Int32 → Int32 → vMem → Option (Int32 × vMem)) (l1 : Int32) (l2 : Int32) (σ : vMem) : Option (Int32 × vMem) :=
  if (σ.1 0 13) ≤ l2 then (some (l1, σ)) else
  ((fX8_windsBut ((1 : Int32) <<< (l2 &&& 31)) σ).bind fun q1 => fX8_neverNow_27 K8 l1 l2 (vupL q1.2 0 17 q1.1))
theorem vX8_neverNow_8 {ad : Nat → Nat} {Q : Option Value → vMem → Prop} {r : (Int32 × vMem)} {K8 : Int32 → Int32 → vMem → Option (Int32 × vMem)} (hK8 : ∀ (l1 : Int32) (l2 : Int32) (σ : vMem), K8 l1 l2 σ = some r → V GM mX8_neverNow ad Q 7 8 [some (.ref (ad 0)), some (.int l1), some (.int l2)] [] σ) {l1 : Int32} {l2 : Int32} {σ : vMem} (h : fX8_neverNow_8 K8 l1 l2 σ = some r) (hQ : Q (some (.int r.1)) r.2) : V GM mX8_neverNow ad Q 7 8 [some (.ref (ad 0)), some (.int l1), some (.int l2)] [] σ := by
  unfold fX8_neverNow_8 at h
  refine V.iload_n dX8_neverNow_8 rfl ?_
  refine V.aload_n dX8_neverNow_9 rfl ?_
  refine V.get dX8_neverNow_10 flX8_181 nM_0 gM_0 (by decide) (eM_0_13 _ _) ?_
  rcases itc h with ⟨hc, h⟩ | ⟨hc, h⟩
  · refine V.icmp_ge (tgt := 50) dX8_neverNow_13 (by decide) (fun _ => ?_) (fun hn => absurd hc hn)
    refine V.iload_n dX8_neverNow_50 rfl ?_
    obtain rfl := Option.some.inj h
    exact V.iret dX8_neverNow_51 rfl hQ
  · refine V.icmp_ge (tgt := 50) dX8_neverNow_13 (by decide) (fun hn => absurd hn hc) (fun _ => ?_)
    refine V.aload_n dX8_neverNow_16 rfl ?_
    refine V.aload_n dX8_neverNow_17 rfl ?_
    refine V.iconst ic_1 dX8_neverNow_18 ?_
    refine V.iload_n dX8_neverNow_19 rfl ?_
    refine V.ishl dX8_neverNow_20 ?_
    obtain ⟨q1, h1, h⟩ := bdc h
    refine V.callV1 (mc := mX8_windsBut) (d' := 1) dX8_neverNow_21 lkX8_204 hfX8_windsBut nM_0 gM_0 rfl (by decide) (Nat.le_of_ble_eq_true rfl) (Nat.le_of_ble_eq_true rfl) (vX8_windsBut h1 ?_)
    refine V.putL dX8_neverNow_24 fpX8_208 nM_0 gM_0 (by decide) rfl ?_
    exact V.forget (vX8_neverNow_27 hK8 h hQ) ⟨rfl, ⟨rfl, ⟨rfl, trivial⟩⟩⟩
def LfX8_neverNow_8 : Nat → Int32 → Int32 → vMem → Option (Int32 × vMem)
  | 0, _, _, _ => none
  | n + 1, l1, l2, σ => fX8_neverNow_8 (LfX8_neverNow_8 n) l1 l2 σ
theorem LvX8_neverNow_8 {ad : Nat → Nat} {Q : Option Value → vMem → Prop} {r : (Int32 × vMem)} (hQ : Q (some (.int r.1)) r.2) : ∀ (n : Nat) (l1 : Int32) (l2 : Int32) (σ : vMem), LfX8_neverNow_8 n l1 l2 σ = some r → V GM mX8_neverNow ad Q 7 8 [some (.ref (ad 0)), some (.int l1), some (.int l2)] [] σ := by
  intro n
  induction n with
  | zero => intro l1 l2 σ h; cases h
  | succ n ih => intro l1 l2 σ h; exact vX8_neverNow_8 ih h hQ
def fX8_neverNow (σ : vMem) : Option (Int32 × vMem) :=
  (fX8_asTold σ).bind fun q1 => LfX8_neverNow_8 200 (0 : Int32) (0 : Int32) q1
theorem vX8_neverNow {ad : Nat → Nat} {Q : Option Value → vMem → Prop} {r : (Int32 × vMem)} {σ : vMem} (h : fX8_neverNow σ = some r) (hQ : Q (some (.int r.1)) r.2) : V GM mX8_neverNow ad Q 7 0 [some (.ref (ad 0)), none, none] [] σ := by
  unfold fX8_neverNow at h
  refine V.aload_n dX8_neverNow_0 rfl ?_
  obtain ⟨q1, h1, h⟩ := bdc h
  refine V.callV0 (mc := mX8_asTold) (d' := 6) dX8_neverNow_1 lkX8_242 hfX8_asTold nM_0 gM_0 rfl (by decide) (Nat.le_of_ble_eq_true rfl) (Nat.le_of_ble_eq_true rfl) (vX8_asTold h1 ?_)
  refine V.iconst ic_0 dX8_neverNow_4 ?_
  refine V.istore_n dX8_neverNow_5 (by decide) rfl ?_
  refine V.iconst ic_0 dX8_neverNow_6 ?_
  refine V.istore_n dX8_neverNow_7 (by decide) rfl ?_
  exact V.forget (LvX8_neverNow_8 hQ 200 _ _ _ h) ⟨rfl, ⟨rfl, ⟨rfl, trivial⟩⟩⟩
def fX8_never (σ : vMem) : Option (Int32 × vMem) :=
  (fX8_neverNow σ).bind fun q1 => some (q1.1, q1.2)
theorem vX8_never {ad : Nat → Nat} {Q : Option Value → vMem → Prop} {r : (Int32 × vMem)} {σ : vMem} (h : fX8_never σ = some r) (hQ : Q (some (.int r.1)) r.2) : V GM mX8_never ad Q 8 0 [some (.ref (ad 0))] [] σ := by
  unfold fX8_never at h
  refine V.aload_n dX8_never_0 rfl ?_
  obtain ⟨q1, h1, h⟩ := bdc h
  refine V.callV0 (mc := mX8_neverNow) (d' := 7) dX8_never_1 lkX8_302 hfX8_neverNow nM_0 gM_0 rfl (by decide) (Nat.le_of_ble_eq_true rfl) (Nat.le_of_ble_eq_true rfl) (vX8_neverNow h1 ?_)
  obtain rfl := Option.some.inj h
  exact V.iret dX8_never_4 rfl hQ
def fX8_wasOf_154 (l5 : Int32) (σ : vMem) : Option (Int32 × vMem) :=
  some (l5, σ)
theorem vX8_wasOf_154 {ad : Nat → Nat} {Q : Option Value → vMem → Prop} {r : (Int32 × vMem)} {l5 : Int32} {σ : vMem} (h : fX8_wasOf_154 l5 σ = some r) (hQ : Q (some (.int r.1)) r.2) : V GM mX8_wasOf ad Q 7 154 [none, none, none, none, none, some (.int l5), none, none] [] σ := by
  unfold fX8_wasOf_154 at h
  refine V.iload dX8_wasOf_154 rfl ?_
  obtain rfl := Option.some.inj h
  exact V.iret dX8_wasOf_156 rfl hQ
def fX8_wasOf_146 (l1 : Int32) (l4 : Int32) (l5 : Int32) (σ : vMem) : Option (Int32 × vMem) :=
  if l1 < 0 ∨ 10 ≤ l1.toNatClampNeg then none else fX8_wasOf_154 l5 (vup σ 5 l1.toNatClampNeg l4)
theorem vX8_wasOf_146 {ad : Nat → Nat} {Q : Option Value → vMem → Prop} {r : (Int32 × vMem)} {l1 : Int32} {l4 : Int32} {l5 : Int32} {σ : vMem} (h : fX8_wasOf_146 l1 l4 l5 σ = some r) (hQ : Q (some (.int r.1)) r.2) : V GM mX8_wasOf ad Q 7 146 [some (.ref (ad 0)), some (.int l1), none, none, some (.int l4), some (.int l5), none, none] [] σ := by
  unfold fX8_wasOf_146 at h
  refine V.aload_n dX8_wasOf_146 rfl ?_
  refine V.get dX8_wasOf_147 flX8_22 nM_0 gM_0 (by decide) (eM_0_5 _ _) ?_
  refine V.iload_n dX8_wasOf_150 rfl ?_
  refine V.iload dX8_wasOf_151 rfl ?_
  obtain ⟨hb, h⟩ := ckn h
  refine V.iast dX8_wasOf_153 nM_5 gM_5 hb ?_
  exact V.forget (vX8_wasOf_154 h hQ) ⟨rfl, trivial⟩
def fX8_wasOf_127 (K25 : Int32 → Int32 → Int32 → Int32 → Int32 → Int32 → vMem → Option (Int32 × vMem)) (K98 : Int32 → Int32 → Int32 → Int32 → Int32 → Int32 → Int32 → vMem → Option (Int32 × vMem)) (l1 : Int32) (l2 : Int32) (l3 : Int32) (l4 : Int32) (l5 : Int32) (l6 : Int32) (l7 : Int32) (σ : vMem) : Option (Int32 × vMem) :=
  K98 l1 l2 l3 l4 l5 l6 (l7 + (1 : Int32)) σ
theorem vX8_wasOf_127 {ad : Nat → Nat} {Q : Option Value → vMem → Prop} {r : (Int32 × vMem)} {K25 : Int32 → Int32 → Int32 → Int32 → Int32 → Int32 → vMem → Option (Int32 × vMem)} (hK25 : ∀ (l1 : Int32) (l2 : Int32) (l3 : Int32) (l4 : Int32) (l5 : Int32) (l6 : Int32) (σ : vMem), K25 l1 l2 l3 l4 l5 l6 σ = some r → V GM mX8_wasOf ad Q 7 25 [some (.ref (ad 0)), some (.int l1), some (.int l2), some (.int l3), some (.int l4), some (.int l5), some (.int l6), none] [] σ) {K98 : Int32 → Int32 → Int32 → Int32 → Int32 → Int32 → Int32 → vMem → Option (Int32 × vMem)} (hK98 : ∀ (l1 : Int32) (l2 : Int32) (l3 : Int32) (l4 : Int32) (l5 : Int32) (l6 : Int32) (l7 : Int32) (σ : vMem), K98 l1 l2 l3 l4 l5 l6 l7 σ = some r → V GM mX8_wasOf ad Q 7 98 [some (.ref (ad 0)), some (.int l1), some (.int l2), some (.int l3), some (.int l4), some (.int l5), some (.int l6), some (.int l7)] [] σ) {l1 : Int32} {l2 : Int32} {l3 : Int32} {l4 : Int32} {l5 : Int32} {l6 : Int32} {l7 : Int32} {σ : vMem} (h : fX8_wasOf_127 K25 K98 l1 l2 l3 l4 l5 l6 l7 σ = some r) (hQ : Q (some (.int r.1)) r.2) : V GM mX8_wasOf ad Q 7 127 [some (.ref (ad 0)), some (.int l1), some (.int l2), some (.int l3), some (.int l4), some (.int l5), some (.int l6), some (.int l7)] [] σ := by
  unfold fX8_wasOf_127 at h
  refine V.iinc dX8_wasOf_127 rfl (ii_1 _) (by decide) rfl ?_
  refine V.goto (tgt := 98) dX8_wasOf_130 (by decide) ?_
  exact V.forget (hK98 _ _ _ _ _ _ _ _ h) ⟨rfl, ⟨rfl, ⟨rfl, ⟨rfl, ⟨rfl, ⟨rfl, ⟨rfl, ⟨rfl, trivial⟩⟩⟩⟩⟩⟩⟩⟩
def fX8_wasOf_98 (K25 : Int32 → Int32 → Int32 → Int32 → Int32 → Int32 → vMem → Option (Int32 × vMem)) (K98 : Int32 → Int32 → Int32 → Int32 → Int32 → Int32 → Int32 → vMem → Option (Int32 × vMem)) (l1 : Int32) (l2 : Int32) (l3 : Int32) (l4 : Int32) (l5 : Int32) (l6 : Int32) (l7 : Int32) (σ : vMem) : Option (Int32 × vMem) :=
  if (σ.1 0 6) ≤ l7 then (K25 l1 l2 l3 l4 l5 (l6 + (1 : Int32)) σ) else
  (if l7 < 0 ∨ 8 ≤ l7.toNatClampNeg then none else if (((8 : Int32) * l6) + l7) < 0 ∨ 80 ≤ (((8 : Int32) * l6) + l7).toNatClampNeg then none else fX8_wasOf_127 K25 K98 l1 l2 l3 l4 l5 l6 l7 (vup σ 30 (((8 : Int32) * l6) + l7).toNatClampNeg (σ.1 13 l7.toNatClampNeg)))
theorem vX8_wasOf_98 {ad : Nat → Nat} {Q : Option Value → vMem → Prop} {r : (Int32 × vMem)} {K25 : Int32 → Int32 → Int32 → Int32 → Int32 → Int32 → vMem → Option (Int32 × vMem)} (hK25 : ∀ (l1 : Int32) (l2 : Int32) (l3 : Int32) (l4 : Int32) (l5 : Int32) (l6 : Int32) (σ : vMem), K25 l1 l2 l3 l4 l5 l6 σ = some r → V GM mX8_wasOf ad Q 7 25 [some (.ref (ad 0)), some (.int l1), some (.int l2), some (.int l3), some (.int l4), some (.int l5), some (.int l6), none] [] σ) {K98 : Int32 → Int32 → Int32 → Int32 → Int32 → Int32 → Int32 → vMem → Option (Int32 × vMem)} (hK98 : ∀ (l1 : Int32) (l2 : Int32) (l3 : Int32) (l4 : Int32) (l5 : Int32) (l6 : Int32) (l7 : Int32) (σ : vMem), K98 l1 l2 l3 l4 l5 l6 l7 σ = some r → V GM mX8_wasOf ad Q 7 98 [some (.ref (ad 0)), some (.int l1), some (.int l2), some (.int l3), some (.int l4), some (.int l5), some (.int l6), some (.int l7)] [] σ) {l1 : Int32} {l2 : Int32} {l3 : Int32} {l4 : Int32} {l5 : Int32} {l6 : Int32} {l7 : Int32} {σ : vMem} (h : fX8_wasOf_98 K25 K98 l1 l2 l3 l4 l5 l6 l7 σ = some r) (hQ : Q (some (.int r.1)) r.2) : V GM mX8_wasOf ad Q 7 98 [some (.ref (ad 0)), some (.int l1), some (.int l2), some (.int l3), some (.int l4), some (.int l5), some (.int l6), some (.int l7)] [] σ := by
  unfold fX8_wasOf_98 at h
  refine V.iload dX8_wasOf_98 rfl ?_
  refine V.aload_n dX8_wasOf_100 rfl ?_
  refine V.get dX8_wasOf_101 flX8_147 nM_0 gM_0 (by decide) (eM_0_6 _ _) ?_
  rcases itc h with ⟨hc, h⟩ | ⟨hc, h⟩
  · refine V.icmp_ge (tgt := 133) dX8_wasOf_104 (by decide) (fun _ => ?_) (fun hn => absurd hc hn)
    refine V.iinc dX8_wasOf_133 rfl (ii_1 _) (by decide) rfl ?_
    refine V.goto (tgt := 25) dX8_wasOf_136 (by decide) ?_
    exact V.forget (hK25 _ _ _ _ _ _ _ h) ⟨rfl, ⟨rfl, ⟨rfl, ⟨rfl, ⟨rfl, ⟨rfl, ⟨rfl, trivial⟩⟩⟩⟩⟩⟩⟩
  · refine V.icmp_ge (tgt := 133) dX8_wasOf_104 (by decide) (fun hn => absurd hn hc) (fun _ => ?_)
    refine V.aload_n dX8_wasOf_107 rfl ?_
    refine V.get dX8_wasOf_108 flX8_98 nM_0 gM_0 (by decide) (eM_0_41 _ _) ?_
    refine V.bipush bp_8 dX8_wasOf_111 ?_
    refine V.iload dX8_wasOf_113 rfl ?_
    refine V.imul dX8_wasOf_115 ?_
    refine V.iload dX8_wasOf_116 rfl ?_
    refine V.iadd dX8_wasOf_118 ?_
    refine V.aload_n dX8_wasOf_119 rfl ?_
    refine V.get dX8_wasOf_120 flX8_46 nM_0 gM_0 (by decide) (eM_0_21 _ _) ?_
    refine V.iload dX8_wasOf_123 rfl ?_
    obtain ⟨hb, h⟩ := ckn h
    refine V.iald dX8_wasOf_125 nM_13 gM_13 hb ?_
    obtain ⟨hb, h⟩ := ckn h
    refine V.iast dX8_wasOf_126 nM_30 gM_30 hb ?_
    exact V.forget (vX8_wasOf_127 hK25 hK98 h hQ) ⟨rfl, ⟨rfl, ⟨rfl, ⟨rfl, ⟨rfl, ⟨rfl, ⟨rfl, ⟨rfl, trivial⟩⟩⟩⟩⟩⟩⟩⟩
def LfX8_wasOf_98 (K25 : Int32 → Int32 → Int32 → Int32 → Int32 → Int32 → vMem → Option (Int32 × vMem)) : Nat → Int32 → Int32 → Int32 → Int32 → Int32 → Int32 → Int32 → vMem → Option (Int32 × vMem)
  | 0, _, _, _, _, _, _, _, _ => none
  | n + 1, l1, l2, l3, l4, l5, l6, l7, σ => fX8_wasOf_98 K25 (LfX8_wasOf_98 K25 n) l1 l2 l3 l4 l5 l6 l7 σ
theorem LvX8_wasOf_98 {ad : Nat → Nat} {Q : Option Value → vMem → Prop} {r : (Int32 × vMem)} {K25 : Int32 → Int32 → Int32 → Int32 → Int32 → Int32 → vMem → Option (Int32 × vMem)} (hK25 : ∀ (l1 : Int32) (l2 : Int32) (l3 : Int32) (l4 : Int32) (l5 : Int32) (l6 : Int32) (σ : vMem), K25 l1 l2 l3 l4 l5 l6 σ = some r → V GM mX8_wasOf ad Q 7 25 [some (.ref (ad 0)), some (.int l1), some (.int l2), some (.int l3), some (.int l4), some (.int l5), some (.int l6), none] [] σ) (hQ : Q (some (.int r.1)) r.2) : ∀ (n : Nat) (l1 : Int32) (l2 : Int32) (l3 : Int32) (l4 : Int32) (l5 : Int32) (l6 : Int32) (l7 : Int32) (σ : vMem), LfX8_wasOf_98 K25 n l1 l2 l3 l4 l5 l6 l7 σ = some r → V GM mX8_wasOf ad Q 7 98 [some (.ref (ad 0)), some (.int l1), some (.int l2), some (.int l3), some (.int l4), some (.int l5), some (.int l6), some (.int l7)] [] σ := by
  intro n
  induction n with
  | zero => intro l1 l2 l3 l4 l5 l6 l7 σ h; cases h
  | succ n ih => intro l1 l2 l3 l4 l5 l6 l7 σ h; exact vX8_wasOf_98 hK25 ih h hQ
def fX8_wasOf_92 (K25 : Int32 → Int32 → Int32 → Int32 → Int32 → Int32 → vMem → Option (Int32 × vMem)) (l1 : Int32) (l2 : Int32) (l3 : Int32) (l4 : Int32) (l6 : Int32) (s0 : Int32) (s1 : Int32) (σ : vMem) : Option (Int32 × vMem) :=
  LfX8_wasOf_98 K25 200 l1 l2 l3 l4 (s0 ||| s1) l6 (0 : Int32) σ
theorem vX8_wasOf_92 {ad : Nat → Nat} {Q : Option Value → vMem → Prop} {r : (Int32 × vMem)} {K25 : Int32 → Int32 → Int32 → Int32 → Int32 → Int32 → vMem → Option (Int32 × vMem)} (hK25 : ∀ (l1 : Int32) (l2 : Int32) (l3 : Int32) (l4 : Int32) (l5 : Int32) (l6 : Int32) (σ : vMem), K25 l1 l2 l3 l4 l5 l6 σ = some r → V GM mX8_wasOf ad Q 7 25 [some (.ref (ad 0)), some (.int l1), some (.int l2), some (.int l3), some (.int l4), some (.int l5), some (.int l6), none] [] σ) {l1 : Int32} {l2 : Int32} {l3 : Int32} {l4 : Int32} {l6 : Int32} {s0 : Int32} {s1 : Int32} {σ : vMem} (h : fX8_wasOf_92 K25 l1 l2 l3 l4 l6 s0 s1 σ = some r) (hQ : Q (some (.int r.1)) r.2) : V GM mX8_wasOf ad Q 7 92 [some (.ref (ad 0)), some (.int l1), some (.int l2), some (.int l3), some (.int l4), none, some (.int l6), none] [.int s1, .int s0] σ := by
  unfold fX8_wasOf_92 at h
  refine V.ior dX8_wasOf_92 ?_
  refine V.istore dX8_wasOf_93 (by decide) rfl ?_
  refine V.iconst ic_0 dX8_wasOf_95 ?_
  refine V.istore dX8_wasOf_96 (by decide) rfl ?_
  exact V.forget (LvX8_wasOf_98 hK25 hQ 200 _ _ _ _ _ _ _ _ h) ⟨rfl, ⟨rfl, ⟨rfl, ⟨rfl, ⟨rfl, ⟨rfl, ⟨rfl, ⟨rfl, trivial⟩⟩⟩⟩⟩⟩⟩⟩
def fX8_wasOf_75 (K25 : Int32 → Int32 → Int32 → Int32 → Int32 → Int32 → vMem → Option (Int32 × vMem)) (l1 : Int32) (l2 : Int32) (l3 : Int32) (l4 : Int32) (l5 : Int32) (l6 : Int32) (σ : vMem) : Option (Int32 × vMem) :=
  (fX8_isSeen σ).bind fun q1 => if q1.1 = 0 then (fX8_wasOf_92 K25 l1 l2 l3 l4 l6 l5 (0 : Int32) q1.2) else
  (fX8_wasOf_92 K25 l1 l2 l3 l4 l6 l5 ((1 : Int32) <<< (l6 &&& 31)) q1.2)
theorem vX8_wasOf_75 {ad : Nat → Nat} {Q : Option Value → vMem → Prop} {r : (Int32 × vMem)} {K25 : Int32 → Int32 → Int32 → Int32 → Int32 → Int32 → vMem → Option (Int32 × vMem)} (hK25 : ∀ (l1 : Int32) (l2 : Int32) (l3 : Int32) (l4 : Int32) (l5 : Int32) (l6 : Int32) (σ : vMem), K25 l1 l2 l3 l4 l5 l6 σ = some r → V GM mX8_wasOf ad Q 7 25 [some (.ref (ad 0)), some (.int l1), some (.int l2), some (.int l3), some (.int l4), some (.int l5), some (.int l6), none] [] σ) {l1 : Int32} {l2 : Int32} {l3 : Int32} {l4 : Int32} {l5 : Int32} {l6 : Int32} {σ : vMem} (h : fX8_wasOf_75 K25 l1 l2 l3 l4 l5 l6 σ = some r) (hQ : Q (some (.int r.1)) r.2) : V GM mX8_wasOf ad Q 7 75 [some (.ref (ad 0)), some (.int l1), some (.int l2), some (.int l3), some (.int l4), some (.int l5), some (.int l6), none] [] σ := by
  unfold fX8_wasOf_75 at h
  refine V.iload dX8_wasOf_75 rfl ?_
  refine V.aload_n dX8_wasOf_77 rfl ?_
  obtain ⟨q1, h1, h⟩ := bdc h
  refine V.callV0 (mc := mX8_isSeen) (d' := 4) dX8_wasOf_78 lkX8_298 hfX8_isSeen nM_0 gM_0 rfl (by decide) (Nat.le_of_ble_eq_true rfl) (Nat.le_of_ble_eq_true rfl) (vX8_isSeen h1 ?_)
  rcases itc h with ⟨hc, h⟩ | ⟨hc, h⟩
  · refine V.if_eq (tgt := 91) dX8_wasOf_81 (by decide) (fun _ => ?_) (fun hn => absurd hc hn)
    refine V.iconst ic_0 dX8_wasOf_91 ?_
    exact V.forget (vX8_wasOf_92 hK25 h hQ) ⟨rfl, ⟨rfl, ⟨rfl, ⟨rfl, ⟨rfl, ⟨rfl, trivial⟩⟩⟩⟩⟩⟩
  · refine V.if_eq (tgt := 91) dX8_wasOf_81 (by decide) (fun hn => absurd hn hc) (fun _ => ?_)
    refine V.iconst ic_1 dX8_wasOf_84 ?_
    refine V.iload dX8_wasOf_85 rfl ?_
    refine V.ishl dX8_wasOf_87 ?_
    refine V.goto (tgt := 92) dX8_wasOf_88 (by decide) ?_
    exact V.forget (vX8_wasOf_92 hK25 h hQ) ⟨rfl, ⟨rfl, ⟨rfl, ⟨rfl, ⟨rfl, ⟨rfl, trivial⟩⟩⟩⟩⟩⟩
def fX8_wasOf_74 (K25 : Int32 → Int32 → Int32 → Int32 → Int32 → Int32 → vMem → Option (Int32 × vMem)) (l1 : Int32) (l2 : Int32) (l3 : Int32) (l4 : Int32) (l5 : Int32) (l6 : Int32) (s1 : Int32) (s2 : Int32) (σ : vMem) : Option (Int32 × vMem) :=
  if s1 < 0 ∨ 10 ≤ s1.toNatClampNeg then none else fX8_wasOf_75 K25 l1 l2 l3 l4 l5 l6 (vup σ 5 s1.toNatClampNeg s2)
theorem vX8_wasOf_74 {ad : Nat → Nat} {Q : Option Value → vMem → Prop} {r : (Int32 × vMem)} {K25 : Int32 → Int32 → Int32 → Int32 → Int32 → Int32 → vMem → Option (Int32 × vMem)} (hK25 : ∀ (l1 : Int32) (l2 : Int32) (l3 : Int32) (l4 : Int32) (l5 : Int32) (l6 : Int32) (σ : vMem), K25 l1 l2 l3 l4 l5 l6 σ = some r → V GM mX8_wasOf ad Q 7 25 [some (.ref (ad 0)), some (.int l1), some (.int l2), some (.int l3), some (.int l4), some (.int l5), some (.int l6), none] [] σ) {l1 : Int32} {l2 : Int32} {l3 : Int32} {l4 : Int32} {l5 : Int32} {l6 : Int32} {s1 : Int32} {s2 : Int32} {σ : vMem} (h : fX8_wasOf_74 K25 l1 l2 l3 l4 l5 l6 s1 s2 σ = some r) (hQ : Q (some (.int r.1)) r.2) : V GM mX8_wasOf ad Q 7 74 [some (.ref (ad 0)), some (.int l1), some (.int l2), some (.int l3), some (.int l4), some (.int l5), some (.int l6), none] [.int s2, .int s1, .ref (ad 5)] σ := by
  unfold fX8_wasOf_74 at h
  obtain ⟨hb, h⟩ := ckn h
  refine V.iast dX8_wasOf_74 nM_5 gM_5 hb ?_
  exact V.forget (vX8_wasOf_75 hK25 h hQ) ⟨rfl, ⟨rfl, ⟨rfl, ⟨rfl, ⟨rfl, ⟨rfl, ⟨rfl, trivial⟩⟩⟩⟩⟩⟩⟩
def fX8_wasOf_57 (K25 : Int32 → Int32 → Int32 → Int32 → Int32 → Int32 → vMem → Option (Int32 × vMem)) (l1 : Int32) (l2 : Int32) (l3 : Int32) (l4 : Int32) (l5 : Int32) (l6 : Int32) (σ : vMem) : Option (Int32 × vMem) :=
  if l2 = (1 : Int32) then (fX8_wasOf_74 K25 l1 l2 l3 l4 l5 l6 l1 l6 σ) else
  (fX8_wasOf_74 K25 l1 l2 l3 l4 l5 l6 l1 l4 σ)
theorem vX8_wasOf_57 {ad : Nat → Nat} {Q : Option Value → vMem → Prop} {r : (Int32 × vMem)} {K25 : Int32 → Int32 → Int32 → Int32 → Int32 → Int32 → vMem → Option (Int32 × vMem)} (hK25 : ∀ (l1 : Int32) (l2 : Int32) (l3 : Int32) (l4 : Int32) (l5 : Int32) (l6 : Int32) (σ : vMem), K25 l1 l2 l3 l4 l5 l6 σ = some r → V GM mX8_wasOf ad Q 7 25 [some (.ref (ad 0)), some (.int l1), some (.int l2), some (.int l3), some (.int l4), some (.int l5), some (.int l6), none] [] σ) {l1 : Int32} {l2 : Int32} {l3 : Int32} {l4 : Int32} {l5 : Int32} {l6 : Int32} {σ : vMem} (h : fX8_wasOf_57 K25 l1 l2 l3 l4 l5 l6 σ = some r) (hQ : Q (some (.int r.1)) r.2) : V GM mX8_wasOf ad Q 7 57 [some (.ref (ad 0)), some (.int l1), some (.int l2), some (.int l3), some (.int l4), some (.int l5), some (.int l6), none] [] σ := by
  unfold fX8_wasOf_57 at h
  refine V.aload_n dX8_wasOf_57 rfl ?_
  refine V.get dX8_wasOf_58 flX8_22 nM_0 gM_0 (by decide) (eM_0_5 _ _) ?_
  refine V.iload_n dX8_wasOf_61 rfl ?_
  refine V.iload_n dX8_wasOf_62 rfl ?_
  refine V.iconst ic_1 dX8_wasOf_63 ?_
  rcases itc h with ⟨hc, h⟩ | ⟨hc, h⟩
  · refine V.icmp_ne (tgt := 72) dX8_wasOf_64 (by decide) (fun hn => absurd hc hn) (fun _ => ?_)
    refine V.iload dX8_wasOf_67 rfl ?_
    refine V.goto (tgt := 74) dX8_wasOf_69 (by decide) ?_
    exact V.forget (vX8_wasOf_74 hK25 h hQ) ⟨rfl, ⟨rfl, ⟨rfl, ⟨rfl, ⟨rfl, ⟨rfl, ⟨rfl, trivial⟩⟩⟩⟩⟩⟩⟩
  · refine V.icmp_ne (tgt := 72) dX8_wasOf_64 (by decide) (fun _ => ?_) (fun hn => absurd hn hc)
    refine V.iload dX8_wasOf_72 rfl ?_
    exact V.forget (vX8_wasOf_74 hK25 h hQ) ⟨rfl, ⟨rfl, ⟨rfl, ⟨rfl, ⟨rfl, ⟨rfl, ⟨rfl, trivial⟩⟩⟩⟩⟩⟩⟩
def fX8_wasOf_56 (K25 : Int32 → Int32 → Int32 → Int32 → Int32 → Int32 → vMem → Option (Int32 × vMem)) (l1 : Int32) (l2 : Int32) (l3 : Int32) (l4 : Int32) (l5 : Int32) (l6 : Int32) (s1 : Int32) (s2 : Int32) (σ : vMem) : Option (Int32 × vMem) :=
  if s1 < 0 ∨ 10 ≤ s1.toNatClampNeg then none else fX8_wasOf_57 K25 l1 l2 l3 l4 l5 l6 (vup σ 4 s1.toNatClampNeg s2)
theorem vX8_wasOf_56 {ad : Nat → Nat} {Q : Option Value → vMem → Prop} {r : (Int32 × vMem)} {K25 : Int32 → Int32 → Int32 → Int32 → Int32 → Int32 → vMem → Option (Int32 × vMem)} (hK25 : ∀ (l1 : Int32) (l2 : Int32) (l3 : Int32) (l4 : Int32) (l5 : Int32) (l6 : Int32) (σ : vMem), K25 l1 l2 l3 l4 l5 l6 σ = some r → V GM mX8_wasOf ad Q 7 25 [some (.ref (ad 0)), some (.int l1), some (.int l2), some (.int l3), some (.int l4), some (.int l5), some (.int l6), none] [] σ) {l1 : Int32} {l2 : Int32} {l3 : Int32} {l4 : Int32} {l5 : Int32} {l6 : Int32} {s1 : Int32} {s2 : Int32} {σ : vMem} (h : fX8_wasOf_56 K25 l1 l2 l3 l4 l5 l6 s1 s2 σ = some r) (hQ : Q (some (.int r.1)) r.2) : V GM mX8_wasOf ad Q 7 56 [some (.ref (ad 0)), some (.int l1), some (.int l2), some (.int l3), some (.int l4), some (.int l5), some (.int l6), none] [.int s2, .int s1, .ref (ad 4)] σ := by
  unfold fX8_wasOf_56 at h
  obtain ⟨hb, h⟩ := ckn h
  refine V.iast dX8_wasOf_56 nM_4 gM_4 hb ?_
  exact V.forget (vX8_wasOf_57 hK25 h hQ) ⟨rfl, ⟨rfl, ⟨rfl, ⟨rfl, ⟨rfl, ⟨rfl, ⟨rfl, trivial⟩⟩⟩⟩⟩⟩⟩
def fX8_wasOf_38 (K25 : Int32 → Int32 → Int32 → Int32 → Int32 → Int32 → vMem → Option (Int32 × vMem)) (l1 : Int32) (l2 : Int32) (l3 : Int32) (l4 : Int32) (l5 : Int32) (l6 : Int32) (s0 : Int32) (s1 : Int32) (σ : vMem) : Option (Int32 × vMem) :=
  if s1 ≤ s0 then (if l1 < 0 ∨ 10 ≤ l1.toNatClampNeg then none else fX8_wasOf_146 l1 l4 l5 (vup σ 4 l1.toNatClampNeg l3)) else
  (if l2 = 0 then (fX8_wasOf_56 K25 l1 l2 l3 l4 l5 l6 l1 l6 σ) else
  (fX8_wasOf_56 K25 l1 l2 l3 l4 l5 l6 l1 l3 σ))
theorem vX8_wasOf_38 {ad : Nat → Nat} {Q : Option Value → vMem → Prop} {r : (Int32 × vMem)} {K25 : Int32 → Int32 → Int32 → Int32 → Int32 → Int32 → vMem → Option (Int32 × vMem)} (hK25 : ∀ (l1 : Int32) (l2 : Int32) (l3 : Int32) (l4 : Int32) (l5 : Int32) (l6 : Int32) (σ : vMem), K25 l1 l2 l3 l4 l5 l6 σ = some r → V GM mX8_wasOf ad Q 7 25 [some (.ref (ad 0)), some (.int l1), some (.int l2), some (.int l3), some (.int l4), some (.int l5), some (.int l6), none] [] σ) {l1 : Int32} {l2 : Int32} {l3 : Int32} {l4 : Int32} {l5 : Int32} {l6 : Int32} {s0 : Int32} {s1 : Int32} {σ : vMem} (h : fX8_wasOf_38 K25 l1 l2 l3 l4 l5 l6 s0 s1 σ = some r) (hQ : Q (some (.int r.1)) r.2) : V GM mX8_wasOf ad Q 7 38 [some (.ref (ad 0)), some (.int l1), some (.int l2), some (.int l3), some (.int l4), some (.int l5), some (.int l6), none] [.int s1, .int s0] σ := by
  unfold fX8_wasOf_38 at h
  rcases itc h with ⟨hc, h⟩ | ⟨hc, h⟩
  · refine V.icmp_ge (tgt := 139) dX8_wasOf_38 (by decide) (fun _ => ?_) (fun hn => absurd hc hn)
    refine V.aload_n dX8_wasOf_139 rfl ?_
    refine V.get dX8_wasOf_140 flX8_19 nM_0 gM_0 (by decide) (eM_0_4 _ _) ?_
    refine V.iload_n dX8_wasOf_143 rfl ?_
    refine V.iload_n dX8_wasOf_144 rfl ?_
    obtain ⟨hb, h⟩ := ckn h
    refine V.iast dX8_wasOf_145 nM_4 gM_4 hb ?_
    exact V.forget (vX8_wasOf_146 h hQ) ⟨rfl, ⟨rfl, ⟨rfl, ⟨rfl, trivial⟩⟩⟩⟩
  · refine V.icmp_ge (tgt := 139) dX8_wasOf_38 (by decide) (fun hn => absurd hn hc) (fun _ => ?_)
    refine V.aload_n dX8_wasOf_41 rfl ?_
    refine V.get dX8_wasOf_42 flX8_19 nM_0 gM_0 (by decide) (eM_0_4 _ _) ?_
    refine V.iload_n dX8_wasOf_45 rfl ?_
    refine V.iload_n dX8_wasOf_46 rfl ?_
    rcases itc h with ⟨hc, h⟩ | ⟨hc, h⟩
    · refine V.if_ne (tgt := 55) dX8_wasOf_47 (by decide) (fun hn => absurd hc hn) (fun _ => ?_)
      refine V.iload dX8_wasOf_50 rfl ?_
      refine V.goto (tgt := 56) dX8_wasOf_52 (by decide) ?_
      exact V.forget (vX8_wasOf_56 hK25 h hQ) ⟨rfl, ⟨rfl, ⟨rfl, ⟨rfl, ⟨rfl, ⟨rfl, ⟨rfl, trivial⟩⟩⟩⟩⟩⟩⟩
    · refine V.if_ne (tgt := 55) dX8_wasOf_47 (by decide) (fun _ => ?_) (fun hn => absurd hn hc)
      refine V.iload_n dX8_wasOf_55 rfl ?_
      exact V.forget (vX8_wasOf_56 hK25 h hQ) ⟨rfl, ⟨rfl, ⟨rfl, ⟨rfl, ⟨rfl, ⟨rfl, ⟨rfl, trivial⟩⟩⟩⟩⟩⟩⟩
def fX8_wasOf_25 (K25 : Int32 → Int32 → Int32 → Int32 → Int32 → Int32 → vMem → Option (Int32 × vMem)) (l1 : Int32) (l2 : Int32) (l3 : Int32) (l4 : Int32) (l5 : Int32) (l6 : Int32) (σ : vMem) : Option (Int32 × vMem) :=
  if l2 = 0 then (fX8_wasOf_38 K25 l1 l2 l3 l4 l5 l6 l6 (10 : Int32) σ) else
  (fX8_wasOf_38 K25 l1 l2 l3 l4 l5 l6 l6 (8 : Int32) σ)
theorem vX8_wasOf_25 {ad : Nat → Nat} {Q : Option Value → vMem → Prop} {r : (Int32 × vMem)} {K25 : Int32 → Int32 → Int32 → Int32 → Int32 → Int32 → vMem → Option (Int32 × vMem)} (hK25 : ∀ (l1 : Int32) (l2 : Int32) (l3 : Int32) (l4 : Int32) (l5 : Int32) (l6 : Int32) (σ : vMem), K25 l1 l2 l3 l4 l5 l6 σ = some r → V GM mX8_wasOf ad Q 7 25 [some (.ref (ad 0)), some (.int l1), some (.int l2), some (.int l3), some (.int l4), some (.int l5), some (.int l6), none] [] σ) {l1 : Int32} {l2 : Int32} {l3 : Int32} {l4 : Int32} {l5 : Int32} {l6 : Int32} {σ : vMem} (h : fX8_wasOf_25 K25 l1 l2 l3 l4 l5 l6 σ = some r) (hQ : Q (some (.int r.1)) r.2) : V GM mX8_wasOf ad Q 7 25 [some (.ref (ad 0)), some (.int l1), some (.int l2), some (.int l3), some (.int l4), some (.int l5), some (.int l6), none] [] σ := by
  unfold fX8_wasOf_25 at h
  refine V.iload dX8_wasOf_25 rfl ?_
  refine V.iload_n dX8_wasOf_27 rfl ?_
  rcases itc h with ⟨hc, h⟩ | ⟨hc, h⟩
  · refine V.if_ne (tgt := 36) dX8_wasOf_28 (by decide) (fun hn => absurd hc hn) (fun _ => ?_)
    refine V.bipush bp_10 dX8_wasOf_31 ?_
    refine V.goto (tgt := 38) dX8_wasOf_33 (by decide) ?_
    exact V.forget (vX8_wasOf_38 hK25 h hQ) ⟨rfl, ⟨rfl, ⟨rfl, ⟨rfl, ⟨rfl, ⟨rfl, ⟨rfl, trivial⟩⟩⟩⟩⟩⟩⟩
  · refine V.if_ne (tgt := 36) dX8_wasOf_28 (by decide) (fun _ => ?_) (fun hn => absurd hn hc)
    refine V.bipush bp_8 dX8_wasOf_36 ?_
    exact V.forget (vX8_wasOf_38 hK25 h hQ) ⟨rfl, ⟨rfl, ⟨rfl, ⟨rfl, ⟨rfl, ⟨rfl, ⟨rfl, trivial⟩⟩⟩⟩⟩⟩⟩
def LfX8_wasOf_25 : Nat → Int32 → Int32 → Int32 → Int32 → Int32 → Int32 → vMem → Option (Int32 × vMem)
  | 0, _, _, _, _, _, _, _ => none
  | n + 1, l1, l2, l3, l4, l5, l6, σ => fX8_wasOf_25 (LfX8_wasOf_25 n) l1 l2 l3 l4 l5 l6 σ
theorem LvX8_wasOf_25 {ad : Nat → Nat} {Q : Option Value → vMem → Prop} {r : (Int32 × vMem)} (hQ : Q (some (.int r.1)) r.2) : ∀ (n : Nat) (l1 : Int32) (l2 : Int32) (l3 : Int32) (l4 : Int32) (l5 : Int32) (l6 : Int32) (σ : vMem), LfX8_wasOf_25 n l1 l2 l3 l4 l5 l6 σ = some r → V GM mX8_wasOf ad Q 7 25 [some (.ref (ad 0)), some (.int l1), some (.int l2), some (.int l3), some (.int l4), some (.int l5), some (.int l6), none] [] σ := by
  intro n
  induction n with
  | zero => intro l1 l2 l3 l4 l5 l6 σ h; cases h
  | succ n ih => intro l1 l2 l3 l4 l5 l6 σ h; exact vX8_wasOf_25 ih h hQ
def fX8_wasOf (l1 : Int32) (l2 : Int32) (σ : vMem) : Option (Int32 × vMem) :=
  (fX8_asTold σ).bind fun q1 => if l1 < 0 ∨ 10 ≤ l1.toNatClampNeg then none else if l1 < 0 ∨ 10 ≤ l1.toNatClampNeg then none else LfX8_wasOf_25 200 l1 l2 (q1.1 4 l1.toNatClampNeg) (q1.1 5 l1.toNatClampNeg) (0 : Int32) (0 : Int32) q1
theorem vX8_wasOf {ad : Nat → Nat} {Q : Option Value → vMem → Prop} {r : (Int32 × vMem)} {l1 : Int32} {l2 : Int32} {σ : vMem} (h : fX8_wasOf l1 l2 σ = some r) (hQ : Q (some (.int r.1)) r.2) : V GM mX8_wasOf ad Q 7 0 [some (.ref (ad 0)), some (.int l1), some (.int l2), none, none, none, none, none] [] σ := by
  unfold fX8_wasOf at h
  refine V.aload_n dX8_wasOf_0 rfl ?_
  obtain ⟨q1, h1, h⟩ := bdc h
  refine V.callV0 (mc := mX8_asTold) (d' := 6) dX8_wasOf_1 lkX8_242 hfX8_asTold nM_0 gM_0 rfl (by decide) (Nat.le_of_ble_eq_true rfl) (Nat.le_of_ble_eq_true rfl) (vX8_asTold h1 ?_)
  refine V.aload_n dX8_wasOf_4 rfl ?_
  refine V.get dX8_wasOf_5 flX8_19 nM_0 gM_0 (by decide) (eM_0_4 _ _) ?_
  refine V.iload_n dX8_wasOf_8 rfl ?_
  obtain ⟨hb, h⟩ := ckn h
  refine V.iald dX8_wasOf_9 nM_4 gM_4 hb ?_
  refine V.istore_n dX8_wasOf_10 (by decide) rfl ?_
  refine V.aload_n dX8_wasOf_11 rfl ?_
  refine V.get dX8_wasOf_12 flX8_22 nM_0 gM_0 (by decide) (eM_0_5 _ _) ?_
  refine V.iload_n dX8_wasOf_15 rfl ?_
  obtain ⟨hb, h⟩ := ckn h
  refine V.iald dX8_wasOf_16 nM_5 gM_5 hb ?_
  refine V.istore dX8_wasOf_17 (by decide) rfl ?_
  refine V.iconst ic_0 dX8_wasOf_19 ?_
  refine V.istore dX8_wasOf_20 (by decide) rfl ?_
  refine V.iconst ic_0 dX8_wasOf_22 ?_
  refine V.istore dX8_wasOf_23 (by decide) rfl ?_
  exact V.forget (LvX8_wasOf_25 hQ 200 _ _ _ _ _ _ _ h) ⟨rfl, ⟨rfl, ⟨rfl, ⟨rfl, ⟨rfl, ⟨rfl, ⟨rfl, trivial⟩⟩⟩⟩⟩⟩⟩
def fX8_was_28 (s0 : Int32) (σ : vMem) : Option (Int32 × vMem) :=
  some (s0, σ)
theorem vX8_was_28 {ad : Nat → Nat} {Q : Option Value → vMem → Prop} {r : (Int32 × vMem)} {s0 : Int32} {σ : vMem} (h : fX8_was_28 s0 σ = some r) (hQ : Q (some (.int r.1)) r.2) : V GM mX8_was ad Q 8 28 [none, none, none] [.int s0] σ := by
  unfold fX8_was_28 at h
  obtain rfl := Option.some.inj h
  exact V.iret dX8_was_28 rfl hQ
def fX8_was_26 (σ : vMem) : Option (Int32 × vMem) :=
  fX8_was_28 (-2 : Int32) σ
theorem vX8_was_26 {ad : Nat → Nat} {Q : Option Value → vMem → Prop} {r : (Int32 × vMem)} {σ : vMem} (h : fX8_was_26 σ = some r) (hQ : Q (some (.int r.1)) r.2) : V GM mX8_was ad Q 8 26 [none, none, none] [] σ := by
  unfold fX8_was_26 at h
  refine V.bipush bp_m2 dX8_was_26 ?_
  exact V.forget (vX8_was_28 h hQ) trivial
def fX8_was (l1 : Int32) (l2 : Int32) (σ : vMem) : Option (Int32 × vMem) :=
  (fX8_isFloor l1 σ).bind fun q1 => if q1.1 = 0 then (fX8_was_26 q1.2) else
  ((fX8_in l2 (0 : Int32) (1 : Int32) q1.2).bind fun q2 => if q2.1 = 0 then (fX8_was_26 q2.2) else
  ((fX8_wasOf l1 l2 q2.2).bind fun q3 => fX8_was_28 q3.1 q3.2))
theorem vX8_was {ad : Nat → Nat} {Q : Option Value → vMem → Prop} {r : (Int32 × vMem)} {l1 : Int32} {l2 : Int32} {σ : vMem} (h : fX8_was l1 l2 σ = some r) (hQ : Q (some (.int r.1)) r.2) : V GM mX8_was ad Q 8 0 [some (.ref (ad 0)), some (.int l1), some (.int l2)] [] σ := by
  unfold fX8_was at h
  refine V.aload_n dX8_was_0 rfl ?_
  refine V.iload_n dX8_was_1 rfl ?_
  obtain ⟨q1, h1, h⟩ := bdc h
  refine V.callV1 (mc := mX8_isFloor) (d' := 6) dX8_was_2 lkX8_166 hfX8_isFloor nM_0 gM_0 rfl (by decide) (Nat.le_of_ble_eq_true rfl) (Nat.le_of_ble_eq_true rfl) (vX8_isFloor h1 ?_)
  rcases itc h with ⟨hc, h⟩ | ⟨hc, h⟩
  · refine V.if_eq (tgt := 26) dX8_was_5 (by decide) (fun _ => ?_) (fun hn => absurd hc hn)
    exact V.forget (vX8_was_26 h hQ) trivial
  · refine V.if_eq (tgt := 26) dX8_was_5 (by decide) (fun hn => absurd hn hc) (fun _ => ?_)
    refine V.iload_n dX8_was_8 rfl ?_
    refine V.iconst ic_0 dX8_was_9 ?_
    refine V.iconst ic_1 dX8_was_10 ?_
    obtain ⟨q2, h1, h⟩ := bdc h
    refine V.callS3 (mc := mX8_in) (d' := 0) dX8_was_11 lkX8_125 hfX8_in (by decide) (Nat.le_of_ble_eq_true rfl) (Nat.le_of_ble_eq_true rfl) (vX8_in h1 ?_)
    rcases itc h with ⟨hc, h⟩ | ⟨hc, h⟩
    · refine V.if_eq (tgt := 26) dX8_was_14 (by decide) (fun _ => ?_) (fun hn => absurd hc hn)
      exact V.forget (vX8_was_26 h hQ) trivial
    · refine V.if_eq (tgt := 26) dX8_was_14 (by decide) (fun hn => absurd hn hc) (fun _ => ?_)
      refine V.aload_n dX8_was_17 rfl ?_
      refine V.iload_n dX8_was_18 rfl ?_
      refine V.iload_n dX8_was_19 rfl ?_
      obtain ⟨q3, h1, h⟩ := bdc h
      refine V.callV2 (mc := mX8_wasOf) (d' := 7) dX8_was_20 lkX8_305 hfX8_wasOf nM_0 gM_0 rfl (by decide) (Nat.le_of_ble_eq_true rfl) (Nat.le_of_ble_eq_true rfl) (vX8_wasOf h1 ?_)
      refine V.goto (tgt := 28) dX8_was_23 (by decide) ?_
      exact V.forget (vX8_was_28 h hQ) trivial
def fX8_askOf_180 (K15 : Int32 → Int32 → Int32 → Int32 → vMem → Option (Int32 × vMem)) (l2 : Int32) (l3 : Int32) (l5 : Int32) (s0 : Int32) (σ : vMem) : Option (Int32 × vMem) :=
  K15 l2 l3 s0 (l5 + (1 : Int32)) σ
theorem vX8_askOf_180 {ad : Nat → Nat} {Q : Option Value → vMem → Prop} {r : (Int32 × vMem)} {K15 : Int32 → Int32 → Int32 → Int32 → vMem → Option (Int32 × vMem)} (hK15 : ∀ (l2 : Int32) (l3 : Int32) (l4 : Int32) (l5 : Int32) (σ : vMem), K15 l2 l3 l4 l5 σ = some r → V GM mX8_askOf ad Q 8 15 [some (.ref (ad 0)), none, some (.int l2), some (.int l3), some (.int l4), some (.int l5), none, none, none, none] [] σ) {l2 : Int32} {l3 : Int32} {l5 : Int32} {s0 : Int32} {σ : vMem} (h : fX8_askOf_180 K15 l2 l3 l5 s0 σ = some r) (hQ : Q (some (.int r.1)) r.2) : V GM mX8_askOf ad Q 8 180 [some (.ref (ad 0)), none, some (.int l2), some (.int l3), none, some (.int l5), none, none, none, none] [.int s0] σ := by
  unfold fX8_askOf_180 at h
  refine V.istore dX8_askOf_180 (by decide) rfl ?_
  refine V.iinc dX8_askOf_182 rfl (ii_1 _) (by decide) rfl ?_
  refine V.goto (tgt := 15) dX8_askOf_185 (by decide) ?_
  exact V.forget (hK15 _ _ _ _ _ h) ⟨rfl, ⟨rfl, ⟨rfl, ⟨rfl, ⟨rfl, trivial⟩⟩⟩⟩⟩
def fX8_askOf_167 (K15 : Int32 → Int32 → Int32 → Int32 → vMem → Option (Int32 × vMem)) (l2 : Int32) (l4 : Int32) (l5 : Int32) (l6 : Int32) (l7 : Int32) (s0 : Int32) (σ : vMem) : Option (Int32 × vMem) :=
  if l7 = 0 then (fX8_askOf_180 K15 l2 s0 l5 l4 σ) else
  (fX8_askOf_180 K15 l2 s0 l5 l6 σ)
theorem vX8_askOf_167 {ad : Nat → Nat} {Q : Option Value → vMem → Prop} {r : (Int32 × vMem)} {K15 : Int32 → Int32 → Int32 → Int32 → vMem → Option (Int32 × vMem)} (hK15 : ∀ (l2 : Int32) (l3 : Int32) (l4 : Int32) (l5 : Int32) (σ : vMem), K15 l2 l3 l4 l5 σ = some r → V GM mX8_askOf ad Q 8 15 [some (.ref (ad 0)), none, some (.int l2), some (.int l3), some (.int l4), some (.int l5), none, none, none, none] [] σ) {l2 : Int32} {l4 : Int32} {l5 : Int32} {l6 : Int32} {l7 : Int32} {s0 : Int32} {σ : vMem} (h : fX8_askOf_167 K15 l2 l4 l5 l6 l7 s0 σ = some r) (hQ : Q (some (.int r.1)) r.2) : V GM mX8_askOf ad Q 8 167 [some (.ref (ad 0)), none, some (.int l2), none, some (.int l4), some (.int l5), some (.int l6), some (.int l7), none, none] [.int s0] σ := by
  unfold fX8_askOf_167 at h
  refine V.istore_n dX8_askOf_167 (by decide) rfl ?_
  refine V.iload dX8_askOf_168 rfl ?_
  rcases itc h with ⟨hc, h⟩ | ⟨hc, h⟩
  · refine V.if_eq (tgt := 178) dX8_askOf_170 (by decide) (fun _ => ?_) (fun hn => absurd hc hn)
    refine V.iload dX8_askOf_178 rfl ?_
    exact V.forget (vX8_askOf_180 hK15 h hQ) ⟨rfl, ⟨rfl, ⟨rfl, ⟨rfl, trivial⟩⟩⟩⟩
  · refine V.if_eq (tgt := 178) dX8_askOf_170 (by decide) (fun hn => absurd hn hc) (fun _ => ?_)
    refine V.iload dX8_askOf_173 rfl ?_
    refine V.goto (tgt := 180) dX8_askOf_175 (by decide) ?_
    exact V.forget (vX8_askOf_180 hK15 h hQ) ⟨rfl, ⟨rfl, ⟨rfl, ⟨rfl, trivial⟩⟩⟩⟩
def fX8_askOf_154 (K15 : Int32 → Int32 → Int32 → Int32 → vMem → Option (Int32 × vMem)) (l2 : Int32) (l3 : Int32) (l4 : Int32) (l5 : Int32) (l6 : Int32) (s0 : Int32) (σ : vMem) : Option (Int32 × vMem) :=
  if s0 = 0 then (fX8_askOf_167 K15 l2 l4 l5 l6 s0 l3 σ) else
  (fX8_askOf_167 K15 l2 l4 l5 l6 s0 l5 σ)
theorem vX8_askOf_154 {ad : Nat → Nat} {Q : Option Value → vMem → Prop} {r : (Int32 × vMem)} {K15 : Int32 → Int32 → Int32 → Int32 → vMem → Option (Int32 × vMem)} (hK15 : ∀ (l2 : Int32) (l3 : Int32) (l4 : Int32) (l5 : Int32) (σ : vMem), K15 l2 l3 l4 l5 σ = some r → V GM mX8_askOf ad Q 8 15 [some (.ref (ad 0)), none, some (.int l2), some (.int l3), some (.int l4), some (.int l5), none, none, none, none] [] σ) {l2 : Int32} {l3 : Int32} {l4 : Int32} {l5 : Int32} {l6 : Int32} {s0 : Int32} {σ : vMem} (h : fX8_askOf_154 K15 l2 l3 l4 l5 l6 s0 σ = some r) (hQ : Q (some (.int r.1)) r.2) : V GM mX8_askOf ad Q 8 154 [some (.ref (ad 0)), none, some (.int l2), some (.int l3), some (.int l4), some (.int l5), some (.int l6), none, none, none] [.int s0] σ := by
  unfold fX8_askOf_154 at h
  refine V.istore dX8_askOf_154 (by decide) rfl ?_
  refine V.iload dX8_askOf_156 rfl ?_
  rcases itc h with ⟨hc, h⟩ | ⟨hc, h⟩
  · refine V.if_eq (tgt := 166) dX8_askOf_158 (by decide) (fun _ => ?_) (fun hn => absurd hc hn)
    refine V.iload_n dX8_askOf_166 rfl ?_
    exact V.forget (vX8_askOf_167 hK15 h hQ) ⟨rfl, ⟨rfl, ⟨rfl, ⟨rfl, ⟨rfl, ⟨rfl, trivial⟩⟩⟩⟩⟩⟩
  · refine V.if_eq (tgt := 166) dX8_askOf_158 (by decide) (fun hn => absurd hn hc) (fun _ => ?_)
    refine V.iload dX8_askOf_161 rfl ?_
    refine V.goto (tgt := 167) dX8_askOf_163 (by decide) ?_
    exact V.forget (vX8_askOf_167 hK15 h hQ) ⟨rfl, ⟨rfl, ⟨rfl, ⟨rfl, ⟨rfl, ⟨rfl, trivial⟩⟩⟩⟩⟩⟩
def fX8_askOf_149 (K15 : Int32 → Int32 → Int32 → Int32 → vMem → Option (Int32 × vMem)) (l2 : Int32) (l3 : Int32) (l4 : Int32) (l5 : Int32) (l6 : Int32) (σ : vMem) : Option (Int32 × vMem) :=
  fX8_askOf_154 K15 l2 l3 l4 l5 l6 (1 : Int32) σ
theorem vX8_askOf_149 {ad : Nat → Nat} {Q : Option Value → vMem → Prop} {r : (Int32 × vMem)} {K15 : Int32 → Int32 → Int32 → Int32 → vMem → Option (Int32 × vMem)} (hK15 : ∀ (l2 : Int32) (l3 : Int32) (l4 : Int32) (l5 : Int32) (σ : vMem), K15 l2 l3 l4 l5 σ = some r → V GM mX8_askOf ad Q 8 15 [some (.ref (ad 0)), none, some (.int l2), some (.int l3), some (.int l4), some (.int l5), none, none, none, none] [] σ) {l2 : Int32} {l3 : Int32} {l4 : Int32} {l5 : Int32} {l6 : Int32} {σ : vMem} (h : fX8_askOf_149 K15 l2 l3 l4 l5 l6 σ = some r) (hQ : Q (some (.int r.1)) r.2) : V GM mX8_askOf ad Q 8 149 [some (.ref (ad 0)), none, some (.int l2), some (.int l3), some (.int l4), some (.int l5), some (.int l6), none, none, none] [] σ := by
  unfold fX8_askOf_149 at h
  refine V.iconst ic_1 dX8_askOf_149 ?_
  refine V.goto (tgt := 154) dX8_askOf_150 (by decide) ?_
  exact V.forget (vX8_askOf_154 hK15 h hQ) ⟨rfl, ⟨rfl, ⟨rfl, ⟨rfl, ⟨rfl, ⟨rfl, trivial⟩⟩⟩⟩⟩⟩
def fX8_askOf_129 (K15 : Int32 → Int32 → Int32 → Int32 → vMem → Option (Int32 × vMem)) (K30 : Int32 → Int32 → Int32 → Int32 → Int32 → Int32 → vMem → Option (Int32 × vMem)) (l2 : Int32) (l3 : Int32) (l4 : Int32) (l5 : Int32) (l7 : Int32) (s0 : Int32) (σ : vMem) : Option (Int32 × vMem) :=
  K30 l2 l3 l4 l5 s0 (l7 + (1 : Int32)) σ
theorem vX8_askOf_129 {ad : Nat → Nat} {Q : Option Value → vMem → Prop} {r : (Int32 × vMem)} {K15 : Int32 → Int32 → Int32 → Int32 → vMem → Option (Int32 × vMem)} (hK15 : ∀ (l2 : Int32) (l3 : Int32) (l4 : Int32) (l5 : Int32) (σ : vMem), K15 l2 l3 l4 l5 σ = some r → V GM mX8_askOf ad Q 8 15 [some (.ref (ad 0)), none, some (.int l2), some (.int l3), some (.int l4), some (.int l5), none, none, none, none] [] σ) {K30 : Int32 → Int32 → Int32 → Int32 → Int32 → Int32 → vMem → Option (Int32 × vMem)} (hK30 : ∀ (l2 : Int32) (l3 : Int32) (l4 : Int32) (l5 : Int32) (l6 : Int32) (l7 : Int32) (σ : vMem), K30 l2 l3 l4 l5 l6 l7 σ = some r → V GM mX8_askOf ad Q 8 30 [some (.ref (ad 0)), none, some (.int l2), some (.int l3), some (.int l4), some (.int l5), some (.int l6), some (.int l7), none, none] [] σ) {l2 : Int32} {l3 : Int32} {l4 : Int32} {l5 : Int32} {l7 : Int32} {s0 : Int32} {σ : vMem} (h : fX8_askOf_129 K15 K30 l2 l3 l4 l5 l7 s0 σ = some r) (hQ : Q (some (.int r.1)) r.2) : V GM mX8_askOf ad Q 8 129 [some (.ref (ad 0)), none, some (.int l2), some (.int l3), some (.int l4), some (.int l5), none, some (.int l7), none, none] [.int s0] σ := by
  unfold fX8_askOf_129 at h
  refine V.istore dX8_askOf_129 (by decide) rfl ?_
  refine V.iinc dX8_askOf_131 rfl (ii_1 _) (by decide) rfl ?_
  refine V.goto (tgt := 30) dX8_askOf_134 (by decide) ?_
  exact V.forget (hK30 _ _ _ _ _ _ _ h) ⟨rfl, ⟨rfl, ⟨rfl, ⟨rfl, ⟨rfl, ⟨rfl, ⟨rfl, trivial⟩⟩⟩⟩⟩⟩⟩
def fX8_askOf_106 (K15 : Int32 → Int32 → Int32 → Int32 → vMem → Option (Int32 × vMem)) (K30 : Int32 → Int32 → Int32 → Int32 → Int32 → Int32 → vMem → Option (Int32 × vMem)) (K43 : Int32 → Int32 → Int32 → Int32 → Int32 → Int32 → Int32 → Int32 → vMem → Option (Int32 × vMem)) (l2 : Int32) (l3 : Int32) (l4 : Int32) (l5 : Int32) (l6 : Int32) (l7 : Int32) (l9 : Int32) (s0 : Int32) (s1 : Int32) (σ : vMem) : Option (Int32 × vMem) :=
  K43 l2 l3 l4 l5 l6 l7 (s0 + s1) (l9 + (1 : Int32)) σ
theorem vX8_askOf_106 {ad : Nat → Nat} {Q : Option Value → vMem → Prop} {r : (Int32 × vMem)} {K15 : Int32 → Int32 → Int32 → Int32 → vMem → Option (Int32 × vMem)} (hK15 : ∀ (l2 : Int32) (l3 : Int32) (l4 : Int32) (l5 : Int32) (σ : vMem), K15 l2 l3 l4 l5 σ = some r → V GM mX8_askOf ad Q 8 15 [some (.ref (ad 0)), none, some (.int l2), some (.int l3), some (.int l4), some (.int l5), none, none, none, none] [] σ) {K30 : Int32 → Int32 → Int32 → Int32 → Int32 → Int32 → vMem → Option (Int32 × vMem)} (hK30 : ∀ (l2 : Int32) (l3 : Int32) (l4 : Int32) (l5 : Int32) (l6 : Int32) (l7 : Int32) (σ : vMem), K30 l2 l3 l4 l5 l6 l7 σ = some r → V GM mX8_askOf ad Q 8 30 [some (.ref (ad 0)), none, some (.int l2), some (.int l3), some (.int l4), some (.int l5), some (.int l6), some (.int l7), none, none] [] σ) {K43 : Int32 → Int32 → Int32 → Int32 → Int32 → Int32 → Int32 → Int32 → vMem → Option (Int32 × vMem)} (hK43 : ∀ (l2 : Int32) (l3 : Int32) (l4 : Int32) (l5 : Int32) (l6 : Int32) (l7 : Int32) (l8 : Int32) (l9 : Int32) (σ : vMem), K43 l2 l3 l4 l5 l6 l7 l8 l9 σ = some r → V GM mX8_askOf ad Q 8 43 [some (.ref (ad 0)), none, some (.int l2), some (.int l3), some (.int l4), some (.int l5), some (.int l6), some (.int l7), some (.int l8), some (.int l9)] [] σ) {l2 : Int32} {l3 : Int32} {l4 : Int32} {l5 : Int32} {l6 : Int32} {l7 : Int32} {l9 : Int32} {s0 : Int32} {s1 : Int32} {σ : vMem} (h : fX8_askOf_106 K15 K30 K43 l2 l3 l4 l5 l6 l7 l9 s0 s1 σ = some r) (hQ : Q (some (.int r.1)) r.2) : V GM mX8_askOf ad Q 8 106 [some (.ref (ad 0)), none, some (.int l2), some (.int l3), some (.int l4), some (.int l5), some (.int l6), some (.int l7), none, some (.int l9)] [.int s1, .int s0] σ := by
  unfold fX8_askOf_106 at h
  refine V.iadd dX8_askOf_106 ?_
  refine V.istore dX8_askOf_107 (by decide) rfl ?_
  refine V.iinc dX8_askOf_109 rfl (ii_1 _) (by decide) rfl ?_
  refine V.goto (tgt := 43) dX8_askOf_112 (by decide) ?_
  exact V.forget (hK43 _ _ _ _ _ _ _ _ _ h) ⟨rfl, ⟨rfl, ⟨rfl, ⟨rfl, ⟨rfl, ⟨rfl, ⟨rfl, ⟨rfl, ⟨rfl, trivial⟩⟩⟩⟩⟩⟩⟩⟩⟩
def fX8_askOf_105 (K15 : Int32 → Int32 → Int32 → Int32 → vMem → Option (Int32 × vMem)) (K30 : Int32 → Int32 → Int32 → Int32 → Int32 → Int32 → vMem → Option (Int32 × vMem)) (K43 : Int32 → Int32 → Int32 → Int32 → Int32 → Int32 → Int32 → Int32 → vMem → Option (Int32 × vMem)) (l2 : Int32) (l3 : Int32) (l4 : Int32) (l5 : Int32) (l6 : Int32) (l7 : Int32) (l9 : Int32) (s0 : Int32) (σ : vMem) : Option (Int32 × vMem) :=
  fX8_askOf_106 K15 K30 K43 l2 l3 l4 l5 l6 l7 l9 s0 (0 : Int32) σ
theorem vX8_askOf_105 {ad : Nat → Nat} {Q : Option Value → vMem → Prop} {r : (Int32 × vMem)} {K15 : Int32 → Int32 → Int32 → Int32 → vMem → Option (Int32 × vMem)} (hK15 : ∀ (l2 : Int32) (l3 : Int32) (l4 : Int32) (l5 : Int32) (σ : vMem), K15 l2 l3 l4 l5 σ = some r → V GM mX8_askOf ad Q 8 15 [some (.ref (ad 0)), none, some (.int l2), some (.int l3), some (.int l4), some (.int l5), none, none, none, none] [] σ) {K30 : Int32 → Int32 → Int32 → Int32 → Int32 → Int32 → vMem → Option (Int32 × vMem)} (hK30 : ∀ (l2 : Int32) (l3 : Int32) (l4 : Int32) (l5 : Int32) (l6 : Int32) (l7 : Int32) (σ : vMem), K30 l2 l3 l4 l5 l6 l7 σ = some r → V GM mX8_askOf ad Q 8 30 [some (.ref (ad 0)), none, some (.int l2), some (.int l3), some (.int l4), some (.int l5), some (.int l6), some (.int l7), none, none] [] σ) {K43 : Int32 → Int32 → Int32 → Int32 → Int32 → Int32 → Int32 → Int32 → vMem → Option (Int32 × vMem)} (hK43 : ∀ (l2 : Int32) (l3 : Int32) (l4 : Int32) (l5 : Int32) (l6 : Int32) (l7 : Int32) (l8 : Int32) (l9 : Int32) (σ : vMem), K43 l2 l3 l4 l5 l6 l7 l8 l9 σ = some r → V GM mX8_askOf ad Q 8 43 [some (.ref (ad 0)), none, some (.int l2), some (.int l3), some (.int l4), some (.int l5), some (.int l6), some (.int l7), some (.int l8), some (.int l9)] [] σ) {l2 : Int32} {l3 : Int32} {l4 : Int32} {l5 : Int32} {l6 : Int32} {l7 : Int32} {l9 : Int32} {s0 : Int32} {σ : vMem} (h : fX8_askOf_105 K15 K30 K43 l2 l3 l4 l5 l6 l7 l9 s0 σ = some r) (hQ : Q (some (.int r.1)) r.2) : V GM mX8_askOf ad Q 8 105 [some (.ref (ad 0)), none, some (.int l2), some (.int l3), some (.int l4), some (.int l5), some (.int l6), some (.int l7), none, some (.int l9)] [.int s0] σ := by
  unfold fX8_askOf_105 at h
  refine V.iconst ic_0 dX8_askOf_105 ?_
  exact V.forget (vX8_askOf_106 hK15 hK30 hK43 h hQ) ⟨rfl, ⟨rfl, ⟨rfl, ⟨rfl, ⟨rfl, ⟨rfl, ⟨rfl, ⟨rfl, trivial⟩⟩⟩⟩⟩⟩⟩⟩
def fX8_askOf_43 (K15 : Int32 → Int32 → Int32 → Int32 → vMem → Option (Int32 × vMem)) (K30 : Int32 → Int32 → Int32 → Int32 → Int32 → Int32 → vMem → Option (Int32 × vMem)) (K43 : Int32 → Int32 → Int32 → Int32 → Int32 → Int32 → Int32 → Int32 → vMem → Option (Int32 × vMem)) (l2 : Int32) (l3 : Int32) (l4 : Int32) (l5 : Int32) (l6 : Int32) (l7 : Int32) (l8 : Int32) (l9 : Int32) (σ : vMem) : Option (Int32 × vMem) :=
  if (10 : Int32) ≤ l9 then (if l8 ≤ l6 then (fX8_askOf_129 K15 K30 l2 l3 l4 l5 l7 l6 σ) else
  (fX8_askOf_129 K15 K30 l2 l3 l4 l5 l7 l8 σ)) else
  ((fX8_isIn (l2.toInt64) l7 σ).bind fun q1 => if q1.1 = 0 then (fX8_askOf_105 K15 K30 K43 l2 l3 l4 l5 l6 l7 l9 l8 q1.2) else
  ((fX8_isIn (l2.toInt64) l9 q1.2).bind fun q2 => if q2.1 = 0 then (fX8_askOf_105 K15 K30 K43 l2 l3 l4 l5 l6 l7 l9 l8 q2.2) else
  (if (((8 : Int32) * l7) + l5) < 0 ∨ 80 ≤ (((8 : Int32) * l7) + l5).toNatClampNeg then none else if (((8 : Int32) * l9) + l5) < 0 ∨ 80 ≤ (((8 : Int32) * l9) + l5).toNatClampNeg then none else if (q2.2.1 30 (((8 : Int32) * l7) + l5).toNatClampNeg) = (q2.2.1 30 (((8 : Int32) * l9) + l5).toNatClampNeg) then (fX8_askOf_106 K15 K30 K43 l2 l3 l4 l5 l6 l7 l9 l8 (1 : Int32) q2.2) else
  (fX8_askOf_105 K15 K30 K43 l2 l3 l4 l5 l6 l7 l9 l8 q2.2))))
theorem vX8_askOf_43 {ad : Nat → Nat} {Q : Option Value → vMem → Prop} {r : (Int32 × vMem)} {K15 : Int32 → Int32 → Int32 → Int32 → vMem → Option (Int32 × vMem)} (hK15 : ∀ (l2 : Int32) (l3 : Int32) (l4 : Int32) (l5 : Int32) (σ : vMem), K15 l2 l3 l4 l5 σ = some r → V GM mX8_askOf ad Q 8 15 [some (.ref (ad 0)), none, some (.int l2), some (.int l3), some (.int l4), some (.int l5), none, none, none, none] [] σ) {K30 : Int32 → Int32 → Int32 → Int32 → Int32 → Int32 → vMem → Option (Int32 × vMem)} (hK30 : ∀ (l2 : Int32) (l3 : Int32) (l4 : Int32) (l5 : Int32) (l6 : Int32) (l7 : Int32) (σ : vMem), K30 l2 l3 l4 l5 l6 l7 σ = some r → V GM mX8_askOf ad Q 8 30 [some (.ref (ad 0)), none, some (.int l2), some (.int l3), some (.int l4), some (.int l5), some (.int l6), some (.int l7), none, none] [] σ) {K43 : Int32 → Int32 → Int32 → Int32 → Int32 → Int32 → Int32 → Int32 → vMem → Option (Int32 × vMem)} (hK43 : ∀ (l2 : Int32) (l3 : Int32) (l4 : Int32) (l5 : Int32) (l6 : Int32) (l7 : Int32) (l8 : Int32) (l9 : Int32) (σ : vMem), K43 l2 l3 l4 l5 l6 l7 l8 l9 σ = some r → V GM mX8_askOf ad Q 8 43 [some (.ref (ad 0)), none, some (.int l2), some (.int l3), some (.int l4), some (.int l5), some (.int l6), some (.int l7), some (.int l8), some (.int l9)] [] σ) {l2 : Int32} {l3 : Int32} {l4 : Int32} {l5 : Int32} {l6 : Int32} {l7 : Int32} {l8 : Int32} {l9 : Int32} {σ : vMem} (h : fX8_askOf_43 K15 K30 K43 l2 l3 l4 l5 l6 l7 l8 l9 σ = some r) (hQ : Q (some (.int r.1)) r.2) : V GM mX8_askOf ad Q 8 43 [some (.ref (ad 0)), none, some (.int l2), some (.int l3), some (.int l4), some (.int l5), some (.int l6), some (.int l7), some (.int l8), some (.int l9)] [] σ := by
  unfold fX8_askOf_43 at h
  refine V.iload dX8_askOf_43 rfl ?_
  refine V.bipush bp_10 dX8_askOf_45 ?_
  rcases itc h with ⟨hc, h⟩ | ⟨hc, h⟩
  · refine V.icmp_ge (tgt := 115) dX8_askOf_47 (by decide) (fun _ => ?_) (fun hn => absurd hc hn)
    refine V.iload dX8_askOf_115 rfl ?_
    refine V.iload dX8_askOf_117 rfl ?_
    rcases itc h with ⟨hc, h⟩ | ⟨hc, h⟩
    · refine V.icmp_le (tgt := 127) dX8_askOf_119 (by decide) (fun _ => ?_) (fun hn => absurd hc hn)
      refine V.iload dX8_askOf_127 rfl ?_
      exact V.forget (vX8_askOf_129 hK15 hK30 h hQ) ⟨rfl, ⟨rfl, ⟨rfl, ⟨rfl, ⟨rfl, ⟨rfl, trivial⟩⟩⟩⟩⟩⟩
    · refine V.icmp_le (tgt := 127) dX8_askOf_119 (by decide) (fun hn => absurd hn hc) (fun _ => ?_)
      refine V.iload dX8_askOf_122 rfl ?_
      refine V.goto (tgt := 129) dX8_askOf_124 (by decide) ?_
      exact V.forget (vX8_askOf_129 hK15 hK30 h hQ) ⟨rfl, ⟨rfl, ⟨rfl, ⟨rfl, ⟨rfl, ⟨rfl, trivial⟩⟩⟩⟩⟩⟩
  · refine V.icmp_ge (tgt := 115) dX8_askOf_47 (by decide) (fun hn => absurd hn hc) (fun _ => ?_)
    refine V.iload dX8_askOf_50 rfl ?_
    refine V.iload_n dX8_askOf_52 rfl ?_
    refine V.i2l dX8_askOf_53 ?_
    refine V.iload dX8_askOf_54 rfl ?_
    obtain ⟨q1, h1, h⟩ := bdc h
    refine V.callS2 (mc := mX8_isIn) (d' := 0) dX8_askOf_56 lkX8_196 hfX8_isIn (by decide) (Nat.le_of_ble_eq_true rfl) (Nat.le_of_ble_eq_true rfl) (vX8_isIn h1 ?_)
    rcases itc h with ⟨hc, h⟩ | ⟨hc, h⟩
    · refine V.if_eq (tgt := 105) dX8_askOf_59 (by decide) (fun _ => ?_) (fun hn => absurd hc hn)
      exact V.forget (vX8_askOf_105 hK15 hK30 hK43 h hQ) ⟨rfl, ⟨rfl, ⟨rfl, ⟨rfl, ⟨rfl, ⟨rfl, ⟨rfl, ⟨rfl, trivial⟩⟩⟩⟩⟩⟩⟩⟩
    · refine V.if_eq (tgt := 105) dX8_askOf_59 (by decide) (fun hn => absurd hn hc) (fun _ => ?_)
      refine V.iload_n dX8_askOf_62 rfl ?_
      refine V.i2l dX8_askOf_63 ?_
      refine V.iload dX8_askOf_64 rfl ?_
      obtain ⟨q2, h1, h⟩ := bdc h
      refine V.callS2 (mc := mX8_isIn) (d' := 0) dX8_askOf_66 lkX8_196 hfX8_isIn (by decide) (Nat.le_of_ble_eq_true rfl) (Nat.le_of_ble_eq_true rfl) (vX8_isIn h1 ?_)
      rcases itc h with ⟨hc, h⟩ | ⟨hc, h⟩
      · refine V.if_eq (tgt := 105) dX8_askOf_69 (by decide) (fun _ => ?_) (fun hn => absurd hc hn)
        exact V.forget (vX8_askOf_105 hK15 hK30 hK43 h hQ) ⟨rfl, ⟨rfl, ⟨rfl, ⟨rfl, ⟨rfl, ⟨rfl, ⟨rfl, ⟨rfl, trivial⟩⟩⟩⟩⟩⟩⟩⟩
      · refine V.if_eq (tgt := 105) dX8_askOf_69 (by decide) (fun hn => absurd hn hc) (fun _ => ?_)
        refine V.aload_n dX8_askOf_72 rfl ?_
        refine V.get dX8_askOf_73 flX8_98 nM_0 gM_0 (by decide) (eM_0_41 _ _) ?_
        refine V.bipush bp_8 dX8_askOf_76 ?_
        refine V.iload dX8_askOf_78 rfl ?_
        refine V.imul dX8_askOf_80 ?_
        refine V.iload dX8_askOf_81 rfl ?_
        refine V.iadd dX8_askOf_83 ?_
        obtain ⟨hb, h⟩ := ckn h
        refine V.iald dX8_askOf_84 nM_30 gM_30 hb ?_
        refine V.aload_n dX8_askOf_85 rfl ?_
        refine V.get dX8_askOf_86 flX8_98 nM_0 gM_0 (by decide) (eM_0_41 _ _) ?_
        refine V.bipush bp_8 dX8_askOf_89 ?_
        refine V.iload dX8_askOf_91 rfl ?_
        refine V.imul dX8_askOf_93 ?_
        refine V.iload dX8_askOf_94 rfl ?_
        refine V.iadd dX8_askOf_96 ?_
        obtain ⟨hb, h⟩ := ckn h
        refine V.iald dX8_askOf_97 nM_30 gM_30 hb ?_
        rcases itc h with ⟨hc, h⟩ | ⟨hc, h⟩
        · refine V.icmp_ne (tgt := 105) dX8_askOf_98 (by decide) (fun hn => absurd hc hn) (fun _ => ?_)
          refine V.iconst ic_1 dX8_askOf_101 ?_
          refine V.goto (tgt := 106) dX8_askOf_102 (by decide) ?_
          exact V.forget (vX8_askOf_106 hK15 hK30 hK43 h hQ) ⟨rfl, ⟨rfl, ⟨rfl, ⟨rfl, ⟨rfl, ⟨rfl, ⟨rfl, ⟨rfl, trivial⟩⟩⟩⟩⟩⟩⟩⟩
        · refine V.icmp_ne (tgt := 105) dX8_askOf_98 (by decide) (fun _ => ?_) (fun hn => absurd hn hc)
          exact V.forget (vX8_askOf_105 hK15 hK30 hK43 h hQ) ⟨rfl, ⟨rfl, ⟨rfl, ⟨rfl, ⟨rfl, ⟨rfl, ⟨rfl, ⟨rfl, trivial⟩⟩⟩⟩⟩⟩⟩⟩
def LfX8_askOf_43 (K15 : Int32 → Int32 → Int32 → Int32 → vMem → Option (Int32 × vMem)) (K30 : Int32 → Int32 → Int32 → Int32 → Int32 → Int32 → vMem → Option (Int32 × vMem)) : Nat → Int32 → Int32 → Int32 → Int32 → Int32 → Int32 → Int32 → Int32 → vMem → Option (Int32 × vMem)
  | 0, _, _, _, _, _, _, _, _, _ => none
  | n + 1, l2, l3, l4, l5, l6, l7, l8, l9, σ => fX8_askOf_43 K15 K30 (LfX8_askOf_43 K15 K30 n) l2 l3 l4 l5 l6 l7 l8 l9 σ
theorem LvX8_askOf_43 {ad : Nat → Nat} {Q : Option Value → vMem → Prop} {r : (Int32 × vMem)} {K15 : Int32 → Int32 → Int32 → Int32 → vMem → Option (Int32 × vMem)} (hK15 : ∀ (l2 : Int32) (l3 : Int32) (l4 : Int32) (l5 : Int32) (σ : vMem), K15 l2 l3 l4 l5 σ = some r → V GM mX8_askOf ad Q 8 15 [some (.ref (ad 0)), none, some (.int l2), some (.int l3), some (.int l4), some (.int l5), none, none, none, none] [] σ) {K30 : Int32 → Int32 → Int32 → Int32 → Int32 → Int32 → vMem → Option (Int32 × vMem)} (hK30 : ∀ (l2 : Int32) (l3 : Int32) (l4 : Int32) (l5 : Int32) (l6 : Int32) (l7 : Int32) (σ : vMem), K30 l2 l3 l4 l5 l6 l7 σ = some r → V GM mX8_askOf ad Q 8 30 [some (.ref (ad 0)), none, some (.int l2), some (.int l3), some (.int l4), some (.int l5), some (.int l6), some (.int l7), none, none] [] σ) (hQ : Q (some (.int r.1)) r.2) : ∀ (n : Nat) (l2 : Int32) (l3 : Int32) (l4 : Int32) (l5 : Int32) (l6 : Int32) (l7 : Int32) (l8 : Int32) (l9 : Int32) (σ : vMem), LfX8_askOf_43 K15 K30 n l2 l3 l4 l5 l6 l7 l8 l9 σ = some r → V GM mX8_askOf ad Q 8 43 [some (.ref (ad 0)), none, some (.int l2), some (.int l3), some (.int l4), some (.int l5), some (.int l6), some (.int l7), some (.int l8), some (.int l9)] [] σ := by
  intro n
  induction n with
  | zero => intro l2 l3 l4 l5 l6 l7 l8 l9 σ h; cases h
  | succ n ih => intro l2 l3 l4 l5 l6 l7 l8 l9 σ h; exact vX8_askOf_43 hK15 hK30 ih h hQ
def fX8_askOf_30 (K15 : Int32 → Int32 → Int32 → Int32 → vMem → Option (Int32 × vMem)) (K30 : Int32 → Int32 → Int32 → Int32 → Int32 → Int32 → vMem → Option (Int32 × vMem)) (l2 : Int32) (l3 : Int32) (l4 : Int32) (l5 : Int32) (l6 : Int32) (l7 : Int32) (σ : vMem) : Option (Int32 × vMem) :=
  if (10 : Int32) ≤ l7 then (if l3 = (-1 : Int32) then (fX8_askOf_149 K15 l2 l3 l4 l5 l6 σ) else
  (if l4 ≤ l6 then (fX8_askOf_154 K15 l2 l3 l4 l5 l6 (0 : Int32) σ) else
  (fX8_askOf_149 K15 l2 l3 l4 l5 l6 σ))) else
  (LfX8_askOf_43 K15 K30 200 l2 l3 l4 l5 l6 l7 (0 : Int32) (0 : Int32) σ)
theorem vX8_askOf_30 {ad : Nat → Nat} {Q : Option Value → vMem → Prop} {r : (Int32 × vMem)} {K15 : Int32 → Int32 → Int32 → Int32 → vMem → Option (Int32 × vMem)} (hK15 : ∀ (l2 : Int32) (l3 : Int32) (l4 : Int32) (l5 : Int32) (σ : vMem), K15 l2 l3 l4 l5 σ = some r → V GM mX8_askOf ad Q 8 15 [some (.ref (ad 0)), none, some (.int l2), some (.int l3), some (.int l4), some (.int l5), none, none, none, none] [] σ) {K30 : Int32 → Int32 → Int32 → Int32 → Int32 → Int32 → vMem → Option (Int32 × vMem)} (hK30 : ∀ (l2 : Int32) (l3 : Int32) (l4 : Int32) (l5 : Int32) (l6 : Int32) (l7 : Int32) (σ : vMem), K30 l2 l3 l4 l5 l6 l7 σ = some r → V GM mX8_askOf ad Q 8 30 [some (.ref (ad 0)), none, some (.int l2), some (.int l3), some (.int l4), some (.int l5), some (.int l6), some (.int l7), none, none] [] σ) {l2 : Int32} {l3 : Int32} {l4 : Int32} {l5 : Int32} {l6 : Int32} {l7 : Int32} {σ : vMem} (h : fX8_askOf_30 K15 K30 l2 l3 l4 l5 l6 l7 σ = some r) (hQ : Q (some (.int r.1)) r.2) : V GM mX8_askOf ad Q 8 30 [some (.ref (ad 0)), none, some (.int l2), some (.int l3), some (.int l4), some (.int l5), some (.int l6), some (.int l7), none, none] [] σ := by
  unfold fX8_askOf_30 at h
  refine V.iload dX8_askOf_30 rfl ?_
  refine V.bipush bp_10 dX8_askOf_32 ?_
  rcases itc h with ⟨hc, h⟩ | ⟨hc, h⟩
  · refine V.icmp_ge (tgt := 137) dX8_askOf_34 (by decide) (fun _ => ?_) (fun hn => absurd hc hn)
    refine V.iload_n dX8_askOf_137 rfl ?_
    refine V.iconst ic_m1 dX8_askOf_138 ?_
    rcases itc h with ⟨hc, h⟩ | ⟨hc, h⟩
    · refine V.icmp_eq (tgt := 149) dX8_askOf_139 (by decide) (fun _ => ?_) (fun hn => absurd hc hn)
      exact V.forget (vX8_askOf_149 hK15 h hQ) ⟨rfl, ⟨rfl, ⟨rfl, ⟨rfl, ⟨rfl, ⟨rfl, trivial⟩⟩⟩⟩⟩⟩
    · refine V.icmp_eq (tgt := 149) dX8_askOf_139 (by decide) (fun hn => absurd hn hc) (fun _ => ?_)
      refine V.iload dX8_askOf_142 rfl ?_
      refine V.iload dX8_askOf_144 rfl ?_
      rcases itc h with ⟨hc, h⟩ | ⟨hc, h⟩
      · refine V.icmp_ge (tgt := 153) dX8_askOf_146 (by decide) (fun _ => ?_) (fun hn => absurd hc hn)
        refine V.iconst ic_0 dX8_askOf_153 ?_
        exact V.forget (vX8_askOf_154 hK15 h hQ) ⟨rfl, ⟨rfl, ⟨rfl, ⟨rfl, ⟨rfl, ⟨rfl, trivial⟩⟩⟩⟩⟩⟩
      · refine V.icmp_ge (tgt := 153) dX8_askOf_146 (by decide) (fun hn => absurd hn hc) (fun _ => ?_)
        exact V.forget (vX8_askOf_149 hK15 h hQ) ⟨rfl, ⟨rfl, ⟨rfl, ⟨rfl, ⟨rfl, ⟨rfl, trivial⟩⟩⟩⟩⟩⟩
  · refine V.icmp_ge (tgt := 137) dX8_askOf_34 (by decide) (fun hn => absurd hn hc) (fun _ => ?_)
    refine V.iconst ic_0 dX8_askOf_37 ?_
    refine V.istore dX8_askOf_38 (by decide) rfl ?_
    refine V.iconst ic_0 dX8_askOf_40 ?_
    refine V.istore dX8_askOf_41 (by decide) rfl ?_
    exact V.forget (LvX8_askOf_43 hK15 hK30 hQ 200 _ _ _ _ _ _ _ _ _ h) ⟨rfl, ⟨rfl, ⟨rfl, ⟨rfl, ⟨rfl, ⟨rfl, ⟨rfl, ⟨rfl, ⟨rfl, trivial⟩⟩⟩⟩⟩⟩⟩⟩⟩
def LfX8_askOf_30 (K15 : Int32 → Int32 → Int32 → Int32 → vMem → Option (Int32 × vMem)) : Nat → Int32 → Int32 → Int32 → Int32 → Int32 → Int32 → vMem → Option (Int32 × vMem)
  | 0, _, _, _, _, _, _, _ => none
  | n + 1, l2, l3, l4, l5, l6, l7, σ => fX8_askOf_30 K15 (LfX8_askOf_30 K15 n) l2 l3 l4 l5 l6 l7 σ
theorem LvX8_askOf_30 {ad : Nat → Nat} {Q : Option Value → vMem → Prop} {r : (Int32 × vMem)} {K15 : Int32 → Int32 → Int32 → Int32 → vMem → Option (Int32 × vMem)} (hK15 : ∀ (l2 : Int32) (l3 : Int32) (l4 : Int32) (l5 : Int32) (σ : vMem), K15 l2 l3 l4 l5 σ = some r → V GM mX8_askOf ad Q 8 15 [some (.ref (ad 0)), none, some (.int l2), some (.int l3), some (.int l4), some (.int l5), none, none, none, none] [] σ) (hQ : Q (some (.int r.1)) r.2) : ∀ (n : Nat) (l2 : Int32) (l3 : Int32) (l4 : Int32) (l5 : Int32) (l6 : Int32) (l7 : Int32) (σ : vMem), LfX8_askOf_30 K15 n l2 l3 l4 l5 l6 l7 σ = some r → V GM mX8_askOf ad Q 8 30 [some (.ref (ad 0)), none, some (.int l2), some (.int l3), some (.int l4), some (.int l5), some (.int l6), some (.int l7), none, none] [] σ := by
  intro n
  induction n with
  | zero => intro l2 l3 l4 l5 l6 l7 σ h; cases h
  | succ n ih => intro l2 l3 l4 l5 l6 l7 σ h; exact vX8_askOf_30 hK15 ih h hQ
def fX8_askOf_15 (K15 : Int32 → Int32 → Int32 → Int32 → vMem → Option (Int32 × vMem)) (l2 : Int32) (l3 : Int32) (l4 : Int32) (l5 : Int32) (σ : vMem) : Option (Int32 × vMem) :=
  if (σ.1 0 6) ≤ l5 then (some (l3, σ)) else
  (LfX8_askOf_30 K15 200 l2 l3 l4 l5 (0 : Int32) (0 : Int32) σ)
theorem vX8_askOf_15 {ad : Nat → Nat} {Q : Option Value → vMem → Prop} {r : (Int32 × vMem)} {K15 : Int32 → Int32 → Int32 → Int32 → vMem → Option (Int32 × vMem)} (hK15 : ∀ (l2 : Int32) (l3 : Int32) (l4 : Int32) (l5 : Int32) (σ : vMem), K15 l2 l3 l4 l5 σ = some r → V GM mX8_askOf ad Q 8 15 [some (.ref (ad 0)), none, some (.int l2), some (.int l3), some (.int l4), some (.int l5), none, none, none, none] [] σ) {l2 : Int32} {l3 : Int32} {l4 : Int32} {l5 : Int32} {σ : vMem} (h : fX8_askOf_15 K15 l2 l3 l4 l5 σ = some r) (hQ : Q (some (.int r.1)) r.2) : V GM mX8_askOf ad Q 8 15 [some (.ref (ad 0)), none, some (.int l2), some (.int l3), some (.int l4), some (.int l5), none, none, none, none] [] σ := by
  unfold fX8_askOf_15 at h
  refine V.iload dX8_askOf_15 rfl ?_
  refine V.aload_n dX8_askOf_17 rfl ?_
  refine V.get dX8_askOf_18 flX8_147 nM_0 gM_0 (by decide) (eM_0_6 _ _) ?_
  rcases itc h with ⟨hc, h⟩ | ⟨hc, h⟩
  · refine V.icmp_ge (tgt := 188) dX8_askOf_21 (by decide) (fun _ => ?_) (fun hn => absurd hc hn)
    refine V.iload_n dX8_askOf_188 rfl ?_
    obtain rfl := Option.some.inj h
    exact V.iret dX8_askOf_189 rfl hQ
  · refine V.icmp_ge (tgt := 188) dX8_askOf_21 (by decide) (fun hn => absurd hn hc) (fun _ => ?_)
    refine V.iconst ic_0 dX8_askOf_24 ?_
    refine V.istore dX8_askOf_25 (by decide) rfl ?_
    refine V.iconst ic_0 dX8_askOf_27 ?_
    refine V.istore dX8_askOf_28 (by decide) rfl ?_
    exact V.forget (LvX8_askOf_30 hK15 hQ 200 _ _ _ _ _ _ _ h) ⟨rfl, ⟨rfl, ⟨rfl, ⟨rfl, ⟨rfl, ⟨rfl, ⟨rfl, trivial⟩⟩⟩⟩⟩⟩⟩
def LfX8_askOf_15 : Nat → Int32 → Int32 → Int32 → Int32 → vMem → Option (Int32 × vMem)
  | 0, _, _, _, _, _ => none
  | n + 1, l2, l3, l4, l5, σ => fX8_askOf_15 (LfX8_askOf_15 n) l2 l3 l4 l5 σ
theorem LvX8_askOf_15 {ad : Nat → Nat} {Q : Option Value → vMem → Prop} {r : (Int32 × vMem)} (hQ : Q (some (.int r.1)) r.2) : ∀ (n : Nat) (l2 : Int32) (l3 : Int32) (l4 : Int32) (l5 : Int32) (σ : vMem), LfX8_askOf_15 n l2 l3 l4 l5 σ = some r → V GM mX8_askOf ad Q 8 15 [some (.ref (ad 0)), none, some (.int l2), some (.int l3), some (.int l4), some (.int l5), none, none, none, none] [] σ := by
  intro n
  induction n with
  | zero => intro l2 l3 l4 l5 σ h; cases h
  | succ n ih => intro l2 l3 l4 l5 σ h; exact vX8_askOf_15 ih h hQ
def fX8_askOf (l1 : Int32) (σ : vMem) : Option (Int32 × vMem) :=
  (fX8_wasOf l1 (0 : Int32) σ).bind fun q1 => LfX8_askOf_15 200 q1.1 (-1 : Int32) (0 : Int32) (0 : Int32) q1.2
theorem vX8_askOf {ad : Nat → Nat} {Q : Option Value → vMem → Prop} {r : (Int32 × vMem)} {l1 : Int32} {σ : vMem} (h : fX8_askOf l1 σ = some r) (hQ : Q (some (.int r.1)) r.2) : V GM mX8_askOf ad Q 8 0 [some (.ref (ad 0)), some (.int l1), none, none, none, none, none, none, none, none] [] σ := by
  unfold fX8_askOf at h
  refine V.aload_n dX8_askOf_0 rfl ?_
  refine V.iload_n dX8_askOf_1 rfl ?_
  refine V.iconst ic_0 dX8_askOf_2 ?_
  obtain ⟨q1, h1, h⟩ := bdc h
  refine V.callV2 (mc := mX8_wasOf) (d' := 7) dX8_askOf_3 lkX8_305 hfX8_wasOf nM_0 gM_0 rfl (by decide) (Nat.le_of_ble_eq_true rfl) (Nat.le_of_ble_eq_true rfl) (vX8_wasOf h1 ?_)
  refine V.istore_n dX8_askOf_6 (by decide) rfl ?_
  refine V.iconst ic_m1 dX8_askOf_7 ?_
  refine V.istore_n dX8_askOf_8 (by decide) rfl ?_
  refine V.iconst ic_0 dX8_askOf_9 ?_
  refine V.istore dX8_askOf_10 (by decide) rfl ?_
  refine V.iconst ic_0 dX8_askOf_12 ?_
  refine V.istore dX8_askOf_13 (by decide) rfl ?_
  exact V.forget (LvX8_askOf_15 hQ 200 _ _ _ _ _ h) ⟨rfl, ⟨rfl, ⟨rfl, ⟨rfl, ⟨rfl, trivial⟩⟩⟩⟩⟩
def fX8_ask_18 (s0 : Int32) (σ : vMem) : Option (Int32 × vMem) :=
  some (s0, σ)
theorem vX8_ask_18 {ad : Nat → Nat} {Q : Option Value → vMem → Prop} {r : (Int32 × vMem)} {s0 : Int32} {σ : vMem} (h : fX8_ask_18 s0 σ = some r) (hQ : Q (some (.int r.1)) r.2) : V GM mX8_ask ad Q 9 18 [none, none] [.int s0] σ := by
  unfold fX8_ask_18 at h
  obtain rfl := Option.some.inj h
  exact V.iret dX8_ask_18 rfl hQ
def fX8_ask (l1 : Int32) (σ : vMem) : Option (Int32 × vMem) :=
  (fX8_isFloor l1 σ).bind fun q1 => if q1.1 = 0 then (fX8_ask_18 (-2 : Int32) q1.2) else
  ((fX8_askOf l1 q1.2).bind fun q2 => fX8_ask_18 q2.1 q2.2)
theorem vX8_ask {ad : Nat → Nat} {Q : Option Value → vMem → Prop} {r : (Int32 × vMem)} {l1 : Int32} {σ : vMem} (h : fX8_ask l1 σ = some r) (hQ : Q (some (.int r.1)) r.2) : V GM mX8_ask ad Q 9 0 [some (.ref (ad 0)), some (.int l1)] [] σ := by
  unfold fX8_ask at h
  refine V.aload_n dX8_ask_0 rfl ?_
  refine V.iload_n dX8_ask_1 rfl ?_
  obtain ⟨q1, h1, h⟩ := bdc h
  refine V.callV1 (mc := mX8_isFloor) (d' := 6) dX8_ask_2 lkX8_166 hfX8_isFloor nM_0 gM_0 rfl (by decide) (Nat.le_of_ble_eq_true rfl) (Nat.le_of_ble_eq_true rfl) (vX8_isFloor h1 ?_)
  rcases itc h with ⟨hc, h⟩ | ⟨hc, h⟩
  · refine V.if_eq (tgt := 16) dX8_ask_5 (by decide) (fun _ => ?_) (fun hn => absurd hc hn)
    refine V.bipush bp_m2 dX8_ask_16 ?_
    exact V.forget (vX8_ask_18 h hQ) trivial
  · refine V.if_eq (tgt := 16) dX8_ask_5 (by decide) (fun hn => absurd hn hc) (fun _ => ?_)
    refine V.aload_n dX8_ask_8 rfl ?_
    refine V.iload_n dX8_ask_9 rfl ?_
    obtain ⟨q2, h1, h⟩ := bdc h
    refine V.callV1 (mc := mX8_askOf) (d' := 8) dX8_ask_10 lkX8_308 hfX8_askOf nM_0 gM_0 rfl (by decide) (Nat.le_of_ble_eq_true rfl) (Nat.le_of_ble_eq_true rfl) (vX8_askOf h1 ?_)
    refine V.goto (tgt := 18) dX8_ask_13 (by decide) ?_
    exact V.forget (vX8_ask_18 h hQ) trivial
def fX8_no (l0 : Int32) (σ : vMem) : Option (Int64 × vMem) :=
  some (((-9223372036854775808 : Int64) - (l0.toInt64)), σ)
theorem vX8_no {ad : Nat → Nat} {Q : Option Value → vMem → Prop} {r : (Int64 × vMem)} {l0 : Int32} {σ : vMem} (h : fX8_no l0 σ = some r) (hQ : Q (some (.long r.1)) r.2) : V GM mX8_no ad Q 0 0 [some (.int l0)] [] σ := by
  unfold fX8_no at h
  refine V.ldc2 dX8_no_0 ctX8_123 ?_
  refine V.iload_n dX8_no_3 rfl ?_
  refine V.i2l dX8_no_4 ?_
  refine V.lsub dX8_no_5 ?_
  obtain rfl := Option.some.inj h
  exact V.lret dX8_no_6 rfl hQ
def fX8_lowest_47 (s0 : Int64) (σ : vMem) : Option (Int64 × vMem) :=
  some (s0, σ)
theorem vX8_lowest_47 {ad : Nat → Nat} {Q : Option Value → vMem → Prop} {r : (Int64 × vMem)} {s0 : Int64} {σ : vMem} (h : fX8_lowest_47 s0 σ = some r) (hQ : Q (some (.long r.1)) r.2) : V GM mX8_lowest ad Q 0 47 [none, none, none, none, none, none, none, none, none, none, none] [.long s0] σ := by
  unfold fX8_lowest_47 at h
  obtain rfl := Option.some.inj h
  exact V.lret dX8_lowest_47 rfl hQ
def fX8_lowest_6 (K6 : Int64 → Int64 → Int32 → Int64 → Int64 → vMem → Option (Int64 × vMem)) (l0 : Int64) (l2 : Int64) (l4 : Int32) (l5 : Int64) (l7 : Int64) (σ : vMem) : Option (Int64 × vMem) :=
  if (lg_cmp l7 (0 : Int64)) = 0 then (if l4 = 0 then (if l5 = 0 then none else fX8_lowest_47 (l0 / l5) σ) else
  (if l5 = 0 then none else fX8_lowest_47 (l2 / l5) σ)) else
  (if l7 = 0 then none else K6 l0 l2 l4 l7 (l5 - l5 / l7 * l7) σ)
theorem vX8_lowest_6 {ad : Nat → Nat} {Q : Option Value → vMem → Prop} {r : (Int64 × vMem)} {K6 : Int64 → Int64 → Int32 → Int64 → Int64 → vMem → Option (Int64 × vMem)} (hK6 : ∀ (l0 : Int64) (l2 : Int64) (l4 : Int32) (l5 : Int64) (l7 : Int64) (σ : vMem), K6 l0 l2 l4 l5 l7 σ = some r → V GM mX8_lowest ad Q 0 6 [some (.long l0), none, some (.long l2), none, some (.int l4), some (.long l5), none, some (.long l7), none, none, none] [] σ) {l0 : Int64} {l2 : Int64} {l4 : Int32} {l5 : Int64} {l7 : Int64} {σ : vMem} (h : fX8_lowest_6 K6 l0 l2 l4 l5 l7 σ = some r) (hQ : Q (some (.long r.1)) r.2) : V GM mX8_lowest ad Q 0 6 [some (.long l0), none, some (.long l2), none, some (.int l4), some (.long l5), none, some (.long l7), none, none, none] [] σ := by
  unfold fX8_lowest_6 at h
  refine V.lload dX8_lowest_6 rfl ?_
  refine V.lconst lc_0 dX8_lowest_8 ?_
  refine V.lcmp dX8_lowest_9 ?_
  rcases itc h with ⟨hc, h⟩ | ⟨hc, h⟩
  · refine V.if_eq (tgt := 31) dX8_lowest_10 (by decide) (fun _ => ?_) (fun hn => absurd hc hn)
    refine V.iload dX8_lowest_31 rfl ?_
    rcases itc h with ⟨hc, h⟩ | ⟨hc, h⟩
    · refine V.if_ne (tgt := 43) dX8_lowest_33 (by decide) (fun hn => absurd hc hn) (fun _ => ?_)
      refine V.lload_n dX8_lowest_36 rfl ?_
      refine V.lload dX8_lowest_37 rfl ?_
      obtain ⟨hb, h⟩ := ckn h
      refine V.ldiv hb dX8_lowest_39 ?_
      refine V.goto (tgt := 47) dX8_lowest_40 (by decide) ?_
      exact V.forget (vX8_lowest_47 h hQ) trivial
    · refine V.if_ne (tgt := 43) dX8_lowest_33 (by decide) (fun _ => ?_) (fun hn => absurd hn hc)
      refine V.lload_n dX8_lowest_43 rfl ?_
      refine V.lload dX8_lowest_44 rfl ?_
      obtain ⟨hb, h⟩ := ckn h
      refine V.ldiv hb dX8_lowest_46 ?_
      exact V.forget (vX8_lowest_47 h hQ) trivial
  · refine V.if_eq (tgt := 31) dX8_lowest_10 (by decide) (fun hn => absurd hn hc) (fun _ => ?_)
    refine V.lload dX8_lowest_13 rfl ?_
    refine V.lload dX8_lowest_15 rfl ?_
    obtain ⟨hb, h⟩ := ckn h
    refine V.lrem hb dX8_lowest_17 ?_
    refine V.lstore dX8_lowest_18 (by decide) rfl ?_
    refine V.lload dX8_lowest_20 rfl ?_
    refine V.lstore dX8_lowest_22 (by decide) rfl ?_
    refine V.lload dX8_lowest_24 rfl ?_
    refine V.lstore dX8_lowest_26 (by decide) rfl ?_
    refine V.goto (tgt := 6) dX8_lowest_28 (by decide) ?_
    exact V.forget (hK6 _ _ _ _ _ _ h) ⟨rfl, ⟨rfl, ⟨rfl, ⟨rfl, ⟨rfl, trivial⟩⟩⟩⟩⟩
def LfX8_lowest_6 : Nat → Int64 → Int64 → Int32 → Int64 → Int64 → vMem → Option (Int64 × vMem)
  | 0, _, _, _, _, _, _ => none
  | n + 1, l0, l2, l4, l5, l7, σ => fX8_lowest_6 (LfX8_lowest_6 n) l0 l2 l4 l5 l7 σ
theorem LvX8_lowest_6 {ad : Nat → Nat} {Q : Option Value → vMem → Prop} {r : (Int64 × vMem)} (hQ : Q (some (.long r.1)) r.2) : ∀ (n : Nat) (l0 : Int64) (l2 : Int64) (l4 : Int32) (l5 : Int64) (l7 : Int64) (σ : vMem), LfX8_lowest_6 n l0 l2 l4 l5 l7 σ = some r → V GM mX8_lowest ad Q 0 6 [some (.long l0), none, some (.long l2), none, some (.int l4), some (.long l5), none, some (.long l7), none, none, none] [] σ := by
  intro n
  induction n with
  | zero => intro l0 l2 l4 l5 l7 σ h; cases h
  | succ n ih => intro l0 l2 l4 l5 l7 σ h; exact vX8_lowest_6 ih h hQ
def fX8_lowest (l0 : Int64) (l2 : Int64) (l4 : Int32) (σ : vMem) : Option (Int64 × vMem) :=
  LfX8_lowest_6 200 l0 l2 l4 l0 l2 σ
theorem vX8_lowest {ad : Nat → Nat} {Q : Option Value → vMem → Prop} {r : (Int64 × vMem)} {l0 : Int64} {l2 : Int64} {l4 : Int32} {σ : vMem} (h : fX8_lowest l0 l2 l4 σ = some r) (hQ : Q (some (.long r.1)) r.2) : V GM mX8_lowest ad Q 0 0 [some (.long l0), none, some (.long l2), none, some (.int l4), none, none, none, none, none, none] [] σ := by
  unfold fX8_lowest at h
  refine V.lload_n dX8_lowest_0 rfl ?_
  refine V.lstore dX8_lowest_1 (by decide) rfl ?_
  refine V.lload_n dX8_lowest_3 rfl ?_
  refine V.lstore dX8_lowest_4 (by decide) rfl ?_
  exact V.forget (LvX8_lowest_6 hQ 200 _ _ _ _ _ _ h) ⟨rfl, ⟨rfl, ⟨rfl, ⟨rfl, ⟨rfl, trivial⟩⟩⟩⟩⟩
def fX8_gustOf_110 (K10 : Int32 → Int32 → Int32 → Int32 → Int64 → Int32 → vMem → Option (Int64 × vMem)) (l1 : Int32) (l2 : Int32) (l3 : Int32) (l4 : Int32) (l7 : Int32) (s0 : Int64) (s1 : Int64) (σ : vMem) : Option (Int64 × vMem) :=
  K10 l1 l2 l3 l4 (s0 + s1) (l7 + (1 : Int32)) σ
theorem vX8_gustOf_110 {ad : Nat → Nat} {Q : Option Value → vMem → Prop} {r : (Int64 × vMem)} {K10 : Int32 → Int32 → Int32 → Int32 → Int64 → Int32 → vMem → Option (Int64 × vMem)} (hK10 : ∀ (l1 : Int32) (l2 : Int32) (l3 : Int32) (l4 : Int32) (l5 : Int64) (l7 : Int32) (σ : vMem), K10 l1 l2 l3 l4 l5 l7 σ = some r → V GM mX8_gustOf ad Q 7 10 [some (.ref (ad 0)), some (.int l1), some (.int l2), some (.int l3), some (.int l4), some (.long l5), none, some (.int l7), none, none, none] [] σ) {l1 : Int32} {l2 : Int32} {l3 : Int32} {l4 : Int32} {l7 : Int32} {s0 : Int64} {s1 : Int64} {σ : vMem} (h : fX8_gustOf_110 K10 l1 l2 l3 l4 l7 s0 s1 σ = some r) (hQ : Q (some (.long r.1)) r.2) : V GM mX8_gustOf ad Q 7 110 [some (.ref (ad 0)), some (.int l1), some (.int l2), some (.int l3), some (.int l4), none, none, some (.int l7), none, none, none] [.long s1, .long s0] σ := by
  unfold fX8_gustOf_110 at h
  refine V.ladd dX8_gustOf_110 ?_
  refine V.lstore dX8_gustOf_111 (by decide) rfl ?_
  refine V.iinc dX8_gustOf_113 rfl (ii_1 _) (by decide) rfl ?_
  refine V.goto (tgt := 10) dX8_gustOf_116 (by decide) ?_
  exact V.forget (hK10 _ _ _ _ _ _ _ h) ⟨rfl, ⟨rfl, ⟨rfl, ⟨rfl, ⟨rfl, ⟨rfl, ⟨rfl, trivial⟩⟩⟩⟩⟩⟩⟩
def fX8_gustOf_109 (K10 : Int32 → Int32 → Int32 → Int32 → Int64 → Int32 → vMem → Option (Int64 × vMem)) (l1 : Int32) (l2 : Int32) (l3 : Int32) (l4 : Int32) (l7 : Int32) (s0 : Int64) (σ : vMem) : Option (Int64 × vMem) :=
  fX8_gustOf_110 K10 l1 l2 l3 l4 l7 s0 (0 : Int64) σ
theorem vX8_gustOf_109 {ad : Nat → Nat} {Q : Option Value → vMem → Prop} {r : (Int64 × vMem)} {K10 : Int32 → Int32 → Int32 → Int32 → Int64 → Int32 → vMem → Option (Int64 × vMem)} (hK10 : ∀ (l1 : Int32) (l2 : Int32) (l3 : Int32) (l4 : Int32) (l5 : Int64) (l7 : Int32) (σ : vMem), K10 l1 l2 l3 l4 l5 l7 σ = some r → V GM mX8_gustOf ad Q 7 10 [some (.ref (ad 0)), some (.int l1), some (.int l2), some (.int l3), some (.int l4), some (.long l5), none, some (.int l7), none, none, none] [] σ) {l1 : Int32} {l2 : Int32} {l3 : Int32} {l4 : Int32} {l7 : Int32} {s0 : Int64} {σ : vMem} (h : fX8_gustOf_109 K10 l1 l2 l3 l4 l7 s0 σ = some r) (hQ : Q (some (.long r.1)) r.2) : V GM mX8_gustOf ad Q 7 109 [some (.ref (ad 0)), some (.int l1), some (.int l2), some (.int l3), some (.int l4), none, none, some (.int l7), none, none, none] [.long s0] σ := by
  unfold fX8_gustOf_109 at h
  refine V.lconst lc_0 dX8_gustOf_109 ?_
  exact V.forget (vX8_gustOf_110 hK10 h hQ) ⟨rfl, ⟨rfl, ⟨rfl, ⟨rfl, ⟨rfl, ⟨rfl, trivial⟩⟩⟩⟩⟩⟩
def fX8_gustOf_78 (K10 : Int32 → Int32 → Int32 → Int32 → Int64 → Int32 → vMem → Option (Int64 × vMem)) (l1 : Int32) (l2 : Int32) (l3 : Int32) (l4 : Int32) (l5 : Int64) (l7 : Int32) (l8 : Int64) (σ : vMem) : Option (Int64 × vMem) :=
  (fX8_runs σ).bind fun q1 => if l2 < 0 ∨ 8 ≤ l2.toNatClampNeg then none else if (q1.1 18 l2.toNatClampNeg) = (-1 : Int32) then (fX8_gustOf_109 K10 l1 l2 l3 l4 l7 l5 q1) else
  (if l2 < 0 ∨ 8 ≤ l2.toNatClampNeg then none else if (q1.1 13 l2.toNatClampNeg) < l3 then (fX8_gustOf_109 K10 l1 l2 l3 l4 l7 l5 q1) else
  (fX8_gustOf_110 K10 l1 l2 l3 l4 l7 l5 l8 q1))
theorem vX8_gustOf_78 {ad : Nat → Nat} {Q : Option Value → vMem → Prop} {r : (Int64 × vMem)} {K10 : Int32 → Int32 → Int32 → Int32 → Int64 → Int32 → vMem → Option (Int64 × vMem)} (hK10 : ∀ (l1 : Int32) (l2 : Int32) (l3 : Int32) (l4 : Int32) (l5 : Int64) (l7 : Int32) (σ : vMem), K10 l1 l2 l3 l4 l5 l7 σ = some r → V GM mX8_gustOf ad Q 7 10 [some (.ref (ad 0)), some (.int l1), some (.int l2), some (.int l3), some (.int l4), some (.long l5), none, some (.int l7), none, none, none] [] σ) {l1 : Int32} {l2 : Int32} {l3 : Int32} {l4 : Int32} {l5 : Int64} {l7 : Int32} {l8 : Int64} {σ : vMem} (h : fX8_gustOf_78 K10 l1 l2 l3 l4 l5 l7 l8 σ = some r) (hQ : Q (some (.long r.1)) r.2) : V GM mX8_gustOf ad Q 7 78 [some (.ref (ad 0)), some (.int l1), some (.int l2), some (.int l3), some (.int l4), some (.long l5), none, some (.int l7), some (.long l8), none, none] [] σ := by
  unfold fX8_gustOf_78 at h
  refine V.aload_n dX8_gustOf_78 rfl ?_
  obtain ⟨q1, h1, h⟩ := bdc h
  refine V.callV0 (mc := mX8_runs) (d' := 3) dX8_gustOf_79 lkX8_245 hfX8_runs nM_0 gM_0 rfl (by decide) (Nat.le_of_ble_eq_true rfl) (Nat.le_of_ble_eq_true rfl) (vX8_runs h1 ?_)
  refine V.lload dX8_gustOf_82 rfl ?_
  refine V.aload_n dX8_gustOf_84 rfl ?_
  refine V.get dX8_gustOf_85 flX8_62 nM_0 gM_0 (by decide) (eM_0_26 _ _) ?_
  refine V.iload_n dX8_gustOf_88 rfl ?_
  obtain ⟨hb, h⟩ := ckn h
  refine V.iald dX8_gustOf_89 nM_18 gM_18 hb ?_
  refine V.iconst ic_m1 dX8_gustOf_90 ?_
  rcases itc h with ⟨hc, h⟩ | ⟨hc, h⟩
  · refine V.icmp_eq (tgt := 109) dX8_gustOf_91 (by decide) (fun _ => ?_) (fun hn => absurd hc hn)
    exact V.forget (vX8_gustOf_109 hK10 h hQ) ⟨rfl, ⟨rfl, ⟨rfl, ⟨rfl, ⟨rfl, ⟨rfl, trivial⟩⟩⟩⟩⟩⟩
  · refine V.icmp_eq (tgt := 109) dX8_gustOf_91 (by decide) (fun hn => absurd hn hc) (fun _ => ?_)
    refine V.aload_n dX8_gustOf_94 rfl ?_
    refine V.get dX8_gustOf_95 flX8_46 nM_0 gM_0 (by decide) (eM_0_21 _ _) ?_
    refine V.iload_n dX8_gustOf_98 rfl ?_
    obtain ⟨hb, h⟩ := ckn h
    refine V.iald dX8_gustOf_99 nM_13 gM_13 hb ?_
    refine V.iload_n dX8_gustOf_100 rfl ?_
    rcases itc h with ⟨hc, h⟩ | ⟨hc, h⟩
    · refine V.icmp_lt (tgt := 109) dX8_gustOf_101 (by decide) (fun _ => ?_) (fun hn => absurd hc hn)
      exact V.forget (vX8_gustOf_109 hK10 h hQ) ⟨rfl, ⟨rfl, ⟨rfl, ⟨rfl, ⟨rfl, ⟨rfl, trivial⟩⟩⟩⟩⟩⟩
    · refine V.icmp_lt (tgt := 109) dX8_gustOf_101 (by decide) (fun hn => absurd hn hc) (fun _ => ?_)
      refine V.lload dX8_gustOf_104 rfl ?_
      refine V.goto (tgt := 110) dX8_gustOf_106 (by decide) ?_
      exact V.forget (vX8_gustOf_110 hK10 h hQ) ⟨rfl, ⟨rfl, ⟨rfl, ⟨rfl, ⟨rfl, ⟨rfl, trivial⟩⟩⟩⟩⟩⟩
def fX8_gustOf_59 (K10 : Int32 → Int32 → Int32 → Int32 → Int64 → Int32 → vMem → Option (Int64 × vMem)) (K27 : Int32 → Int32 → Int32 → Int32 → Int64 → Int32 → Int64 → Int32 → vMem → Option (Int64 × vMem)) (l1 : Int32) (l2 : Int32) (l3 : Int32) (l4 : Int32) (l5 : Int64) (l7 : Int32) (l10 : Int32) (s0 : Int64) (s1 : Int64) (σ : vMem) : Option (Int64 × vMem) :=
  K27 l1 l2 l3 l4 l5 l7 (s0 * s1) (l10 + (1 : Int32)) σ
theorem vX8_gustOf_59 {ad : Nat → Nat} {Q : Option Value → vMem → Prop} {r : (Int64 × vMem)} {K10 : Int32 → Int32 → Int32 → Int32 → Int64 → Int32 → vMem → Option (Int64 × vMem)} (hK10 : ∀ (l1 : Int32) (l2 : Int32) (l3 : Int32) (l4 : Int32) (l5 : Int64) (l7 : Int32) (σ : vMem), K10 l1 l2 l3 l4 l5 l7 σ = some r → V GM mX8_gustOf ad Q 7 10 [some (.ref (ad 0)), some (.int l1), some (.int l2), some (.int l3), some (.int l4), some (.long l5), none, some (.int l7), none, none, none] [] σ) {K27 : Int32 → Int32 → Int32 → Int32 → Int64 → Int32 → Int64 → Int32 → vMem → Option (Int64 × vMem)} (hK27 : ∀ (l1 : Int32) (l2 : Int32) (l3 : Int32) (l4 : Int32) (l5 : Int64) (l7 : Int32) (l8 : Int64) (l10 : Int32) (σ : vMem), K27 l1 l2 l3 l4 l5 l7 l8 l10 σ = some r → V GM mX8_gustOf ad Q 7 27 [some (.ref (ad 0)), some (.int l1), some (.int l2), some (.int l3), some (.int l4), some (.long l5), none, some (.int l7), some (.long l8), none, some (.int l10)] [] σ) {l1 : Int32} {l2 : Int32} {l3 : Int32} {l4 : Int32} {l5 : Int64} {l7 : Int32} {l10 : Int32} {s0 : Int64} {s1 : Int64} {σ : vMem} (h : fX8_gustOf_59 K10 K27 l1 l2 l3 l4 l5 l7 l10 s0 s1 σ = some r) (hQ : Q (some (.long r.1)) r.2) : V GM mX8_gustOf ad Q 7 59 [some (.ref (ad 0)), some (.int l1), some (.int l2), some (.int l3), some (.int l4), some (.long l5), none, some (.int l7), none, none, some (.int l10)] [.long s1, .long s0] σ := by
  unfold fX8_gustOf_59 at h
  refine V.lmul dX8_gustOf_59 ?_
  refine V.lstore dX8_gustOf_60 (by decide) rfl ?_
  refine V.iinc dX8_gustOf_62 rfl (ii_1 _) (by decide) rfl ?_
  refine V.goto (tgt := 27) dX8_gustOf_65 (by decide) ?_
  exact V.forget (hK27 _ _ _ _ _ _ _ _ _ h) ⟨rfl, ⟨rfl, ⟨rfl, ⟨rfl, ⟨rfl, ⟨rfl, ⟨rfl, ⟨rfl, ⟨rfl, trivial⟩⟩⟩⟩⟩⟩⟩⟩⟩
def fX8_gustOf_27 (K10 : Int32 → Int32 → Int32 → Int32 → Int64 → Int32 → vMem → Option (Int64 × vMem)) (K27 : Int32 → Int32 → Int32 → Int32 → Int64 → Int32 → Int64 → Int32 → vMem → Option (Int64 × vMem)) (l1 : Int32) (l2 : Int32) (l3 : Int32) (l4 : Int32) (l5 : Int64) (l7 : Int32) (l8 : Int64) (l10 : Int32) (σ : vMem) : Option (Int64 × vMem) :=
  if (σ.1 0 13) ≤ l10 then ((fX8_windsBut l7 σ).bind fun q1 => fX8_gustOf_78 K10 l1 l2 l3 l4 l5 l7 l8 (vupL q1.2 0 17 q1.1)) else
  ((fX8_isIn (l7.toInt64) l10 σ).bind fun q2 => if q2.1 = 0 then (fX8_gustOf_59 K10 K27 l1 l2 l3 l4 l5 l7 l10 l8 (l1.toInt64) q2.2) else
  (fX8_gustOf_59 K10 K27 l1 l2 l3 l4 l5 l7 l10 l8 (((16 : Int32) - l1).toInt64) q2.2))
theorem vX8_gustOf_27 {ad : Nat → Nat} {Q : Option Value → vMem → Prop} {r : (Int64 × vMem)} {K10 : Int32 → Int32 → Int32 → Int32 → Int64 → Int32 → vMem → Option (Int64 × vMem)} (hK10 : ∀ (l1 : Int32) (l2 : Int32) (l3 : Int32) (l4 : Int32) (l5 : Int64) (l7 : Int32) (σ : vMem), K10 l1 l2 l3 l4 l5 l7 σ = some r → V GM mX8_gustOf ad Q 7 10 [some (.ref (ad 0)), some (.int l1), some (.int l2), some (.int l3), some (.int l4), some (.long l5), none, some (.int l7), none, none, none] [] σ) {K27 : Int32 → Int32 → Int32 → Int32 → Int64 → Int32 → Int64 → Int32 → vMem → Option (Int64 × vMem)} (hK27 : ∀ (l1 : Int32) (l2 : Int32) (l3 : Int32) (l4 : Int32) (l5 : Int64) (l7 : Int32) (l8 : Int64) (l10 : Int32) (σ : vMem), K27 l1 l2 l3 l4 l5 l7 l8 l10 σ = some r → V GM mX8_gustOf ad Q 7 27 [some (.ref (ad 0)), some (.int l1), some (.int l2), some (.int l3), some (.int l4), some (.long l5), none, some (.int l7), some (.long l8), none, some (.int l10)] [] σ) {l1 : Int32} {l2 : Int32} {l3 : Int32} {l4 : Int32} {l5 : Int64} {l7 : Int32} {l8 : Int64} {l10 : Int32} {σ : vMem} (h : fX8_gustOf_27 K10 K27 l1 l2 l3 l4 l5 l7 l8 l10 σ = some r) (hQ : Q (some (.long r.1)) r.2) : V GM mX8_gustOf ad Q 7 27 [some (.ref (ad 0)), some (.int l1), some (.int l2), some (.int l3), some (.int l4), some (.long l5), none, some (.int l7), some (.long l8), none, some (.int l10)] [] σ := by
  unfold fX8_gustOf_27 at h
  refine V.iload dX8_gustOf_27 rfl ?_
  refine V.aload_n dX8_gustOf_29 rfl ?_
  refine V.get dX8_gustOf_30 flX8_181 nM_0 gM_0 (by decide) (eM_0_13 _ _) ?_
  rcases itc h with ⟨hc, h⟩ | ⟨hc, h⟩
  · refine V.icmp_ge (tgt := 68) dX8_gustOf_33 (by decide) (fun _ => ?_) (fun hn => absurd hc hn)
    refine V.aload_n dX8_gustOf_68 rfl ?_
    refine V.aload_n dX8_gustOf_69 rfl ?_
    refine V.iload dX8_gustOf_70 rfl ?_
    obtain ⟨q1, h1, h⟩ := bdc h
    refine V.callV1 (mc := mX8_windsBut) (d' := 1) dX8_gustOf_72 lkX8_204 hfX8_windsBut nM_0 gM_0 rfl (by decide) (Nat.le_of_ble_eq_true rfl) (Nat.le_of_ble_eq_true rfl) (vX8_windsBut h1 ?_)
    refine V.putL dX8_gustOf_75 fpX8_208 nM_0 gM_0 (by decide) rfl ?_
    exact V.forget (vX8_gustOf_78 hK10 h hQ) ⟨rfl, ⟨rfl, ⟨rfl, ⟨rfl, ⟨rfl, ⟨rfl, ⟨rfl, ⟨rfl, trivial⟩⟩⟩⟩⟩⟩⟩⟩
  · refine V.icmp_ge (tgt := 68) dX8_gustOf_33 (by decide) (fun hn => absurd hn hc) (fun _ => ?_)
    refine V.lload dX8_gustOf_36 rfl ?_
    refine V.iload dX8_gustOf_38 rfl ?_
    refine V.i2l dX8_gustOf_40 ?_
    refine V.iload dX8_gustOf_41 rfl ?_
    obtain ⟨q2, h1, h⟩ := bdc h
    refine V.callS2 (mc := mX8_isIn) (d' := 0) dX8_gustOf_43 lkX8_196 hfX8_isIn (by decide) (Nat.le_of_ble_eq_true rfl) (Nat.le_of_ble_eq_true rfl) (vX8_isIn h1 ?_)
    rcases itc h with ⟨hc, h⟩ | ⟨hc, h⟩
    · refine V.if_eq (tgt := 57) dX8_gustOf_46 (by decide) (fun _ => ?_) (fun hn => absurd hc hn)
      refine V.iload_n dX8_gustOf_57 rfl ?_
      refine V.i2l dX8_gustOf_58 ?_
      exact V.forget (vX8_gustOf_59 hK10 hK27 h hQ) ⟨rfl, ⟨rfl, ⟨rfl, ⟨rfl, ⟨rfl, ⟨rfl, ⟨rfl, ⟨rfl, trivial⟩⟩⟩⟩⟩⟩⟩⟩
    · refine V.if_eq (tgt := 57) dX8_gustOf_46 (by decide) (fun hn => absurd hn hc) (fun _ => ?_)
      refine V.bipush bp_16 dX8_gustOf_49 ?_
      refine V.iload_n dX8_gustOf_51 rfl ?_
      refine V.isub dX8_gustOf_52 ?_
      refine V.i2l dX8_gustOf_53 ?_
      refine V.goto (tgt := 59) dX8_gustOf_54 (by decide) ?_
      exact V.forget (vX8_gustOf_59 hK10 hK27 h hQ) ⟨rfl, ⟨rfl, ⟨rfl, ⟨rfl, ⟨rfl, ⟨rfl, ⟨rfl, ⟨rfl, trivial⟩⟩⟩⟩⟩⟩⟩⟩
def LfX8_gustOf_27 (K10 : Int32 → Int32 → Int32 → Int32 → Int64 → Int32 → vMem → Option (Int64 × vMem)) : Nat → Int32 → Int32 → Int32 → Int32 → Int64 → Int32 → Int64 → Int32 → vMem → Option (Int64 × vMem)
  | 0, _, _, _, _, _, _, _, _, _ => none
  | n + 1, l1, l2, l3, l4, l5, l7, l8, l10, σ => fX8_gustOf_27 K10 (LfX8_gustOf_27 K10 n) l1 l2 l3 l4 l5 l7 l8 l10 σ
theorem LvX8_gustOf_27 {ad : Nat → Nat} {Q : Option Value → vMem → Prop} {r : (Int64 × vMem)} {K10 : Int32 → Int32 → Int32 → Int32 → Int64 → Int32 → vMem → Option (Int64 × vMem)} (hK10 : ∀ (l1 : Int32) (l2 : Int32) (l3 : Int32) (l4 : Int32) (l5 : Int64) (l7 : Int32) (σ : vMem), K10 l1 l2 l3 l4 l5 l7 σ = some r → V GM mX8_gustOf ad Q 7 10 [some (.ref (ad 0)), some (.int l1), some (.int l2), some (.int l3), some (.int l4), some (.long l5), none, some (.int l7), none, none, none] [] σ) (hQ : Q (some (.long r.1)) r.2) : ∀ (n : Nat) (l1 : Int32) (l2 : Int32) (l3 : Int32) (l4 : Int32) (l5 : Int64) (l7 : Int32) (l8 : Int64) (l10 : Int32) (σ : vMem), LfX8_gustOf_27 K10 n l1 l2 l3 l4 l5 l7 l8 l10 σ = some r → V GM mX8_gustOf ad Q 7 27 [some (.ref (ad 0)), some (.int l1), some (.int l2), some (.int l3), some (.int l4), some (.long l5), none, some (.int l7), some (.long l8), none, some (.int l10)] [] σ := by
  intro n
  induction n with
  | zero => intro l1 l2 l3 l4 l5 l7 l8 l10 σ h; cases h
  | succ n ih => intro l1 l2 l3 l4 l5 l7 l8 l10 σ h; exact vX8_gustOf_27 hK10 ih h hQ
def fX8_gustOf_10 (K10 : Int32 → Int32 → Int32 → Int32 → Int64 → Int32 → vMem → Option (Int64 × vMem)) (l1 : Int32) (l2 : Int32) (l3 : Int32) (l4 : Int32) (l5 : Int64) (l7 : Int32) (σ : vMem) : Option (Int64 × vMem) :=
  if ((1 : Int32) <<< ((σ.1 0 13) &&& 31)) ≤ l7 then ((fX8_lowest l5 ((1 : Int64) <<< (((4 : Int32) * (σ.1 0 13)).toInt64 &&& 63)) l4 σ).bind fun q1 => some (q1.1, q1.2)) else
  (LfX8_gustOf_27 K10 200 l1 l2 l3 l4 l5 l7 (1 : Int64) (0 : Int32) σ)
theorem vX8_gustOf_10 {ad : Nat → Nat} {Q : Option Value → vMem → Prop} {r : (Int64 × vMem)} {K10 : Int32 → Int32 → Int32 → Int32 → Int64 → Int32 → vMem → Option (Int64 × vMem)} (hK10 : ∀ (l1 : Int32) (l2 : Int32) (l3 : Int32) (l4 : Int32) (l5 : Int64) (l7 : Int32) (σ : vMem), K10 l1 l2 l3 l4 l5 l7 σ = some r → V GM mX8_gustOf ad Q 7 10 [some (.ref (ad 0)), some (.int l1), some (.int l2), some (.int l3), some (.int l4), some (.long l5), none, some (.int l7), none, none, none] [] σ) {l1 : Int32} {l2 : Int32} {l3 : Int32} {l4 : Int32} {l5 : Int64} {l7 : Int32} {σ : vMem} (h : fX8_gustOf_10 K10 l1 l2 l3 l4 l5 l7 σ = some r) (hQ : Q (some (.long r.1)) r.2) : V GM mX8_gustOf ad Q 7 10 [some (.ref (ad 0)), some (.int l1), some (.int l2), some (.int l3), some (.int l4), some (.long l5), none, some (.int l7), none, none, none] [] σ := by
  unfold fX8_gustOf_10 at h
  refine V.iload dX8_gustOf_10 rfl ?_
  refine V.iconst ic_1 dX8_gustOf_12 ?_
  refine V.aload_n dX8_gustOf_13 rfl ?_
  refine V.get dX8_gustOf_14 flX8_181 nM_0 gM_0 (by decide) (eM_0_13 _ _) ?_
  refine V.ishl dX8_gustOf_17 ?_
  rcases itc h with ⟨hc, h⟩ | ⟨hc, h⟩
  · refine V.icmp_ge (tgt := 119) dX8_gustOf_18 (by decide) (fun _ => ?_) (fun hn => absurd hc hn)
    refine V.lload dX8_gustOf_119 rfl ?_
    refine V.lconst lc_1 dX8_gustOf_121 ?_
    refine V.iconst ic_4 dX8_gustOf_122 ?_
    refine V.aload_n dX8_gustOf_123 rfl ?_
    refine V.get dX8_gustOf_124 flX8_181 nM_0 gM_0 (by decide) (eM_0_13 _ _) ?_
    refine V.imul dX8_gustOf_127 ?_
    refine V.lshl dX8_gustOf_128 ?_
    refine V.iload dX8_gustOf_129 rfl ?_
    obtain ⟨q1, h1, h⟩ := bdc h
    refine V.callS3 (mc := mX8_lowest) (d' := 0) dX8_gustOf_131 lkX8_311 hfX8_lowest (by decide) (Nat.le_of_ble_eq_true rfl) (Nat.le_of_ble_eq_true rfl) (vX8_lowest h1 ?_)
    obtain rfl := Option.some.inj h
    exact V.lret dX8_gustOf_134 rfl hQ
  · refine V.icmp_ge (tgt := 119) dX8_gustOf_18 (by decide) (fun hn => absurd hn hc) (fun _ => ?_)
    refine V.lconst lc_1 dX8_gustOf_21 ?_
    refine V.lstore dX8_gustOf_22 (by decide) rfl ?_
    refine V.iconst ic_0 dX8_gustOf_24 ?_
    refine V.istore dX8_gustOf_25 (by decide) rfl ?_
    exact V.forget (LvX8_gustOf_27 hK10 hQ 200 _ _ _ _ _ _ _ _ _ h) ⟨rfl, ⟨rfl, ⟨rfl, ⟨rfl, ⟨rfl, ⟨rfl, ⟨rfl, ⟨rfl, ⟨rfl, trivial⟩⟩⟩⟩⟩⟩⟩⟩⟩
def LfX8_gustOf_10 : Nat → Int32 → Int32 → Int32 → Int32 → Int64 → Int32 → vMem → Option (Int64 × vMem)
  | 0, _, _, _, _, _, _, _ => none
  | n + 1, l1, l2, l3, l4, l5, l7, σ => fX8_gustOf_10 (LfX8_gustOf_10 n) l1 l2 l3 l4 l5 l7 σ
theorem LvX8_gustOf_10 {ad : Nat → Nat} {Q : Option Value → vMem → Prop} {r : (Int64 × vMem)} (hQ : Q (some (.long r.1)) r.2) : ∀ (n : Nat) (l1 : Int32) (l2 : Int32) (l3 : Int32) (l4 : Int32) (l5 : Int64) (l7 : Int32) (σ : vMem), LfX8_gustOf_10 n l1 l2 l3 l4 l5 l7 σ = some r → V GM mX8_gustOf ad Q 7 10 [some (.ref (ad 0)), some (.int l1), some (.int l2), some (.int l3), some (.int l4), some (.long l5), none, some (.int l7), none, none, none] [] σ := by
  intro n
  induction n with
  | zero => intro l1 l2 l3 l4 l5 l7 σ h; cases h
  | succ n ih => intro l1 l2 l3 l4 l5 l7 σ h; exact vX8_gustOf_10 ih h hQ
def fX8_gustOf (l1 : Int32) (l2 : Int32) (l3 : Int32) (l4 : Int32) (σ : vMem) : Option (Int64 × vMem) :=
  (fX8_asTold σ).bind fun q1 => LfX8_gustOf_10 200 l1 l2 l3 l4 (0 : Int64) (0 : Int32) q1
theorem vX8_gustOf {ad : Nat → Nat} {Q : Option Value → vMem → Prop} {r : (Int64 × vMem)} {l1 : Int32} {l2 : Int32} {l3 : Int32} {l4 : Int32} {σ : vMem} (h : fX8_gustOf l1 l2 l3 l4 σ = some r) (hQ : Q (some (.long r.1)) r.2) : V GM mX8_gustOf ad Q 7 0 [some (.ref (ad 0)), some (.int l1), some (.int l2), some (.int l3), some (.int l4), none, none, none, none, none, none] [] σ := by
  unfold fX8_gustOf at h
  refine V.aload_n dX8_gustOf_0 rfl ?_
  obtain ⟨q1, h1, h⟩ := bdc h
  refine V.callV0 (mc := mX8_asTold) (d' := 6) dX8_gustOf_1 lkX8_242 hfX8_asTold nM_0 gM_0 rfl (by decide) (Nat.le_of_ble_eq_true rfl) (Nat.le_of_ble_eq_true rfl) (vX8_asTold h1 ?_)
  refine V.lconst lc_0 dX8_gustOf_4 ?_
  refine V.lstore dX8_gustOf_5 (by decide) rfl ?_
  refine V.iconst ic_0 dX8_gustOf_7 ?_
  refine V.istore dX8_gustOf_8 (by decide) rfl ?_
  exact V.forget (LvX8_gustOf_10 hQ 200 _ _ _ _ _ _ _ h) ⟨rfl, ⟨rfl, ⟨rfl, ⟨rfl, ⟨rfl, ⟨rfl, ⟨rfl, trivial⟩⟩⟩⟩⟩⟩⟩
def fX8_gust_55 (s0 : Int64) (σ : vMem) : Option (Int64 × vMem) :=
  some (s0, σ)
theorem vX8_gust_55 {ad : Nat → Nat} {Q : Option Value → vMem → Prop} {r : (Int64 × vMem)} {s0 : Int64} {σ : vMem} (h : fX8_gust_55 s0 σ = some r) (hQ : Q (some (.long r.1)) r.2) : V GM mX8_gust ad Q 8 55 [none, none, none, none, none] [.long s0] σ := by
  unfold fX8_gust_55 at h
  obtain rfl := Option.some.inj h
  exact V.lret dX8_gust_55 rfl hQ
def fX8_gust_50 (σ : vMem) : Option (Int64 × vMem) :=
  (fX8_no (-2 : Int32) σ).bind fun q1 => fX8_gust_55 q1.1 q1.2
theorem vX8_gust_50 {ad : Nat → Nat} {Q : Option Value → vMem → Prop} {r : (Int64 × vMem)} {σ : vMem} (h : fX8_gust_50 σ = some r) (hQ : Q (some (.long r.1)) r.2) : V GM mX8_gust ad Q 8 50 [none, none, none, none, none] [] σ := by
  unfold fX8_gust_50 at h
  refine V.bipush bp_m2 dX8_gust_50 ?_
  obtain ⟨q1, h1, h⟩ := bdc h
  refine V.callS1 (mc := mX8_no) (d' := 0) dX8_gust_52 lkX8_319 hfX8_no (by decide) (Nat.le_of_ble_eq_true rfl) (Nat.le_of_ble_eq_true rfl) (vX8_no h1 ?_)
  exact V.forget (vX8_gust_55 h hQ) trivial
def fX8_gust (l1 : Int32) (l2 : Int32) (l3 : Int32) (l4 : Int32) (σ : vMem) : Option (Int64 × vMem) :=
  (fX8_in l1 (0 : Int32) (16 : Int32) σ).bind fun q1 => if q1.1 = 0 then (fX8_gust_50 q1.2) else
  ((fX8_isBasket l2 q1.2).bind fun q2 => if q2.1 = 0 then (fX8_gust_50 q2.2) else
  ((fX8_in l3 (0 : Int32) (99 : Int32) q2.2).bind fun q3 => if q3.1 = 0 then (fX8_gust_50 q3.2) else
  ((fX8_in l4 (0 : Int32) (1 : Int32) q3.2).bind fun q4 => if q4.1 = 0 then (fX8_gust_50 q4.2) else
  ((fX8_gustOf l1 l2 l3 l4 q4.2).bind fun q5 => fX8_gust_55 q5.1 q5.2))))
theorem vX8_gust {ad : Nat → Nat} {Q : Option Value → vMem → Prop} {r : (Int64 × vMem)} {l1 : Int32} {l2 : Int32} {l3 : Int32} {l4 : Int32} {σ : vMem} (h : fX8_gust l1 l2 l3 l4 σ = some r) (hQ : Q (some (.long r.1)) r.2) : V GM mX8_gust ad Q 8 0 [some (.ref (ad 0)), some (.int l1), some (.int l2), some (.int l3), some (.int l4)] [] σ := by
  unfold fX8_gust at h
  refine V.iload_n dX8_gust_0 rfl ?_
  refine V.iconst ic_0 dX8_gust_1 ?_
  refine V.bipush bp_16 dX8_gust_2 ?_
  obtain ⟨q1, h1, h⟩ := bdc h
  refine V.callS3 (mc := mX8_in) (d' := 0) dX8_gust_4 lkX8_125 hfX8_in (by decide) (Nat.le_of_ble_eq_true rfl) (Nat.le_of_ble_eq_true rfl) (vX8_in h1 ?_)
  rcases itc h with ⟨hc, h⟩ | ⟨hc, h⟩
  · refine V.if_eq (tgt := 50) dX8_gust_7 (by decide) (fun _ => ?_) (fun hn => absurd hc hn)
    exact V.forget (vX8_gust_50 h hQ) trivial
  · refine V.if_eq (tgt := 50) dX8_gust_7 (by decide) (fun hn => absurd hn hc) (fun _ => ?_)
    refine V.aload_n dX8_gust_10 rfl ?_
    refine V.iload_n dX8_gust_11 rfl ?_
    obtain ⟨q2, h1, h⟩ := bdc h
    refine V.callV1 (mc := mX8_isBasket) (d' := 6) dX8_gust_12 lkX8_172 hfX8_isBasket nM_0 gM_0 rfl (by decide) (Nat.le_of_ble_eq_true rfl) (Nat.le_of_ble_eq_true rfl) (vX8_isBasket h1 ?_)
    rcases itc h with ⟨hc, h⟩ | ⟨hc, h⟩
    · refine V.if_eq (tgt := 50) dX8_gust_15 (by decide) (fun _ => ?_) (fun hn => absurd hc hn)
      exact V.forget (vX8_gust_50 h hQ) trivial
    · refine V.if_eq (tgt := 50) dX8_gust_15 (by decide) (fun hn => absurd hn hc) (fun _ => ?_)
      refine V.iload_n dX8_gust_18 rfl ?_
      refine V.iconst ic_0 dX8_gust_19 ?_
      refine V.bipush bp_99 dX8_gust_20 ?_
      obtain ⟨q3, h1, h⟩ := bdc h
      refine V.callS3 (mc := mX8_in) (d' := 0) dX8_gust_22 lkX8_125 hfX8_in (by decide) (Nat.le_of_ble_eq_true rfl) (Nat.le_of_ble_eq_true rfl) (vX8_in h1 ?_)
      rcases itc h with ⟨hc, h⟩ | ⟨hc, h⟩
      · refine V.if_eq (tgt := 50) dX8_gust_25 (by decide) (fun _ => ?_) (fun hn => absurd hc hn)
        exact V.forget (vX8_gust_50 h hQ) trivial
      · refine V.if_eq (tgt := 50) dX8_gust_25 (by decide) (fun hn => absurd hn hc) (fun _ => ?_)
        refine V.iload dX8_gust_28 rfl ?_
        refine V.iconst ic_0 dX8_gust_30 ?_
        refine V.iconst ic_1 dX8_gust_31 ?_
        obtain ⟨q4, h1, h⟩ := bdc h
        refine V.callS3 (mc := mX8_in) (d' := 0) dX8_gust_32 lkX8_125 hfX8_in (by decide) (Nat.le_of_ble_eq_true rfl) (Nat.le_of_ble_eq_true rfl) (vX8_in h1 ?_)
        rcases itc h with ⟨hc, h⟩ | ⟨hc, h⟩
        · refine V.if_eq (tgt := 50) dX8_gust_35 (by decide) (fun _ => ?_) (fun hn => absurd hc hn)
          exact V.forget (vX8_gust_50 h hQ) trivial
        · refine V.if_eq (tgt := 50) dX8_gust_35 (by decide) (fun hn => absurd hn hc) (fun _ => ?_)
          refine V.aload_n dX8_gust_38 rfl ?_
          refine V.iload_n dX8_gust_39 rfl ?_
          refine V.iload_n dX8_gust_40 rfl ?_
          refine V.iload_n dX8_gust_41 rfl ?_
          refine V.iload dX8_gust_42 rfl ?_
          obtain ⟨q5, h1, h⟩ := bdc h
          refine V.callV4 (mc := mX8_gustOf) (d' := 7) dX8_gust_44 lkX8_315 hfX8_gustOf nM_0 gM_0 rfl (by decide) (Nat.le_of_ble_eq_true rfl) (Nat.le_of_ble_eq_true rfl) (vX8_gustOf h1 ?_)
          refine V.goto (tgt := 55) dX8_gust_47 (by decide) ?_
          exact V.forget (vX8_gust_55 h hQ) trivial
def fX8_bitesAll_4 (K4 : Int32 → Int32 → vMem → Option (Int32 × vMem)) (l1 : Int32) (l2 : Int32) (σ : vMem) : Option (Int32 × vMem) :=
  if (σ.1 0 2) ≤ l2 then (some (l1, σ)) else
  (if l2 < 0 ∨ 9 ≤ l2.toNatClampNeg then none else K4 (l1 + (σ.1 20 l2.toNatClampNeg)) (l2 + (1 : Int32)) σ)
theorem vX8_bitesAll_4 {ad : Nat → Nat} {Q : Option Value → vMem → Prop} {r : (Int32 × vMem)} {K4 : Int32 → Int32 → vMem → Option (Int32 × vMem)} (hK4 : ∀ (l1 : Int32) (l2 : Int32) (σ : vMem), K4 l1 l2 σ = some r → V GM mX8_bitesAll ad Q 0 4 [some (.ref (ad 0)), some (.int l1), some (.int l2)] [] σ) {l1 : Int32} {l2 : Int32} {σ : vMem} (h : fX8_bitesAll_4 K4 l1 l2 σ = some r) (hQ : Q (some (.int r.1)) r.2) : V GM mX8_bitesAll ad Q 0 4 [some (.ref (ad 0)), some (.int l1), some (.int l2)] [] σ := by
  unfold fX8_bitesAll_4 at h
  refine V.iload_n dX8_bitesAll_4 rfl ?_
  refine V.aload_n dX8_bitesAll_5 rfl ?_
  refine V.get dX8_bitesAll_6 flX8_144 nM_0 gM_0 (by decide) (eM_0_2 _ _) ?_
  rcases itc h with ⟨hc, h⟩ | ⟨hc, h⟩
  · refine V.icmp_ge (tgt := 27) dX8_bitesAll_9 (by decide) (fun _ => ?_) (fun hn => absurd hc hn)
    refine V.iload_n dX8_bitesAll_27 rfl ?_
    obtain rfl := Option.some.inj h
    exact V.iret dX8_bitesAll_28 rfl hQ
  · refine V.icmp_ge (tgt := 27) dX8_bitesAll_9 (by decide) (fun hn => absurd hn hc) (fun _ => ?_)
    refine V.iload_n dX8_bitesAll_12 rfl ?_
    refine V.aload_n dX8_bitesAll_13 rfl ?_
    refine V.get dX8_bitesAll_14 flX8_68 nM_0 gM_0 (by decide) (eM_0_28 _ _) ?_
    refine V.iload_n dX8_bitesAll_17 rfl ?_
    obtain ⟨hb, h⟩ := ckn h
    refine V.iald dX8_bitesAll_18 nM_20 gM_20 hb ?_
    refine V.iadd dX8_bitesAll_19 ?_
    refine V.istore_n dX8_bitesAll_20 (by decide) rfl ?_
    refine V.iinc dX8_bitesAll_21 rfl (ii_1 _) (by decide) rfl ?_
    refine V.goto (tgt := 4) dX8_bitesAll_24 (by decide) ?_
    exact V.forget (hK4 _ _ _ h) ⟨rfl, ⟨rfl, ⟨rfl, trivial⟩⟩⟩
def LfX8_bitesAll_4 : Nat → Int32 → Int32 → vMem → Option (Int32 × vMem)
  | 0, _, _, _ => none
  | n + 1, l1, l2, σ => fX8_bitesAll_4 (LfX8_bitesAll_4 n) l1 l2 σ
theorem LvX8_bitesAll_4 {ad : Nat → Nat} {Q : Option Value → vMem → Prop} {r : (Int32 × vMem)} (hQ : Q (some (.int r.1)) r.2) : ∀ (n : Nat) (l1 : Int32) (l2 : Int32) (σ : vMem), LfX8_bitesAll_4 n l1 l2 σ = some r → V GM mX8_bitesAll ad Q 0 4 [some (.ref (ad 0)), some (.int l1), some (.int l2)] [] σ := by
  intro n
  induction n with
  | zero => intro l1 l2 σ h; cases h
  | succ n ih => intro l1 l2 σ h; exact vX8_bitesAll_4 ih h hQ
def fX8_bitesAll (σ : vMem) : Option (Int32 × vMem) :=
  LfX8_bitesAll_4 200 (0 : Int32) (0 : Int32) σ
theorem vX8_bitesAll {ad : Nat → Nat} {Q : Option Value → vMem → Prop} {r : (Int32 × vMem)} {σ : vMem} (h : fX8_bitesAll σ = some r) (hQ : Q (some (.int r.1)) r.2) : V GM mX8_bitesAll ad Q 0 0 [some (.ref (ad 0)), none, none] [] σ := by
  unfold fX8_bitesAll at h
  refine V.iconst ic_0 dX8_bitesAll_0 ?_
  refine V.istore_n dX8_bitesAll_1 (by decide) rfl ?_
  refine V.iconst ic_0 dX8_bitesAll_2 ?_
  refine V.istore_n dX8_bitesAll_3 (by decide) rfl ?_
  exact V.forget (LvX8_bitesAll_4 hQ 200 _ _ _ h) ⟨rfl, ⟨rfl, ⟨rfl, trivial⟩⟩⟩
def fX8_weekOf_77 (s0 : Int32) (σ : vMem) : Option (Int32 × vMem) :=
  some (s0, σ)
theorem vX8_weekOf_77 {ad : Nat → Nat} {Q : Option Value → vMem → Prop} {r : (Int32 × vMem)} {s0 : Int32} {σ : vMem} (h : fX8_weekOf_77 s0 σ = some r) (hQ : Q (some (.int r.1)) r.2) : V GM mX8_weekOf ad Q 7 77 [none, none, none, none, none, none] [.int s0] σ := by
  unfold fX8_weekOf_77 at h
  obtain rfl := Option.some.inj h
  exact V.iret dX8_weekOf_77 rfl hQ
def fX8_weekOf_52 (K15 : Int32 → Int32 → Int32 → Int32 → vMem → Option (Int32 × vMem)) (l2 : Int32) (l3 : Int32) (l4 : Int32) (l5 : Int32) (σ : vMem) : Option (Int32 × vMem) :=
  K15 l2 l3 l4 (l5 + (1 : Int32)) σ
theorem vX8_weekOf_52 {ad : Nat → Nat} {Q : Option Value → vMem → Prop} {r : (Int32 × vMem)} {K15 : Int32 → Int32 → Int32 → Int32 → vMem → Option (Int32 × vMem)} (hK15 : ∀ (l2 : Int32) (l3 : Int32) (l4 : Int32) (l5 : Int32) (σ : vMem), K15 l2 l3 l4 l5 σ = some r → V GM mX8_weekOf ad Q 7 15 [some (.ref (ad 0)), none, some (.int l2), some (.int l3), some (.int l4), some (.int l5)] [] σ) {l2 : Int32} {l3 : Int32} {l4 : Int32} {l5 : Int32} {σ : vMem} (h : fX8_weekOf_52 K15 l2 l3 l4 l5 σ = some r) (hQ : Q (some (.int r.1)) r.2) : V GM mX8_weekOf ad Q 7 52 [some (.ref (ad 0)), none, some (.int l2), some (.int l3), some (.int l4), some (.int l5)] [] σ := by
  unfold fX8_weekOf_52 at h
  refine V.iinc dX8_weekOf_52 rfl (ii_1 _) (by decide) rfl ?_
  refine V.goto (tgt := 15) dX8_weekOf_55 (by decide) ?_
  exact V.forget (hK15 _ _ _ _ _ h) ⟨rfl, ⟨rfl, ⟨rfl, ⟨rfl, ⟨rfl, trivial⟩⟩⟩⟩⟩
def fX8_weekOf_15 (K15 : Int32 → Int32 → Int32 → Int32 → vMem → Option (Int32 × vMem)) (l2 : Int32) (l3 : Int32) (l4 : Int32) (l5 : Int32) (σ : vMem) : Option (Int32 × vMem) :=
  if l2 ≤ l5 then ((fX8_runs σ).bind fun q1 => if l3 = 0 then ((fX8_upMuch q1).bind fun q3 => fX8_weekOf_77 q3.1 q3.2) else
  ((fX8_bitesAll q1).bind fun q2 => fX8_weekOf_77 q2.1 q2.2)) else
  ((fX8_bitsOf (σ.2 0 18) ((((((1103515245 : Int32) * l4) + (12345 : Int32)).toUInt32 >>> ((16 : Int32).toUInt32 &&& Int32.toUInt32 31)).toInt32) - (((((1103515245 : Int32) * l4) + (12345 : Int32)).toUInt32 >>> ((16 : Int32).toUInt32 &&& Int32.toUInt32 31)).toInt32) / (40 : Int32) * (40 : Int32)) σ).bind fun q4 => fX8_weekOf_52 K15 l2 l3 (((1103515245 : Int32) * l4) + (12345 : Int32)) l5 (vupL q4.2 0 18 q4.1))
theorem vX8_weekOf_15 {ad : Nat → Nat} {Q : Option Value → vMem → Prop} {r : (Int32 × vMem)} {K15 : Int32 → Int32 → Int32 → Int32 → vMem → Option (Int32 × vMem)} (hK15 : ∀ (l2 : Int32) (l3 : Int32) (l4 : Int32) (l5 : Int32) (σ : vMem), K15 l2 l3 l4 l5 σ = some r → V GM mX8_weekOf ad Q 7 15 [some (.ref (ad 0)), none, some (.int l2), some (.int l3), some (.int l4), some (.int l5)] [] σ) {l2 : Int32} {l3 : Int32} {l4 : Int32} {l5 : Int32} {σ : vMem} (h : fX8_weekOf_15 K15 l2 l3 l4 l5 σ = some r) (hQ : Q (some (.int r.1)) r.2) : V GM mX8_weekOf ad Q 7 15 [some (.ref (ad 0)), none, some (.int l2), some (.int l3), some (.int l4), some (.int l5)] [] σ := by
  unfold fX8_weekOf_15 at h
  refine V.iload dX8_weekOf_15 rfl ?_
  refine V.iload_n dX8_weekOf_17 rfl ?_
  rcases itc h with ⟨hc, h⟩ | ⟨hc, h⟩
  · refine V.icmp_ge (tgt := 58) dX8_weekOf_18 (by decide) (fun _ => ?_) (fun hn => absurd hc hn)
    refine V.aload_n dX8_weekOf_58 rfl ?_
    obtain ⟨q1, h1, h⟩ := bdc h
    refine V.callV0 (mc := mX8_runs) (d' := 3) dX8_weekOf_59 lkX8_245 hfX8_runs nM_0 gM_0 rfl (by decide) (Nat.le_of_ble_eq_true rfl) (Nat.le_of_ble_eq_true rfl) (vX8_runs h1 ?_)
    refine V.iload_n dX8_weekOf_62 rfl ?_
    rcases itc h with ⟨hc, h⟩ | ⟨hc, h⟩
    · refine V.if_ne (tgt := 73) dX8_weekOf_63 (by decide) (fun hn => absurd hc hn) (fun _ => ?_)
      refine V.aload_n dX8_weekOf_66 rfl ?_
      obtain ⟨q3, h1, h⟩ := bdc h
      refine V.callV0 (mc := mX8_upMuch) (d' := 0) dX8_weekOf_67 lkX8_264 hfX8_upMuch nM_0 gM_0 rfl (by decide) (Nat.le_of_ble_eq_true rfl) (Nat.le_of_ble_eq_true rfl) (vX8_upMuch h1 ?_)
      refine V.goto (tgt := 77) dX8_weekOf_70 (by decide) ?_
      exact V.forget (vX8_weekOf_77 h hQ) trivial
    · refine V.if_ne (tgt := 73) dX8_weekOf_63 (by decide) (fun _ => ?_) (fun hn => absurd hn hc)
      refine V.aload_n dX8_weekOf_73 rfl ?_
      obtain ⟨q2, h1, h⟩ := bdc h
      refine V.callV0 (mc := mX8_bitesAll) (d' := 0) dX8_weekOf_74 lkX8_323 hfX8_bitesAll nM_0 gM_0 rfl (by decide) (Nat.le_of_ble_eq_true rfl) (Nat.le_of_ble_eq_true rfl) (vX8_bitesAll h1 ?_)
      exact V.forget (vX8_weekOf_77 h hQ) trivial
  · refine V.icmp_ge (tgt := 58) dX8_weekOf_18 (by decide) (fun hn => absurd hn hc) (fun _ => ?_)
    refine V.ldcw dX8_weekOf_21 ctX8_322 ?_
    refine V.iload dX8_weekOf_24 rfl ?_
    refine V.imul dX8_weekOf_26 ?_
    refine V.sipush sp_12345 dX8_weekOf_27 ?_
    refine V.iadd dX8_weekOf_30 ?_
    refine V.istore dX8_weekOf_31 (by decide) rfl ?_
    refine V.aload_n dX8_weekOf_33 rfl ?_
    refine V.aload_n dX8_weekOf_34 rfl ?_
    refine V.get dX8_weekOf_35 flX8_212 nM_0 gM_0 (by decide) (eM_0_18 _ _) ?_
    refine V.iload dX8_weekOf_38 rfl ?_
    refine V.bipush bp_16 dX8_weekOf_40 ?_
    refine V.iushr dX8_weekOf_42 ?_
    refine V.bipush bp_40 dX8_weekOf_43 ?_
    refine V.irem (by decide) dX8_weekOf_45 ?_
    obtain ⟨q4, h1, h⟩ := bdc h
    refine V.callS2 (mc := mX8_bitsOf) (d' := 0) dX8_weekOf_46 lkX8_200 hfX8_bitsOf (by decide) (Nat.le_of_ble_eq_true rfl) (Nat.le_of_ble_eq_true rfl) (vX8_bitsOf h1 ?_)
    refine V.putL dX8_weekOf_49 fpX8_212 nM_0 gM_0 (by decide) rfl ?_
    exact V.forget (vX8_weekOf_52 hK15 h hQ) ⟨rfl, ⟨rfl, ⟨rfl, ⟨rfl, ⟨rfl, trivial⟩⟩⟩⟩⟩
def LfX8_weekOf_15 : Nat → Int32 → Int32 → Int32 → Int32 → vMem → Option (Int32 × vMem)
  | 0, _, _, _, _, _ => none
  | n + 1, l2, l3, l4, l5, σ => fX8_weekOf_15 (LfX8_weekOf_15 n) l2 l3 l4 l5 σ
theorem LvX8_weekOf_15 {ad : Nat → Nat} {Q : Option Value → vMem → Prop} {r : (Int32 × vMem)} (hQ : Q (some (.int r.1)) r.2) : ∀ (n : Nat) (l2 : Int32) (l3 : Int32) (l4 : Int32) (l5 : Int32) (σ : vMem), LfX8_weekOf_15 n l2 l3 l4 l5 σ = some r → V GM mX8_weekOf ad Q 7 15 [some (.ref (ad 0)), none, some (.int l2), some (.int l3), some (.int l4), some (.int l5)] [] σ := by
  intro n
  induction n with
  | zero => intro l2 l3 l4 l5 σ h; cases h
  | succ n ih => intro l2 l3 l4 l5 σ h; exact vX8_weekOf_15 ih h hQ
def fX8_weekOf_12 (l2 : Int32) (l3 : Int32) (l4 : Int32) (σ : vMem) : Option (Int32 × vMem) :=
  LfX8_weekOf_15 200 l2 l3 l4 (0 : Int32) σ
theorem vX8_weekOf_12 {ad : Nat → Nat} {Q : Option Value → vMem → Prop} {r : (Int32 × vMem)} {l2 : Int32} {l3 : Int32} {l4 : Int32} {σ : vMem} (h : fX8_weekOf_12 l2 l3 l4 σ = some r) (hQ : Q (some (.int r.1)) r.2) : V GM mX8_weekOf ad Q 7 12 [some (.ref (ad 0)), none, some (.int l2), some (.int l3), some (.int l4), none] [] σ := by
  unfold fX8_weekOf_12 at h
  refine V.iconst ic_0 dX8_weekOf_12 ?_
  refine V.istore dX8_weekOf_13 (by decide) rfl ?_
  exact V.forget (LvX8_weekOf_15 hQ 200 _ _ _ _ _ h) ⟨rfl, ⟨rfl, ⟨rfl, ⟨rfl, ⟨rfl, trivial⟩⟩⟩⟩⟩
def fX8_weekOf (l1 : Int32) (l2 : Int32) (l3 : Int32) (σ : vMem) : Option (Int32 × vMem) :=
  (fX8_asTold σ).bind fun q1 => fX8_weekOf_12 l2 l3 l1 (vupL q1 0 18 (0 : Int64))
theorem vX8_weekOf {ad : Nat → Nat} {Q : Option Value → vMem → Prop} {r : (Int32 × vMem)} {l1 : Int32} {l2 : Int32} {l3 : Int32} {σ : vMem} (h : fX8_weekOf l1 l2 l3 σ = some r) (hQ : Q (some (.int r.1)) r.2) : V GM mX8_weekOf ad Q 7 0 [some (.ref (ad 0)), some (.int l1), some (.int l2), some (.int l3), none, none] [] σ := by
  unfold fX8_weekOf at h
  refine V.aload_n dX8_weekOf_0 rfl ?_
  obtain ⟨q1, h1, h⟩ := bdc h
  refine V.callV0 (mc := mX8_asTold) (d' := 6) dX8_weekOf_1 lkX8_242 hfX8_asTold nM_0 gM_0 rfl (by decide) (Nat.le_of_ble_eq_true rfl) (Nat.le_of_ble_eq_true rfl) (vX8_asTold h1 ?_)
  refine V.iload_n dX8_weekOf_4 rfl ?_
  refine V.istore dX8_weekOf_5 (by decide) rfl ?_
  refine V.aload_n dX8_weekOf_7 rfl ?_
  refine V.lconst lc_0 dX8_weekOf_8 ?_
  refine V.putL dX8_weekOf_9 fpX8_212 nM_0 gM_0 (by decide) rfl ?_
  exact V.forget (vX8_weekOf_12 h hQ) ⟨rfl, ⟨rfl, ⟨rfl, ⟨rfl, trivial⟩⟩⟩⟩
def fX8_week_31 (s0 : Int32) (σ : vMem) : Option (Int32 × vMem) :=
  some (s0, σ)
theorem vX8_week_31 {ad : Nat → Nat} {Q : Option Value → vMem → Prop} {r : (Int32 × vMem)} {s0 : Int32} {σ : vMem} (h : fX8_week_31 s0 σ = some r) (hQ : Q (some (.int r.1)) r.2) : V GM mX8_week ad Q 8 31 [none, none, none, none] [.int s0] σ := by
  unfold fX8_week_31 at h
  obtain rfl := Option.some.inj h
  exact V.iret dX8_week_31 rfl hQ
def fX8_week_29 (σ : vMem) : Option (Int32 × vMem) :=
  fX8_week_31 (-2 : Int32) σ
theorem vX8_week_29 {ad : Nat → Nat} {Q : Option Value → vMem → Prop} {r : (Int32 × vMem)} {σ : vMem} (h : fX8_week_29 σ = some r) (hQ : Q (some (.int r.1)) r.2) : V GM mX8_week ad Q 8 29 [none, none, none, none] [] σ := by
  unfold fX8_week_29 at h
  refine V.bipush bp_m2 dX8_week_29 ?_
  exact V.forget (vX8_week_31 h hQ) trivial
def fX8_week (l1 : Int32) (l2 : Int32) (l3 : Int32) (σ : vMem) : Option (Int32 × vMem) :=
  (fX8_in l2 (0 : Int32) (6 : Int32) σ).bind fun q1 => if q1.1 = 0 then (fX8_week_29 q1.2) else
  ((fX8_in l3 (0 : Int32) (1 : Int32) q1.2).bind fun q2 => if q2.1 = 0 then (fX8_week_29 q2.2) else
  ((fX8_weekOf l1 l2 l3 q2.2).bind fun q3 => fX8_week_31 q3.1 q3.2))
theorem vX8_week {ad : Nat → Nat} {Q : Option Value → vMem → Prop} {r : (Int32 × vMem)} {l1 : Int32} {l2 : Int32} {l3 : Int32} {σ : vMem} (h : fX8_week l1 l2 l3 σ = some r) (hQ : Q (some (.int r.1)) r.2) : V GM mX8_week ad Q 8 0 [some (.ref (ad 0)), some (.int l1), some (.int l2), some (.int l3)] [] σ := by
  unfold fX8_week at h
  refine V.iload_n dX8_week_0 rfl ?_
  refine V.iconst ic_0 dX8_week_1 ?_
  refine V.bipush bp_6 dX8_week_2 ?_
  obtain ⟨q1, h1, h⟩ := bdc h
  refine V.callS3 (mc := mX8_in) (d' := 0) dX8_week_4 lkX8_125 hfX8_in (by decide) (Nat.le_of_ble_eq_true rfl) (Nat.le_of_ble_eq_true rfl) (vX8_in h1 ?_)
  rcases itc h with ⟨hc, h⟩ | ⟨hc, h⟩
  · refine V.if_eq (tgt := 29) dX8_week_7 (by decide) (fun _ => ?_) (fun hn => absurd hc hn)
    exact V.forget (vX8_week_29 h hQ) trivial
  · refine V.if_eq (tgt := 29) dX8_week_7 (by decide) (fun hn => absurd hn hc) (fun _ => ?_)
    refine V.iload_n dX8_week_10 rfl ?_
    refine V.iconst ic_0 dX8_week_11 ?_
    refine V.iconst ic_1 dX8_week_12 ?_
    obtain ⟨q2, h1, h⟩ := bdc h
    refine V.callS3 (mc := mX8_in) (d' := 0) dX8_week_13 lkX8_125 hfX8_in (by decide) (Nat.le_of_ble_eq_true rfl) (Nat.le_of_ble_eq_true rfl) (vX8_in h1 ?_)
    rcases itc h with ⟨hc, h⟩ | ⟨hc, h⟩
    · refine V.if_eq (tgt := 29) dX8_week_16 (by decide) (fun _ => ?_) (fun hn => absurd hc hn)
      exact V.forget (vX8_week_29 h hQ) trivial
    · refine V.if_eq (tgt := 29) dX8_week_16 (by decide) (fun hn => absurd hn hc) (fun _ => ?_)
      refine V.aload_n dX8_week_19 rfl ?_
      refine V.iload_n dX8_week_20 rfl ?_
      refine V.iload_n dX8_week_21 rfl ?_
      refine V.iload_n dX8_week_22 rfl ?_
      obtain ⟨q3, h1, h⟩ := bdc h
      refine V.callV3 (mc := mX8_weekOf) (d' := 7) dX8_week_23 lkX8_326 hfX8_weekOf nM_0 gM_0 rfl (by decide) (Nat.le_of_ble_eq_true rfl) (Nat.le_of_ble_eq_true rfl) (vX8_weekOf h1 ?_)
      refine V.goto (tgt := 31) dX8_week_26 (by decide) ?_
      exact V.forget (vX8_week_31 h hQ) trivial
def fX8_sheet_22 (σ : vMem) : Option (Int32 × vMem) :=
  some ((-2 : Int32), σ)
theorem vX8_sheet_22 {ad : Nat → Nat} {Q : Option Value → vMem → Prop} {r : (Int32 × vMem)} {σ : vMem} (h : fX8_sheet_22 σ = some r) (hQ : Q (some (.int r.1)) r.2) : V GM mX8_sheet ad Q 2 22 [none, none, none, none, none] [] σ := by
  unfold fX8_sheet_22 at h
  refine V.bipush bp_m2 dX8_sheet_22 ?_
  obtain rfl := Option.some.inj h
  exact V.iret dX8_sheet_24 rfl hQ
def fX8_sheet_79 (K59 : Int32 → Int32 → Int32 → vMem → Option (Int32 × vMem)) (l1 : Int32) (l3 : Int32) (l4 : Int32) (σ : vMem) : Option (Int32 × vMem) :=
  K59 l1 l3 (l4 + (1 : Int32)) σ
theorem vX8_sheet_79 {ad : Nat → Nat} {Q : Option Value → vMem → Prop} {r : (Int32 × vMem)} {K59 : Int32 → Int32 → Int32 → vMem → Option (Int32 × vMem)} (hK59 : ∀ (l1 : Int32) (l3 : Int32) (l4 : Int32) (σ : vMem), K59 l1 l3 l4 σ = some r → V GM mX8_sheet ad Q 2 59 [some (.ref (ad 0)), some (.int l1), none, some (.int l3), some (.int l4)] [] σ) {l1 : Int32} {l3 : Int32} {l4 : Int32} {σ : vMem} (h : fX8_sheet_79 K59 l1 l3 l4 σ = some r) (hQ : Q (some (.int r.1)) r.2) : V GM mX8_sheet ad Q 2 79 [some (.ref (ad 0)), some (.int l1), none, some (.int l3), some (.int l4)] [] σ := by
  unfold fX8_sheet_79 at h
  refine V.iinc dX8_sheet_79 rfl (ii_1 _) (by decide) rfl ?_
  refine V.goto (tgt := 59) dX8_sheet_82 (by decide) ?_
  exact V.forget (hK59 _ _ _ _ h) ⟨rfl, ⟨rfl, ⟨rfl, ⟨rfl, trivial⟩⟩⟩⟩
def fX8_sheet_59 (K59 : Int32 → Int32 → Int32 → vMem → Option (Int32 × vMem)) (l1 : Int32) (l3 : Int32) (l4 : Int32) (σ : vMem) : Option (Int32 × vMem) :=
  if (60 : Int32) ≤ l4 then (some (l3, σ)) else
  (if (((60 : Int32) * l1) + l4) < 0 ∨ 240 ≤ (((60 : Int32) * l1) + l4).toNatClampNeg then none else fX8_sheet_79 K59 l1 l3 l4 (vup σ 34 (((60 : Int32) * l1) + l4).toNatClampNeg (0 : Int32)))
theorem vX8_sheet_59 {ad : Nat → Nat} {Q : Option Value → vMem → Prop} {r : (Int32 × vMem)} {K59 : Int32 → Int32 → Int32 → vMem → Option (Int32 × vMem)} (hK59 : ∀ (l1 : Int32) (l3 : Int32) (l4 : Int32) (σ : vMem), K59 l1 l3 l4 σ = some r → V GM mX8_sheet ad Q 2 59 [some (.ref (ad 0)), some (.int l1), none, some (.int l3), some (.int l4)] [] σ) {l1 : Int32} {l3 : Int32} {l4 : Int32} {σ : vMem} (h : fX8_sheet_59 K59 l1 l3 l4 σ = some r) (hQ : Q (some (.int r.1)) r.2) : V GM mX8_sheet ad Q 2 59 [some (.ref (ad 0)), some (.int l1), none, some (.int l3), some (.int l4)] [] σ := by
  unfold fX8_sheet_59 at h
  refine V.iload dX8_sheet_59 rfl ?_
  refine V.bipush bp_60 dX8_sheet_61 ?_
  rcases itc h with ⟨hc, h⟩ | ⟨hc, h⟩
  · refine V.icmp_ge (tgt := 85) dX8_sheet_63 (by decide) (fun _ => ?_) (fun hn => absurd hc hn)
    refine V.iload_n dX8_sheet_85 rfl ?_
    obtain rfl := Option.some.inj h
    exact V.iret dX8_sheet_86 rfl hQ
  · refine V.icmp_ge (tgt := 85) dX8_sheet_63 (by decide) (fun hn => absurd hn hc) (fun _ => ?_)
    refine V.aload_n dX8_sheet_66 rfl ?_
    refine V.get dX8_sheet_67 flX8_110 nM_0 gM_0 (by decide) (eM_0_45 _ _) ?_
    refine V.bipush bp_60 dX8_sheet_70 ?_
    refine V.iload_n dX8_sheet_72 rfl ?_
    refine V.imul dX8_sheet_73 ?_
    refine V.iload dX8_sheet_74 rfl ?_
    refine V.iadd dX8_sheet_76 ?_
    refine V.iconst ic_0 dX8_sheet_77 ?_
    obtain ⟨hb, h⟩ := ckn h
    refine V.iast dX8_sheet_78 nM_34 gM_34 hb ?_
    exact V.forget (vX8_sheet_79 hK59 h hQ) ⟨rfl, ⟨rfl, ⟨rfl, ⟨rfl, trivial⟩⟩⟩⟩
def LfX8_sheet_59 : Nat → Int32 → Int32 → Int32 → vMem → Option (Int32 × vMem)
  | 0, _, _, _, _ => none
  | n + 1, l1, l3, l4, σ => fX8_sheet_59 (LfX8_sheet_59 n) l1 l3 l4 σ
theorem LvX8_sheet_59 {ad : Nat → Nat} {Q : Option Value → vMem → Prop} {r : (Int32 × vMem)} (hQ : Q (some (.int r.1)) r.2) : ∀ (n : Nat) (l1 : Int32) (l3 : Int32) (l4 : Int32) (σ : vMem), LfX8_sheet_59 n l1 l3 l4 σ = some r → V GM mX8_sheet ad Q 2 59 [some (.ref (ad 0)), some (.int l1), none, some (.int l3), some (.int l4)] [] σ := by
  intro n
  induction n with
  | zero => intro l1 l3 l4 σ h; cases h
  | succ n ih => intro l1 l3 l4 σ h; exact vX8_sheet_59 ih h hQ
def fX8_sheet_56 (l1 : Int32) (l3 : Int32) (σ : vMem) : Option (Int32 × vMem) :=
  LfX8_sheet_59 200 l1 l3 (0 : Int32) σ
theorem vX8_sheet_56 {ad : Nat → Nat} {Q : Option Value → vMem → Prop} {r : (Int32 × vMem)} {l1 : Int32} {l3 : Int32} {σ : vMem} (h : fX8_sheet_56 l1 l3 σ = some r) (hQ : Q (some (.int r.1)) r.2) : V GM mX8_sheet ad Q 2 56 [some (.ref (ad 0)), some (.int l1), none, some (.int l3), none] [] σ := by
  unfold fX8_sheet_56 at h
  refine V.iconst ic_0 dX8_sheet_56 ?_
  refine V.istore dX8_sheet_57 (by decide) rfl ?_
  exact V.forget (LvX8_sheet_59 hQ 200 _ _ _ _ h) ⟨rfl, ⟨rfl, ⟨rfl, ⟨rfl, trivial⟩⟩⟩⟩
def fX8_sheet_49 (l1 : Int32) (l3 : Int32) (σ : vMem) : Option (Int32 × vMem) :=
  if l1 < 0 ∨ 4 ≤ l1.toNatClampNeg then none else fX8_sheet_56 l1 l3 (vup σ 33 l1.toNatClampNeg l3)
theorem vX8_sheet_49 {ad : Nat → Nat} {Q : Option Value → vMem → Prop} {r : (Int32 × vMem)} {l1 : Int32} {l3 : Int32} {σ : vMem} (h : fX8_sheet_49 l1 l3 σ = some r) (hQ : Q (some (.int r.1)) r.2) : V GM mX8_sheet ad Q 2 49 [some (.ref (ad 0)), some (.int l1), none, some (.int l3), none] [] σ := by
  unfold fX8_sheet_49 at h
  refine V.aload_n dX8_sheet_49 rfl ?_
  refine V.get dX8_sheet_50 flX8_107 nM_0 gM_0 (by decide) (eM_0_44 _ _) ?_
  refine V.iload_n dX8_sheet_53 rfl ?_
  refine V.iload_n dX8_sheet_54 rfl ?_
  obtain ⟨hb, h⟩ := ckn h
  refine V.iast dX8_sheet_55 nM_33 gM_33 hb ?_
  exact V.forget (vX8_sheet_56 h hQ) ⟨rfl, ⟨rfl, ⟨rfl, trivial⟩⟩⟩
def fX8_sheet_42 (l1 : Int32) (l2 : Int32) (l3 : Int32) (σ : vMem) : Option (Int32 × vMem) :=
  if l1 < 0 ∨ 4 ≤ l1.toNatClampNeg then none else fX8_sheet_49 l1 l3 (vup σ 32 l1.toNatClampNeg l2)
theorem vX8_sheet_42 {ad : Nat → Nat} {Q : Option Value → vMem → Prop} {r : (Int32 × vMem)} {l1 : Int32} {l2 : Int32} {l3 : Int32} {σ : vMem} (h : fX8_sheet_42 l1 l2 l3 σ = some r) (hQ : Q (some (.int r.1)) r.2) : V GM mX8_sheet ad Q 2 42 [some (.ref (ad 0)), some (.int l1), some (.int l2), some (.int l3), none] [] σ := by
  unfold fX8_sheet_42 at h
  refine V.aload_n dX8_sheet_42 rfl ?_
  refine V.get dX8_sheet_43 flX8_104 nM_0 gM_0 (by decide) (eM_0_43 _ _) ?_
  refine V.iload_n dX8_sheet_46 rfl ?_
  refine V.iload_n dX8_sheet_47 rfl ?_
  obtain ⟨hb, h⟩ := ckn h
  refine V.iast dX8_sheet_48 nM_32 gM_32 hb ?_
  exact V.forget (vX8_sheet_49 h hQ) ⟨rfl, ⟨rfl, ⟨rfl, trivial⟩⟩⟩
def fX8_sheet (l1 : Int32) (l2 : Int32) (l3 : Int32) (σ : vMem) : Option (Int32 × vMem) :=
  (fX8_isSheet l1 σ).bind fun q1 => if q1.1 = 0 then (fX8_sheet_22 q1.2) else
  ((fX8_in l2 (0 : Int32) (2 : Int32) q1.2).bind fun q2 => if q2.1 = 0 then (fX8_sheet_22 q2.2) else
  (if l3 ≤ (60 : Int32) then (if 0 ≤ l3 then (if l1 < 0 ∨ 4 ≤ l1.toNatClampNeg then none else fX8_sheet_42 l1 l2 l3 (vup q2.2 31 l1.toNatClampNeg (1 : Int32))) else
  ((fX8_meets (5 : Int32) q2.2).bind fun q3 => some (q3.1, q3.2))) else
  (fX8_sheet_22 q2.2)))
theorem vX8_sheet {ad : Nat → Nat} {Q : Option Value → vMem → Prop} {r : (Int32 × vMem)} {l1 : Int32} {l2 : Int32} {l3 : Int32} {σ : vMem} (h : fX8_sheet l1 l2 l3 σ = some r) (hQ : Q (some (.int r.1)) r.2) : V GM mX8_sheet ad Q 2 0 [some (.ref (ad 0)), some (.int l1), some (.int l2), some (.int l3), none] [] σ := by
  unfold fX8_sheet at h
  refine V.iload_n dX8_sheet_0 rfl ?_
  obtain ⟨q1, h1, h⟩ := bdc h
  refine V.callS1 (mc := mX8_isSheet) (d' := 1) dX8_sheet_1 lkX8_187 hfX8_isSheet (by decide) (Nat.le_of_ble_eq_true rfl) (Nat.le_of_ble_eq_true rfl) (vX8_isSheet h1 ?_)
  rcases itc h with ⟨hc, h⟩ | ⟨hc, h⟩
  · refine V.if_eq (tgt := 22) dX8_sheet_4 (by decide) (fun _ => ?_) (fun hn => absurd hc hn)
    exact V.forget (vX8_sheet_22 h hQ) trivial
  · refine V.if_eq (tgt := 22) dX8_sheet_4 (by decide) (fun hn => absurd hn hc) (fun _ => ?_)
    refine V.iload_n dX8_sheet_7 rfl ?_
    refine V.iconst ic_0 dX8_sheet_8 ?_
    refine V.iconst ic_2 dX8_sheet_9 ?_
    obtain ⟨q2, h1, h⟩ := bdc h
    refine V.callS3 (mc := mX8_in) (d' := 0) dX8_sheet_10 lkX8_125 hfX8_in (by decide) (Nat.le_of_ble_eq_true rfl) (Nat.le_of_ble_eq_true rfl) (vX8_in h1 ?_)
    rcases itc h with ⟨hc, h⟩ | ⟨hc, h⟩
    · refine V.if_eq (tgt := 22) dX8_sheet_13 (by decide) (fun _ => ?_) (fun hn => absurd hc hn)
      exact V.forget (vX8_sheet_22 h hQ) trivial
    · refine V.if_eq (tgt := 22) dX8_sheet_13 (by decide) (fun hn => absurd hn hc) (fun _ => ?_)
      refine V.iload_n dX8_sheet_16 rfl ?_
      refine V.bipush bp_60 dX8_sheet_17 ?_
      rcases itc h with ⟨hc, h⟩ | ⟨hc, h⟩
      · refine V.icmp_le (tgt := 25) dX8_sheet_19 (by decide) (fun _ => ?_) (fun hn => absurd hc hn)
        refine V.iload_n dX8_sheet_25 rfl ?_
        rcases itc h with ⟨hc, h⟩ | ⟨hc, h⟩
        · refine V.if_ge (tgt := 35) dX8_sheet_26 (by decide) (fun _ => ?_) (fun hn => absurd hc hn)
          refine V.aload_n dX8_sheet_35 rfl ?_
          refine V.get dX8_sheet_36 flX8_101 nM_0 gM_0 (by decide) (eM_0_42 _ _) ?_
          refine V.iload_n dX8_sheet_39 rfl ?_
          refine V.iconst ic_1 dX8_sheet_40 ?_
          obtain ⟨hb, h⟩ := ckn h
          refine V.zast dX8_sheet_41 nM_31 gM_31 hb (Or.inr rfl) ?_
          exact V.forget (vX8_sheet_42 h hQ) ⟨rfl, ⟨rfl, ⟨rfl, ⟨rfl, trivial⟩⟩⟩⟩
        · refine V.if_ge (tgt := 35) dX8_sheet_26 (by decide) (fun hn => absurd hn hc) (fun _ => ?_)
          refine V.aload_n dX8_sheet_29 rfl ?_
          refine V.iconst ic_5 dX8_sheet_30 ?_
          obtain ⟨q3, h1, h⟩ := bdc h
          refine V.callV1 (mc := mX8_meets) (d' := 0) dX8_sheet_31 lkX8_190 hfX8_meets nM_0 gM_0 rfl (by decide) (Nat.le_of_ble_eq_true rfl) (Nat.le_of_ble_eq_true rfl) (vX8_meets h1 ?_)
          obtain rfl := Option.some.inj h
          exact V.iret dX8_sheet_34 rfl hQ
      · refine V.icmp_le (tgt := 25) dX8_sheet_19 (by decide) (fun hn => absurd hn hc) (fun _ => ?_)
        exact V.forget (vX8_sheet_22 h hQ) trivial
def fX8_lose_32 (l1 : Int32) (σ : vMem) : Option (Int32 × vMem) :=
  if l1 < 0 ∨ 4 ≤ l1.toNatClampNeg then none else some ((σ.1 33 l1.toNatClampNeg), σ)
theorem vX8_lose_32 {ad : Nat → Nat} {Q : Option Value → vMem → Prop} {r : (Int32 × vMem)} {l1 : Int32} {σ : vMem} (h : fX8_lose_32 l1 σ = some r) (hQ : Q (some (.int r.1)) r.2) : V GM mX8_lose ad Q 2 32 [some (.ref (ad 0)), some (.int l1)] [] σ := by
  unfold fX8_lose_32 at h
  refine V.aload_n dX8_lose_32 rfl ?_
  refine V.get dX8_lose_33 flX8_107 nM_0 gM_0 (by decide) (eM_0_44 _ _) ?_
  refine V.iload_n dX8_lose_36 rfl ?_
  obtain ⟨hb, h⟩ := ckn h
  refine V.iald dX8_lose_37 nM_33 gM_33 hb ?_
  obtain rfl := Option.some.inj h
  exact V.iret dX8_lose_38 rfl hQ
def fX8_lose (l1 : Int32) (σ : vMem) : Option (Int32 × vMem) :=
  (fX8_isSheet l1 σ).bind fun q1 => if q1.1 = 0 then (some ((-2 : Int32), q1.2)) else
  (if l1 < 0 ∨ 4 ≤ l1.toNatClampNeg then none else if (q1.2.1 31 l1.toNatClampNeg) = 0 then ((fX8_meets (1 : Int32) q1.2).bind fun q2 => some (q2.1, q2.2)) else
  (if l1 < 0 ∨ 4 ≤ l1.toNatClampNeg then none else fX8_lose_32 l1 (vup q1.2 31 l1.toNatClampNeg (0 : Int32))))
theorem vX8_lose {ad : Nat → Nat} {Q : Option Value → vMem → Prop} {r : (Int32 × vMem)} {l1 : Int32} {σ : vMem} (h : fX8_lose l1 σ = some r) (hQ : Q (some (.int r.1)) r.2) : V GM mX8_lose ad Q 2 0 [some (.ref (ad 0)), some (.int l1)] [] σ := by
  unfold fX8_lose at h
  refine V.iload_n dX8_lose_0 rfl ?_
  obtain ⟨q1, h1, h⟩ := bdc h
  refine V.callS1 (mc := mX8_isSheet) (d' := 1) dX8_lose_1 lkX8_187 hfX8_isSheet (by decide) (Nat.le_of_ble_eq_true rfl) (Nat.le_of_ble_eq_true rfl) (vX8_isSheet h1 ?_)
  rcases itc h with ⟨hc, h⟩ | ⟨hc, h⟩
  · refine V.if_ne (tgt := 10) dX8_lose_4 (by decide) (fun hn => absurd hc hn) (fun _ => ?_)
    refine V.bipush bp_m2 dX8_lose_7 ?_
    obtain rfl := Option.some.inj h
    exact V.iret dX8_lose_9 rfl hQ
  · refine V.if_ne (tgt := 10) dX8_lose_4 (by decide) (fun _ => ?_) (fun hn => absurd hn hc)
    refine V.aload_n dX8_lose_10 rfl ?_
    refine V.get dX8_lose_11 flX8_101 nM_0 gM_0 (by decide) (eM_0_42 _ _) ?_
    refine V.iload_n dX8_lose_14 rfl ?_
    obtain ⟨hb, h⟩ := ckn h
    refine V.zald dX8_lose_15 nM_31 gM_31 hb ?_
    rcases itc h with ⟨hc, h⟩ | ⟨hc, h⟩
    · refine V.if_ne (tgt := 25) dX8_lose_16 (by decide) (fun hn => absurd hc hn) (fun _ => ?_)
      refine V.aload_n dX8_lose_19 rfl ?_
      refine V.iconst ic_1 dX8_lose_20 ?_
      obtain ⟨q2, h1, h⟩ := bdc h
      refine V.callV1 (mc := mX8_meets) (d' := 0) dX8_lose_21 lkX8_190 hfX8_meets nM_0 gM_0 rfl (by decide) (Nat.le_of_ble_eq_true rfl) (Nat.le_of_ble_eq_true rfl) (vX8_meets h1 ?_)
      obtain rfl := Option.some.inj h
      exact V.iret dX8_lose_24 rfl hQ
    · refine V.if_ne (tgt := 25) dX8_lose_16 (by decide) (fun _ => ?_) (fun hn => absurd hn hc)
      refine V.aload_n dX8_lose_25 rfl ?_
      refine V.get dX8_lose_26 flX8_101 nM_0 gM_0 (by decide) (eM_0_42 _ _) ?_
      refine V.iload_n dX8_lose_29 rfl ?_
      refine V.iconst ic_0 dX8_lose_30 ?_
      obtain ⟨hb, h⟩ := ckn h
      refine V.zast dX8_lose_31 nM_31 gM_31 hb (Or.inl rfl) ?_
      exact V.forget (vX8_lose_32 h hQ) ⟨rfl, ⟨rfl, trivial⟩⟩
def fX8_lacks_48 (s0 : Int32) (σ : vMem) : Option (Int32 × vMem) :=
  some (s0, σ)
theorem vX8_lacks_48 {ad : Nat → Nat} {Q : Option Value → vMem → Prop} {r : (Int32 × vMem)} {s0 : Int32} {σ : vMem} (h : fX8_lacks_48 s0 σ = some r) (hQ : Q (some (.int r.1)) r.2) : V GM mX8_lacks ad Q 1 48 [none, none, none, none] [.int s0] σ := by
  unfold fX8_lacks_48 at h
  obtain rfl := Option.some.inj h
  exact V.iret dX8_lacks_48 rfl hQ
def fX8_lacks (l1 : Int32) (l2 : Int32) (l3 : Int32) (σ : vMem) : Option (Int32 × vMem) :=
  if l1 < 0 ∨ 4 ≤ l1.toNatClampNeg then none else if (σ.1 31 l1.toNatClampNeg) = 0 then (fX8_lacks_48 (1 : Int32) σ) else
  (if l1 < 0 ∨ 4 ≤ l1.toNatClampNeg then none else if (σ.1 32 l1.toNatClampNeg) = l2 then (if l1 < 0 ∨ 4 ≤ l1.toNatClampNeg then none else (fX8_in l3 (0 : Int32) ((σ.1 33 l1.toNatClampNeg) - (1 : Int32)) σ).bind fun q1 => if q1.1 = 0 then (fX8_lacks_48 (2 : Int32) q1.2) else
  (fX8_lacks_48 (0 : Int32) q1.2)) else
  (fX8_lacks_48 (3 : Int32) σ))
theorem vX8_lacks {ad : Nat → Nat} {Q : Option Value → vMem → Prop} {r : (Int32 × vMem)} {l1 : Int32} {l2 : Int32} {l3 : Int32} {σ : vMem} (h : fX8_lacks l1 l2 l3 σ = some r) (hQ : Q (some (.int r.1)) r.2) : V GM mX8_lacks ad Q 1 0 [some (.ref (ad 0)), some (.int l1), some (.int l2), some (.int l3)] [] σ := by
  unfold fX8_lacks at h
  refine V.aload_n dX8_lacks_0 rfl ?_
  refine V.get dX8_lacks_1 flX8_101 nM_0 gM_0 (by decide) (eM_0_42 _ _) ?_
  refine V.iload_n dX8_lacks_4 rfl ?_
  obtain ⟨hb, h⟩ := ckn h
  refine V.zald dX8_lacks_5 nM_31 gM_31 hb ?_
  rcases itc h with ⟨hc, h⟩ | ⟨hc, h⟩
  · refine V.if_ne (tgt := 13) dX8_lacks_6 (by decide) (fun hn => absurd hc hn) (fun _ => ?_)
    refine V.iconst ic_1 dX8_lacks_9 ?_
    refine V.goto (tgt := 48) dX8_lacks_10 (by decide) ?_
    exact V.forget (vX8_lacks_48 h hQ) trivial
  · refine V.if_ne (tgt := 13) dX8_lacks_6 (by decide) (fun _ => ?_) (fun hn => absurd hn hc)
    refine V.aload_n dX8_lacks_13 rfl ?_
    refine V.get dX8_lacks_14 flX8_104 nM_0 gM_0 (by decide) (eM_0_43 _ _) ?_
    refine V.iload_n dX8_lacks_17 rfl ?_
    obtain ⟨hb, h⟩ := ckn h
    refine V.iald dX8_lacks_18 nM_32 gM_32 hb ?_
    refine V.iload_n dX8_lacks_19 rfl ?_
    rcases itc h with ⟨hc, h⟩ | ⟨hc, h⟩
    · refine V.icmp_eq (tgt := 27) dX8_lacks_20 (by decide) (fun _ => ?_) (fun hn => absurd hc hn)
      refine V.iload_n dX8_lacks_27 rfl ?_
      refine V.iconst ic_0 dX8_lacks_28 ?_
      refine V.aload_n dX8_lacks_29 rfl ?_
      refine V.get dX8_lacks_30 flX8_107 nM_0 gM_0 (by decide) (eM_0_44 _ _) ?_
      refine V.iload_n dX8_lacks_33 rfl ?_
      obtain ⟨hb, h⟩ := ckn h
      refine V.iald dX8_lacks_34 nM_33 gM_33 hb ?_
      refine V.iconst ic_1 dX8_lacks_35 ?_
      refine V.isub dX8_lacks_36 ?_
      obtain ⟨q1, h1, h⟩ := bdc h
      refine V.callS3 (mc := mX8_in) (d' := 0) dX8_lacks_37 lkX8_125 hfX8_in (by decide) (Nat.le_of_ble_eq_true rfl) (Nat.le_of_ble_eq_true rfl) (vX8_in h1 ?_)
      rcases itc h with ⟨hc, h⟩ | ⟨hc, h⟩
      · refine V.if_eq (tgt := 47) dX8_lacks_40 (by decide) (fun _ => ?_) (fun hn => absurd hc hn)
        refine V.iconst ic_2 dX8_lacks_47 ?_
        exact V.forget (vX8_lacks_48 h hQ) trivial
      · refine V.if_eq (tgt := 47) dX8_lacks_40 (by decide) (fun hn => absurd hn hc) (fun _ => ?_)
        refine V.iconst ic_0 dX8_lacks_43 ?_
        refine V.goto (tgt := 48) dX8_lacks_44 (by decide) ?_
        exact V.forget (vX8_lacks_48 h hQ) trivial
    · refine V.icmp_eq (tgt := 27) dX8_lacks_20 (by decide) (fun hn => absurd hn hc) (fun _ => ?_)
      refine V.iconst ic_3 dX8_lacks_23 ?_
      refine V.goto (tgt := 48) dX8_lacks_24 (by decide) ?_
      exact V.forget (vX8_lacks_48 h hQ) trivial
def fX8_keep_40 (s1 : Int32) (s2 : Int32) (σ : vMem) : Option vMem :=
  if s1 < 0 ∨ 240 ≤ s1.toNatClampNeg then none else some (vup σ 34 s1.toNatClampNeg s2)
theorem vX8_keep_40 {ad : Nat → Nat} {Q : Option Value → vMem → Prop} {r : vMem} {s1 : Int32} {s2 : Int32} {σ : vMem} (h : fX8_keep_40 s1 s2 σ = some r) (hQ : Q none r) : V GM mX8_keep ad Q 0 40 [none, none, none, none] [.int s2, .int s1, .ref (ad 34)] σ := by
  unfold fX8_keep_40 at h
  obtain ⟨hb, h⟩ := ckn h
  refine V.iast dX8_keep_40 nM_34 gM_34 hb ?_
  obtain rfl := Option.some.inj h
  exact V.vret dX8_keep_41 rfl hQ
def fX8_keep (l1 : Int32) (l2 : Int32) (l3 : Int32) (σ : vMem) : Option vMem :=
  if l1 < 0 ∨ 4 ≤ l1.toNatClampNeg then none else if (σ.1 32 l1.toNatClampNeg) = 0 then (fX8_keep_40 (((60 : Int32) * l1) + l2) (l3.toInt8.toInt32) σ) else
  (if l1 < 0 ∨ 4 ≤ l1.toNatClampNeg then none else if (σ.1 32 l1.toNatClampNeg) = (1 : Int32) then (fX8_keep_40 (((60 : Int32) * l1) + l2) (l3.toInt16.toInt32) σ) else
  (fX8_keep_40 (((60 : Int32) * l1) + l2) l3 σ))
theorem vX8_keep {ad : Nat → Nat} {Q : Option Value → vMem → Prop} {r : vMem} {l1 : Int32} {l2 : Int32} {l3 : Int32} {σ : vMem} (h : fX8_keep l1 l2 l3 σ = some r) (hQ : Q none r) : V GM mX8_keep ad Q 0 0 [some (.ref (ad 0)), some (.int l1), some (.int l2), some (.int l3)] [] σ := by
  unfold fX8_keep at h
  refine V.aload_n dX8_keep_0 rfl ?_
  refine V.get dX8_keep_1 flX8_110 nM_0 gM_0 (by decide) (eM_0_45 _ _) ?_
  refine V.bipush bp_60 dX8_keep_4 ?_
  refine V.iload_n dX8_keep_6 rfl ?_
  refine V.imul dX8_keep_7 ?_
  refine V.iload_n dX8_keep_8 rfl ?_
  refine V.iadd dX8_keep_9 ?_
  refine V.aload_n dX8_keep_10 rfl ?_
  refine V.get dX8_keep_11 flX8_104 nM_0 gM_0 (by decide) (eM_0_43 _ _) ?_
  refine V.iload_n dX8_keep_14 rfl ?_
  obtain ⟨hb, h⟩ := ckn h
  refine V.iald dX8_keep_15 nM_32 gM_32 hb ?_
  rcases itc h with ⟨hc, h⟩ | ⟨hc, h⟩
  · refine V.if_ne (tgt := 24) dX8_keep_16 (by decide) (fun hn => absurd hc hn) (fun _ => ?_)
    refine V.iload_n dX8_keep_19 rfl ?_
    refine V.i2b dX8_keep_20 ?_
    refine V.goto (tgt := 40) dX8_keep_21 (by decide) ?_
    exact V.forget (vX8_keep_40 h hQ) trivial
  · refine V.if_ne (tgt := 24) dX8_keep_16 (by decide) (fun _ => ?_) (fun hn => absurd hn hc)
    refine V.aload_n dX8_keep_24 rfl ?_
    refine V.get dX8_keep_25 flX8_104 nM_0 gM_0 (by decide) (eM_0_43 _ _) ?_
    refine V.iload_n dX8_keep_28 rfl ?_
    obtain ⟨hb, h⟩ := ckn h
    refine V.iald dX8_keep_29 nM_32 gM_32 hb ?_
    refine V.iconst ic_1 dX8_keep_30 ?_
    rcases itc h with ⟨hc, h⟩ | ⟨hc, h⟩
    · refine V.icmp_ne (tgt := 39) dX8_keep_31 (by decide) (fun hn => absurd hc hn) (fun _ => ?_)
      refine V.iload_n dX8_keep_34 rfl ?_
      refine V.i2s dX8_keep_35 ?_
      refine V.goto (tgt := 40) dX8_keep_36 (by decide) ?_
      exact V.forget (vX8_keep_40 h hQ) trivial
    · refine V.icmp_ne (tgt := 39) dX8_keep_31 (by decide) (fun _ => ?_) (fun hn => absurd hn hc)
      refine V.iload_n dX8_keep_39 rfl ?_
      exact V.forget (vX8_keep_40 h hQ) trivial
def fX8_put_16 (σ : vMem) : Option (Int32 × vMem) :=
  some ((-2 : Int32), σ)
theorem vX8_put_16 {ad : Nat → Nat} {Q : Option Value → vMem → Prop} {r : (Int32 × vMem)} {σ : vMem} (h : fX8_put_16 σ = some r) (hQ : Q (some (.int r.1)) r.2) : V GM mX8_put ad Q 2 16 [none, none, none, none, none, none] [] σ := by
  unfold fX8_put_16 at h
  refine V.bipush bp_m2 dX8_put_16 ?_
  obtain rfl := Option.some.inj h
  exact V.iret dX8_put_18 rfl hQ
def fX8_put (l1 : Int32) (l2 : Int32) (l3 : Int32) (l4 : Int32) (σ : vMem) : Option (Int32 × vMem) :=
  (fX8_isSheet l1 σ).bind fun q1 => if q1.1 = 0 then (fX8_put_16 q1.2) else
  ((fX8_in l2 (0 : Int32) (2 : Int32) q1.2).bind fun q2 => if q2.1 = 0 then (fX8_put_16 q2.2) else
  ((fX8_lacks l1 l2 l3 q2.2).bind fun q3 => if q3.1 ≤ 0 then ((fX8_keep l1 l3 l4 q3.2).bind fun q4 => some ((1 : Int32), q4)) else
  ((fX8_meets q3.1 q3.2).bind fun q5 => some (q5.1, q5.2))))
theorem vX8_put {ad : Nat → Nat} {Q : Option Value → vMem → Prop} {r : (Int32 × vMem)} {l1 : Int32} {l2 : Int32} {l3 : Int32} {l4 : Int32} {σ : vMem} (h : fX8_put l1 l2 l3 l4 σ = some r) (hQ : Q (some (.int r.1)) r.2) : V GM mX8_put ad Q 2 0 [some (.ref (ad 0)), some (.int l1), some (.int l2), some (.int l3), some (.int l4), none] [] σ := by
  unfold fX8_put at h
  refine V.iload_n dX8_put_0 rfl ?_
  obtain ⟨q1, h1, h⟩ := bdc h
  refine V.callS1 (mc := mX8_isSheet) (d' := 1) dX8_put_1 lkX8_187 hfX8_isSheet (by decide) (Nat.le_of_ble_eq_true rfl) (Nat.le_of_ble_eq_true rfl) (vX8_isSheet h1 ?_)
  rcases itc h with ⟨hc, h⟩ | ⟨hc, h⟩
  · refine V.if_eq (tgt := 16) dX8_put_4 (by decide) (fun _ => ?_) (fun hn => absurd hc hn)
    exact V.forget (vX8_put_16 h hQ) trivial
  · refine V.if_eq (tgt := 16) dX8_put_4 (by decide) (fun hn => absurd hn hc) (fun _ => ?_)
    refine V.iload_n dX8_put_7 rfl ?_
    refine V.iconst ic_0 dX8_put_8 ?_
    refine V.iconst ic_2 dX8_put_9 ?_
    obtain ⟨q2, h1, h⟩ := bdc h
    refine V.callS3 (mc := mX8_in) (d' := 0) dX8_put_10 lkX8_125 hfX8_in (by decide) (Nat.le_of_ble_eq_true rfl) (Nat.le_of_ble_eq_true rfl) (vX8_in h1 ?_)
    rcases itc h with ⟨hc, h⟩ | ⟨hc, h⟩
    · refine V.if_ne (tgt := 19) dX8_put_13 (by decide) (fun hn => absurd hc hn) (fun _ => ?_)
      exact V.forget (vX8_put_16 h hQ) trivial
    · refine V.if_ne (tgt := 19) dX8_put_13 (by decide) (fun _ => ?_) (fun hn => absurd hn hc)
      refine V.aload_n dX8_put_19 rfl ?_
      refine V.iload_n dX8_put_20 rfl ?_
      refine V.iload_n dX8_put_21 rfl ?_
      refine V.iload_n dX8_put_22 rfl ?_
      obtain ⟨q3, h1, h⟩ := bdc h
      refine V.callV3 (mc := mX8_lacks) (d' := 1) dX8_put_23 lkX8_332 hfX8_lacks nM_0 gM_0 rfl (by decide) (Nat.le_of_ble_eq_true rfl) (Nat.le_of_ble_eq_true rfl) (vX8_lacks h1 ?_)
      refine V.istore dX8_put_26 (by decide) rfl ?_
      refine V.iload dX8_put_28 rfl ?_
      rcases itc h with ⟨hc, h⟩ | ⟨hc, h⟩
      · refine V.if_le (tgt := 40) dX8_put_30 (by decide) (fun _ => ?_) (fun hn => absurd hc hn)
        refine V.aload_n dX8_put_40 rfl ?_
        refine V.iload_n dX8_put_41 rfl ?_
        refine V.iload_n dX8_put_42 rfl ?_
        refine V.iload dX8_put_43 rfl ?_
        obtain ⟨q4, h1, h⟩ := bdc h
        refine V.callV3 (mc := mX8_keep) (d' := 0) dX8_put_45 lkX8_335 hfX8_keep nM_0 gM_0 rfl (by decide) (Nat.le_of_ble_eq_true rfl) (Nat.le_of_ble_eq_true rfl) (vX8_keep h1 ?_)
        refine V.iconst ic_1 dX8_put_48 ?_
        obtain rfl := Option.some.inj h
        exact V.iret dX8_put_49 rfl hQ
      · refine V.if_le (tgt := 40) dX8_put_30 (by decide) (fun hn => absurd hn hc) (fun _ => ?_)
        refine V.aload_n dX8_put_33 rfl ?_
        refine V.iload dX8_put_34 rfl ?_
        obtain ⟨q5, h1, h⟩ := bdc h
        refine V.callV1 (mc := mX8_meets) (d' := 0) dX8_put_36 lkX8_190 hfX8_meets nM_0 gM_0 rfl (by decide) (Nat.le_of_ble_eq_true rfl) (Nat.le_of_ble_eq_true rfl) (vX8_meets h1 ?_)
        obtain rfl := Option.some.inj h
        exact V.iret dX8_put_39 rfl hQ
def fX8_get_16 (σ : vMem) : Option (Int32 × vMem) :=
  some ((-2147483648 : Int32), σ)
theorem vX8_get_16 {ad : Nat → Nat} {Q : Option Value → vMem → Prop} {r : (Int32 × vMem)} {σ : vMem} (h : fX8_get_16 σ = some r) (hQ : Q (some (.int r.1)) r.2) : V GM mX8_get ad Q 2 16 [none, none, none, none, none] [] σ := by
  unfold fX8_get_16 at h
  refine V.ldcw dX8_get_16 ctX8_338 ?_
  obtain rfl := Option.some.inj h
  exact V.iret dX8_get_19 rfl hQ
def fX8_get_40 (σ : vMem) : Option (Int32 × vMem) :=
  some ((-2147483648 : Int32), σ)
theorem vX8_get_40 {ad : Nat → Nat} {Q : Option Value → vMem → Prop} {r : (Int32 × vMem)} {σ : vMem} (h : fX8_get_40 σ = some r) (hQ : Q (some (.int r.1)) r.2) : V GM mX8_get ad Q 2 40 [none, none, none, none, none] [] σ := by
  unfold fX8_get_40 at h
  refine V.ldcw dX8_get_40 ctX8_338 ?_
  obtain rfl := Option.some.inj h
  exact V.iret dX8_get_43 rfl hQ
def fX8_get (l1 : Int32) (l2 : Int32) (l3 : Int32) (σ : vMem) : Option (Int32 × vMem) :=
  (fX8_isSheet l1 σ).bind fun q1 => if q1.1 = 0 then (fX8_get_16 q1.2) else
  ((fX8_in l2 (0 : Int32) (2 : Int32) q1.2).bind fun q2 => if q2.1 = 0 then (fX8_get_16 q2.2) else
  ((fX8_lacks l1 l2 l3 q2.2).bind fun q3 => if q3.1 ≤ 0 then (if (((60 : Int32) * l1) + l3) < 0 ∨ 240 ≤ (((60 : Int32) * l1) + l3).toNatClampNeg then none else some ((q3.2.1 34 (((60 : Int32) * l1) + l3).toNatClampNeg), q3.2)) else
  (fX8_get_40 (vup q3.2 0 47 q3.1))))
theorem vX8_get {ad : Nat → Nat} {Q : Option Value → vMem → Prop} {r : (Int32 × vMem)} {l1 : Int32} {l2 : Int32} {l3 : Int32} {σ : vMem} (h : fX8_get l1 l2 l3 σ = some r) (hQ : Q (some (.int r.1)) r.2) : V GM mX8_get ad Q 2 0 [some (.ref (ad 0)), some (.int l1), some (.int l2), some (.int l3), none] [] σ := by
  unfold fX8_get at h
  refine V.iload_n dX8_get_0 rfl ?_
  obtain ⟨q1, h1, h⟩ := bdc h
  refine V.callS1 (mc := mX8_isSheet) (d' := 1) dX8_get_1 lkX8_187 hfX8_isSheet (by decide) (Nat.le_of_ble_eq_true rfl) (Nat.le_of_ble_eq_true rfl) (vX8_isSheet h1 ?_)
  rcases itc h with ⟨hc, h⟩ | ⟨hc, h⟩
  · refine V.if_eq (tgt := 16) dX8_get_4 (by decide) (fun _ => ?_) (fun hn => absurd hc hn)
    exact V.forget (vX8_get_16 h hQ) trivial
  · refine V.if_eq (tgt := 16) dX8_get_4 (by decide) (fun hn => absurd hn hc) (fun _ => ?_)
    refine V.iload_n dX8_get_7 rfl ?_
    refine V.iconst ic_0 dX8_get_8 ?_
    refine V.iconst ic_2 dX8_get_9 ?_
    obtain ⟨q2, h1, h⟩ := bdc h
    refine V.callS3 (mc := mX8_in) (d' := 0) dX8_get_10 lkX8_125 hfX8_in (by decide) (Nat.le_of_ble_eq_true rfl) (Nat.le_of_ble_eq_true rfl) (vX8_in h1 ?_)
    rcases itc h with ⟨hc, h⟩ | ⟨hc, h⟩
    · refine V.if_ne (tgt := 20) dX8_get_13 (by decide) (fun hn => absurd hc hn) (fun _ => ?_)
      exact V.forget (vX8_get_16 h hQ) trivial
    · refine V.if_ne (tgt := 20) dX8_get_13 (by decide) (fun _ => ?_) (fun hn => absurd hn hc)
      refine V.aload_n dX8_get_20 rfl ?_
      refine V.iload_n dX8_get_21 rfl ?_
      refine V.iload_n dX8_get_22 rfl ?_
      refine V.iload_n dX8_get_23 rfl ?_
      obtain ⟨q3, h1, h⟩ := bdc h
      refine V.callV3 (mc := mX8_lacks) (d' := 1) dX8_get_24 lkX8_332 hfX8_lacks nM_0 gM_0 rfl (by decide) (Nat.le_of_ble_eq_true rfl) (Nat.le_of_ble_eq_true rfl) (vX8_lacks h1 ?_)
      refine V.istore dX8_get_27 (by decide) rfl ?_
      refine V.iload dX8_get_29 rfl ?_
      rcases itc h with ⟨hc, h⟩ | ⟨hc, h⟩
      · refine V.if_le (tgt := 44) dX8_get_31 (by decide) (fun _ => ?_) (fun hn => absurd hc hn)
        refine V.aload_n dX8_get_44 rfl ?_
        refine V.get dX8_get_45 flX8_110 nM_0 gM_0 (by decide) (eM_0_45 _ _) ?_
        refine V.bipush bp_60 dX8_get_48 ?_
        refine V.iload_n dX8_get_50 rfl ?_
        refine V.imul dX8_get_51 ?_
        refine V.iload_n dX8_get_52 rfl ?_
        refine V.iadd dX8_get_53 ?_
        obtain ⟨hb, h⟩ := ckn h
        refine V.iald dX8_get_54 nM_34 gM_34 hb ?_
        obtain rfl := Option.some.inj h
        exact V.iret dX8_get_55 rfl hQ
      · refine V.if_le (tgt := 44) dX8_get_31 (by decide) (fun hn => absurd hn hc) (fun _ => ?_)
        refine V.aload_n dX8_get_34 rfl ?_
        refine V.iload dX8_get_35 rfl ?_
        refine V.putI dX8_get_37 fpX8_329 nM_0 gM_0 (by decide) rfl ?_
        exact V.forget (vX8_get_40 h hQ) trivial
