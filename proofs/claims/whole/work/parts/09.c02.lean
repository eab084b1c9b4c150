def fX6_climb_93 (K2 : Int32 → Int32 → vMem → Option vMem) (l1 : Int32) (l2 : Int32) (σ : vMem) : Option vMem :=
  K2 l1 (l2 + (1 : Int32)) σ
theorem vX6_climb_93 {ad : Nat → Nat} {Q : Option Value → vMem → Prop} {r : vMem} {K2 : Int32 → Int32 → vMem → Option vMem} (hK2 : ∀ (l1 : Int32) (l2 : Int32) (σ : vMem), K2 l1 l2 σ = some r → V GC mX6_climb ad Q 1 2 [some (.ref (ad 13)), some (.int l1), some (.int l2), none] [] σ) {l1 : Int32} {l2 : Int32} {σ : vMem} (h : fX6_climb_93 K2 l1 l2 σ = some r) (hQ : Q none r) : V GC mX6_climb ad Q 1 93 [some (.ref (ad 13)), some (.int l1), some (.int l2), none] [] σ := by
  unfold fX6_climb_93 at h
  refine V.iinc dX6_climb_93 rfl (ii_1 _) (by decide) rfl ?_
  refine V.goto (tgt := 2) dX6_climb_96 (by decide) ?_
  exact V.forget (hK2 _ _ _ h) ⟨rfl, ⟨rfl, ⟨rfl, trivial⟩⟩⟩
def fX6_climb_87 (K2 : Int32 → Int32 → vMem → Option vMem) (l1 : Int32) (l2 : Int32) (σ : vMem) : Option vMem :=
  (fX6_leave l2 l1 σ).bind fun q1 => fX6_climb_93 K2 l1 l2 q1
theorem vX6_climb_87 {ad : Nat → Nat} {Q : Option Value → vMem → Prop} {r : vMem} {K2 : Int32 → Int32 → vMem → Option vMem} (hK2 : ∀ (l1 : Int32) (l2 : Int32) (σ : vMem), K2 l1 l2 σ = some r → V GC mX6_climb ad Q 1 2 [some (.ref (ad 13)), some (.int l1), some (.int l2), none] [] σ) {l1 : Int32} {l2 : Int32} {σ : vMem} (h : fX6_climb_87 K2 l1 l2 σ = some r) (hQ : Q none r) : V GC mX6_climb ad Q 1 87 [some (.ref (ad 13)), some (.int l1), some (.int l2), none] [] σ := by
  unfold fX6_climb_87 at h
  refine V.aload_n dX6_climb_87 rfl ?_
  refine V.iload_n dX6_climb_88 rfl ?_
  refine V.iload_n dX6_climb_89 rfl ?_
  obtain ⟨q1, h1, h⟩ := bdc h
  refine V.callV2 (mc := mX6_leave) (d' := 0) dX6_climb_90 lkX6_125 hfX6_leave nC_13 gC_13 rfl (by decide) (Nat.le_of_ble_eq_true rfl) (Nat.le_of_ble_eq_true rfl) (vX6_leave h1 ?_)
  exact V.forget (vX6_climb_93 hK2 h hQ) ⟨rfl, ⟨rfl, ⟨rfl, trivial⟩⟩⟩
def fX6_climb_2 (K2 : Int32 → Int32 → vMem → Option vMem) (l1 : Int32) (l2 : Int32) (σ : vMem) : Option vMem :=
  if (σ.1 5 5) ≤ l2 then (some σ) else
  (if l2 < 0 ∨ 8 ≤ l2.toNatClampNeg then none else if (σ.1 14 l2.toNatClampNeg) < 0 then (fX6_climb_93 K2 l1 l2 σ) else
  (if (σ.1 5 0) ≤ (σ.1 14 l2.toNatClampNeg) then (fX6_climb_93 K2 l1 l2 σ) else
  (if l2 < 0 ∨ 8 ≤ l2.toNatClampNeg then none else if (σ.1 16 l2.toNatClampNeg) = (1 : Int32) then (fX6_climb_93 K2 l1 l2 σ) else
  (if (σ.1 14 l2.toNatClampNeg) < 0 ∨ 9 ≤ (σ.1 14 l2.toNatClampNeg).toNatClampNeg then none else if (σ.1 6 (σ.1 14 l2.toNatClampNeg).toNatClampNeg) = (2 : Int32) then (if l2 < 0 ∨ 8 ≤ l2.toNatClampNeg then none else if (σ.1 18 l2.toNatClampNeg) = 0 then (if (σ.1 13 2) = 0 then (if l2 < 0 ∨ 8 ≤ l2.toNatClampNeg then none else fX6_climb_93 K2 l1 l2 (vup σ 18 l2.toNatClampNeg (1 : Int32))) else
  (fX6_climb_87 K2 l1 l2 σ)) else
  (fX6_climb_87 K2 l1 l2 σ)) else
  (fX6_climb_87 K2 l1 l2 σ)))))
theorem vX6_climb_2 {ad : Nat → Nat} {Q : Option Value → vMem → Prop} {r : vMem} {K2 : Int32 → Int32 → vMem → Option vMem} (hK2 : ∀ (l1 : Int32) (l2 : Int32) (σ : vMem), K2 l1 l2 σ = some r → V GC mX6_climb ad Q 1 2 [some (.ref (ad 13)), some (.int l1), some (.int l2), none] [] σ) {l1 : Int32} {l2 : Int32} {σ : vMem} (h : fX6_climb_2 K2 l1 l2 σ = some r) (hQ : Q none r) : V GC mX6_climb ad Q 1 2 [some (.ref (ad 13)), some (.int l1), some (.int l2), none] [] σ := by
  unfold fX6_climb_2 at h
  refine V.iload_n dX6_climb_2 rfl ?_
  refine V.aload_n dX6_climb_3 rfl ?_
  refine V.get dX6_climb_4 flX6_65 nC_13 gC_13 (by decide) (eC_13_0 _ _) ?_
  refine V.get dX6_climb_7 flX6_82 nC_5 gC_5 (by decide) (eC_5_5 _ _) ?_
  rcases itc h with ⟨hc, h⟩ | ⟨hc, h⟩
  · refine V.icmp_ge (tgt := 99) dX6_climb_10 (by decide) (fun _ => ?_) (fun hn => absurd hc hn)
    obtain rfl := Option.some.inj h
    exact V.vret dX6_climb_99 rfl hQ
  · refine V.icmp_ge (tgt := 99) dX6_climb_10 (by decide) (fun hn => absurd hn hc) (fun _ => ?_)
    refine V.aload_n dX6_climb_13 rfl ?_
    refine V.get dX6_climb_14 flX6_18 nC_13 gC_13 (by decide) (eC_13_3 _ _) ?_
    refine V.iload_n dX6_climb_17 rfl ?_
    obtain ⟨hb, h⟩ := ckn h
    refine V.iald dX6_climb_18 nC_14 gC_14 hb ?_
    refine V.istore_n dX6_climb_19 (by decide) rfl ?_
    refine V.iload_n dX6_climb_20 rfl ?_
    rcases itc h with ⟨hc, h⟩ | ⟨hc, h⟩
    · refine V.if_lt (tgt := 93) dX6_climb_21 (by decide) (fun _ => ?_) (fun hn => absurd hc hn)
      exact V.forget (vX6_climb_93 hK2 h hQ) ⟨rfl, ⟨rfl, ⟨rfl, trivial⟩⟩⟩
    · refine V.if_lt (tgt := 93) dX6_climb_21 (by decide) (fun hn => absurd hn hc) (fun _ => ?_)
      refine V.iload_n dX6_climb_24 rfl ?_
      refine V.aload_n dX6_climb_25 rfl ?_
      refine V.get dX6_climb_26 flX6_65 nC_13 gC_13 (by decide) (eC_13_0 _ _) ?_
      refine V.get dX6_climb_29 flX6_100 nC_5 gC_5 (by decide) (eC_5_0 _ _) ?_
      rcases itc h with ⟨hc, h⟩ | ⟨hc, h⟩
      · refine V.icmp_ge (tgt := 93) dX6_climb_32 (by decide) (fun _ => ?_) (fun hn => absurd hc hn)
        exact V.forget (vX6_climb_93 hK2 h hQ) ⟨rfl, ⟨rfl, ⟨rfl, trivial⟩⟩⟩
      · refine V.icmp_ge (tgt := 93) dX6_climb_32 (by decide) (fun hn => absurd hn hc) (fun _ => ?_)
        refine V.aload_n dX6_climb_35 rfl ?_
        refine V.get dX6_climb_36 flX6_25 nC_13 gC_13 (by decide) (eC_13_5 _ _) ?_
        refine V.iload_n dX6_climb_39 rfl ?_
        obtain ⟨hb, h⟩ := ckn h
        refine V.iald dX6_climb_40 nC_16 gC_16 hb ?_
        refine V.iconst ic_1 dX6_climb_41 ?_
        rcases itc h with ⟨hc, h⟩ | ⟨hc, h⟩
        · refine V.icmp_ne (tgt := 48) dX6_climb_42 (by decide) (fun hn => absurd hc hn) (fun _ => ?_)
          refine V.goto (tgt := 93) dX6_climb_45 (by decide) ?_
          exact V.forget (vX6_climb_93 hK2 h hQ) ⟨rfl, ⟨rfl, ⟨rfl, trivial⟩⟩⟩
        · refine V.icmp_ne (tgt := 48) dX6_climb_42 (by decide) (fun _ => ?_) (fun hn => absurd hn hc)
          refine V.aload_n dX6_climb_48 rfl ?_
          refine V.get dX6_climb_49 flX6_65 nC_13 gC_13 (by decide) (eC_13_0 _ _) ?_
          refine V.get dX6_climb_52 flX6_106 nC_5 gC_5 (by decide) (eC_5_2 _ _) ?_
          refine V.iload_n dX6_climb_55 rfl ?_
          obtain ⟨hb, h⟩ := ckn h
          refine V.iald dX6_climb_56 nC_6 gC_6 hb ?_
          refine V.iconst ic_2 dX6_climb_57 ?_
          rcases itc h with ⟨hc, h⟩ | ⟨hc, h⟩
          · refine V.icmp_ne (tgt := 87) dX6_climb_58 (by decide) (fun hn => absurd hc hn) (fun _ => ?_)
            refine V.aload_n dX6_climb_61 rfl ?_
            refine V.get dX6_climb_62 flX6_31 nC_13 gC_13 (by decide) (eC_13_7 _ _) ?_
            refine V.iload_n dX6_climb_65 rfl ?_
            obtain ⟨hb, h⟩ := ckn h
            refine V.iald dX6_climb_66 nC_18 gC_18 hb ?_
            rcases itc h with ⟨hc, h⟩ | ⟨hc, h⟩
            · refine V.if_ne (tgt := 87) dX6_climb_67 (by decide) (fun hn => absurd hc hn) (fun _ => ?_)
              refine V.aload_n dX6_climb_70 rfl ?_
              refine V.get dX6_climb_71 flX6_15 nC_13 gC_13 (by decide) (eC_13_2 _ _) ?_
              rcases itc h with ⟨hc, h⟩ | ⟨hc, h⟩
              · refine V.if_ne (tgt := 87) dX6_climb_74 (by decide) (fun hn => absurd hc hn) (fun _ => ?_)
                refine V.aload_n dX6_climb_77 rfl ?_
                refine V.get dX6_climb_78 flX6_31 nC_13 gC_13 (by decide) (eC_13_7 _ _) ?_
                refine V.iload_n dX6_climb_81 rfl ?_
                refine V.iconst ic_1 dX6_climb_82 ?_
                obtain ⟨hb, h⟩ := ckn h
                refine V.iast dX6_climb_83 nC_18 gC_18 hb ?_
                refine V.goto (tgt := 93) dX6_climb_84 (by decide) ?_
                exact V.forget (vX6_climb_93 hK2 h hQ) ⟨rfl, ⟨rfl, ⟨rfl, trivial⟩⟩⟩
              · refine V.if_ne (tgt := 87) dX6_climb_74 (by decide) (fun _ => ?_) (fun hn => absurd hn hc)
                exact V.forget (vX6_climb_87 hK2 h hQ) ⟨rfl, ⟨rfl, ⟨rfl, trivial⟩⟩⟩
            · refine V.if_ne (tgt := 87) dX6_climb_67 (by decide) (fun _ => ?_) (fun hn => absurd hn hc)
              exact V.forget (vX6_climb_87 hK2 h hQ) ⟨rfl, ⟨rfl, ⟨rfl, trivial⟩⟩⟩
          · refine V.icmp_ne (tgt := 87) dX6_climb_58 (by decide) (fun _ => ?_) (fun hn => absurd hn hc)
            exact V.forget (vX6_climb_87 hK2 h hQ) ⟨rfl, ⟨rfl, ⟨rfl, trivial⟩⟩⟩
def LfX6_climb_2 : Nat → Int32 → Int32 → vMem → Option vMem
  | 0, _, _, _ => none
  | n + 1, l1, l2, σ => fX6_climb_2 (LfX6_climb_2 n) l1 l2 σ
theorem LvX6_climb_2 {ad : Nat → Nat} {Q : Option Value → vMem → Prop} {r : vMem} (hQ : Q none r) : ∀ (n : Nat) (l1 : Int32) (l2 : Int32) (σ : vMem), LfX6_climb_2 n l1 l2 σ = some r → V GC mX6_climb ad Q 1 2 [some (.ref (ad 13)), some (.int l1), some (.int l2), none] [] σ := by
  intro n
  induction n with
  | zero => intro l1 l2 σ h; cases h
  | succ n ih => intro l1 l2 σ h; exact vX6_climb_2 ih h hQ
def fX6_climb (l1 : Int32) (σ : vMem) : Option vMem :=
  LfX6_climb_2 200 l1 (0 : Int32) σ
theorem vX6_climb {ad : Nat → Nat} {Q : Option Value → vMem → Prop} {r : vMem} {l1 : Int32} {σ : vMem} (h : fX6_climb l1 σ = some r) (hQ : Q none r) : V GC mX6_climb ad Q 1 0 [some (.ref (ad 13)), some (.int l1), none, none] [] σ := by
  unfold fX6_climb at h
  refine V.iconst ic_0 dX6_climb_0 ?_
  refine V.istore_n dX6_climb_1 (by decide) rfl ?_
  exact V.forget (LvX6_climb_2 hQ 200 _ _ _ h) ⟨rfl, ⟨rfl, ⟨rfl, trivial⟩⟩⟩
def fX6_go_93 (σ : vMem) : Option vMem :=
  some σ
theorem vX6_go_93 {ad : Nat → Nat} {Q : Option Value → vMem → Prop} {r : vMem} {σ : vMem} (h : fX6_go_93 σ = some r) (hQ : Q none r) : V GC mX6_go ad Q 3 93 [none, none, none, none, none, none, none] [] σ := by
  unfold fX6_go_93 at h
  obtain rfl := Option.some.inj h
  exact V.vret dX6_go_93 rfl hQ
def fX6_go_61 (K7 : Int64 → Int64 → Int32 → Int32 → vMem → Option vMem) (l1 : Int64) (l3 : Int64) (l5 : Int32) (l6 : Int32) (σ : vMem) : Option vMem :=
  (fX6_arrive l6 σ).bind fun q1 => (fX6_serve l6 q1).bind fun q2 => if l6 = l5 then (some q2) else
  ((fX6_climb l6 q2).bind fun q3 => K7 l1 l3 l5 (l6 + (1 : Int32)) q3)
theorem vX6_go_61 {ad : Nat → Nat} {Q : Option Value → vMem → Prop} {r : vMem} {K7 : Int64 → Int64 → Int32 → Int32 → vMem → Option vMem} (hK7 : ∀ (l1 : Int64) (l3 : Int64) (l5 : Int32) (l6 : Int32) (σ : vMem), K7 l1 l3 l5 l6 σ = some r → V GC mX6_go ad Q 3 7 [some (.ref (ad 13)), some (.long l1), none, some (.long l3), none, some (.int l5), some (.int l6)] [] σ) {l1 : Int64} {l3 : Int64} {l5 : Int32} {l6 : Int32} {σ : vMem} (h : fX6_go_61 K7 l1 l3 l5 l6 σ = some r) (hQ : Q none r) : V GC mX6_go ad Q 3 61 [some (.ref (ad 13)), some (.long l1), none, some (.long l3), none, some (.int l5), some (.int l6)] [] σ := by
  unfold fX6_go_61 at h
  refine V.aload_n dX6_go_61 rfl ?_
  refine V.iload dX6_go_62 rfl ?_
  obtain ⟨q1, h1, h⟩ := bdc h
  refine V.callV1 (mc := mX6_arrive) (d' := 0) dX6_go_64 lkX6_72 hfX6_arrive nC_13 gC_13 rfl (by decide) (Nat.le_of_ble_eq_true rfl) (Nat.le_of_ble_eq_true rfl) (vX6_arrive h1 ?_)
  refine V.aload_n dX6_go_67 rfl ?_
  refine V.iload dX6_go_68 rfl ?_
  obtain ⟨q2, h1, h⟩ := bdc h
  refine V.callV1 (mc := mX6_serve) (d' := 1) dX6_go_70 lkX6_76 hfX6_serve nC_13 gC_13 rfl (by decide) (Nat.le_of_ble_eq_true rfl) (Nat.le_of_ble_eq_true rfl) (vX6_serve h1 ?_)
  refine V.iload dX6_go_73 rfl ?_
  refine V.iload dX6_go_75 rfl ?_
  rcases itc h with ⟨hc, h⟩ | ⟨hc, h⟩
  · refine V.icmp_ne (tgt := 81) dX6_go_77 (by decide) (fun hn => absurd hc hn) (fun _ => ?_)
    obtain rfl := Option.some.inj h
    exact V.vret dX6_go_80 rfl hQ
  · refine V.icmp_ne (tgt := 81) dX6_go_77 (by decide) (fun _ => ?_) (fun hn => absurd hn hc)
    refine V.aload_n dX6_go_81 rfl ?_
    refine V.iload dX6_go_82 rfl ?_
    obtain ⟨q3, h1, h⟩ := bdc h
    refine V.callV1 (mc := mX6_climb) (d' := 1) dX6_go_84 lkX6_79 hfX6_climb nC_13 gC_13 rfl (by decide) (Nat.le_of_ble_eq_true rfl) (Nat.le_of_ble_eq_true rfl) (vX6_climb h1 ?_)
    refine V.iinc dX6_go_87 rfl (ii_1 _) (by decide) rfl ?_
    refine V.goto (tgt := 7) dX6_go_90 (by decide) ?_
    exact V.forget (hK7 _ _ _ _ _ h) ⟨rfl, ⟨rfl, ⟨rfl, ⟨rfl, ⟨rfl, trivial⟩⟩⟩⟩⟩
def fX6_go_58 (K7 : Int64 → Int64 → Int32 → Int32 → vMem → Option vMem) (l1 : Int64) (l3 : Int64) (l5 : Int32) (l6 : Int32) (s1 : Int32) (σ : vMem) : Option vMem :=
  if ¬ (s1 = 0 ∨ s1 = 1) then none else fX6_go_61 K7 l1 l3 l5 l6 (vup σ 13 2 s1)
theorem vX6_go_58 {ad : Nat → Nat} {Q : Option Value → vMem → Prop} {r : vMem} {K7 : Int64 → Int64 → Int32 → Int32 → vMem → Option vMem} (hK7 : ∀ (l1 : Int64) (l3 : Int64) (l5 : Int32) (l6 : Int32) (σ : vMem), K7 l1 l3 l5 l6 σ = some r → V GC mX6_go ad Q 3 7 [some (.ref (ad 13)), some (.long l1), none, some (.long l3), none, some (.int l5), some (.int l6)] [] σ) {l1 : Int64} {l3 : Int64} {l5 : Int32} {l6 : Int32} {s1 : Int32} {σ : vMem} (h : fX6_go_58 K7 l1 l3 l5 l6 s1 σ = some r) (hQ : Q none r) : V GC mX6_go ad Q 3 58 [some (.ref (ad 13)), some (.long l1), none, some (.long l3), none, some (.int l5), some (.int l6)] [.int s1, .ref (ad 13)] σ := by
  unfold fX6_go_58 at h
  obtain ⟨hb, h⟩ := ckn h
  refine V.putZ dX6_go_58 fpX6_15 nC_13 gC_13 (by decide) rfl (Decidable.not_not.mp hb) ?_
  exact V.forget (vX6_go_61 hK7 h hQ) ⟨rfl, ⟨rfl, ⟨rfl, ⟨rfl, ⟨rfl, trivial⟩⟩⟩⟩⟩
def fX6_go_41 (K7 : Int64 → Int64 → Int32 → Int32 → vMem → Option vMem) (l1 : Int64) (l3 : Int64) (l5 : Int32) (l6 : Int32) (σ : vMem) : Option vMem :=
  if (lg_cmp ((l3 >>> (l6.toInt64 &&& 63)) &&& (1 : Int64)) (1 : Int64)) = 0 then (fX6_go_58 K7 l1 l3 l5 l6 (1 : Int32) σ) else
  (fX6_go_58 K7 l1 l3 l5 l6 (0 : Int32) σ)
theorem vX6_go_41 {ad : Nat → Nat} {Q : Option Value → vMem → Prop} {r : vMem} {K7 : Int64 → Int64 → Int32 → Int32 → vMem → Option vMem} (hK7 : ∀ (l1 : Int64) (l3 : Int64) (l5 : Int32) (l6 : Int32) (σ : vMem), K7 l1 l3 l5 l6 σ = some r → V GC mX6_go ad Q 3 7 [some (.ref (ad 13)), some (.long l1), none, some (.long l3), none, some (.int l5), some (.int l6)] [] σ) {l1 : Int64} {l3 : Int64} {l5 : Int32} {l6 : Int32} {σ : vMem} (h : fX6_go_41 K7 l1 l3 l5 l6 σ = some r) (hQ : Q none r) : V GC mX6_go ad Q 3 41 [some (.ref (ad 13)), some (.long l1), none, some (.long l3), none, some (.int l5), some (.int l6)] [] σ := by
  unfold fX6_go_41 at h
  refine V.aload_n dX6_go_41 rfl ?_
  refine V.lload_n dX6_go_42 rfl ?_
  refine V.iload dX6_go_43 rfl ?_
  refine V.lshr dX6_go_45 ?_
  refine V.lconst lc_1 dX6_go_46 ?_
  refine V.land dX6_go_47 ?_
  refine V.lconst lc_1 dX6_go_48 ?_
  refine V.lcmp dX6_go_49 ?_
  rcases itc h with ⟨hc, h⟩ | ⟨hc, h⟩
  · refine V.if_ne (tgt := 57) dX6_go_50 (by decide) (fun hn => absurd hc hn) (fun _ => ?_)
    refine V.iconst ic_1 dX6_go_53 ?_
    refine V.goto (tgt := 58) dX6_go_54 (by decide) ?_
    exact V.forget (vX6_go_58 hK7 h hQ) ⟨rfl, ⟨rfl, ⟨rfl, ⟨rfl, ⟨rfl, trivial⟩⟩⟩⟩⟩
  · refine V.if_ne (tgt := 57) dX6_go_50 (by decide) (fun _ => ?_) (fun hn => absurd hn hc)
    refine V.iconst ic_0 dX6_go_57 ?_
    exact V.forget (vX6_go_58 hK7 h hQ) ⟨rfl, ⟨rfl, ⟨rfl, ⟨rfl, ⟨rfl, trivial⟩⟩⟩⟩⟩
def fX6_go_38 (K7 : Int64 → Int64 → Int32 → Int32 → vMem → Option vMem) (l1 : Int64) (l3 : Int64) (l5 : Int32) (l6 : Int32) (s1 : Int32) (σ : vMem) : Option vMem :=
  if ¬ (s1 = 0 ∨ s1 = 1) then none else fX6_go_41 K7 l1 l3 l5 l6 (vup σ 13 1 s1)
theorem vX6_go_38 {ad : Nat → Nat} {Q : Option Value → vMem → Prop} {r : vMem} {K7 : Int64 → Int64 → Int32 → Int32 → vMem → Option vMem} (hK7 : ∀ (l1 : Int64) (l3 : Int64) (l5 : Int32) (l6 : Int32) (σ : vMem), K7 l1 l3 l5 l6 σ = some r → V GC mX6_go ad Q 3 7 [some (.ref (ad 13)), some (.long l1), none, some (.long l3), none, some (.int l5), some (.int l6)] [] σ) {l1 : Int64} {l3 : Int64} {l5 : Int32} {l6 : Int32} {s1 : Int32} {σ : vMem} (h : fX6_go_38 K7 l1 l3 l5 l6 s1 σ = some r) (hQ : Q none r) : V GC mX6_go ad Q 3 38 [some (.ref (ad 13)), some (.long l1), none, some (.long l3), none, some (.int l5), some (.int l6)] [.int s1, .ref (ad 13)] σ := by
  unfold fX6_go_38 at h
  obtain ⟨hb, h⟩ := ckn h
  refine V.putZ dX6_go_38 fpX6_9 nC_13 gC_13 (by decide) rfl (Decidable.not_not.mp hb) ?_
  exact V.forget (vX6_go_41 hK7 h hQ) ⟨rfl, ⟨rfl, ⟨rfl, ⟨rfl, ⟨rfl, trivial⟩⟩⟩⟩⟩
def fX6_go_7 (K7 : Int64 → Int64 → Int32 → Int32 → vMem → Option vMem) (l1 : Int64) (l3 : Int64) (l5 : Int32) (l6 : Int32) (σ : vMem) : Option vMem :=
  if (40 : Int32) ≤ l6 then (fX6_go_93 σ) else
  (if (σ.1 13 14) ≤ 0 then (fX6_go_93 σ) else
  (if (lg_cmp ((l1 >>> (l6.toInt64 &&& 63)) &&& (1 : Int64)) (1 : Int64)) = 0 then (fX6_go_38 K7 l1 l3 l5 l6 (1 : Int32) σ) else
  (fX6_go_38 K7 l1 l3 l5 l6 (0 : Int32) σ)))
theorem vX6_go_7 {ad : Nat → Nat} {Q : Option Value → vMem → Prop} {r : vMem} {K7 : Int64 → Int64 → Int32 → Int32 → vMem → Option vMem} (hK7 : ∀ (l1 : Int64) (l3 : Int64) (l5 : Int32) (l6 : Int32) (σ : vMem), K7 l1 l3 l5 l6 σ = some r → V GC mX6_go ad Q 3 7 [some (.ref (ad 13)), some (.long l1), none, some (.long l3), none, some (.int l5), some (.int l6)] [] σ) {l1 : Int64} {l3 : Int64} {l5 : Int32} {l6 : Int32} {σ : vMem} (h : fX6_go_7 K7 l1 l3 l5 l6 σ = some r) (hQ : Q none r) : V GC mX6_go ad Q 3 7 [some (.ref (ad 13)), some (.long l1), none, some (.long l3), none, some (.int l5), some (.int l6)] [] σ := by
  unfold fX6_go_7 at h
  refine V.iload dX6_go_7 rfl ?_
  refine V.bipush bp_40 dX6_go_9 ?_
  rcases itc h with ⟨hc, h⟩ | ⟨hc, h⟩
  · refine V.icmp_ge (tgt := 93) dX6_go_11 (by decide) (fun _ => ?_) (fun hn => absurd hc hn)
    exact V.forget (vX6_go_93 h hQ) trivial
  · refine V.icmp_ge (tgt := 93) dX6_go_11 (by decide) (fun hn => absurd hn hc) (fun _ => ?_)
    refine V.aload_n dX6_go_14 rfl ?_
    refine V.get dX6_go_15 flX6_52 nC_13 gC_13 (by decide) (eC_13_14 _ _) ?_
    rcases itc h with ⟨hc, h⟩ | ⟨hc, h⟩
    · refine V.if_le (tgt := 93) dX6_go_18 (by decide) (fun _ => ?_) (fun hn => absurd hc hn)
      exact V.forget (vX6_go_93 h hQ) trivial
    · refine V.if_le (tgt := 93) dX6_go_18 (by decide) (fun hn => absurd hn hc) (fun _ => ?_)
      refine V.aload_n dX6_go_21 rfl ?_
      refine V.lload_n dX6_go_22 rfl ?_
      refine V.iload dX6_go_23 rfl ?_
      refine V.lshr dX6_go_25 ?_
      refine V.lconst lc_1 dX6_go_26 ?_
      refine V.land dX6_go_27 ?_
      refine V.lconst lc_1 dX6_go_28 ?_
      refine V.lcmp dX6_go_29 ?_
      rcases itc h with ⟨hc, h⟩ | ⟨hc, h⟩
      · refine V.if_ne (tgt := 37) dX6_go_30 (by decide) (fun hn => absurd hc hn) (fun _ => ?_)
        refine V.iconst ic_1 dX6_go_33 ?_
        refine V.goto (tgt := 38) dX6_go_34 (by decide) ?_
        exact V.forget (vX6_go_38 hK7 h hQ) ⟨rfl, ⟨rfl, ⟨rfl, ⟨rfl, ⟨rfl, trivial⟩⟩⟩⟩⟩
      · refine V.if_ne (tgt := 37) dX6_go_30 (by decide) (fun _ => ?_) (fun hn => absurd hn hc)
        refine V.iconst ic_0 dX6_go_37 ?_
        exact V.forget (vX6_go_38 hK7 h hQ) ⟨rfl, ⟨rfl, ⟨rfl, ⟨rfl, ⟨rfl, trivial⟩⟩⟩⟩⟩
def LfX6_go_7 : Nat → Int64 → Int64 → Int32 → Int32 → vMem → Option vMem
  | 0, _, _, _, _, _ => none
  | n + 1, l1, l3, l5, l6, σ => fX6_go_7 (LfX6_go_7 n) l1 l3 l5 l6 σ
theorem LvX6_go_7 {ad : Nat → Nat} {Q : Option Value → vMem → Prop} {r : vMem} (hQ : Q none r) : ∀ (n : Nat) (l1 : Int64) (l3 : Int64) (l5 : Int32) (l6 : Int32) (σ : vMem), LfX6_go_7 n l1 l3 l5 l6 σ = some r → V GC mX6_go ad Q 3 7 [some (.ref (ad 13)), some (.long l1), none, some (.long l3), none, some (.int l5), some (.int l6)] [] σ := by
  intro n
  induction n with
  | zero => intro l1 l3 l5 l6 σ h; cases h
  | succ n ih => intro l1 l3 l5 l6 σ h; exact vX6_go_7 ih h hQ
def fX6_go (l1 : Int64) (l3 : Int64) (l5 : Int32) (σ : vMem) : Option vMem :=
  (fX6_begin σ).bind fun q1 => LfX6_go_7 200 l1 l3 l5 (0 : Int32) q1
theorem vX6_go {ad : Nat → Nat} {Q : Option Value → vMem → Prop} {r : vMem} {l1 : Int64} {l3 : Int64} {l5 : Int32} {σ : vMem} (h : fX6_go l1 l3 l5 σ = some r) (hQ : Q none r) : V GC mX6_go ad Q 3 0 [some (.ref (ad 13)), some (.long l1), none, some (.long l3), none, some (.int l5), none] [] σ := by
  unfold fX6_go at h
  refine V.aload_n dX6_go_0 rfl ?_
  obtain ⟨q1, h1, h⟩ := bdc h
  refine V.callV0 (mc := mX6_begin) (d' := 2) dX6_go_1 lkX6_69 hfX6_begin nC_13 gC_13 rfl (by decide) (Nat.le_of_ble_eq_true rfl) (Nat.le_of_ble_eq_true rfl) (vX6_begin h1 ?_)
  refine V.iconst ic_0 dX6_go_4 ?_
  refine V.istore dX6_go_5 (by decide) rfl ?_
  exact V.forget (LvX6_go_7 hQ 200 _ _ _ _ _ h) ⟨rfl, ⟨rfl, ⟨rfl, ⟨rfl, ⟨rfl, trivial⟩⟩⟩⟩⟩
def fX6_letters (l1 : Int32) (σ : vMem) : Option (Int32 × vMem) :=
  if l1 < 0 ∨ 8 ≤ l1.toNatClampNeg then none else if l1 < 0 ∨ 8 ≤ l1.toNatClampNeg then none else some (((σ.1 21 l1.toNatClampNeg) - (σ.1 20 l1.toNatClampNeg)), σ)
theorem vX6_letters {ad : Nat → Nat} {Q : Option Value → vMem → Prop} {r : (Int32 × vMem)} {l1 : Int32} {σ : vMem} (h : fX6_letters l1 σ = some r) (hQ : Q (some (.int r.1)) r.2) : V GC mX6_letters ad Q 0 0 [some (.ref (ad 13)), some (.int l1)] [] σ := by
  unfold fX6_letters at h
  refine V.aload_n dX6_letters_0 rfl ?_
  refine V.get dX6_letters_1 flX6_40 nC_13 gC_13 (by decide) (eC_13_10 _ _) ?_
  refine V.iload_n dX6_letters_4 rfl ?_
  obtain ⟨hb, h⟩ := ckn h
  refine V.iald dX6_letters_5 nC_21 gC_21 hb ?_
  refine V.aload_n dX6_letters_6 rfl ?_
  refine V.get dX6_letters_7 flX6_37 nC_13 gC_13 (by decide) (eC_13_9 _ _) ?_
  refine V.iload_n dX6_letters_10 rfl ?_
  obtain ⟨hb, h⟩ := ckn h
  refine V.iald dX6_letters_11 nC_20 gC_20 hb ?_
  refine V.isub dX6_letters_12 ?_
  obtain rfl := Option.some.inj h
  exact V.iret dX6_letters_13 rfl hQ
def fX7_at_24 (σ : vMem) : Option (Int32 × vMem) :=
  some ((-2 : Int32), σ)
theorem vX7_at_24 {ad : Nat → Nat} {Q : Option Value → vMem → Prop} {r : (Int32 × vMem)} {σ : vMem} (h : fX7_at_24 σ = some r) (hQ : Q (some (.int r.1)) r.2) : V GC mX7_at ad Q 4 24 [none, none, none, none] [] σ := by
  unfold fX7_at_24 at h
  refine V.bipush bp_m2 dX7_at_24 ?_
  obtain rfl := Option.some.inj h
  exact V.iret dX7_at_26 rfl hQ
def fX7_at (l1 : Int32) (l2 : Int32) (l3 : Int32) (σ : vMem) : Option (Int32 × vMem) :=
  (fX7_isHour l1 σ).bind fun q1 => if q1.1 = 0 then (fX7_at_24 q1.2) else
  ((fX7_isBasket l2 q1.2).bind fun q2 => if q2.1 = 0 then (fX7_at_24 q2.2) else
  (if l3 < 0 then (fX7_at_24 q2.2) else
  (if l3 ≤ (3 : Int32) then ((fX1_all_25 q2.2).bind fun q3 => (fX1_all_27 q3.2).bind fun q4 => (fX6_go q3.1 q4.1 l1 q4.2).bind fun q5 => if l3 = 0 then (if l2 < 0 ∨ 8 ≤ l2.toNatClampNeg then none else some ((q5.1 14 l2.toNatClampNeg), q5)) else
  (if l3 = 1 then (if l2 < 0 ∨ 8 ≤ l2.toNatClampNeg then none else some ((q5.1 15 l2.toNatClampNeg), q5)) else
  (if l3 = 2 then ((fX6_letters l2 q5).bind fun q6 => some (q6.1, q6.2)) else
  (if l2 < 0 ∨ 8 ≤ l2.toNatClampNeg then none else some ((q5.1 16 l2.toNatClampNeg), q5))))) else
  (fX7_at_24 q2.2))))
theorem vX7_at {ad : Nat → Nat} {Q : Option Value → vMem → Prop} {r : (Int32 × vMem)} {l1 : Int32} {l2 : Int32} {l3 : Int32} {σ : vMem} (h : fX7_at l1 l2 l3 σ = some r) (hQ : Q (some (.int r.1)) r.2) : V GC mX7_at ad Q 4 0 [some (.ref (ad 0)), some (.int l1), some (.int l2), some (.int l3)] [] σ := by
  unfold fX7_at at h
  refine V.iload_n dX7_at_0 rfl ?_
  obtain ⟨q1, h1, h⟩ := bdc h
  refine V.callS1 (mc := mX7_isHour) (d' := 0) dX7_at_1 lkX7_166 hfX7_isHour (by decide) (Nat.le_of_ble_eq_true rfl) (Nat.le_of_ble_eq_true rfl) (vX7_isHour h1 ?_)
  rcases itc h with ⟨hc, h⟩ | ⟨hc, h⟩
  · refine V.if_eq (tgt := 24) dX7_at_4 (by decide) (fun _ => ?_) (fun hn => absurd hc hn)
    exact V.forget (vX7_at_24 h hQ) trivial
  · refine V.if_eq (tgt := 24) dX7_at_4 (by decide) (fun hn => absurd hn hc) (fun _ => ?_)
    refine V.aload_n dX7_at_7 rfl ?_
    refine V.iload_n dX7_at_8 rfl ?_
    obtain ⟨q2, h1, h⟩ := bdc h
    refine V.callV1 (mc := mX7_isBasket) (d' := 0) dX7_at_9 lkX7_125 hfX7_isBasket nC_0 gC_0 rfl (by decide) (Nat.le_of_ble_eq_true rfl) (Nat.le_of_ble_eq_true rfl) (vX7_isBasket h1 ?_)
    rcases itc h with ⟨hc, h⟩ | ⟨hc, h⟩
    · refine V.if_eq (tgt := 24) dX7_at_12 (by decide) (fun _ => ?_) (fun hn => absurd hc hn)
      exact V.forget (vX7_at_24 h hQ) trivial
    · refine V.if_eq (tgt := 24) dX7_at_12 (by decide) (fun hn => absurd hn hc) (fun _ => ?_)
      refine V.iload_n dX7_at_15 rfl ?_
      rcases itc h with ⟨hc, h⟩ | ⟨hc, h⟩
      · refine V.if_lt (tgt := 24) dX7_at_16 (by decide) (fun _ => ?_) (fun hn => absurd hc hn)
        exact V.forget (vX7_at_24 h hQ) trivial
      · refine V.if_lt (tgt := 24) dX7_at_16 (by decide) (fun hn => absurd hn hc) (fun _ => ?_)
        refine V.iload_n dX7_at_19 rfl ?_
        refine V.iconst ic_3 dX7_at_20 ?_
        rcases itc h with ⟨hc, h⟩ | ⟨hc, h⟩
        · refine V.icmp_le (tgt := 27) dX7_at_21 (by decide) (fun _ => ?_) (fun hn => absurd hc hn)
          refine V.aload_n dX7_at_27 rfl ?_
          refine V.get dX7_at_28 flX7_33 nC_0 gC_0 (by decide) (eC_0_3 _ _) ?_
          refine V.aload_n dX7_at_31 rfl ?_
          refine V.get dX7_at_32 flX7_40 nC_0 gC_0 (by decide) (eC_0_4 _ _) ?_
          obtain ⟨q3, h1, h⟩ := bdc h
          refine V.callV0 (mc := mX1_all) (d' := 1) dX7_at_35 lkX7_169 hfX1_all nC_25 gC_25 rfl (by decide) (Nat.le_of_ble_eq_true rfl) (Nat.le_of_ble_eq_true rfl) (vX1_all_25 h1 ?_)
          refine V.aload_n dX7_at_38 rfl ?_
          refine V.get dX7_at_39 flX7_44 nC_0 gC_0 (by decide) (eC_0_5 _ _) ?_
          obtain ⟨q4, h1, h⟩ := bdc h
          refine V.callV0 (mc := mX1_all) (d' := 1) dX7_at_42 lkX7_169 hfX1_all nC_27 gC_27 rfl (by decide) (Nat.le_of_ble_eq_true rfl) (Nat.le_of_ble_eq_true rfl) (vX1_all_27 h1 ?_)
          refine V.iload_n dX7_at_45 rfl ?_
          obtain ⟨q5, h1, h⟩ := bdc h
          refine V.callV3 (mc := mX6_go) (d' := 3) dX7_at_46 lkX7_173 hfX6_go nC_13 gC_13 rfl (by decide) (Nat.le_of_ble_eq_true rfl) (Nat.le_of_ble_eq_true rfl) (vX6_go h1 ?_)
          refine V.iload_n dX7_at_49 rfl ?_
          rcases itc h with ⟨hc, h⟩ | ⟨hs0, h⟩
          · refine V.tableIn (off := 26) (tgt := 76) dX7_at_50 (by rw [hc]; decide) (by rw [hc]; decide) (by rw [hc]; rfl) (by decide) ?_
            refine V.aload_n dX7_at_76 rfl ?_
            refine V.get dX7_at_77 flX7_33 nC_0 gC_0 (by decide) (eC_0_3 _ _) ?_
            refine V.get dX7_at_80 flX7_177 nC_13 gC_13 (by decide) (eC_13_3 _ _) ?_
            refine V.iload_n dX7_at_83 rfl ?_
            obtain ⟨hb, h⟩ := ckn h
            refine V.iald dX7_at_84 nC_14 gC_14 hb ?_
            obtain rfl := Option.some.inj h
            exact V.iret dX7_at_85 rfl hQ
          · rcases itc h with ⟨hc, h⟩ | ⟨hs1, h⟩
            · refine V.tableIn (off := 36) (tgt := 86) dX7_at_50 (by rw [hc]; decide) (by rw [hc]; decide) (by rw [hc]; rfl) (by decide) ?_
              refine V.aload_n dX7_at_86 rfl ?_
              refine V.get dX7_at_87 flX7_33 nC_0 gC_0 (by decide) (eC_0_3 _ _) ?_
              refine V.get dX7_at_90 flX7_180 nC_13 gC_13 (by decide) (eC_13_4 _ _) ?_
              refine V.iload_n dX7_at_93 rfl ?_
              obtain ⟨hb, h⟩ := ckn h
              refine V.iald dX7_at_94 nC_15 gC_15 hb ?_
              obtain rfl := Option.some.inj h
              exact V.iret dX7_at_95 rfl hQ
            · rcases itc h with ⟨hc, h⟩ | ⟨hs2, h⟩
              · refine V.tableIn (off := 46) (tgt := 96) dX7_at_50 (by rw [hc]; decide) (by rw [hc]; decide) (by rw [hc]; rfl) (by decide) ?_
                refine V.aload_n dX7_at_96 rfl ?_
                refine V.get dX7_at_97 flX7_33 nC_0 gC_0 (by decide) (eC_0_3 _ _) ?_
                refine V.iload_n dX7_at_100 rfl ?_
                obtain ⟨q6, h1, h⟩ := bdc h
                refine V.callV1 (mc := mX6_letters) (d' := 0) dX7_at_101 lkX7_181 hfX6_letters nC_13 gC_13 rfl (by decide) (Nat.le_of_ble_eq_true rfl) (Nat.le_of_ble_eq_true rfl) (vX6_letters h1 ?_)
                obtain rfl := Option.some.inj h
                exact V.iret dX7_at_104 rfl hQ
              · refine V.tableOut (tgt := 105) dX7_at_50 (by have hs0t : ¬ l3.toInt = 0 := lv_neT hs0 rfl; have hs1t : ¬ l3.toInt = 1 := lv_neT hs1 rfl; have hs2t : ¬ l3.toInt = 2 := lv_neT hs2 rfl; omega) (by decide) ?_
                refine V.aload_n dX7_at_105 rfl ?_
                refine V.get dX7_at_106 flX7_33 nC_0 gC_0 (by decide) (eC_0_3 _ _) ?_
                refine V.get dX7_at_109 flX7_183 nC_13 gC_13 (by decide) (eC_13_5 _ _) ?_
                refine V.iload_n dX7_at_112 rfl ?_
                obtain ⟨hb, h⟩ := ckn h
                refine V.iald dX7_at_113 nC_16 gC_16 hb ?_
                obtain rfl := Option.some.inj h
                exact V.iret dX7_at_114 rfl hQ
        · refine V.icmp_le (tgt := 27) dX7_at_21 (by decide) (fun hn => absurd hn hc) (fun _ => ?_)
          exact V.forget (vX7_at_24 h hQ) trivial
def fX7_goAsTold (σ : vMem) : Option vMem :=
  (fX1_all_25 σ).bind fun q1 => (fX1_all_27 q1.2).bind fun q2 => (fX6_go q1.1 q2.1 (40 : Int32) q2.2).bind fun q3 => some q3
theorem vX7_goAsTold {ad : Nat → Nat} {Q : Option Value → vMem → Prop} {r : vMem} {σ : vMem} (h : fX7_goAsTold σ = some r) (hQ : Q none r) : V GC mX7_goAsTold ad Q 4 0 [some (.ref (ad 0))] [] σ := by
  unfold fX7_goAsTold at h
  refine V.aload_n dX7_goAsTold_0 rfl ?_
  refine V.get dX7_goAsTold_1 flX7_33 nC_0 gC_0 (by decide) (eC_0_3 _ _) ?_
  refine V.aload_n dX7_goAsTold_4 rfl ?_
  refine V.get dX7_goAsTold_5 flX7_40 nC_0 gC_0 (by decide) (eC_0_4 _ _) ?_
  obtain ⟨q1, h1, h⟩ := bdc h
  refine V.callV0 (mc := mX1_all) (d' := 1) dX7_goAsTold_8 lkX7_169 hfX1_all nC_25 gC_25 rfl (by decide) (Nat.le_of_ble_eq_true rfl) (Nat.le_of_ble_eq_true rfl) (vX1_all_25 h1 ?_)
  refine V.aload_n dX7_goAsTold_11 rfl ?_
  refine V.get dX7_goAsTold_12 flX7_44 nC_0 gC_0 (by decide) (eC_0_5 _ _) ?_
  obtain ⟨q2, h1, h⟩ := bdc h
  refine V.callV0 (mc := mX1_all) (d' := 1) dX7_goAsTold_15 lkX7_169 hfX1_all nC_27 gC_27 rfl (by decide) (Nat.le_of_ble_eq_true rfl) (Nat.le_of_ble_eq_true rfl) (vX1_all_27 h1 ?_)
  refine V.bipush bp_40 dX7_goAsTold_18 ?_
  obtain ⟨q3, h1, h⟩ := bdc h
  refine V.callV3 (mc := mX6_go) (d' := 3) dX7_goAsTold_20 lkX7_173 hfX6_go nC_13 gC_13 rfl (by decide) (Nat.le_of_ble_eq_true rfl) (Nat.le_of_ble_eq_true rfl) (vX6_go h1 ?_)
  obtain rfl := Option.some.inj h
  exact V.vret dX7_goAsTold_23 rfl hQ
def fX6_letter_35 (s0 : Int32) (σ : vMem) : Option (Int32 × vMem) :=
  some (s0, σ)
theorem vX6_letter_35 {ad : Nat → Nat} {Q : Option Value → vMem → Prop} {r : (Int32 × vMem)} {s0 : Int32} {σ : vMem} (h : fX6_letter_35 s0 σ = some r) (hQ : Q (some (.int r.1)) r.2) : V GC mX6_letter ad Q 1 35 [none, none, none] [.int s0] σ := by
  unfold fX6_letter_35 at h
  obtain rfl := Option.some.inj h
  exact V.iret dX6_letter_35 rfl hQ
def fX6_letter_34 (σ : vMem) : Option (Int32 × vMem) :=
  fX6_letter_35 (-1 : Int32) σ
theorem vX6_letter_34 {ad : Nat → Nat} {Q : Option Value → vMem → Prop} {r : (Int32 × vMem)} {σ : vMem} (h : fX6_letter_34 σ = some r) (hQ : Q (some (.int r.1)) r.2) : V GC mX6_letter ad Q 1 34 [none, none, none] [] σ := by
  unfold fX6_letter_34 at h
  refine V.iconst ic_m1 dX6_letter_34 ?_
  exact V.forget (vX6_letter_35 h hQ) trivial
def fX6_letter (l1 : Int32) (l2 : Int32) (σ : vMem) : Option (Int32 × vMem) :=
  if l2 < 0 then (fX6_letter_34 σ) else
  ((fX6_letters l1 σ).bind fun q1 => if q1.1 ≤ l2 then (fX6_letter_34 q1.2) else
  (if l1 < 0 ∨ 8 ≤ l1.toNatClampNeg then none else if (((l1 * (21 : Int32)) + (q1.2.1 20 l1.toNatClampNeg)) + l2) < 0 ∨ 168 ≤ (((l1 * (21 : Int32)) + (q1.2.1 20 l1.toNatClampNeg)) + l2).toNatClampNeg then none else fX6_letter_35 (q1.2.1 19 (((l1 * (21 : Int32)) + (q1.2.1 20 l1.toNatClampNeg)) + l2).toNatClampNeg) q1.2))
theorem vX6_letter {ad : Nat → Nat} {Q : Option Value → vMem → Prop} {r : (Int32 × vMem)} {l1 : Int32} {l2 : Int32} {σ : vMem} (h : fX6_letter l1 l2 σ = some r) (hQ : Q (some (.int r.1)) r.2) : V GC mX6_letter ad Q 1 0 [some (.ref (ad 13)), some (.int l1), some (.int l2)] [] σ := by
  unfold fX6_letter at h
  refine V.iload_n dX6_letter_0 rfl ?_
  rcases itc h with ⟨hc, h⟩ | ⟨hc, h⟩
  · refine V.if_lt (tgt := 34) dX6_letter_1 (by decide) (fun _ => ?_) (fun hn => absurd hc hn)
    exact V.forget (vX6_letter_34 h hQ) trivial
  · refine V.if_lt (tgt := 34) dX6_letter_1 (by decide) (fun hn => absurd hn hc) (fun _ => ?_)
    refine V.iload_n dX6_letter_4 rfl ?_
    refine V.aload_n dX6_letter_5 rfl ?_
    refine V.iload_n dX6_letter_6 rfl ?_
    obtain ⟨q1, h1, h⟩ := bdc h
    refine V.callV1 (mc := mX6_letters) (d' := 0) dX6_letter_7 lkX6_132 hfX6_letters nC_13 gC_13 rfl (by decide) (Nat.le_of_ble_eq_true rfl) (Nat.le_of_ble_eq_true rfl) (vX6_letters h1 ?_)
    rcases itc h with ⟨hc, h⟩ | ⟨hc, h⟩
    · refine V.icmp_ge (tgt := 34) dX6_letter_10 (by decide) (fun _ => ?_) (fun hn => absurd hc hn)
      exact V.forget (vX6_letter_34 h hQ) trivial
    · refine V.icmp_ge (tgt := 34) dX6_letter_10 (by decide) (fun hn => absurd hn hc) (fun _ => ?_)
      refine V.aload_n dX6_letter_13 rfl ?_
      refine V.get dX6_letter_14 flX6_34 nC_13 gC_13 (by decide) (eC_13_8 _ _) ?_
      refine V.iload_n dX6_letter_17 rfl ?_
      refine V.bipush bp_21 dX6_letter_18 ?_
      refine V.imul dX6_letter_20 ?_
      refine V.aload_n dX6_letter_21 rfl ?_
      refine V.get dX6_letter_22 flX6_37 nC_13 gC_13 (by decide) (eC_13_9 _ _) ?_
      refine V.iload_n dX6_letter_25 rfl ?_
      obtain ⟨hb, h⟩ := ckn h
      refine V.iald dX6_letter_26 nC_20 gC_20 hb ?_
      refine V.iadd dX6_letter_27 ?_
      refine V.iload_n dX6_letter_28 rfl ?_
      refine V.iadd dX6_letter_29 ?_
      obtain ⟨hb, h⟩ := ckn h
      refine V.iald dX6_letter_30 nC_19 gC_19 hb ?_
      refine V.goto (tgt := 35) dX6_letter_31 (by decide) ?_
      exact V.forget (vX6_letter_35 h hQ) trivial
def fX7_note_18 (σ : vMem) : Option (Int32 × vMem) :=
  some ((-2 : Int32), σ)
theorem vX7_note_18 {ad : Nat → Nat} {Q : Option Value → vMem → Prop} {r : (Int32 × vMem)} {σ : vMem} (h : fX7_note_18 σ = some r) (hQ : Q (some (.int r.1)) r.2) : V GC mX7_note ad Q 5 18 [none, none, none] [] σ := by
  unfold fX7_note_18 at h
  refine V.bipush bp_m2 dX7_note_18 ?_
  obtain rfl := Option.some.inj h
  exact V.iret dX7_note_20 rfl hQ
def fX7_note (l1 : Int32) (l2 : Int32) (σ : vMem) : Option (Int32 × vMem) :=
  (fX7_isBasket l1 σ).bind fun q1 => if q1.1 = 0 then (fX7_note_18 q1.2) else
  (if l2 < 0 then (fX7_note_18 q1.2) else
  (if l2 < (12 : Int32) then ((fX7_goAsTold q1.2).bind fun q2 => (fX6_letter l1 l2 q2).bind fun q3 => some (q3.1, q3.2)) else
  (fX7_note_18 q1.2)))
theorem vX7_note {ad : Nat → Nat} {Q : Option Value → vMem → Prop} {r : (Int32 × vMem)} {l1 : Int32} {l2 : Int32} {σ : vMem} (h : fX7_note l1 l2 σ = some r) (hQ : Q (some (.int r.1)) r.2) : V GC mX7_note ad Q 5 0 [some (.ref (ad 0)), some (.int l1), some (.int l2)] [] σ := by
  unfold fX7_note at h
  refine V.aload_n dX7_note_0 rfl ?_
  refine V.iload_n dX7_note_1 rfl ?_
  obtain ⟨q1, h1, h⟩ := bdc h
  refine V.callV1 (mc := mX7_isBasket) (d' := 0) dX7_note_2 lkX7_125 hfX7_isBasket nC_0 gC_0 rfl (by decide) (Nat.le_of_ble_eq_true rfl) (Nat.le_of_ble_eq_true rfl) (vX7_isBasket h1 ?_)
  rcases itc h with ⟨hc, h⟩ | ⟨hc, h⟩
  · refine V.if_eq (tgt := 18) dX7_note_5 (by decide) (fun _ => ?_) (fun hn => absurd hc hn)
    exact V.forget (vX7_note_18 h hQ) trivial
  · refine V.if_eq (tgt := 18) dX7_note_5 (by decide) (fun hn => absurd hn hc) (fun _ => ?_)
    refine V.iload_n dX7_note_8 rfl ?_
    rcases itc h with ⟨hc, h⟩ | ⟨hc, h⟩
    · refine V.if_lt (tgt := 18) dX7_note_9 (by decide) (fun _ => ?_) (fun hn => absurd hc hn)
      exact V.forget (vX7_note_18 h hQ) trivial
    · refine V.if_lt (tgt := 18) dX7_note_9 (by decide) (fun hn => absurd hn hc) (fun _ => ?_)
      refine V.iload_n dX7_note_12 rfl ?_
      refine V.bipush bp_12 dX7_note_13 ?_
      rcases itc h with ⟨hc, h⟩ | ⟨hc, h⟩
      · refine V.icmp_lt (tgt := 21) dX7_note_15 (by decide) (fun _ => ?_) (fun hn => absurd hc hn)
        refine V.aload_n dX7_note_21 rfl ?_
        obtain ⟨q2, h1, h⟩ := bdc h
        refine V.callV0 (mc := mX7_goAsTold) (d' := 4) dX7_note_22 lkX7_186 hfX7_goAsTold nC_0 gC_0 rfl (by decide) (Nat.le_of_ble_eq_true rfl) (Nat.le_of_ble_eq_true rfl) (vX7_goAsTold h1 ?_)
        refine V.aload_n dX7_note_25 rfl ?_
        refine V.get dX7_note_26 flX7_33 nC_0 gC_0 (by decide) (eC_0_3 _ _) ?_
        refine V.iload_n dX7_note_29 rfl ?_
        refine V.iload_n dX7_note_30 rfl ?_
        obtain ⟨q3, h1, h⟩ := bdc h
        refine V.callV2 (mc := mX6_letter) (d' := 1) dX7_note_31 lkX7_189 hfX6_letter nC_13 gC_13 rfl (by decide) (Nat.le_of_ble_eq_true rfl) (Nat.le_of_ble_eq_true rfl) (vX6_letter h1 ?_)
        obtain rfl := Option.some.inj h
        exact V.iret dX7_note_34 rfl hQ
      · refine V.icmp_lt (tgt := 21) dX7_note_15 (by decide) (fun hn => absurd hn hc) (fun _ => ?_)
        exact V.forget (vX7_note_18 h hQ) trivial
def fX7_comes (l1 : Int32) (σ : vMem) : Option (Int32 × vMem) :=
  (fX7_isBasket l1 σ).bind fun q1 => if q1.1 = 0 then (some ((-2 : Int32), q1.2)) else
  ((fX7_goAsTold q1.2).bind fun q2 => if l1 < 0 ∨ 8 ≤ l1.toNatClampNeg then none else some ((q2.1 17 l1.toNatClampNeg), q2))
theorem vX7_comes {ad : Nat → Nat} {Q : Option Value → vMem → Prop} {r : (Int32 × vMem)} {l1 : Int32} {σ : vMem} (h : fX7_comes l1 σ = some r) (hQ : Q (some (.int r.1)) r.2) : V GC mX7_comes ad Q 5 0 [some (.ref (ad 0)), some (.int l1)] [] σ := by
  unfold fX7_comes at h
  refine V.aload_n dX7_comes_0 rfl ?_
  refine V.iload_n dX7_comes_1 rfl ?_
  obtain ⟨q1, h1, h⟩ := bdc h
  refine V.callV1 (mc := mX7_isBasket) (d' := 0) dX7_comes_2 lkX7_125 hfX7_isBasket nC_0 gC_0 rfl (by decide) (Nat.le_of_ble_eq_true rfl) (Nat.le_of_ble_eq_true rfl) (vX7_isBasket h1 ?_)
  rcases itc h with ⟨hc, h⟩ | ⟨hc, h⟩
  · refine V.if_ne (tgt := 11) dX7_comes_5 (by decide) (fun hn => absurd hc hn) (fun _ => ?_)
    refine V.bipush bp_m2 dX7_comes_8 ?_
    obtain rfl := Option.some.inj h
    exact V.iret dX7_comes_10 rfl hQ
  · refine V.if_ne (tgt := 11) dX7_comes_5 (by decide) (fun _ => ?_) (fun hn => absurd hn hc)
    refine V.aload_n dX7_comes_11 rfl ?_
    obtain ⟨q2, h1, h⟩ := bdc h
    refine V.callV0 (mc := mX7_goAsTold) (d' := 4) dX7_comes_12 lkX7_186 hfX7_goAsTold nC_0 gC_0 rfl (by decide) (Nat.le_of_ble_eq_true rfl) (Nat.le_of_ble_eq_true rfl) (vX7_goAsTold h1 ?_)
    refine V.aload_n dX7_comes_15 rfl ?_
    refine V.get dX7_comes_16 flX7_33 nC_0 gC_0 (by decide) (eC_0_3 _ _) ?_
    refine V.get dX7_comes_19 flX7_192 nC_13 gC_13 (by decide) (eC_13_6 _ _) ?_
    refine V.iload_n dX7_comes_22 rfl ?_
    obtain ⟨hb, h⟩ := ckn h
    refine V.iald dX7_comes_23 nC_17 gC_17 hb ?_
    obtain rfl := Option.some.inj h
    exact V.iret dX7_comes_24 rfl hQ
def fX7_bites_17 (σ : vMem) : Option (Int32 × vMem) :=
  some ((-2 : Int32), σ)
theorem vX7_bites_17 {ad : Nat → Nat} {Q : Option Value → vMem → Prop} {r : (Int32 × vMem)} {σ : vMem} (h : fX7_bites_17 σ = some r) (hQ : Q (some (.int r.1)) r.2) : V GC mX7_bites ad Q 5 17 [none, none, none] [] σ := by
  unfold fX7_bites_17 at h
  refine V.bipush bp_m2 dX7_bites_17 ?_
  obtain rfl := Option.some.inj h
  exact V.iret dX7_bites_19 rfl hQ
def fX7_bites_49 (s0 : Int32) (σ : vMem) : Option (Int32 × vMem) :=
  some (s0, σ)
theorem vX7_bites_49 {ad : Nat → Nat} {Q : Option Value → vMem → Prop} {r : (Int32 × vMem)} {s0 : Int32} {σ : vMem} (h : fX7_bites_49 s0 σ = some r) (hQ : Q (some (.int r.1)) r.2) : V GC mX7_bites ad Q 5 49 [none, none, none] [.int s0] σ := by
  unfold fX7_bites_49 at h
  obtain rfl := Option.some.inj h
  exact V.iret dX7_bites_49 rfl hQ
def fX7_bites_20 (l1 : Int32) (l2 : Int32) (σ : vMem) : Option (Int32 × vMem) :=
  (fX7_goAsTold σ).bind fun q1 => if l2 = 0 then (if l1 < 0 ∨ 9 ≤ l1.toNatClampNeg then none else fX7_bites_49 (q1.1 23 l1.toNatClampNeg) q1) else
  (if l1 < 0 ∨ 9 ≤ l1.toNatClampNeg then none else fX7_bites_49 (q1.1 24 l1.toNatClampNeg) q1)
theorem vX7_bites_20 {ad : Nat → Nat} {Q : Option Value → vMem → Prop} {r : (Int32 × vMem)} {l1 : Int32} {l2 : Int32} {σ : vMem} (h : fX7_bites_20 l1 l2 σ = some r) (hQ : Q (some (.int r.1)) r.2) : V GC mX7_bites ad Q 5 20 [some (.ref (ad 0)), some (.int l1), some (.int l2)] [] σ := by
  unfold fX7_bites_20 at h
  refine V.aload_n dX7_bites_20 rfl ?_
  obtain ⟨q1, h1, h⟩ := bdc h
  refine V.callV0 (mc := mX7_goAsTold) (d' := 4) dX7_bites_21 lkX7_186 hfX7_goAsTold nC_0 gC_0 rfl (by decide) (Nat.le_of_ble_eq_true rfl) (Nat.le_of_ble_eq_true rfl) (vX7_goAsTold h1 ?_)
  refine V.iload_n dX7_bites_24 rfl ?_
  rcases itc h with ⟨hc, h⟩ | ⟨hc, h⟩
  · refine V.if_ne (tgt := 40) dX7_bites_25 (by decide) (fun hn => absurd hc hn) (fun _ => ?_)
    refine V.aload_n dX7_bites_28 rfl ?_
    refine V.get dX7_bites_29 flX7_33 nC_0 gC_0 (by decide) (eC_0_3 _ _) ?_
    refine V.get dX7_bites_32 flX7_195 nC_13 gC_13 (by decide) (eC_13_12 _ _) ?_
    refine V.iload_n dX7_bites_35 rfl ?_
    obtain ⟨hb, h⟩ := ckn h
    refine V.iald dX7_bites_36 nC_23 gC_23 hb ?_
    refine V.goto (tgt := 49) dX7_bites_37 (by decide) ?_
    exact V.forget (vX7_bites_49 h hQ) trivial
  · refine V.if_ne (tgt := 40) dX7_bites_25 (by decide) (fun _ => ?_) (fun hn => absurd hn hc)
    refine V.aload_n dX7_bites_40 rfl ?_
    refine V.get dX7_bites_41 flX7_33 nC_0 gC_0 (by decide) (eC_0_3 _ _) ?_
    refine V.get dX7_bites_44 flX7_198 nC_13 gC_13 (by decide) (eC_13_13 _ _) ?_
    refine V.iload_n dX7_bites_47 rfl ?_
    obtain ⟨hb, h⟩ := ckn h
    refine V.iald dX7_bites_48 nC_24 gC_24 hb ?_
    exact V.forget (vX7_bites_49 h hQ) trivial
def fX7_bites (l1 : Int32) (l2 : Int32) (σ : vMem) : Option (Int32 × vMem) :=
  (fX7_isFloor l1 σ).bind fun q1 => if q1.1 = 0 then (fX7_bites_17 q1.2) else
  (if l2 = 0 then (fX7_bites_20 l1 l2 q1.2) else
  (if l2 = (1 : Int32) then (fX7_bites_20 l1 l2 q1.2) else
  (fX7_bites_17 q1.2)))
theorem vX7_bites {ad : Nat → Nat} {Q : Option Value → vMem → Prop} {r : (Int32 × vMem)} {l1 : Int32} {l2 : Int32} {σ : vMem} (h : fX7_bites l1 l2 σ = some r) (hQ : Q (some (.int r.1)) r.2) : V GC mX7_bites ad Q 5 0 [some (.ref (ad 0)), some (.int l1), some (.int l2)] [] σ := by
  unfold fX7_bites at h
  refine V.aload_n dX7_bites_0 rfl ?_
  refine V.iload_n dX7_bites_1 rfl ?_
  obtain ⟨q1, h1, h⟩ := bdc h
  refine V.callV1 (mc := mX7_isFloor) (d' := 0) dX7_bites_2 lkX7_113 hfX7_isFloor nC_0 gC_0 rfl (by decide) (Nat.le_of_ble_eq_true rfl) (Nat.le_of_ble_eq_true rfl) (vX7_isFloor h1 ?_)
  rcases itc h with ⟨hc, h⟩ | ⟨hc, h⟩
  · refine V.if_eq (tgt := 17) dX7_bites_5 (by decide) (fun _ => ?_) (fun hn => absurd hc hn)
    exact V.forget (vX7_bites_17 h hQ) trivial
  · refine V.if_eq (tgt := 17) dX7_bites_5 (by decide) (fun hn => absurd hn hc) (fun _ => ?_)
    refine V.iload_n dX7_bites_8 rfl ?_
    rcases itc h with ⟨hc, h⟩ | ⟨hc, h⟩
    · refine V.if_eq (tgt := 20) dX7_bites_9 (by decide) (fun _ => ?_) (fun hn => absurd hc hn)
      exact V.forget (vX7_bites_20 h hQ) ⟨rfl, ⟨rfl, ⟨rfl, trivial⟩⟩⟩
    · refine V.if_eq (tgt := 20) dX7_bites_9 (by decide) (fun hn => absurd hn hc) (fun _ => ?_)
      refine V.iload_n dX7_bites_12 rfl ?_
      refine V.iconst ic_1 dX7_bites_13 ?_
      rcases itc h with ⟨hc, h⟩ | ⟨hc, h⟩
      · refine V.icmp_eq (tgt := 20) dX7_bites_14 (by decide) (fun _ => ?_) (fun hn => absurd hc hn)
        exact V.forget (vX7_bites_20 h hQ) ⟨rfl, ⟨rfl, ⟨rfl, trivial⟩⟩⟩
      · refine V.icmp_eq (tgt := 20) dX7_bites_14 (by decide) (fun hn => absurd hn hc) (fun _ => ?_)
        exact V.forget (vX7_bites_17 h hQ) trivial
def fX5_loadInAll_4 (K4 : Int32 → Int32 → vMem → Option (Int32 × vMem)) (l1 : Int32) (l2 : Int32) (σ : vMem) : Option (Int32 × vMem) :=
  if (σ.1 5 5) ≤ l2 then (some (l1, σ)) else
  (if l2 < 0 ∨ 8 ≤ l2.toNatClampNeg then none else K4 (l1 + (σ.1 10 l2.toNatClampNeg)) (l2 + (1 : Int32)) σ)
theorem vX5_loadInAll_4 {ad : Nat → Nat} {Q : Option Value → vMem → Prop} {r : (Int32 × vMem)} {K4 : Int32 → Int32 → vMem → Option (Int32 × vMem)} (hK4 : ∀ (l1 : Int32) (l2 : Int32) (σ : vMem), K4 l1 l2 σ = some r → V GC mX5_loadInAll ad Q 0 4 [some (.ref (ad 5)), some (.int l1), some (.int l2)] [] σ) {l1 : Int32} {l2 : Int32} {σ : vMem} (h : fX5_loadInAll_4 K4 l1 l2 σ = some r) (hQ : Q (some (.int r.1)) r.2) : V GC mX5_loadInAll ad Q 0 4 [some (.ref (ad 5)), some (.int l1), some (.int l2)] [] σ := by
  unfold fX5_loadInAll_4 at h
  refine V.iload_n dX5_loadInAll_4 rfl ?_
  refine V.aload_n dX5_loadInAll_5 rfl ?_
  refine V.get dX5_loadInAll_6 flX5_28 nC_5 gC_5 (by decide) (eC_5_5 _ _) ?_
  rcases itc h with ⟨hc, h⟩ | ⟨hc, h⟩
  · refine V.icmp_ge (tgt := 27) dX5_loadInAll_9 (by decide) (fun _ => ?_) (fun hn => absurd hc hn)
    refine V.iload_n dX5_loadInAll_27 rfl ?_
    obtain rfl := Option.some.inj h
    exact V.iret dX5_loadInAll_28 rfl hQ
  · refine V.icmp_ge (tgt := 27) dX5_loadInAll_9 (by decide) (fun hn => absurd hn hc) (fun _ => ?_)
    refine V.iload_n dX5_loadInAll_12 rfl ?_
    refine V.aload_n dX5_loadInAll_13 rfl ?_
    refine V.get dX5_loadInAll_14 flX5_37 nC_5 gC_5 (by decide) (eC_5_8 _ _) ?_
    refine V.iload_n dX5_loadInAll_17 rfl ?_
    obtain ⟨hb, h⟩ := ckn h
    refine V.iald dX5_loadInAll_18 nC_10 gC_10 hb ?_
    refine V.iadd dX5_loadInAll_19 ?_
    refine V.istore_n dX5_loadInAll_20 (by decide) rfl ?_
    refine V.iinc dX5_loadInAll_21 rfl (ii_1 _) (by decide) rfl ?_
    refine V.goto (tgt := 4) dX5_loadInAll_24 (by decide) ?_
    exact V.forget (hK4 _ _ _ h) ⟨rfl, ⟨rfl, ⟨rfl, trivial⟩⟩⟩
def LfX5_loadInAll_4 : Nat → Int32 → Int32 → vMem → Option (Int32 × vMem)
  | 0, _, _, _ => none
  | n + 1, l1, l2, σ => fX5_loadInAll_4 (LfX5_loadInAll_4 n) l1 l2 σ
theorem LvX5_loadInAll_4 {ad : Nat → Nat} {Q : Option Value → vMem → Prop} {r : (Int32 × vMem)} (hQ : Q (some (.int r.1)) r.2) : ∀ (n : Nat) (l1 : Int32) (l2 : Int32) (σ : vMem), LfX5_loadInAll_4 n l1 l2 σ = some r → V GC mX5_loadInAll ad Q 0 4 [some (.ref (ad 5)), some (.int l1), some (.int l2)] [] σ := by
  intro n
  induction n with
  | zero => intro l1 l2 σ h; cases h
  | succ n ih => intro l1 l2 σ h; exact vX5_loadInAll_4 ih h hQ
def fX5_loadInAll (σ : vMem) : Option (Int32 × vMem) :=
  LfX5_loadInAll_4 200 (0 : Int32) (0 : Int32) σ
theorem vX5_loadInAll {ad : Nat → Nat} {Q : Option Value → vMem → Prop} {r : (Int32 × vMem)} {σ : vMem} (h : fX5_loadInAll σ = some r) (hQ : Q (some (.int r.1)) r.2) : V GC mX5_loadInAll ad Q 0 0 [some (.ref (ad 5)), none, none] [] σ := by
  unfold fX5_loadInAll at h
  refine V.iconst ic_0 dX5_loadInAll_0 ?_
  refine V.istore_n dX5_loadInAll_1 (by decide) rfl ?_
  refine V.iconst ic_0 dX5_loadInAll_2 ?_
  refine V.istore_n dX5_loadInAll_3 (by decide) rfl ?_
  exact V.forget (LvX5_loadInAll_4 hQ 200 _ _ _ h) ⟨rfl, ⟨rfl, ⟨rfl, trivial⟩⟩⟩
def fX6_loadUp_34 (K4 : Int32 → Int32 → vMem → Option (Int32 × vMem)) (l1 : Int32) (l2 : Int32) (σ : vMem) : Option (Int32 × vMem) :=
  K4 l1 (l2 + (1 : Int32)) σ
theorem vX6_loadUp_34 {ad : Nat → Nat} {Q : Option Value → vMem → Prop} {r : (Int32 × vMem)} {K4 : Int32 → Int32 → vMem → Option (Int32 × vMem)} (hK4 : ∀ (l1 : Int32) (l2 : Int32) (σ : vMem), K4 l1 l2 σ = some r → V GC mX6_loadUp ad Q 0 4 [some (.ref (ad 13)), some (.int l1), some (.int l2)] [] σ) {l1 : Int32} {l2 : Int32} {σ : vMem} (h : fX6_loadUp_34 K4 l1 l2 σ = some r) (hQ : Q (some (.int r.1)) r.2) : V GC mX6_loadUp ad Q 0 34 [some (.ref (ad 13)), some (.int l1), some (.int l2)] [] σ := by
  unfold fX6_loadUp_34 at h
  refine V.iinc dX6_loadUp_34 rfl (ii_1 _) (by decide) rfl ?_
  refine V.goto (tgt := 4) dX6_loadUp_37 (by decide) ?_
  exact V.forget (hK4 _ _ _ h) ⟨rfl, ⟨rfl, ⟨rfl, trivial⟩⟩⟩
def fX6_loadUp_4 (K4 : Int32 → Int32 → vMem → Option (Int32 × vMem)) (l1 : Int32) (l2 : Int32) (σ : vMem) : Option (Int32 × vMem) :=
  if (σ.1 5 5) ≤ l2 then (some (l1, σ)) else
  (if l2 < 0 ∨ 8 ≤ l2.toNatClampNeg then none else if (σ.1 17 l2.toNatClampNeg) = (-1 : Int32) then (fX6_loadUp_34 K4 l1 l2 σ) else
  (if l2 < 0 ∨ 8 ≤ l2.toNatClampNeg then none else fX6_loadUp_34 K4 (l1 + (σ.1 15 l2.toNatClampNeg)) l2 σ))
theorem vX6_loadUp_4 {ad : Nat → Nat} {Q : Option Value → vMem → Prop} {r : (Int32 × vMem)} {K4 : Int32 → Int32 → vMem → Option (Int32 × vMem)} (hK4 : ∀ (l1 : Int32) (l2 : Int32) (σ : vMem), K4 l1 l2 σ = some r → V GC mX6_loadUp ad Q 0 4 [some (.ref (ad 13)), some (.int l1), some (.int l2)] [] σ) {l1 : Int32} {l2 : Int32} {σ : vMem} (h : fX6_loadUp_4 K4 l1 l2 σ = some r) (hQ : Q (some (.int r.1)) r.2) : V GC mX6_loadUp ad Q 0 4 [some (.ref (ad 13)), some (.int l1), some (.int l2)] [] σ := by
  unfold fX6_loadUp_4 at h
  refine V.iload_n dX6_loadUp_4 rfl ?_
  refine V.aload_n dX6_loadUp_5 rfl ?_
  refine V.get dX6_loadUp_6 flX6_65 nC_13 gC_13 (by decide) (eC_13_0 _ _) ?_
  refine V.get dX6_loadUp_9 flX6_82 nC_5 gC_5 (by decide) (eC_5_5 _ _) ?_
  rcases itc h with ⟨hc, h⟩ | ⟨hc, h⟩
  · refine V.icmp_ge (tgt := 40) dX6_loadUp_12 (by decide) (fun _ => ?_) (fun hn => absurd hc hn)
    refine V.iload_n dX6_loadUp_40 rfl ?_
    obtain rfl := Option.some.inj h
    exact V.iret dX6_loadUp_41 rfl hQ
  · refine V.icmp_ge (tgt := 40) dX6_loadUp_12 (by decide) (fun hn => absurd hn hc) (fun _ => ?_)
    refine V.aload_n dX6_loadUp_15 rfl ?_
    refine V.get dX6_loadUp_16 flX6_28 nC_13 gC_13 (by decide) (eC_13_6 _ _) ?_
    refine V.iload_n dX6_loadUp_19 rfl ?_
    obtain ⟨hb, h⟩ := ckn h
    refine V.iald dX6_loadUp_20 nC_17 gC_17 hb ?_
    refine V.iconst ic_m1 dX6_loadUp_21 ?_
    rcases itc h with ⟨hc, h⟩ | ⟨hc, h⟩
    · refine V.icmp_eq (tgt := 34) dX6_loadUp_22 (by decide) (fun _ => ?_) (fun hn => absurd hc hn)
      exact V.forget (vX6_loadUp_34 hK4 h hQ) ⟨rfl, ⟨rfl, ⟨rfl, trivial⟩⟩⟩
    · refine V.icmp_eq (tgt := 34) dX6_loadUp_22 (by decide) (fun hn => absurd hn hc) (fun _ => ?_)
      refine V.iload_n dX6_loadUp_25 rfl ?_
      refine V.aload_n dX6_loadUp_26 rfl ?_
      refine V.get dX6_loadUp_27 flX6_22 nC_13 gC_13 (by decide) (eC_13_4 _ _) ?_
      refine V.iload_n dX6_loadUp_30 rfl ?_
      obtain ⟨hb, h⟩ := ckn h
      refine V.iald dX6_loadUp_31 nC_15 gC_15 hb ?_
      refine V.iadd dX6_loadUp_32 ?_
      refine V.istore_n dX6_loadUp_33 (by decide) rfl ?_
      exact V.forget (vX6_loadUp_34 hK4 h hQ) ⟨rfl, ⟨rfl, ⟨rfl, trivial⟩⟩⟩
def LfX6_loadUp_4 : Nat → Int32 → Int32 → vMem → Option (Int32 × vMem)
  | 0, _, _, _ => none
  | n + 1, l1, l2, σ => fX6_loadUp_4 (LfX6_loadUp_4 n) l1 l2 σ
theorem LvX6_loadUp_4 {ad : Nat → Nat} {Q : Option Value → vMem → Prop} {r : (Int32 × vMem)} (hQ : Q (some (.int r.1)) r.2) : ∀ (n : Nat) (l1 : Int32) (l2 : Int32) (σ : vMem), LfX6_loadUp_4 n l1 l2 σ = some r → V GC mX6_loadUp ad Q 0 4 [some (.ref (ad 13)), some (.int l1), some (.int l2)] [] σ := by
  intro n
  induction n with
  | zero => intro l1 l2 σ h; cases h
  | succ n ih => intro l1 l2 σ h; exact vX6_loadUp_4 ih h hQ
def fX6_loadUp (σ : vMem) : Option (Int32 × vMem) :=
  LfX6_loadUp_4 200 (0 : Int32) (0 : Int32) σ
theorem vX6_loadUp {ad : Nat → Nat} {Q : Option Value → vMem → Prop} {r : (Int32 × vMem)} {σ : vMem} (h : fX6_loadUp σ = some r) (hQ : Q (some (.int r.1)) r.2) : V GC mX6_loadUp ad Q 0 0 [some (.ref (ad 13)), none, none] [] σ := by
  unfold fX6_loadUp at h
  refine V.iconst ic_0 dX6_loadUp_0 ?_
  refine V.istore_n dX6_loadUp_1 (by decide) rfl ?_
  refine V.iconst ic_0 dX6_loadUp_2 ?_
  refine V.istore_n dX6_loadUp_3 (by decide) rfl ?_
  exact V.forget (LvX6_loadUp_4 hQ 200 _ _ _ h) ⟨rfl, ⟨rfl, ⟨rfl, trivial⟩⟩⟩
def fX7_famine (σ : vMem) : Option (Int32 × vMem) :=
  (fX7_goAsTold σ).bind fun q1 => (fX5_loadInAll q1).bind fun q2 => (fX6_loadUp q2.2).bind fun q3 => some ((q2.1 - q3.1), q3.2)
theorem vX7_famine {ad : Nat → Nat} {Q : Option Value → vMem → Prop} {r : (Int32 × vMem)} {σ : vMem} (h : fX7_famine σ = some r) (hQ : Q (some (.int r.1)) r.2) : V GC mX7_famine ad Q 5 0 [some (.ref (ad 0))] [] σ := by
  unfold fX7_famine at h
  refine V.aload_n dX7_famine_0 rfl ?_
  obtain ⟨q1, h1, h⟩ := bdc h
  refine V.callV0 (mc := mX7_goAsTold) (d' := 4) dX7_famine_1 lkX7_186 hfX7_goAsTold nC_0 gC_0 rfl (by decide) (Nat.le_of_ble_eq_true rfl) (Nat.le_of_ble_eq_true rfl) (vX7_goAsTold h1 ?_)
  refine V.aload_n dX7_famine_4 rfl ?_
  refine V.get dX7_famine_5 flX7_24 nC_0 gC_0 (by decide) (eC_0_2 _ _) ?_
  obtain ⟨q2, h1, h⟩ := bdc h
  refine V.callV0 (mc := mX5_loadInAll) (d' := 0) dX7_famine_8 lkX7_201 hfX5_loadInAll nC_5 gC_5 rfl (by decide) (Nat.le_of_ble_eq_true rfl) (Nat.le_of_ble_eq_true rfl) (vX5_loadInAll h1 ?_)
  refine V.aload_n dX7_famine_11 rfl ?_
  refine V.get dX7_famine_12 flX7_33 nC_0 gC_0 (by decide) (eC_0_3 _ _) ?_
  obtain ⟨q3, h1, h⟩ := bdc h
  refine V.callV0 (mc := mX6_loadUp) (d' := 0) dX7_famine_15 lkX7_205 hfX6_loadUp nC_13 gC_13 rfl (by decide) (Nat.le_of_ble_eq_true rfl) (Nat.le_of_ble_eq_true rfl) (vX6_loadUp h1 ?_)
  refine V.isub dX7_famine_18 ?_
  obtain rfl := Option.some.inj h
  exact V.iret dX7_famine_19 rfl hQ
def fX7_first_37 (s0 : Int32) (σ : vMem) : Option (Int32 × vMem) :=
  some (s0, σ)
theorem vX7_first_37 {ad : Nat → Nat} {Q : Option Value → vMem → Prop} {r : (Int32 × vMem)} {s0 : Int32} {σ : vMem} (h : fX7_first_37 s0 σ = some r) (hQ : Q (some (.int r.1)) r.2) : V GC mX7_first ad Q 5 37 [none, none] [.int s0] σ := by
  unfold fX7_first_37 at h
  obtain rfl := Option.some.inj h
  exact V.iret dX7_first_37 rfl hQ
def fX7_first_12 (l1 : Int32) (σ : vMem) : Option (Int32 × vMem) :=
  (fX7_goAsTold σ).bind fun q1 => if l1 = 0 then (fX7_first_37 (q1.1 13 16) q1) else
  (fX7_first_37 (q1.1 13 17) q1)
theorem vX7_first_12 {ad : Nat → Nat} {Q : Option Value → vMem → Prop} {r : (Int32 × vMem)} {l1 : Int32} {σ : vMem} (h : fX7_first_12 l1 σ = some r) (hQ : Q (some (.int r.1)) r.2) : V GC mX7_first ad Q 5 12 [some (.ref (ad 0)), some (.int l1)] [] σ := by
  unfold fX7_first_12 at h
  refine V.aload_n dX7_first_12 rfl ?_
  obtain ⟨q1, h1, h⟩ := bdc h
  refine V.callV0 (mc := mX7_goAsTold) (d' := 4) dX7_first_13 lkX7_186 hfX7_goAsTold nC_0 gC_0 rfl (by decide) (Nat.le_of_ble_eq_true rfl) (Nat.le_of_ble_eq_true rfl) (vX7_goAsTold h1 ?_)
  refine V.iload_n dX7_first_16 rfl ?_
  rcases itc h with ⟨hc, h⟩ | ⟨hc, h⟩
  · refine V.if_ne (tgt := 30) dX7_first_17 (by decide) (fun hn => absurd hc hn) (fun _ => ?_)
    refine V.aload_n dX7_first_20 rfl ?_
    refine V.get dX7_first_21 flX7_33 nC_0 gC_0 (by decide) (eC_0_3 _ _) ?_
    refine V.get dX7_first_24 flX7_208 nC_13 gC_13 (by decide) (eC_13_16 _ _) ?_
    refine V.goto (tgt := 37) dX7_first_27 (by decide) ?_
    exact V.forget (vX7_first_37 h hQ) trivial
  · refine V.if_ne (tgt := 30) dX7_first_17 (by decide) (fun _ => ?_) (fun hn => absurd hn hc)
    refine V.aload_n dX7_first_30 rfl ?_
    refine V.get dX7_first_31 flX7_33 nC_0 gC_0 (by decide) (eC_0_3 _ _) ?_
    refine V.get dX7_first_34 flX7_211 nC_13 gC_13 (by decide) (eC_13_17 _ _) ?_
    exact V.forget (vX7_first_37 h hQ) trivial
def fX7_first (l1 : Int32) (σ : vMem) : Option (Int32 × vMem) :=
  if l1 = 0 then (fX7_first_12 l1 σ) else
  (if l1 = (1 : Int32) then (fX7_first_12 l1 σ) else
  (some ((-2 : Int32), σ)))
theorem vX7_first {ad : Nat → Nat} {Q : Option Value → vMem → Prop} {r : (Int32 × vMem)} {l1 : Int32} {σ : vMem} (h : fX7_first l1 σ = some r) (hQ : Q (some (.int r.1)) r.2) : V GC mX7_first ad Q 5 0 [some (.ref (ad 0)), some (.int l1)] [] σ := by
  unfold fX7_first at h
  refine V.iload_n dX7_first_0 rfl ?_
  rcases itc h with ⟨hc, h⟩ | ⟨hc, h⟩
  · refine V.if_eq (tgt := 12) dX7_first_1 (by decide) (fun _ => ?_) (fun hn => absurd hc hn)
    exact V.forget (vX7_first_12 h hQ) ⟨rfl, ⟨rfl, trivial⟩⟩
  · refine V.if_eq (tgt := 12) dX7_first_1 (by decide) (fun hn => absurd hn hc) (fun _ => ?_)
    refine V.iload_n dX7_first_4 rfl ?_
    refine V.iconst ic_1 dX7_first_5 ?_
    rcases itc h with ⟨hc, h⟩ | ⟨hc, h⟩
    · refine V.icmp_eq (tgt := 12) dX7_first_6 (by decide) (fun _ => ?_) (fun hn => absurd hc hn)
      exact V.forget (vX7_first_12 h hQ) ⟨rfl, ⟨rfl, trivial⟩⟩
    · refine V.icmp_eq (tgt := 12) dX7_first_6 (by decide) (fun hn => absurd hn hc) (fun _ => ?_)
      refine V.bipush bp_m2 dX7_first_9 ?_
      obtain rfl := Option.some.inj h
      exact V.iret dX7_first_11 rfl hQ
def fX0_clear_5 (σ : vMem) : Option vMem :=
  some (vup σ 37 1 (-1 : Int32))
theorem vX0_clear_5 {ad : Nat → Nat} {Q : Option Value → vMem → Prop} {r : vMem} {σ : vMem} (h : fX0_clear_5 σ = some r) (hQ : Q none r) : V GC mX0_clear ad Q 0 5 [some (.ref (ad 37))] [] σ := by
  unfold fX0_clear_5 at h
  refine V.aload_n dX0_clear_5 rfl ?_
  refine V.iconst ic_m1 dX0_clear_6 ?_
  refine V.putI dX0_clear_7 fpX0_15 nC_37 gC_37 (by decide) rfl ?_
  obtain rfl := Option.some.inj h
  exact V.vret dX0_clear_10 rfl hQ
def fX0_clear (σ : vMem) : Option vMem :=
  fX0_clear_5 (vup σ 37 0 (-1 : Int32))
theorem vX0_clear {ad : Nat → Nat} {Q : Option Value → vMem → Prop} {r : vMem} {σ : vMem} (h : fX0_clear σ = some r) (hQ : Q none r) : V GC mX0_clear ad Q 0 0 [some (.ref (ad 37))] [] σ := by
  unfold fX0_clear at h
  refine V.aload_n dX0_clear_0 rfl ?_
  refine V.iconst ic_m1 dX0_clear_1 ?_
  refine V.putI dX0_clear_2 fpX0_9 nC_37 gC_37 (by decide) rfl ?_
  exact V.forget (vX0_clear_5 h hQ) ⟨rfl, trivial⟩
def fX0_offer_18 (σ : vMem) : Option vMem :=
  some σ
theorem vX0_offer_18 {ad : Nat → Nat} {Q : Option Value → vMem → Prop} {r : vMem} {σ : vMem} (h : fX0_offer_18 σ = some r) (hQ : Q none r) : V GC mX0_offer ad Q 0 18 [none, none, none] [] σ := by
  unfold fX0_offer_18 at h
  obtain rfl := Option.some.inj h
  exact V.vret dX0_offer_18 rfl hQ
def fX0_offer_13 (l2 : Int32) (σ : vMem) : Option vMem :=
  fX0_offer_18 (vup σ 37 1 l2)
theorem vX0_offer_13 {ad : Nat → Nat} {Q : Option Value → vMem → Prop} {r : vMem} {l2 : Int32} {σ : vMem} (h : fX0_offer_13 l2 σ = some r) (hQ : Q none r) : V GC mX0_offer ad Q 0 13 [some (.ref (ad 37)), none, some (.int l2)] [] σ := by
  unfold fX0_offer_13 at h
  refine V.aload_n dX0_offer_13 rfl ?_
  refine V.iload_n dX0_offer_14 rfl ?_
  refine V.putI dX0_offer_15 fpX0_15 nC_37 gC_37 (by decide) rfl ?_
  exact V.forget (vX0_offer_18 h hQ) trivial
def fX0_offer (l1 : Int32) (l2 : Int32) (σ : vMem) : Option vMem :=
  if l2 ≤ (σ.1 37 1) then (fX0_offer_18 σ) else
  (fX0_offer_13 l2 (vup σ 37 0 l1))
theorem vX0_offer {ad : Nat → Nat} {Q : Option Value → vMem → Prop} {r : vMem} {l1 : Int32} {l2 : Int32} {σ : vMem} (h : fX0_offer l1 l2 σ = some r) (hQ : Q none r) : V GC mX0_offer ad Q 0 0 [some (.ref (ad 37)), some (.int l1), some (.int l2)] [] σ := by
  unfold fX0_offer at h
  refine V.iload_n dX0_offer_0 rfl ?_
  refine V.aload_n dX0_offer_1 rfl ?_
  refine V.get dX0_offer_2 flX0_15 nC_37 gC_37 (by decide) (eC_37_1 _ _) ?_
  rcases itc h with ⟨hc, h⟩ | ⟨hc, h⟩
  · refine V.icmp_le (tgt := 18) dX0_offer_5 (by decide) (fun _ => ?_) (fun hn => absurd hc hn)
    exact V.forget (vX0_offer_18 h hQ) trivial
  · refine V.icmp_le (tgt := 18) dX0_offer_5 (by decide) (fun hn => absurd hn hc) (fun _ => ?_)
    refine V.aload_n dX0_offer_8 rfl ?_
    refine V.iload_n dX0_offer_9 rfl ?_
    refine V.putI dX0_offer_10 fpX0_9 nC_37 gC_37 (by decide) rfl ?_
    exact V.forget (vX0_offer_13 h hQ) ⟨rfl, ⟨rfl, trivial⟩⟩
def fX7_greedy_13 (K13 : Int32 → vMem → Option (Int32 × vMem)) (l1 : Int32) (σ : vMem) : Option (Int32 × vMem) :=
  if (σ.1 5 0) ≤ l1 then (some ((σ.1 37 0), σ)) else
  (if l1 < 0 ∨ 9 ≤ l1.toNatClampNeg then none else (fX0_offer l1 (σ.1 24 l1.toNatClampNeg) σ).bind fun q1 => K13 (l1 + (1 : Int32)) q1)
theorem vX7_greedy_13 {ad : Nat → Nat} {Q : Option Value → vMem → Prop} {r : (Int32 × vMem)} {K13 : Int32 → vMem → Option (Int32 × vMem)} (hK13 : ∀ (l1 : Int32) (σ : vMem), K13 l1 σ = some r → V GC mX7_greedy ad Q 5 13 [some (.ref (ad 0)), some (.int l1)] [] σ) {l1 : Int32} {σ : vMem} (h : fX7_greedy_13 K13 l1 σ = some r) (hQ : Q (some (.int r.1)) r.2) : V GC mX7_greedy ad Q 5 13 [some (.ref (ad 0)), some (.int l1)] [] σ := by
  unfold fX7_greedy_13 at h
  refine V.iload_n dX7_greedy_13 rfl ?_
  refine V.aload_n dX7_greedy_14 rfl ?_
  refine V.get dX7_greedy_15 flX7_24 nC_0 gC_0 (by decide) (eC_0_2 _ _) ?_
  refine V.get dX7_greedy_18 flX7_217 nC_5 gC_5 (by decide) (eC_5_0 _ _) ?_
  rcases itc h with ⟨hc, h⟩ | ⟨hc, h⟩
  · refine V.icmp_ge (tgt := 47) dX7_greedy_21 (by decide) (fun _ => ?_) (fun hn => absurd hc hn)
    refine V.aload_n dX7_greedy_47 rfl ?_
    refine V.get dX7_greedy_48 flX7_64 nC_0 gC_0 (by decide) (eC_0_8 _ _) ?_
    refine V.get dX7_greedy_51 flX7_224 nC_37 gC_37 (by decide) (eC_37_0 _ _) ?_
    obtain rfl := Option.some.inj h
    exact V.iret dX7_greedy_54 rfl hQ
  · refine V.icmp_ge (tgt := 47) dX7_greedy_21 (by decide) (fun hn => absurd hn hc) (fun _ => ?_)
    refine V.aload_n dX7_greedy_24 rfl ?_
    refine V.get dX7_greedy_25 flX7_64 nC_0 gC_0 (by decide) (eC_0_8 _ _) ?_
    refine V.iload_n dX7_greedy_28 rfl ?_
    refine V.aload_n dX7_greedy_29 rfl ?_
    refine V.get dX7_greedy_30 flX7_33 nC_0 gC_0 (by decide) (eC_0_3 _ _) ?_
    refine V.get dX7_greedy_33 flX7_198 nC_13 gC_13 (by decide) (eC_13_13 _ _) ?_
    refine V.iload_n dX7_greedy_36 rfl ?_
    obtain ⟨hb, h⟩ := ckn h
    refine V.iald dX7_greedy_37 nC_24 gC_24 hb ?_
    obtain ⟨q1, h1, h⟩ := bdc h
    refine V.callV2 (mc := mX0_offer) (d' := 0) dX7_greedy_38 lkX7_220 hfX0_offer nC_37 gC_37 rfl (by decide) (Nat.le_of_ble_eq_true rfl) (Nat.le_of_ble_eq_true rfl) (vX0_offer h1 ?_)
    refine V.iinc dX7_greedy_41 rfl (ii_1 _) (by decide) rfl ?_
    refine V.goto (tgt := 13) dX7_greedy_44 (by decide) ?_
    exact V.forget (hK13 _ _ h) ⟨rfl, ⟨rfl, trivial⟩⟩
def LfX7_greedy_13 : Nat → Int32 → vMem → Option (Int32 × vMem)
  | 0, _, _ => none
  | n + 1, l1, σ => fX7_greedy_13 (LfX7_greedy_13 n) l1 σ
theorem LvX7_greedy_13 {ad : Nat → Nat} {Q : Option Value → vMem → Prop} {r : (Int32 × vMem)} (hQ : Q (some (.int r.1)) r.2) : ∀ (n : Nat) (l1 : Int32) (σ : vMem), LfX7_greedy_13 n l1 σ = some r → V GC mX7_greedy ad Q 5 13 [some (.ref (ad 0)), some (.int l1)] [] σ := by
  intro n
  induction n with
  | zero => intro l1 σ h; cases h
  | succ n ih => intro l1 σ h; exact vX7_greedy_13 ih h hQ
def fX7_greedy (σ : vMem) : Option (Int32 × vMem) :=
  (fX7_goAsTold σ).bind fun q1 => (fX0_clear q1).bind fun q2 => LfX7_greedy_13 200 (0 : Int32) q2
theorem vX7_greedy {ad : Nat → Nat} {Q : Option Value → vMem → Prop} {r : (Int32 × vMem)} {σ : vMem} (h : fX7_greedy σ = some r) (hQ : Q (some (.int r.1)) r.2) : V GC mX7_greedy ad Q 5 0 [some (.ref (ad 0)), none] [] σ := by
  unfold fX7_greedy at h
  refine V.aload_n dX7_greedy_0 rfl ?_
  obtain ⟨q1, h1, h⟩ := bdc h
  refine V.callV0 (mc := mX7_goAsTold) (d' := 4) dX7_greedy_1 lkX7_186 hfX7_goAsTold nC_0 gC_0 rfl (by decide) (Nat.le_of_ble_eq_true rfl) (Nat.le_of_ble_eq_true rfl) (vX7_goAsTold h1 ?_)
  refine V.aload_n dX7_greedy_4 rfl ?_
  refine V.get dX7_greedy_5 flX7_64 nC_0 gC_0 (by decide) (eC_0_8 _ _) ?_
  obtain ⟨q2, h1, h⟩ := bdc h
  refine V.callV0 (mc := mX0_clear) (d' := 0) dX7_greedy_8 lkX7_214 hfX0_clear nC_37 gC_37 rfl (by decide) (Nat.le_of_ble_eq_true rfl) (Nat.le_of_ble_eq_true rfl) (vX0_clear h1 ?_)
  refine V.iconst ic_0 dX7_greedy_11 ?_
  refine V.istore_n dX7_greedy_12 (by decide) rfl ?_
  exact V.forget (LvX7_greedy_13 hQ 200 _ _ h) ⟨rfl, ⟨rfl, trivial⟩⟩
def fX7_findHour_35 (K19 : Int32 → Int32 → Int32 → vMem → Option vMem) (l1 : Int32) (l2 : Int32) (l3 : Int32) (σ : vMem) : Option vMem :=
  (fX7_goAsTold σ).bind fun q1 => (fX6_loadUp q1).bind fun q2 => (fX0_offer l3 q2.1 q2.2).bind fun q3 => K19 l1 l2 (l3 + (1 : Int32)) q3
theorem vX7_findHour_35 {ad : Nat → Nat} {Q : Option Value → vMem → Prop} {r : vMem} {K19 : Int32 → Int32 → Int32 → vMem → Option vMem} (hK19 : ∀ (l1 : Int32) (l2 : Int32) (l3 : Int32) (σ : vMem), K19 l1 l2 l3 σ = some r → V GC mX7_findHour ad Q 5 19 [some (.ref (ad 0)), some (.int l1), some (.int l2), some (.int l3)] [] σ) {l1 : Int32} {l2 : Int32} {l3 : Int32} {σ : vMem} (h : fX7_findHour_35 K19 l1 l2 l3 σ = some r) (hQ : Q none r) : V GC mX7_findHour ad Q 5 35 [some (.ref (ad 0)), some (.int l1), some (.int l2), some (.int l3)] [] σ := by
  unfold fX7_findHour_35 at h
  refine V.aload_n dX7_findHour_35 rfl ?_
  obtain ⟨q1, h1, h⟩ := bdc h
  refine V.callV0 (mc := mX7_goAsTold) (d' := 4) dX7_findHour_36 lkX7_186 hfX7_goAsTold nC_0 gC_0 rfl (by decide) (Nat.le_of_ble_eq_true rfl) (Nat.le_of_ble_eq_true rfl) (vX7_goAsTold h1 ?_)
  refine V.aload_n dX7_findHour_39 rfl ?_
  refine V.get dX7_findHour_40 flX7_64 nC_0 gC_0 (by decide) (eC_0_8 _ _) ?_
  refine V.iload_n dX7_findHour_43 rfl ?_
  refine V.aload_n dX7_findHour_44 rfl ?_
  refine V.get dX7_findHour_45 flX7_33 nC_0 gC_0 (by decide) (eC_0_3 _ _) ?_
  obtain ⟨q2, h1, h⟩ := bdc h
  refine V.callV0 (mc := mX6_loadUp) (d' := 0) dX7_findHour_48 lkX7_205 hfX6_loadUp nC_13 gC_13 rfl (by decide) (Nat.le_of_ble_eq_true rfl) (Nat.le_of_ble_eq_true rfl) (vX6_loadUp h1 ?_)
  obtain ⟨q3, h1, h⟩ := bdc h
  refine V.callV2 (mc := mX0_offer) (d' := 0) dX7_findHour_51 lkX7_220 hfX0_offer nC_37 gC_37 rfl (by decide) (Nat.le_of_ble_eq_true rfl) (Nat.le_of_ble_eq_true rfl) (vX0_offer h1 ?_)
  refine V.iinc dX7_findHour_54 rfl (ii_1 _) (by decide) rfl ?_
  refine V.goto (tgt := 19) dX7_findHour_57 (by decide) ?_
  exact V.forget (hK19 _ _ _ _ h) ⟨rfl, ⟨rfl, ⟨rfl, ⟨rfl, trivial⟩⟩⟩⟩
def fX7_findHour_19 (K19 : Int32 → Int32 → Int32 → vMem → Option vMem) (l1 : Int32) (l2 : Int32) (l3 : Int32) (σ : vMem) : Option vMem :=
  if (30 : Int32) ≤ l3 then (if l1 < 0 ∨ 8 ≤ l1.toNatClampNeg then none else some (vup σ 9 l1.toNatClampNeg l2)) else
  (if l1 < 0 ∨ 8 ≤ l1.toNatClampNeg then none else fX7_findHour_35 K19 l1 l2 l3 (vup σ 9 l1.toNatClampNeg l3))
theorem vX7_findHour_19 {ad : Nat → Nat} {Q : Option Value → vMem → Prop} {r : vMem} {K19 : Int32 → Int32 → Int32 → vMem → Option vMem} (hK19 : ∀ (l1 : Int32) (l2 : Int32) (l3 : Int32) (σ : vMem), K19 l1 l2 l3 σ = some r → V GC mX7_findHour ad Q 5 19 [some (.ref (ad 0)), some (.int l1), some (.int l2), some (.int l3)] [] σ) {l1 : Int32} {l2 : Int32} {l3 : Int32} {σ : vMem} (h : fX7_findHour_19 K19 l1 l2 l3 σ = some r) (hQ : Q none r) : V GC mX7_findHour ad Q 5 19 [some (.ref (ad 0)), some (.int l1), some (.int l2), some (.int l3)] [] σ := by
  unfold fX7_findHour_19 at h
  refine V.iload_n dX7_findHour_19 rfl ?_
  refine V.bipush bp_30 dX7_findHour_20 ?_
  rcases itc h with ⟨hc, h⟩ | ⟨hc, h⟩
  · refine V.icmp_ge (tgt := 60) dX7_findHour_22 (by decide) (fun _ => ?_) (fun hn => absurd hc hn)
    refine V.aload_n dX7_findHour_60 rfl ?_
    refine V.get dX7_findHour_61 flX7_24 nC_0 gC_0 (by decide) (eC_0_2 _ _) ?_
    refine V.get dX7_findHour_64 flX7_128 nC_5 gC_5 (by decide) (eC_5_7 _ _) ?_
    refine V.iload_n dX7_findHour_67 rfl ?_
    refine V.iload_n dX7_findHour_68 rfl ?_
    obtain ⟨hb, h⟩ := ckn h
    refine V.iast dX7_findHour_69 nC_9 gC_9 hb ?_
    obtain rfl := Option.some.inj h
    exact V.vret dX7_findHour_70 rfl hQ
  · refine V.icmp_ge (tgt := 60) dX7_findHour_22 (by decide) (fun hn => absurd hn hc) (fun _ => ?_)
    refine V.aload_n dX7_findHour_25 rfl ?_
    refine V.get dX7_findHour_26 flX7_24 nC_0 gC_0 (by decide) (eC_0_2 _ _) ?_
    refine V.get dX7_findHour_29 flX7_128 nC_5 gC_5 (by decide) (eC_5_7 _ _) ?_
    refine V.iload_n dX7_findHour_32 rfl ?_
    refine V.iload_n dX7_findHour_33 rfl ?_
    obtain ⟨hb, h⟩ := ckn h
    refine V.iast dX7_findHour_34 nC_9 gC_9 hb ?_
    exact V.forget (vX7_findHour_35 hK19 h hQ) ⟨rfl, ⟨rfl, ⟨rfl, ⟨rfl, trivial⟩⟩⟩⟩
def LfX7_findHour_19 : Nat → Int32 → Int32 → Int32 → vMem → Option vMem
  | 0, _, _, _, _ => none
  | n + 1, l1, l2, l3, σ => fX7_findHour_19 (LfX7_findHour_19 n) l1 l2 l3 σ
theorem LvX7_findHour_19 {ad : Nat → Nat} {Q : Option Value → vMem → Prop} {r : vMem} (hQ : Q none r) : ∀ (n : Nat) (l1 : Int32) (l2 : Int32) (l3 : Int32) (σ : vMem), LfX7_findHour_19 n l1 l2 l3 σ = some r → V GC mX7_findHour ad Q 5 19 [some (.ref (ad 0)), some (.int l1), some (.int l2), some (.int l3)] [] σ := by
  intro n
  induction n with
  | zero => intro l1 l2 l3 σ h; cases h
  | succ n ih => intro l1 l2 l3 σ h; exact vX7_findHour_19 ih h hQ
def fX7_findHour (l1 : Int32) (σ : vMem) : Option vMem :=
  if l1 < 0 ∨ 8 ≤ l1.toNatClampNeg then none else (fX0_clear σ).bind fun q1 => LfX7_findHour_19 200 l1 (σ.1 9 l1.toNatClampNeg) (0 : Int32) q1
theorem vX7_findHour {ad : Nat → Nat} {Q : Option Value → vMem → Prop} {r : vMem} {l1 : Int32} {σ : vMem} (h : fX7_findHour l1 σ = some r) (hQ : Q none r) : V GC mX7_findHour ad Q 5 0 [some (.ref (ad 0)), some (.int l1), none, none] [] σ := by
  unfold fX7_findHour at h
  refine V.aload_n dX7_findHour_0 rfl ?_
  refine V.get dX7_findHour_1 flX7_24 nC_0 gC_0 (by decide) (eC_0_2 _ _) ?_
  refine V.get dX7_findHour_4 flX7_128 nC_5 gC_5 (by decide) (eC_5_7 _ _) ?_
  refine V.iload_n dX7_findHour_7 rfl ?_
  obtain ⟨hb, h⟩ := ckn h
  refine V.iald dX7_findHour_8 nC_9 gC_9 hb ?_
  refine V.istore_n dX7_findHour_9 (by decide) rfl ?_
  refine V.aload_n dX7_findHour_10 rfl ?_
  refine V.get dX7_findHour_11 flX7_64 nC_0 gC_0 (by decide) (eC_0_8 _ _) ?_
  obtain ⟨q1, h1, h⟩ := bdc h
  refine V.callV0 (mc := mX0_clear) (d' := 0) dX7_findHour_14 lkX7_214 hfX0_clear nC_37 gC_37 rfl (by decide) (Nat.le_of_ble_eq_true rfl) (Nat.le_of_ble_eq_true rfl) (vX0_clear h1 ?_)
  refine V.iconst ic_0 dX7_findHour_17 ?_
  refine V.istore_n dX7_findHour_18 (by decide) rfl ?_
  exact V.forget (LvX7_findHour_19 hQ 200 _ _ _ _ h) ⟨rfl, ⟨rfl, ⟨rfl, ⟨rfl, trivial⟩⟩⟩⟩
def fX7_send_17 (σ : vMem) : Option (Int32 × vMem) :=
  some ((-2 : Int32), σ)
theorem vX7_send_17 {ad : Nat → Nat} {Q : Option Value → vMem → Prop} {r : (Int32 × vMem)} {σ : vMem} (h : fX7_send_17 σ = some r) (hQ : Q (some (.int r.1)) r.2) : V GC mX7_send ad Q 6 17 [none, none, none] [] σ := by
  unfold fX7_send_17 at h
  refine V.bipush bp_m2 dX7_send_17 ?_
  obtain rfl := Option.some.inj h
  exact V.iret dX7_send_19 rfl hQ
def fX7_send_46 (s0 : Int32) (σ : vMem) : Option (Int32 × vMem) :=
  some (s0, σ)
theorem vX7_send_46 {ad : Nat → Nat} {Q : Option Value → vMem → Prop} {r : (Int32 × vMem)} {s0 : Int32} {σ : vMem} (h : fX7_send_46 s0 σ = some r) (hQ : Q (some (.int r.1)) r.2) : V GC mX7_send ad Q 6 46 [none, none, none] [.int s0] σ := by
  unfold fX7_send_46 at h
  obtain rfl := Option.some.inj h
  exact V.iret dX7_send_46 rfl hQ
def fX7_send_20 (l1 : Int32) (l2 : Int32) (σ : vMem) : Option (Int32 × vMem) :=
  (fX7_findHour l1 σ).bind fun q1 => if l2 = 0 then (fX7_send_46 (q1.1 37 0) q1) else
  (fX7_send_46 (q1.1 37 1) q1)
theorem vX7_send_20 {ad : Nat → Nat} {Q : Option Value → vMem → Prop} {r : (Int32 × vMem)} {l1 : Int32} {l2 : Int32} {σ : vMem} (h : fX7_send_20 l1 l2 σ = some r) (hQ : Q (some (.int r.1)) r.2) : V GC mX7_send ad Q 6 20 [some (.ref (ad 0)), some (.int l1), some (.int l2)] [] σ := by
  unfold fX7_send_20 at h
  refine V.aload_n dX7_send_20 rfl ?_
  refine V.iload_n dX7_send_21 rfl ?_
  obtain ⟨q1, h1, h⟩ := bdc h
  refine V.callV1 (mc := mX7_findHour) (d' := 5) dX7_send_22 lkX7_227 hfX7_findHour nC_0 gC_0 rfl (by decide) (Nat.le_of_ble_eq_true rfl) (Nat.le_of_ble_eq_true rfl) (vX7_findHour h1 ?_)
  refine V.iload_n dX7_send_25 rfl ?_
  rcases itc h with ⟨hc, h⟩ | ⟨hc, h⟩
  · refine V.if_ne (tgt := 39) dX7_send_26 (by decide) (fun hn => absurd hc hn) (fun _ => ?_)
    refine V.aload_n dX7_send_29 rfl ?_
    refine V.get dX7_send_30 flX7_64 nC_0 gC_0 (by decide) (eC_0_8 _ _) ?_
    refine V.get dX7_send_33 flX7_224 nC_37 gC_37 (by decide) (eC_37_0 _ _) ?_
    refine V.goto (tgt := 46) dX7_send_36 (by decide) ?_
    exact V.forget (vX7_send_46 h hQ) trivial
  · refine V.if_ne (tgt := 39) dX7_send_26 (by decide) (fun _ => ?_) (fun hn => absurd hn hc)
    refine V.aload_n dX7_send_39 rfl ?_
    refine V.get dX7_send_40 flX7_64 nC_0 gC_0 (by decide) (eC_0_8 _ _) ?_
    refine V.get dX7_send_43 flX7_230 nC_37 gC_37 (by decide) (eC_37_1 _ _) ?_
    exact V.forget (vX7_send_46 h hQ) trivial
def fX7_send (l1 : Int32) (l2 : Int32) (σ : vMem) : Option (Int32 × vMem) :=
  (fX7_isBasket l1 σ).bind fun q1 => if q1.1 = 0 then (fX7_send_17 q1.2) else
  (if l2 = 0 then (fX7_send_20 l1 l2 q1.2) else
  (if l2 = (1 : Int32) then (fX7_send_20 l1 l2 q1.2) else
  (fX7_send_17 q1.2)))
theorem vX7_send {ad : Nat → Nat} {Q : Option Value → vMem → Prop} {r : (Int32 × vMem)} {l1 : Int32} {l2 : Int32} {σ : vMem} (h : fX7_send l1 l2 σ = some r) (hQ : Q (some (.int r.1)) r.2) : V GC mX7_send ad Q 6 0 [some (.ref (ad 0)), some (.int l1), some (.int l2)] [] σ := by
  unfold fX7_send at h
  refine V.aload_n dX7_send_0 rfl ?_
  refine V.iload_n dX7_send_1 rfl ?_
  obtain ⟨q1, h1, h⟩ := bdc h
  refine V.callV1 (mc := mX7_isBasket) (d' := 0) dX7_send_2 lkX7_125 hfX7_isBasket nC_0 gC_0 rfl (by decide) (Nat.le_of_ble_eq_true rfl) (Nat.le_of_ble_eq_true rfl) (vX7_isBasket h1 ?_)
  rcases itc h with ⟨hc, h⟩ | ⟨hc, h⟩
  · refine V.if_eq (tgt := 17) dX7_send_5 (by decide) (fun _ => ?_) (fun hn => absurd hc hn)
    exact V.forget (vX7_send_17 h hQ) trivial
  · refine V.if_eq (tgt := 17) dX7_send_5 (by decide) (fun hn => absurd hn hc) (fun _ => ?_)
    refine V.iload_n dX7_send_8 rfl ?_
    rcases itc h with ⟨hc, h⟩ | ⟨hc, h⟩
    · refine V.if_eq (tgt := 20) dX7_send_9 (by decide) (fun _ => ?_) (fun hn => absurd hc hn)
      exact V.forget (vX7_send_20 h hQ) ⟨rfl, ⟨rfl, ⟨rfl, trivial⟩⟩⟩
    · refine V.if_eq (tgt := 20) dX7_send_9 (by decide) (fun hn => absurd hn hc) (fun _ => ?_)
      refine V.iload_n dX7_send_12 rfl ?_
      refine V.iconst ic_1 dX7_send_13 ?_
      rcases itc h with ⟨hc, h⟩ | ⟨hc, h⟩
      · refine V.icmp_eq (tgt := 20) dX7_send_14 (by decide) (fun _ => ?_) (fun hn => absurd hc hn)
        exact V.forget (vX7_send_20 h hQ) ⟨rfl, ⟨rfl, ⟨rfl, trivial⟩⟩⟩
      · refine V.icmp_eq (tgt := 20) dX7_send_14 (by decide) (fun hn => absurd hn hc) (fun _ => ?_)
        exact V.forget (vX7_send_17 h hQ) trivial
def fX7_isLoad_15 (s0 : Int32) (σ : vMem) : Option (Int32 × vMem) :=
  if ¬ (s0 = 0 ∨ s0 = 1) then none else some (s0, σ)
theorem vX7_isLoad_15 {ad : Nat → Nat} {Q : Option Value → vMem → Prop} {r : (Int32 × vMem)} {s0 : Int32} {σ : vMem} (h : fX7_isLoad_15 s0 σ = some r) (hQ : Q (some (.int r.1)) r.2) : V GC mX7_isLoad ad Q 0 15 [none] [.int s0] σ := by
  unfold fX7_isLoad_15 at h
  obtain ⟨hb, h⟩ := ckn h
  obtain rfl := Option.some.inj h
  exact V.zret dX7_isLoad_15 rfl (Decidable.not_not.mp hb) hQ
def fX7_isLoad_14 (σ : vMem) : Option (Int32 × vMem) :=
  fX7_isLoad_15 (0 : Int32) σ
theorem vX7_isLoad_14 {ad : Nat → Nat} {Q : Option Value → vMem → Prop} {r : (Int32 × vMem)} {σ : vMem} (h : fX7_isLoad_14 σ = some r) (hQ : Q (some (.int r.1)) r.2) : V GC mX7_isLoad ad Q 0 14 [none] [] σ := by
  unfold fX7_isLoad_14 at h
  refine V.iconst ic_0 dX7_isLoad_14 ?_
  exact V.forget (vX7_isLoad_15 h hQ) trivial
def fX7_isLoad (l0 : Int32) (σ : vMem) : Option (Int32 × vMem) :=
  if l0 < 0 then (fX7_isLoad_14 σ) else
  (if (100 : Int32) ≤ l0 then (fX7_isLoad_14 σ) else
  (fX7_isLoad_15 (1 : Int32) σ))
theorem vX7_isLoad {ad : Nat → Nat} {Q : Option Value → vMem → Prop} {r : (Int32 × vMem)} {l0 : Int32} {σ : vMem} (h : fX7_isLoad l0 σ = some r) (hQ : Q (some (.int r.1)) r.2) : V GC mX7_isLoad ad Q 0 0 [some (.int l0)] [] σ := by
  unfold fX7_isLoad at h
  refine V.iload_n dX7_isLoad_0 rfl ?_
  rcases itc h with ⟨hc, h⟩ | ⟨hc, h⟩
  · refine V.if_lt (tgt := 14) dX7_isLoad_1 (by decide) (fun _ => ?_) (fun hn => absurd hc hn)
    exact V.forget (vX7_isLoad_14 h hQ) trivial
  · refine V.if_lt (tgt := 14) dX7_isLoad_1 (by decide) (fun hn => absurd hn hc) (fun _ => ?_)
    refine V.iload_n dX7_isLoad_4 rfl ?_
    refine V.bipush bp_100 dX7_isLoad_5 ?_
    rcases itc h with ⟨hc, h⟩ | ⟨hc, h⟩
    · refine V.icmp_ge (tgt := 14) dX7_isLoad_7 (by decide) (fun _ => ?_) (fun hn => absurd hc hn)
      exact V.forget (vX7_isLoad_14 h hQ) trivial
    · refine V.icmp_ge (tgt := 14) dX7_isLoad_7 (by decide) (fun hn => absurd hn hc) (fun _ => ?_)
      refine V.iconst ic_1 dX7_isLoad_10 ?_
      refine V.goto (tgt := 15) dX7_isLoad_11 (by decide) ?_
      exact V.forget (vX7_isLoad_15 h hQ) trivial
def fX6_bringsUp_25 (s0 : Int32) (σ : vMem) : Option (Int32 × vMem) :=
  if ¬ (s0 = 0 ∨ s0 = 1) then none else some (s0, σ)
theorem vX6_bringsUp_25 {ad : Nat → Nat} {Q : Option Value → vMem → Prop} {r : (Int32 × vMem)} {s0 : Int32} {σ : vMem} (h : fX6_bringsUp_25 s0 σ = some r) (hQ : Q (some (.int r.1)) r.2) : V GC mX6_bringsUp ad Q 0 25 [none, none, none] [.int s0] σ := by
  unfold fX6_bringsUp_25 at h
  obtain ⟨hb, h⟩ := ckn h
  obtain rfl := Option.some.inj h
  exact V.zret dX6_bringsUp_25 rfl (Decidable.not_not.mp hb) hQ
def fX6_bringsUp_24 (σ : vMem) : Option (Int32 × vMem) :=
  fX6_bringsUp_25 (0 : Int32) σ
theorem vX6_bringsUp_24 {ad : Nat → Nat} {Q : Option Value → vMem → Prop} {r : (Int32 × vMem)} {σ : vMem} (h : fX6_bringsUp_24 σ = some r) (hQ : Q (some (.int r.1)) r.2) : V GC mX6_bringsUp ad Q 0 24 [none, none, none] [] σ := by
  unfold fX6_bringsUp_24 at h
  refine V.iconst ic_0 dX6_bringsUp_24 ?_
  exact V.forget (vX6_bringsUp_25 h hQ) trivial
def fX6_bringsUp (l1 : Int32) (l2 : Int32) (σ : vMem) : Option (Int32 × vMem) :=
  if l1 < 0 ∨ 8 ≤ l1.toNatClampNeg then none else if (σ.1 17 l1.toNatClampNeg) = (-1 : Int32) then (fX6_bringsUp_24 σ) else
  (if l1 < 0 ∨ 8 ≤ l1.toNatClampNeg then none else if (σ.1 15 l1.toNatClampNeg) < l2 then (fX6_bringsUp_24 σ) else
  (fX6_bringsUp_25 (1 : Int32) σ))
theorem vX6_bringsUp {ad : Nat → Nat} {Q : Option Value → vMem → Prop} {r : (Int32 × vMem)} {l1 : Int32} {l2 : Int32} {σ : vMem} (h : fX6_bringsUp l1 l2 σ = some r) (hQ : Q (some (.int r.1)) r.2) : V GC mX6_bringsUp ad Q 0 0 [some (.ref (ad 13)), some (.int l1), some (.int l2)] [] σ := by
  unfold fX6_bringsUp at h
  refine V.aload_n dX6_bringsUp_0 rfl ?_
  refine V.get dX6_bringsUp_1 flX6_28 nC_13 gC_13 (by decide) (eC_13_6 _ _) ?_
  refine V.iload_n dX6_bringsUp_4 rfl ?_
  obtain ⟨hb, h⟩ := ckn h
  refine V.iald dX6_bringsUp_5 nC_17 gC_17 hb ?_
  refine V.iconst ic_m1 dX6_bringsUp_6 ?_
  rcases itc h with ⟨hc, h⟩ | ⟨hc, h⟩
  · refine V.icmp_eq (tgt := 24) dX6_bringsUp_7 (by decide) (fun _ => ?_) (fun hn => absurd hc hn)
    exact V.forget (vX6_bringsUp_24 h hQ) trivial
  · refine V.icmp_eq (tgt := 24) dX6_bringsUp_7 (by decide) (fun hn => absurd hn hc) (fun _ => ?_)
    refine V.aload_n dX6_bringsUp_10 rfl ?_
    refine V.get dX6_bringsUp_11 flX6_22 nC_13 gC_13 (by decide) (eC_13_4 _ _) ?_
    refine V.iload_n dX6_bringsUp_14 rfl ?_
    obtain ⟨hb, h⟩ := ckn h
    refine V.iald dX6_bringsUp_15 nC_15 gC_15 hb ?_
    refine V.iload_n dX6_bringsUp_16 rfl ?_
    rcases itc h with ⟨hc, h⟩ | ⟨hc, h⟩
    · refine V.icmp_lt (tgt := 24) dX6_bringsUp_17 (by decide) (fun _ => ?_) (fun hn => absurd hc hn)
      exact V.forget (vX6_bringsUp_24 h hQ) trivial
    · refine V.icmp_lt (tgt := 24) dX6_bringsUp_17 (by decide) (fun hn => absurd hn hc) (fun _ => ?_)
      refine V.iconst ic_1 dX6_bringsUp_20 ?_
      refine V.goto (tgt := 25) dX6_bringsUp_21 (by decide) ?_
      exact V.forget (vX6_bringsUp_25 h hQ) trivial
def fX7_loaf_15 (σ : vMem) : Option (Int32 × vMem) :=
  some ((-2 : Int32), σ)
theorem vX7_loaf_15 {ad : Nat → Nat} {Q : Option Value → vMem → Prop} {r : (Int32 × vMem)} {σ : vMem} (h : fX7_loaf_15 σ = some r) (hQ : Q (some (.int r.1)) r.2) : V GC mX7_loaf ad Q 5 15 [none, none, none, none, none, none] [] σ := by
  unfold fX7_loaf_15 at h
  refine V.bipush bp_m2 dX7_loaf_15 ?_
  obtain rfl := Option.some.inj h
  exact V.iret dX7_loaf_17 rfl hQ
def fX7_loaf_94 (l4 : Int32) (σ : vMem) : Option (Int32 × vMem) :=
  some (l4, σ)
theorem vX7_loaf_94 {ad : Nat → Nat} {Q : Option Value → vMem → Prop} {r : (Int32 × vMem)} {l4 : Int32} {σ : vMem} (h : fX7_loaf_94 l4 σ = some r) (hQ : Q (some (.int r.1)) r.2) : V GC mX7_loaf ad Q 5 94 [none, none, none, none, some (.int l4), none] [] σ := by
  unfold fX7_loaf_94 at h
  refine V.iload dX7_loaf_94 rfl ?_
  obtain rfl := Option.some.inj h
  exact V.iret dX7_loaf_96 rfl hQ
def fX7_loaf_84 (l1 : Int32) (l3 : Int32) (l4 : Int32) (σ : vMem) : Option (Int32 × vMem) :=
  if l1 < 0 ∨ 8 ≤ l1.toNatClampNeg then none else fX7_loaf_94 l4 (vup σ 10 l1.toNatClampNeg l3)
theorem vX7_loaf_84 {ad : Nat → Nat} {Q : Option Value → vMem → Prop} {r : (Int32 × vMem)} {l1 : Int32} {l3 : Int32} {l4 : Int32} {σ : vMem} (h : fX7_loaf_84 l1 l3 l4 σ = some r) (hQ : Q (some (.int r.1)) r.2) : V GC mX7_loaf ad Q 5 84 [some (.ref (ad 0)), some (.int l1), none, some (.int l3), some (.int l4), none] [] σ := by
  unfold fX7_loaf_84 at h
  refine V.aload_n dX7_loaf_84 rfl ?_
  refine V.get dX7_loaf_85 flX7_24 nC_0 gC_0 (by decide) (eC_0_2 _ _) ?_
  refine V.get dX7_loaf_88 flX7_131 nC_5 gC_5 (by decide) (eC_5_8 _ _) ?_
  refine V.iload_n dX7_loaf_91 rfl ?_
  refine V.iload_n dX7_loaf_92 rfl ?_
  obtain ⟨hb, h⟩ := ckn h
  refine V.iast dX7_loaf_93 nC_10 gC_10 hb ?_
  exact V.forget (vX7_loaf_94 h hQ) ⟨rfl, trivial⟩
def fX7_loaf_78 (K34 : Int32 → Int32 → Int32 → Int32 → Int32 → vMem → Option (Int32 × vMem)) (l1 : Int32) (l2 : Int32) (l3 : Int32) (l4 : Int32) (l5 : Int32) (σ : vMem) : Option (Int32 × vMem) :=
  K34 l1 l2 l3 l4 (l5 + (1 : Int32)) σ
theorem vX7_loaf_78 {ad : Nat → Nat} {Q : Option Value → vMem → Prop} {r : (Int32 × vMem)} {K34 : Int32 → Int32 → Int32 → Int32 → Int32 → vMem → Option (Int32 × vMem)} (hK34 : ∀ (l1 : Int32) (l2 : Int32) (l3 : Int32) (l4 : Int32) (l5 : Int32) (σ : vMem), K34 l1 l2 l3 l4 l5 σ = some r → V GC mX7_loaf ad Q 5 34 [some (.ref (ad 0)), some (.int l1), some (.int l2), some (.int l3), some (.int l4), some (.int l5)] [] σ) {l1 : Int32} {l2 : Int32} {l3 : Int32} {l4 : Int32} {l5 : Int32} {σ : vMem} (h : fX7_loaf_78 K34 l1 l2 l3 l4 l5 σ = some r) (hQ : Q (some (.int r.1)) r.2) : V GC mX7_loaf ad Q 5 78 [some (.ref (ad 0)), some (.int l1), some (.int l2), some (.int l3), some (.int l4), some (.int l5)] [] σ := by
  unfold fX7_loaf_78 at h
  refine V.iinc dX7_loaf_78 rfl (ii_1 _) (by decide) rfl ?_
  refine V.goto (tgt := 34) dX7_loaf_81 (by decide) ?_
  exact V.forget (hK34 _ _ _ _ _ _ h) ⟨rfl, ⟨rfl, ⟨rfl, ⟨rfl, ⟨rfl, ⟨rfl, trivial⟩⟩⟩⟩⟩⟩
def fX7_loaf_58 (K34 : Int32 → Int32 → Int32 → Int32 → Int32 → vMem → Option (Int32 × vMem)) (l1 : Int32) (l2 : Int32) (l3 : Int32) (l4 : Int32) (l5 : Int32) (σ : vMem) : Option (Int32 × vMem) :=
  (fX7_goAsTold σ).bind fun q1 => (fX6_bringsUp l1 l2 q1).bind fun q2 => if q2.1 = 0 then (fX7_loaf_78 K34 l1 l2 l3 l4 l5 q2.2) else
  (fX7_loaf_78 K34 l1 l2 l3 l5 l5 q2.2)
theorem vX7_loaf_58 {ad : Nat → Nat} {Q : Option Value → vMem → Prop} {r : (Int32 × vMem)} {K34 : Int32 → Int32 → Int32 → Int32 → Int32 → vMem → Option (Int32 × vMem)} (hK34 : ∀ (l1 : Int32) (l2 : Int32) (l3 : Int32) (l4 : Int32) (l5 : Int32) (σ : vMem), K34 l1 l2 l3 l4 l5 σ = some r → V GC mX7_loaf ad Q 5 34 [some (.ref (ad 0)), some (.int l1), some (.int l2), some (.int l3), some (.int l4), some (.int l5)] [] σ) {l1 : Int32} {l2 : Int32} {l3 : Int32} {l4 : Int32} {l5 : Int32} {σ : vMem} (h : fX7_loaf_58 K34 l1 l2 l3 l4 l5 σ = some r) (hQ : Q (some (.int r.1)) r.2) : V GC mX7_loaf ad Q 5 58 [some (.ref (ad 0)), some (.int l1), some (.int l2), some (.int l3), some (.int l4), some (.int l5)] [] σ := by
  unfold fX7_loaf_58 at h
  refine V.aload_n dX7_loaf_58 rfl ?_
  obtain ⟨q1, h1, h⟩ := bdc h
  refine V.callV0 (mc := mX7_goAsTold) (d' := 4) dX7_loaf_59 lkX7_186 hfX7_goAsTold nC_0 gC_0 rfl (by decide) (Nat.le_of_ble_eq_true rfl) (Nat.le_of_ble_eq_true rfl) (vX7_goAsTold h1 ?_)
  refine V.aload_n dX7_loaf_62 rfl ?_
  refine V.get dX7_loaf_63 flX7_33 nC_0 gC_0 (by decide) (eC_0_3 _ _) ?_
  refine V.iload_n dX7_loaf_66 rfl ?_
  refine V.iload_n dX7_loaf_67 rfl ?_
  obtain ⟨q2, h1, h⟩ := bdc h
  refine V.callV2 (mc := mX6_bringsUp) (d' := 0) dX7_loaf_68 lkX7_236 hfX6_bringsUp nC_13 gC_13 rfl (by decide) (Nat.le_of_ble_eq_true rfl) (Nat.le_of_ble_eq_true rfl) (vX6_bringsUp h1 ?_)
  rcases itc h with ⟨hc, h⟩ | ⟨hc, h⟩
  · refine V.if_eq (tgt := 78) dX7_loaf_71 (by decide) (fun _ => ?_) (fun hn => absurd hc hn)
    exact V.forget (vX7_loaf_78 hK34 h hQ) ⟨rfl, ⟨rfl, ⟨rfl, ⟨rfl, ⟨rfl, ⟨rfl, trivial⟩⟩⟩⟩⟩⟩
  · refine V.if_eq (tgt := 78) dX7_loaf_71 (by decide) (fun hn => absurd hn hc) (fun _ => ?_)
    refine V.iload dX7_loaf_74 rfl ?_
    refine V.istore dX7_loaf_76 (by decide) rfl ?_
    exact V.forget (vX7_loaf_78 hK34 h hQ) ⟨rfl, ⟨rfl, ⟨rfl, ⟨rfl, ⟨rfl, ⟨rfl, trivial⟩⟩⟩⟩⟩⟩
def fX7_loaf_34 (K34 : Int32 → Int32 → Int32 → Int32 → Int32 → vMem → Option (Int32 × vMem)) (l1 : Int32) (l2 : Int32) (l3 : Int32) (l4 : Int32) (l5 : Int32) (σ : vMem) : Option (Int32 × vMem) :=
  if (100 : Int32) ≤ l5 then (fX7_loaf_84 l1 l3 l4 σ) else
  (if l4 = (-1 : Int32) then (if l1 < 0 ∨ 8 ≤ l1.toNatClampNeg then none else fX7_loaf_58 K34 l1 l2 l3 l4 l5 (vup σ 10 l1.toNatClampNeg l5)) else
  (fX7_loaf_84 l1 l3 l4 σ))
theorem vX7_loaf_34 {ad : Nat → Nat} {Q : Option Value → vMem → Prop} {r : (Int32 × vMem)} {K34 : Int32 → Int32 → Int32 → Int32 → Int32 → vMem → Option (Int32 × vMem)} (hK34 : ∀ (l1 : Int32) (l2 : Int32) (l3 : Int32) (l4 : Int32) (l5 : Int32) (σ : vMem), K34 l1 l2 l3 l4 l5 σ = some r → V GC mX7_loaf ad Q 5 34 [some (.ref (ad 0)), some (.int l1), some (.int l2), some (.int l3), some (.int l4), some (.int l5)] [] σ) {l1 : Int32} {l2 : Int32} {l3 : Int32} {l4 : Int32} {l5 : Int32} {σ : vMem} (h : fX7_loaf_34 K34 l1 l2 l3 l4 l5 σ = some r) (hQ : Q (some (.int r.1)) r.2) : V GC mX7_loaf ad Q 5 34 [some (.ref (ad 0)), some (.int l1), some (.int l2), some (.int l3), some (.int l4), some (.int l5)] [] σ := by
  unfold fX7_loaf_34 at h
  refine V.iload dX7_loaf_34 rfl ?_
  refine V.bipush bp_100 dX7_loaf_36 ?_
  rcases itc h with ⟨hc, h⟩ | ⟨hc, h⟩
  · refine V.icmp_ge (tgt := 84) dX7_loaf_38 (by decide) (fun _ => ?_) (fun hn => absurd hc hn)
    exact V.forget (vX7_loaf_84 h hQ) ⟨rfl, ⟨rfl, ⟨rfl, ⟨rfl, trivial⟩⟩⟩⟩
  · refine V.icmp_ge (tgt := 84) dX7_loaf_38 (by decide) (fun hn => absurd hn hc) (fun _ => ?_)
    refine V.iload dX7_loaf_41 rfl ?_
    refine V.iconst ic_m1 dX7_loaf_43 ?_
    rcases itc h with ⟨hc, h⟩ | ⟨hc, h⟩
    · refine V.icmp_ne (tgt := 84) dX7_loaf_44 (by decide) (fun hn => absurd hc hn) (fun _ => ?_)
      refine V.aload_n dX7_loaf_47 rfl ?_
      refine V.get dX7_loaf_48 flX7_24 nC_0 gC_0 (by decide) (eC_0_2 _ _) ?_
      refine V.get dX7_loaf_51 flX7_131 nC_5 gC_5 (by decide) (eC_5_8 _ _) ?_
      refine V.iload_n dX7_loaf_54 rfl ?_
      refine V.iload dX7_loaf_55 rfl ?_
      obtain ⟨hb, h⟩ := ckn h
      refine V.iast dX7_loaf_57 nC_10 gC_10 hb ?_
      exact V.forget (vX7_loaf_58 hK34 h hQ) ⟨rfl, ⟨rfl, ⟨rfl, ⟨rfl, ⟨rfl, ⟨rfl, trivial⟩⟩⟩⟩⟩⟩
    · refine V.icmp_ne (tgt := 84) dX7_loaf_44 (by decide) (fun _ => ?_) (fun hn => absurd hn hc)
      exact V.forget (vX7_loaf_84 h hQ) ⟨rfl, ⟨rfl, ⟨rfl, ⟨rfl, trivial⟩⟩⟩⟩
def LfX7_loaf_34 : Nat → Int32 → Int32 → Int32 → Int32 → Int32 → vMem → Option (Int32 × vMem)
  | 0, _, _, _, _, _, _ => none
  | n + 1, l1, l2, l3, l4, l5, σ => fX7_loaf_34 (LfX7_loaf_34 n) l1 l2 l3 l4 l5 σ
theorem LvX7_loaf_34 {ad : Nat → Nat} {Q : Option Value → vMem → Prop} {r : (Int32 × vMem)} (hQ : Q (some (.int r.1)) r.2) : ∀ (n : Nat) (l1 : Int32) (l2 : Int32) (l3 : Int32) (l4 : Int32) (l5 : Int32) (σ : vMem), LfX7_loaf_34 n l1 l2 l3 l4 l5 σ = some r → V GC mX7_loaf ad Q 5 34 [some (.ref (ad 0)), some (.int l1), some (.int l2), some (.int l3), some (.int l4), some (.int l5)] [] σ := by
  intro n
  induction n with
  | zero => intro l1 l2 l3 l4 l5 σ h; cases h
  | succ n ih => intro l1 l2 l3 l4 l5 σ h; exact vX7_loaf_34 ih h hQ
def fX7_loaf (l1 : Int32) (l2 : Int32) (σ : vMem) : Option (Int32 × vMem) :=
  (fX7_isBasket l1 σ).bind fun q1 => if q1.1 = 0 then (fX7_loaf_15 q1.2) else
  ((fX7_isLoad l2 q1.2).bind fun q2 => if q2.1 = 0 then (fX7_loaf_15 q2.2) else
  (if l1 < 0 ∨ 8 ≤ l1.toNatClampNeg then none else LfX7_loaf_34 200 l1 l2 (q2.2.1 10 l1.toNatClampNeg) (-1 : Int32) l2 q2.2))
theorem vX7_loaf {ad : Nat → Nat} {Q : Option Value → vMem → Prop} {r : (Int32 × vMem)} {l1 : Int32} {l2 : Int32} {σ : vMem} (h : fX7_loaf l1 l2 σ = some r) (hQ : Q (some (.int r.1)) r.2) : V GC mX7_loaf ad Q 5 0 [some (.ref (ad 0)), some (.int l1), some (.int l2), none, none, none] [] σ := by
  unfold fX7_loaf at h
  refine V.aload_n dX7_loaf_0 rfl ?_
  refine V.iload_n dX7_loaf_1 rfl ?_
  obtain ⟨q1, h1, h⟩ := bdc h
  refine V.callV1 (mc := mX7_isBasket) (d' := 0) dX7_loaf_2 lkX7_125 hfX7_isBasket nC_0 gC_0 rfl (by decide) (Nat.le_of_ble_eq_true rfl) (Nat.le_of_ble_eq_true rfl) (vX7_isBasket h1 ?_)
  rcases itc h with ⟨hc, h⟩ | ⟨hc, h⟩
  · refine V.if_eq (tgt := 15) dX7_loaf_5 (by decide) (fun _ => ?_) (fun hn => absurd hc hn)
    exact V.forget (vX7_loaf_15 h hQ) trivial
  · refine V.if_eq (tgt := 15) dX7_loaf_5 (by decide) (fun hn => absurd hn hc) (fun _ => ?_)
    refine V.iload_n dX7_loaf_8 rfl ?_
    obtain ⟨q2, h1, h⟩ := bdc h
    refine V.callS1 (mc := mX7_isLoad) (d' := 0) dX7_loaf_9 lkX7_233 hfX7_isLoad (by decide) (Nat.le_of_ble_eq_true rfl) (Nat.le_of_ble_eq_true rfl) (vX7_isLoad h1 ?_)
    rcases itc h with ⟨hc, h⟩ | ⟨hc, h⟩
    · refine V.if_ne (tgt := 18) dX7_loaf_12 (by decide) (fun hn => absurd hc hn) (fun _ => ?_)
      exact V.forget (vX7_loaf_15 h hQ) trivial
    · refine V.if_ne (tgt := 18) dX7_loaf_12 (by decide) (fun _ => ?_) (fun hn => absurd hn hc)
      refine V.aload_n dX7_loaf_18 rfl ?_
      refine V.get dX7_loaf_19 flX7_24 nC_0 gC_0 (by decide) (eC_0_2 _ _) ?_
      refine V.get dX7_loaf_22 flX7_131 nC_5 gC_5 (by decide) (eC_5_8 _ _) ?_
      refine V.iload_n dX7_loaf_25 rfl ?_
      obtain ⟨hb, h⟩ := ckn h
      refine V.iald dX7_loaf_26 nC_10 gC_10 hb ?_
      refine V.istore_n dX7_loaf_27 (by decide) rfl ?_
      refine V.iconst ic_m1 dX7_loaf_28 ?_
      refine V.istore dX7_loaf_29 (by decide) rfl ?_
      refine V.iload_n dX7_loaf_31 rfl ?_
      refine V.istore dX7_loaf_32 (by decide) rfl ?_
      exact V.forget (LvX7_loaf_34 hQ 200 _ _ _ _ _ _ h) ⟨rfl, ⟨rfl, ⟨rfl, ⟨rfl, ⟨rfl, ⟨rfl, trivial⟩⟩⟩⟩⟩⟩
def fX5_changeBite_12 (σ : vMem) : Option (Int32 × vMem) :=
  some ((0 : Int32), σ)
theorem vX5_changeBite_12 {ad : Nat → Nat} {Q : Option Value → vMem → Prop} {r : (Int32 × vMem)} {σ : vMem} (h : fX5_changeBite_12 σ = some r) (hQ : Q (some (.int r.1)) r.2) : V GC mX5_changeBite ad Q 0 12 [none, none, none, none] [] σ := by
  unfold fX5_changeBite_12 at h
  refine V.iconst ic_0 dX5_changeBite_12 ?_
  obtain rfl := Option.some.inj h
  exact V.iret dX5_changeBite_13 rfl hQ
def fX5_changeBite_28 (l3 : Int32) (σ : vMem) : Option (Int32 × vMem) :=
  some (l3, σ)
theorem vX5_changeBite_28 {ad : Nat → Nat} {Q : Option Value → vMem → Prop} {r : (Int32 × vMem)} {l3 : Int32} {σ : vMem} (h : fX5_changeBite_28 l3 σ = some r) (hQ : Q (some (.int r.1)) r.2) : V GC mX5_changeBite ad Q 0 28 [none, none, none, some (.int l3)] [] σ := by
  unfold fX5_changeBite_28 at h
  refine V.iload_n dX5_changeBite_28 rfl ?_
  obtain rfl := Option.some.inj h
  exact V.iret dX5_changeBite_29 rfl hQ
def fX5_changeBite (l1 : Int32) (l2 : Int32) (σ : vMem) : Option (Int32 × vMem) :=
  if l1 < 0 then (fX5_changeBite_12 σ) else
  (if l1 < (σ.1 5 0) then (if l1 < 0 ∨ 9 ≤ l1.toNatClampNeg then none else if l1 < 0 ∨ 9 ≤ l1.toNatClampNeg then none else fX5_changeBite_28 (σ.1 7 l1.toNatClampNeg) (vup σ 7 l1.toNatClampNeg l2)) else
  (fX5_changeBite_12 σ))
theorem vX5_changeBite {ad : Nat → Nat} {Q : Option Value → vMem → Prop} {r : (Int32 × vMem)} {l1 : Int32} {l2 : Int32} {σ : vMem} (h : fX5_changeBite l1 l2 σ = some r) (hQ : Q (some (.int r.1)) r.2) : V GC mX5_changeBite ad Q 0 0 [some (.ref (ad 5)), some (.int l1), some (.int l2), none] [] σ := by
  unfold fX5_changeBite at h
  refine V.iload_n dX5_changeBite_0 rfl ?_
  rcases itc h with ⟨hc, h⟩ | ⟨hc, h⟩
  · refine V.if_lt (tgt := 12) dX5_changeBite_1 (by decide) (fun _ => ?_) (fun hn => absurd hc hn)
    exact V.forget (vX5_changeBite_12 h hQ) trivial
  · refine V.if_lt (tgt := 12) dX5_changeBite_1 (by decide) (fun hn => absurd hn hc) (fun _ => ?_)
    refine V.iload_n dX5_changeBite_4 rfl ?_
    refine V.aload_n dX5_changeBite_5 rfl ?_
    refine V.get dX5_changeBite_6 flX5_9 nC_5 gC_5 (by decide) (eC_5_0 _ _) ?_
    rcases itc h with ⟨hc, h⟩ | ⟨hc, h⟩
    · refine V.icmp_lt (tgt := 14) dX5_changeBite_9 (by decide) (fun _ => ?_) (fun hn => absurd hc hn)
      refine V.aload_n dX5_changeBite_14 rfl ?_
      refine V.get dX5_changeBite_15 flX5_22 nC_5 gC_5 (by decide) (eC_5_3 _ _) ?_
      refine V.iload_n dX5_changeBite_18 rfl ?_
      obtain ⟨hb, h⟩ := ckn h
      refine V.iald dX5_changeBite_19 nC_7 gC_7 hb ?_
      refine V.istore_n dX5_changeBite_20 (by decide) rfl ?_
      refine V.aload_n dX5_changeBite_21 rfl ?_
      refine V.get dX5_changeBite_22 flX5_22 nC_5 gC_5 (by decide) (eC_5_3 _ _) ?_
      refine V.iload_n dX5_changeBite_25 rfl ?_
      refine V.iload_n dX5_changeBite_26 rfl ?_
      obtain ⟨hb, h⟩ := ckn h
      refine V.iast dX5_changeBite_27 nC_7 gC_7 hb ?_
      exact V.forget (vX5_changeBite_28 h hQ) ⟨rfl, trivial⟩
    · refine V.icmp_lt (tgt := 14) dX5_changeBite_9 (by decide) (fun hn => absurd hn hc) (fun _ => ?_)
      exact V.forget (vX5_changeBite_12 h hQ) trivial
def fX6_noteAsTold_21 (K21 : Int32 → Int32 → vMem → Option (Int32 × vMem)) (l1 : Int32) (l2 : Int32) (σ : vMem) : Option (Int32 × vMem) :=
  if (3 : Int32) ≤ l2 then (some ((1 : Int32), σ)) else
  ((fX6_letter l1 l2 σ).bind fun q1 => (fX5_toldLetter l1 l2 q1.2).bind fun q2 => if q1.1 = q2.1 then (K21 l1 (l2 + (1 : Int32)) q2.2) else
  (some ((0 : Int32), q2.2)))
theorem vX6_noteAsTold_21 {ad : Nat → Nat} {Q : Option Value → vMem → Prop} {r : (Int32 × vMem)} {K21 : Int32 → Int32 → vMem → Option (Int32 × vMem)} (hK21 : ∀ (l1 : Int32) (l2 : Int32) (σ : vMem), K21 l1 l2 σ = some r → V GC mX6_noteAsTold ad Q 2 21 [some (.ref (ad 13)), some (.int l1), some (.int l2)] [] σ) {l1 : Int32} {l2 : Int32} {σ : vMem} (h : fX6_noteAsTold_21 K21 l1 l2 σ = some r) (hQ : Q (some (.int r.1)) r.2) : V GC mX6_noteAsTold ad Q 2 21 [some (.ref (ad 13)), some (.int l1), some (.int l2)] [] σ := by
  unfold fX6_noteAsTold_21 at h
  refine V.iload_n dX6_noteAsTold_21 rfl ?_
  refine V.iconst ic_3 dX6_noteAsTold_22 ?_
  rcases itc h with ⟨hc, h⟩ | ⟨hc, h⟩
  · refine V.icmp_ge (tgt := 52) dX6_noteAsTold_23 (by decide) (fun _ => ?_) (fun hn => absurd hc hn)
    refine V.iconst ic_1 dX6_noteAsTold_52 ?_
    obtain rfl := Option.some.inj h
    exact V.zret dX6_noteAsTold_53 rfl (Or.inr rfl) hQ
  · refine V.icmp_ge (tgt := 52) dX6_noteAsTold_23 (by decide) (fun hn => absurd hn hc) (fun _ => ?_)
    refine V.aload_n dX6_noteAsTold_26 rfl ?_
    refine V.iload_n dX6_noteAsTold_27 rfl ?_
    refine V.iload_n dX6_noteAsTold_28 rfl ?_
    obtain ⟨q1, h1, h⟩ := bdc h
    refine V.callV2 (mc := mX6_letter) (d' := 1) dX6_noteAsTold_29 lkX6_135 hfX6_letter nC_13 gC_13 rfl (by decide) (Nat.le_of_ble_eq_true rfl) (Nat.le_of_ble_eq_true rfl) (vX6_letter h1 ?_)
    refine V.aload_n dX6_noteAsTold_32 rfl ?_
    refine V.get dX6_noteAsTold_33 flX6_65 nC_13 gC_13 (by decide) (eC_13_0 _ _) ?_
    refine V.iload_n dX6_noteAsTold_36 rfl ?_
    refine V.iload_n dX6_noteAsTold_37 rfl ?_
    obtain ⟨q2, h1, h⟩ := bdc h
    refine V.callV2 (mc := mX5_toldLetter) (d' := 0) dX6_noteAsTold_38 lkX6_139 hfX5_toldLetter nC_5 gC_5 rfl (by decide) (Nat.le_of_ble_eq_true rfl) (Nat.le_of_ble_eq_true rfl) (vX5_toldLetter h1 ?_)
    rcases itc h with ⟨hc, h⟩ | ⟨hc, h⟩
    · refine V.icmp_eq (tgt := 46) dX6_noteAsTold_41 (by decide) (fun _ => ?_) (fun hn => absurd hc hn)
      refine V.iinc dX6_noteAsTold_46 rfl (ii_1 _) (by decide) rfl ?_
      refine V.goto (tgt := 21) dX6_noteAsTold_49 (by decide) ?_
      exact V.forget (hK21 _ _ _ h) ⟨rfl, ⟨rfl, ⟨rfl, trivial⟩⟩⟩
    · refine V.icmp_eq (tgt := 46) dX6_noteAsTold_41 (by decide) (fun hn => absurd hn hc) (fun _ => ?_)
      refine V.iconst ic_0 dX6_noteAsTold_44 ?_
      obtain rfl := Option.some.inj h
      exact V.zret dX6_noteAsTold_45 rfl (Or.inl rfl) hQ
def LfX6_noteAsTold_21 : Nat → Int32 → Int32 → vMem → Option (Int32 × vMem)
  | 0, _, _, _ => none
  | n + 1, l1, l2, σ => fX6_noteAsTold_21 (LfX6_noteAsTold_21 n) l1 l2 σ
theorem LvX6_noteAsTold_21 {ad : Nat → Nat} {Q : Option Value → vMem → Prop} {r : (Int32 × vMem)} (hQ : Q (some (.int r.1)) r.2) : ∀ (n : Nat) (l1 : Int32) (l2 : Int32) (σ : vMem), LfX6_noteAsTold_21 n l1 l2 σ = some r → V GC mX6_noteAsTold ad Q 2 21 [some (.ref (ad 13)), some (.int l1), some (.int l2)] [] σ := by
  intro n
  induction n with
  | zero => intro l1 l2 σ h; cases h
  | succ n ih => intro l1 l2 σ h; exact vX6_noteAsTold_21 ih h hQ
def fX6_noteAsTold (l1 : Int32) (σ : vMem) : Option (Int32 × vMem) :=
  (fX6_letters l1 σ).bind fun q1 => if l1 < 0 ∨ 8 ≤ l1.toNatClampNeg then none else if q1.1 = (q1.2.1 11 l1.toNatClampNeg) then (LfX6_noteAsTold_21 200 l1 (0 : Int32) q1.2) else
  (some ((0 : Int32), q1.2))
theorem vX6_noteAsTold {ad : Nat → Nat} {Q : Option Value → vMem → Prop} {r : (Int32 × vMem)} {l1 : Int32} {σ : vMem} (h : fX6_noteAsTold l1 σ = some r) (hQ : Q (some (.int r.1)) r.2) : V GC mX6_noteAsTold ad Q 2 0 [some (.ref (ad 13)), some (.int l1), none] [] σ := by
  unfold fX6_noteAsTold at h
  refine V.aload_n dX6_noteAsTold_0 rfl ?_
  refine V.iload_n dX6_noteAsTold_1 rfl ?_
  obtain ⟨q1, h1, h⟩ := bdc h
  refine V.callV1 (mc := mX6_letters) (d' := 0) dX6_noteAsTold_2 lkX6_132 hfX6_letters nC_13 gC_13 rfl (by decide) (Nat.le_of_ble_eq_true rfl) (Nat.le_of_ble_eq_true rfl) (vX6_letters h1 ?_)
  refine V.aload_n dX6_noteAsTold_5 rfl ?_
  refine V.get dX6_noteAsTold_6 flX6_65 nC_13 gC_13 (by decide) (eC_13_0 _ _) ?_
  refine V.get dX6_noteAsTold_9 flX6_88 nC_5 gC_5 (by decide) (eC_5_9 _ _) ?_
  refine V.iload_n dX6_noteAsTold_12 rfl ?_
  obtain ⟨hb, h⟩ := ckn h
  refine V.iald dX6_noteAsTold_13 nC_11 gC_11 hb ?_
  rcases itc h with ⟨hc, h⟩ | ⟨hc, h⟩
  · refine V.icmp_eq (tgt := 19) dX6_noteAsTold_14 (by decide) (fun _ => ?_) (fun hn => absurd hc hn)
    refine V.iconst ic_0 dX6_noteAsTold_19 ?_
    refine V.istore_n dX6_noteAsTold_20 (by decide) rfl ?_
    exact V.forget (LvX6_noteAsTold_21 hQ 200 _ _ _ h) ⟨rfl, ⟨rfl, ⟨rfl, trivial⟩⟩⟩
  · refine V.icmp_eq (tgt := 19) dX6_noteAsTold_14 (by decide) (fun hn => absurd hn hc) (fun _ => ?_)
    refine V.iconst ic_0 dX6_noteAsTold_17 ?_
    obtain rfl := Option.some.inj h
    exact V.zret dX6_noteAsTold_18 rfl (Or.inl rfl) hQ
def fX7_staysWhole_96 (s0 : Int32) (σ : vMem) : Option (Int32 × vMem) :=
  if ¬ (s0 = 0 ∨ s0 = 1) then none else some (s0, σ)
theorem vX7_staysWhole_96 {ad : Nat → Nat} {Q : Option Value → vMem → Prop} {r : (Int32 × vMem)} {s0 : Int32} {σ : vMem} (h : fX7_staysWhole_96 s0 σ = some r) (hQ : Q (some (.int r.1)) r.2) : V GC mX7_staysWhole ad Q 4 96 [none, none, none, none, none, none] [.int s0] σ := by
  unfold fX7_staysWhole_96 at h
  obtain ⟨hb, h⟩ := ckn h
  obtain rfl := Option.some.inj h
  exact V.zret dX7_staysWhole_96 rfl (Decidable.not_not.mp hb) hQ
def fX7_staysWhole_95 (σ : vMem) : Option (Int32 × vMem) :=
  fX7_staysWhole_96 (0 : Int32) σ
theorem vX7_staysWhole_95 {ad : Nat → Nat} {Q : Option Value → vMem → Prop} {r : (Int32 × vMem)} {σ : vMem} (h : fX7_staysWhole_95 σ = some r) (hQ : Q (some (.int r.1)) r.2) : V GC mX7_staysWhole ad Q 4 95 [none, none, none, none, none, none] [] σ := by
  unfold fX7_staysWhole_95 at h
  refine V.iconst ic_0 dX7_staysWhole_95 ?_
  exact V.forget (vX7_staysWhole_96 h hQ) trivial
def fX7_staysWhole (l1 : Int32) (l2 : Int32) (l3 : Int32) (σ : vMem) : Option (Int32 × vMem) :=
  (fX5_changeBite l2 (0 : Int32) σ).bind fun q1 => (fX5_changeBite l3 (0 : Int32) q1.2).bind fun q2 => (fX1_all_25 q2.2).bind fun q3 => (fX1_all_27 q3.2).bind fun q4 => (fX6_go q3.1 q4.1 (40 : Int32) q4.2).bind fun q5 => (fX5_changeBite l3 q2.1 q5).bind fun q6 => (fX5_changeBite l2 q1.1 q6.2).bind fun q7 => if l1 < 0 ∨ 8 ≤ l1.toNatClampNeg then none else if (q7.2.1 17 l1.toNatClampNeg) = (-1 : Int32) then (fX7_staysWhole_95 q7.2) else
  ((fX6_noteAsTold l1 q7.2).bind fun q8 => if q8.1 = 0 then (fX7_staysWhole_95 q8.2) else
  (fX7_staysWhole_96 (1 : Int32) q8.2))
theorem vX7_staysWhole {ad : Nat → Nat} {Q : Option Value → vMem → Prop} {r : (Int32 × vMem)} {l1 : Int32} {l2 : Int32} {l3 : Int32} {σ : vMem} (h : fX7_staysWhole l1 l2 l3 σ = some r) (hQ : Q (some (.int r.1)) r.2) : V GC mX7_staysWhole ad Q 4 0 [some (.ref (ad 0)), some (.int l1), some (.int l2), some (.int l3), none, none] [] σ := by
  unfold fX7_staysWhole at h
  refine V.aload_n dX7_staysWhole_0 rfl ?_
  refine V.get dX7_staysWhole_1 flX7_24 nC_0 gC_0 (by decide) (eC_0_2 _ _) ?_
  refine V.iload_n dX7_staysWhole_4 rfl ?_
  refine V.iconst ic_0 dX7_staysWhole_5 ?_
  obtain ⟨q1, h1, h⟩ := bdc h
  refine V.callV2 (mc := mX5_changeBite) (d' := 0) dX7_staysWhole_6 lkX7_373 hfX5_changeBite nC_5 gC_5 rfl (by decide) (Nat.le_of_ble_eq_true rfl) (Nat.le_of_ble_eq_true rfl) (vX5_changeBite h1 ?_)
  refine V.istore dX7_staysWhole_9 (by decide) rfl ?_
  refine V.aload_n dX7_staysWhole_11 rfl ?_
  refine V.get dX7_staysWhole_12 flX7_24 nC_0 gC_0 (by decide) (eC_0_2 _ _) ?_
  refine V.iload_n dX7_staysWhole_15 rfl ?_
  refine V.iconst ic_0 dX7_staysWhole_16 ?_
  obtain ⟨q2, h1, h⟩ := bdc h
  refine V.callV2 (mc := mX5_changeBite) (d' := 0) dX7_staysWhole_17 lkX7_373 hfX5_changeBite nC_5 gC_5 rfl (by decide) (Nat.le_of_ble_eq_true rfl) (Nat.le_of_ble_eq_true rfl) (vX5_changeBite h1 ?_)
  refine V.istore dX7_staysWhole_20 (by decide) rfl ?_
  refine V.aload_n dX7_staysWhole_22 rfl ?_
  refine V.get dX7_staysWhole_23 flX7_33 nC_0 gC_0 (by decide) (eC_0_3 _ _) ?_
  refine V.aload_n dX7_staysWhole_26 rfl ?_
  refine V.get dX7_staysWhole_27 flX7_40 nC_0 gC_0 (by decide) (eC_0_4 _ _) ?_
  obtain ⟨q3, h1, h⟩ := bdc h
  refine V.callV0 (mc := mX1_all) (d' := 1) dX7_staysWhole_30 lkX7_169 hfX1_all nC_25 gC_25 rfl (by decide) (Nat.le_of_ble_eq_true rfl) (Nat.le_of_ble_eq_true rfl) (vX1_all_25 h1 ?_)
  refine V.aload_n dX7_staysWhole_33 rfl ?_
  refine V.get dX7_staysWhole_34 flX7_44 nC_0 gC_0 (by decide) (eC_0_5 _ _) ?_
  obtain ⟨q4, h1, h⟩ := bdc h
  refine V.callV0 (mc := mX1_all) (d' := 1) dX7_staysWhole_37 lkX7_169 hfX1_all nC_27 gC_27 rfl (by decide) (Nat.le_of_ble_eq_true rfl) (Nat.le_of_ble_eq_true rfl) (vX1_all_27 h1 ?_)
  refine V.bipush bp_40 dX7_staysWhole_40 ?_
  obtain ⟨q5, h1, h⟩ := bdc h
  refine V.callV3 (mc := mX6_go) (d' := 3) dX7_staysWhole_42 lkX7_173 hfX6_go nC_13 gC_13 rfl (by decide) (Nat.le_of_ble_eq_true rfl) (Nat.le_of_ble_eq_true rfl) (vX6_go h1 ?_)
  refine V.aload_n dX7_staysWhole_45 rfl ?_
  refine V.get dX7_staysWhole_46 flX7_24 nC_0 gC_0 (by decide) (eC_0_2 _ _) ?_
  refine V.iload_n dX7_staysWhole_49 rfl ?_
  refine V.iload dX7_staysWhole_50 rfl ?_
  obtain ⟨q6, h1, h⟩ := bdc h
  refine V.callV2 (mc := mX5_changeBite) (d' := 0) dX7_staysWhole_52 lkX7_373 hfX5_changeBite nC_5 gC_5 rfl (by decide) (Nat.le_of_ble_eq_true rfl) (Nat.le_of_ble_eq_true rfl) (vX5_changeBite h1 ?_)
  refine V.pop rfl dX7_staysWhole_55 ?_
  refine V.aload_n dX7_staysWhole_56 rfl ?_
  refine V.get dX7_staysWhole_57 flX7_24 nC_0 gC_0 (by decide) (eC_0_2 _ _) ?_
  refine V.iload_n dX7_staysWhole_60 rfl ?_
  refine V.iload dX7_staysWhole_61 rfl ?_
  obtain ⟨q7, h1, h⟩ := bdc h
  refine V.callV2 (mc := mX5_changeBite) (d' := 0) dX7_staysWhole_63 lkX7_373 hfX5_changeBite nC_5 gC_5 rfl (by decide) (Nat.le_of_ble_eq_true rfl) (Nat.le_of_ble_eq_true rfl) (vX5_changeBite h1 ?_)
  refine V.pop rfl dX7_staysWhole_66 ?_
  refine V.aload_n dX7_staysWhole_67 rfl ?_
  refine V.get dX7_staysWhole_68 flX7_33 nC_0 gC_0 (by decide) (eC_0_3 _ _) ?_
  refine V.get dX7_staysWhole_71 flX7_192 nC_13 gC_13 (by decide) (eC_13_6 _ _) ?_
  refine V.iload_n dX7_staysWhole_74 rfl ?_
  obtain ⟨hb, h⟩ := ckn h
  refine V.iald dX7_staysWhole_75 nC_17 gC_17 hb ?_
  refine V.iconst ic_m1 dX7_staysWhole_76 ?_
  rcases itc h with ⟨hc, h⟩ | ⟨hc, h⟩
  · refine V.icmp_eq (tgt := 95) dX7_staysWhole_77 (by decide) (fun _ => ?_) (fun hn => absurd hc hn)
    exact V.forget (vX7_staysWhole_95 h hQ) trivial
  · refine V.icmp_eq (tgt := 95) dX7_staysWhole_77 (by decide) (fun hn => absurd hn hc) (fun _ => ?_)
    refine V.aload_n dX7_staysWhole_80 rfl ?_
    refine V.get dX7_staysWhole_81 flX7_33 nC_0 gC_0 (by decide) (eC_0_3 _ _) ?_
    refine V.iload_n dX7_staysWhole_84 rfl ?_
    obtain ⟨q8, h1, h⟩ := bdc h
    refine V.callV1 (mc := mX6_noteAsTold) (d' := 2) dX7_staysWhole_85 lkX7_376 hfX6_noteAsTold nC_13 gC_13 rfl (by decide) (Nat.le_of_ble_eq_true rfl) (Nat.le_of_ble_eq_true rfl) (vX6_noteAsTold h1 ?_)
    rcases itc h with ⟨hc, h⟩ | ⟨hc, h⟩
    · refine V.if_eq (tgt := 95) dX7_staysWhole_88 (by decide) (fun _ => ?_) (fun hn => absurd hc hn)
      exact V.forget (vX7_staysWhole_95 h hQ) trivial
    · refine V.if_eq (tgt := 95) dX7_staysWhole_88 (by decide) (fun hn => absurd hn hc) (fun _ => ?_)
      refine V.iconst ic_1 dX7_staysWhole_91 ?_
      refine V.goto (tgt := 96) dX7_staysWhole_92 (by decide) ?_
      exact V.forget (vX7_staysWhole_96 h hQ) trivial
def fX7_keepFed_12 (l3 : Int32) (σ : vMem) : Option vMem :=
  if (1 : Int32) < 0 ∨ 2 ≤ (1 : Int32).toNatClampNeg then none else some (vup σ 38 (1 : Int32).toNatClampNeg l3)
theorem vX7_keepFed_12 {ad : Nat → Nat} {Q : Option Value → vMem → Prop} {r : vMem} {l3 : Int32} {σ : vMem} (h : fX7_keepFed_12 l3 σ = some r) (hQ : Q none r) : V GC mX7_keepFed ad Q 0 12 [some (.ref (ad 0)), none, none, some (.int l3)] [] σ := by
  unfold fX7_keepFed_12 at h
  refine V.aload_n dX7_keepFed_12 rfl ?_
  refine V.get dX7_keepFed_13 flX7_68 nC_0 gC_0 (by decide) (eC_0_9 _ _) ?_
  refine V.iconst ic_1 dX7_keepFed_16 ?_
  refine V.iload_n dX7_keepFed_17 rfl ?_
  obtain ⟨hb, h⟩ := ckn h
  refine V.iast dX7_keepFed_18 nC_38 gC_38 hb ?_
  obtain rfl := Option.some.inj h
  exact V.vret dX7_keepFed_19 rfl hQ
def fX7_keepFed_5 (l2 : Int32) (l3 : Int32) (σ : vMem) : Option vMem :=
  if (0 : Int32) < 0 ∨ 2 ≤ (0 : Int32).toNatClampNeg then none else fX7_keepFed_12 l3 (vup σ 38 (0 : Int32).toNatClampNeg l2)
theorem vX7_keepFed_5 {ad : Nat → Nat} {Q : Option Value → vMem → Prop} {r : vMem} {l2 : Int32} {l3 : Int32} {σ : vMem} (h : fX7_keepFed_5 l2 l3 σ = some r) (hQ : Q none r) : V GC mX7_keepFed ad Q 0 5 [some (.ref (ad 0)), none, some (.int l2), some (.int l3)] [] σ := by
  unfold fX7_keepFed_5 at h
  refine V.aload_n dX7_keepFed_5 rfl ?_
  refine V.get dX7_keepFed_6 flX7_68 nC_0 gC_0 (by decide) (eC_0_9 _ _) ?_
  refine V.iconst ic_0 dX7_keepFed_9 ?_
  refine V.iload_n dX7_keepFed_10 rfl ?_
  obtain ⟨hb, h⟩ := ckn h
  refine V.iast dX7_keepFed_11 nC_38 gC_38 hb ?_
  exact V.forget (vX7_keepFed_12 h hQ) ⟨rfl, ⟨rfl, trivial⟩⟩
def fX7_keepFed (l1 : Int32) (l2 : Int32) (l3 : Int32) (σ : vMem) : Option vMem :=
  fX7_keepFed_5 l2 l3 (vup σ 0 10 l1)
theorem vX7_keepFed {ad : Nat → Nat} {Q : Option Value → vMem → Prop} {r : vMem} {l1 : Int32} {l2 : Int32} {l3 : Int32} {σ : vMem} (h : fX7_keepFed l1 l2 l3 σ = some r) (hQ : Q none r) : V GC mX7_keepFed ad Q 0 0 [some (.ref (ad 0)), some (.int l1), some (.int l2), some (.int l3)] [] σ := by
  unfold fX7_keepFed at h
  refine V.aload_n dX7_keepFed_0 rfl ?_
  refine V.iload_n dX7_keepFed_1 rfl ?_
  refine V.putI dX7_keepFed_2 fpX7_72 nC_0 gC_0 (by decide) rfl ?_
  exact V.forget (vX7_keepFed_5 h hQ) ⟨rfl, ⟨rfl, ⟨rfl, trivial⟩⟩⟩
def fX7_findFed_136 (σ : vMem) : Option vMem :=
  some σ
theorem vX7_findFed_136 {ad : Nat → Nat} {Q : Option Value → vMem → Prop} {r : vMem} {σ : vMem} (h : fX7_findFed_136 σ = some r) (hQ : Q none r) : V GC mX7_findFed ad Q 5 136 [none, none, none, none] [] σ := by
  unfold fX7_findFed_136 at h
  obtain rfl := Option.some.inj h
  exact V.vret dX7_findFed_136 rfl hQ
def fX7_findFed_130 (K65 : Int32 → Int32 → vMem → Option vMem) (l1 : Int32) (l2 : Int32) (σ : vMem) : Option vMem :=
  K65 l1 (l2 + (1 : Int32)) σ
theorem vX7_findFed_130 {ad : Nat → Nat} {Q : Option Value → vMem → Prop} {r : vMem} {K65 : Int32 → Int32 → vMem → Option vMem} (hK65 : ∀ (l1 : Int32) (l2 : Int32) (σ : vMem), K65 l1 l2 σ = some r → V GC mX7_findFed ad Q 5 65 [some (.ref (ad 0)), some (.int l1), some (.int l2), none] [] σ) {l1 : Int32} {l2 : Int32} {σ : vMem} (h : fX7_findFed_130 K65 l1 l2 σ = some r) (hQ : Q none r) : V GC mX7_findFed ad Q 5 130 [some (.ref (ad 0)), some (.int l1), some (.int l2), none] [] σ := by
  unfold fX7_findFed_130 at h
  refine V.iinc dX7_findFed_130 rfl (ii_1 _) (by decide) rfl ?_
  refine V.goto (tgt := 65) dX7_findFed_133 (by decide) ?_
  exact V.forget (hK65 _ _ _ h) ⟨rfl, ⟨rfl, ⟨rfl, trivial⟩⟩⟩
def fX7_findFed_124 (K65 : Int32 → Int32 → vMem → Option vMem) (K88 : Int32 → Int32 → Int32 → vMem → Option vMem) (l1 : Int32) (l2 : Int32) (l3 : Int32) (σ : vMem) : Option vMem :=
  K88 l1 l2 (l3 + (1 : Int32)) σ
theorem vX7_findFed_124 {ad : Nat → Nat} {Q : Option Value → vMem → Prop} {r : vMem} {K65 : Int32 → Int32 → vMem → Option vMem} (hK65 : ∀ (l1 : Int32) (l2 : Int32) (σ : vMem), K65 l1 l2 σ = some r → V GC mX7_findFed ad Q 5 65 [some (.ref (ad 0)), some (.int l1), some (.int l2), none] [] σ) {K88 : Int32 → Int32 → Int32 → vMem → Option vMem} (hK88 : ∀ (l1 : Int32) (l2 : Int32) (l3 : Int32) (σ : vMem), K88 l1 l2 l3 σ = some r → V GC mX7_findFed ad Q 5 88 [some (.ref (ad 0)), some (.int l1), some (.int l2), some (.int l3)] [] σ) {l1 : Int32} {l2 : Int32} {l3 : Int32} {σ : vMem} (h : fX7_findFed_124 K65 K88 l1 l2 l3 σ = some r) (hQ : Q none r) : V GC mX7_findFed ad Q 5 124 [some (.ref (ad 0)), some (.int l1), some (.int l2), some (.int l3)] [] σ := by
  unfold fX7_findFed_124 at h
  refine V.iinc dX7_findFed_124 rfl (ii_1 _) (by decide) rfl ?_
  refine V.goto (tgt := 88) dX7_findFed_127 (by decide) ?_
  exact V.forget (hK88 _ _ _ _ h) ⟨rfl, ⟨rfl, ⟨rfl, ⟨rfl, trivial⟩⟩⟩⟩
def fX7_findFed_88 (K65 : Int32 → Int32 → vMem → Option vMem) (K88 : Int32 → Int32 → Int32 → vMem → Option vMem) (l1 : Int32) (l2 : Int32) (l3 : Int32) (σ : vMem) : Option vMem :=
  if (σ.1 5 0) ≤ l3 then (fX7_findFed_130 K65 l1 l2 σ) else
  (if (σ.1 0 10) = (-1 : Int32) then ((fX7_staysWhole l1 l2 l3 σ).bind fun q1 => if q1.1 = 0 then (fX7_findFed_124 K65 K88 l1 l2 l3 q1.2) else
  ((fX7_keepFed (2 : Int32) l2 l3 q1.2).bind fun q2 => fX7_findFed_124 K65 K88 l1 l2 l3 q2)) else
  (fX7_findFed_130 K65 l1 l2 σ))
theorem vX7_findFed_88 {ad : Nat → Nat} {Q : Option Value → vMem → Prop} {r : vMem} {K65 : Int32 → Int32 → vMem → Option vMem} (hK65 : ∀ (l1 : Int32) (l2 : Int32) (σ : vMem), K65 l1 l2 σ = some r → V GC mX7_findFed ad Q 5 65 [some (.ref (ad 0)), some (.int l1), some (.int l2), none] [] σ) {K88 : Int32 → Int32 → Int32 → vMem → Option vMem} (hK88 : ∀ (l1 : Int32) (l2 : Int32) (l3 : Int32) (σ : vMem), K88 l1 l2 l3 σ = some r → V GC mX7_findFed ad Q 5 88 [some (.ref (ad 0)), some (.int l1), some (.int l2), some (.int l3)] [] σ) {l1 : Int32} {l2 : Int32} {l3 : Int32} {σ : vMem} (h : fX7_findFed_88 K65 K88 l1 l2 l3 σ = some r) (hQ : Q none r) : V GC mX7_findFed ad Q 5 88 [some (.ref (ad 0)), some (.int l1), some (.int l2), some (.int l3)] [] σ := by
  unfold fX7_findFed_88 at h
  refine V.iload_n dX7_findFed_88 rfl ?_
  refine V.aload_n dX7_findFed_89 rfl ?_
  refine V.get dX7_findFed_90 flX7_24 nC_0 gC_0 (by decide) (eC_0_2 _ _) ?_
  refine V.get dX7_findFed_93 flX7_217 nC_5 gC_5 (by decide) (eC_5_0 _ _) ?_
  rcases itc h with ⟨hc, h⟩ | ⟨hc, h⟩
  · refine V.icmp_ge (tgt := 130) dX7_findFed_96 (by decide) (fun _ => ?_) (fun hn => absurd hc hn)
    exact V.forget (vX7_findFed_130 hK65 h hQ) ⟨rfl, ⟨rfl, ⟨rfl, trivial⟩⟩⟩
  · refine V.icmp_ge (tgt := 130) dX7_findFed_96 (by decide) (fun hn => absurd hn hc) (fun _ => ?_)
    refine V.aload_n dX7_findFed_99 rfl ?_
    refine V.get dX7_findFed_100 flX7_72 nC_0 gC_0 (by decide) (eC_0_10 _ _) ?_
    refine V.iconst ic_m1 dX7_findFed_103 ?_
    rcases itc h with ⟨hc, h⟩ | ⟨hc, h⟩
    · refine V.icmp_ne (tgt := 130) dX7_findFed_104 (by decide) (fun hn => absurd hc hn) (fun _ => ?_)
      refine V.aload_n dX7_findFed_107 rfl ?_
      refine V.iload_n dX7_findFed_108 rfl ?_
      refine V.iload_n dX7_findFed_109 rfl ?_
      refine V.iload_n dX7_findFed_110 rfl ?_
      obtain ⟨q1, h1, h⟩ := bdc h
      refine V.callV3 (mc := mX7_staysWhole) (d' := 4) dX7_findFed_111 lkX7_367 hfX7_staysWhole nC_0 gC_0 rfl (by decide) (Nat.le_of_ble_eq_true rfl) (Nat.le_of_ble_eq_true rfl) (vX7_staysWhole h1 ?_)
      rcases itc h with ⟨hc, h⟩ | ⟨hc, h⟩
      · refine V.if_eq (tgt := 124) dX7_findFed_114 (by decide) (fun _ => ?_) (fun hn => absurd hc hn)
        exact V.forget (vX7_findFed_124 hK65 hK88 h hQ) ⟨rfl, ⟨rfl, ⟨rfl, ⟨rfl, trivial⟩⟩⟩⟩
      · refine V.if_eq (tgt := 124) dX7_findFed_114 (by decide) (fun hn => absurd hn hc) (fun _ => ?_)
        refine V.aload_n dX7_findFed_117 rfl ?_
        refine V.iconst ic_2 dX7_findFed_118 ?_
        refine V.iload_n dX7_findFed_119 rfl ?_
        refine V.iload_n dX7_findFed_120 rfl ?_
        obtain ⟨q2, h1, h⟩ := bdc h
        refine V.callV3 (mc := mX7_keepFed) (d' := 0) dX7_findFed_121 lkX7_370 hfX7_keepFed nC_0 gC_0 rfl (by decide) (Nat.le_of_ble_eq_true rfl) (Nat.le_of_ble_eq_true rfl) (vX7_keepFed h1 ?_)
        exact V.forget (vX7_findFed_124 hK65 hK88 h hQ) ⟨rfl, ⟨rfl, ⟨rfl, ⟨rfl, trivial⟩⟩⟩⟩
    · refine V.icmp_ne (tgt := 130) dX7_findFed_104 (by decide) (fun _ => ?_) (fun hn => absurd hn hc)
      exact V.forget (vX7_findFed_130 hK65 h hQ) ⟨rfl, ⟨rfl, ⟨rfl, trivial⟩⟩⟩
def LfX7_findFed_88 (K65 : Int32 → Int32 → vMem → Option vMem) : Nat → Int32 → Int32 → Int32 → vMem → Option vMem
  | 0, _, _, _, _ => none
  | n + 1, l1, l2, l3, σ => fX7_findFed_88 K65 (LfX7_findFed_88 K65 n) l1 l2 l3 σ
theorem LvX7_findFed_88 {ad : Nat → Nat} {Q : Option Value → vMem → Prop} {r : vMem} {K65 : Int32 → Int32 → vMem → Option vMem} (hK65 : ∀ (l1 : Int32) (l2 : Int32) (σ : vMem), K65 l1 l2 σ = some r → V GC mX7_findFed ad Q 5 65 [some (.ref (ad 0)), some (.int l1), some (.int l2), none] [] σ) (hQ : Q none r) : ∀ (n : Nat) (l1 : Int32) (l2 : Int32) (l3 : Int32) (σ : vMem), LfX7_findFed_88 K65 n l1 l2 l3 σ = some r → V GC mX7_findFed ad Q 5 88 [some (.ref (ad 0)), some (.int l1), some (.int l2), some (.int l3)] [] σ := by
  intro n
  induction n with
  | zero => intro l1 l2 l3 σ h; cases h
  | succ n ih => intro l1 l2 l3 σ h; exact vX7_findFed_88 hK65 ih h hQ
def fX7_findFed_65 (K65 : Int32 → Int32 → vMem → Option vMem) (l1 : Int32) (l2 : Int32) (σ : vMem) : Option vMem :=
  if (σ.1 5 0) ≤ l2 then (fX7_findFed_136 σ) else
  (if (σ.1 0 10) = (-1 : Int32) then (LfX7_findFed_88 K65 200 l1 l2 (l2 + (1 : Int32)) σ) else
  (fX7_findFed_136 σ))
theorem vX7_findFed_65 {ad : Nat → Nat} {Q : Option Value → vMem → Prop} {r : vMem} {K65 : Int32 → Int32 → vMem → Option vMem} (hK65 : ∀ (l1 : Int32) (l2 : Int32) (σ : vMem), K65 l1 l2 σ = some r → V GC mX7_findFed ad Q 5 65 [some (.ref (ad 0)), some (.int l1), some (.int l2), none] [] σ) {l1 : Int32} {l2 : Int32} {σ : vMem} (h : fX7_findFed_65 K65 l1 l2 σ = some r) (hQ : Q none r) : V GC mX7_findFed ad Q 5 65 [some (.ref (ad 0)), some (.int l1), some (.int l2), none] [] σ := by
  unfold fX7_findFed_65 at h
  refine V.iload_n dX7_findFed_65 rfl ?_
  refine V.aload_n dX7_findFed_66 rfl ?_
  refine V.get dX7_findFed_67 flX7_24 nC_0 gC_0 (by decide) (eC_0_2 _ _) ?_
  refine V.get dX7_findFed_70 flX7_217 nC_5 gC_5 (by decide) (eC_5_0 _ _) ?_
  rcases itc h with ⟨hc, h⟩ | ⟨hc, h⟩
  · refine V.icmp_ge (tgt := 136) dX7_findFed_73 (by decide) (fun _ => ?_) (fun hn => absurd hc hn)
    exact V.forget (vX7_findFed_136 h hQ) trivial
  · refine V.icmp_ge (tgt := 136) dX7_findFed_73 (by decide) (fun hn => absurd hn hc) (fun _ => ?_)
    refine V.aload_n dX7_findFed_76 rfl ?_
    refine V.get dX7_findFed_77 flX7_72 nC_0 gC_0 (by decide) (eC_0_10 _ _) ?_
    refine V.iconst ic_m1 dX7_findFed_80 ?_
    rcases itc h with ⟨hc, h⟩ | ⟨hc, h⟩
    · refine V.icmp_ne (tgt := 136) dX7_findFed_81 (by decide) (fun hn => absurd hc hn) (fun _ => ?_)
      refine V.iload_n dX7_findFed_84 rfl ?_
      refine V.iconst ic_1 dX7_findFed_85 ?_
      refine V.iadd dX7_findFed_86 ?_
      refine V.istore_n dX7_findFed_87 (by decide) rfl ?_
      exact V.forget (LvX7_findFed_88 hK65 hQ 200 _ _ _ _ h) ⟨rfl, ⟨rfl, ⟨rfl, ⟨rfl, trivial⟩⟩⟩⟩
    · refine V.icmp_ne (tgt := 136) dX7_findFed_81 (by decide) (fun _ => ?_) (fun hn => absurd hn hc)
      exact V.forget (vX7_findFed_136 h hQ) trivial
def LfX7_findFed_65 : Nat → Int32 → Int32 → vMem → Option vMem
  | 0, _, _, _ => none
  | n + 1, l1, l2, σ => fX7_findFed_65 (LfX7_findFed_65 n) l1 l2 σ
theorem LvX7_findFed_65 {ad : Nat → Nat} {Q : Option Value → vMem → Prop} {r : vMem} (hQ : Q none r) : ∀ (n : Nat) (l1 : Int32) (l2 : Int32) (σ : vMem), LfX7_findFed_65 n l1 l2 σ = some r → V GC mX7_findFed ad Q 5 65 [some (.ref (ad 0)), some (.int l1), some (.int l2), none] [] σ := by
  intro n
  induction n with
  | zero => intro l1 l2 σ h; cases h
  | succ n ih => intro l1 l2 σ h; exact vX7_findFed_65 ih h hQ
def fX7_findFed_63 (l1 : Int32) (σ : vMem) : Option vMem :=
  LfX7_findFed_65 200 l1 (0 : Int32) σ
theorem vX7_findFed_63 {ad : Nat → Nat} {Q : Option Value → vMem → Prop} {r : vMem} {l1 : Int32} {σ : vMem} (h : fX7_findFed_63 l1 σ = some r) (hQ : Q none r) : V GC mX7_findFed ad Q 5 63 [some (.ref (ad 0)), some (.int l1), none, none] [] σ := by
  unfold fX7_findFed_63 at h
  refine V.iconst ic_0 dX7_findFed_63 ?_
  refine V.istore_n dX7_findFed_64 (by decide) rfl ?_
  exact V.forget (LvX7_findFed_65 hQ 200 _ _ _ h) ⟨rfl, ⟨rfl, ⟨rfl, trivial⟩⟩⟩
def fX7_findFed_57 (K21 : Int32 → Int32 → vMem → Option vMem) (l1 : Int32) (l2 : Int32) (σ : vMem) : Option vMem :=
  K21 l1 (l2 + (1 : Int32)) σ
theorem vX7_findFed_57 {ad : Nat → Nat} {Q : Option Value → vMem → Prop} {r : vMem} {K21 : Int32 → Int32 → vMem → Option vMem} (hK21 : ∀ (l1 : Int32) (l2 : Int32) (σ : vMem), K21 l1 l2 σ = some r → V GC mX7_findFed ad Q 5 21 [some (.ref (ad 0)), some (.int l1), some (.int l2), none] [] σ) {l1 : Int32} {l2 : Int32} {σ : vMem} (h : fX7_findFed_57 K21 l1 l2 σ = some r) (hQ : Q none r) : V GC mX7_findFed ad Q 5 57 [some (.ref (ad 0)), some (.int l1), some (.int l2), none] [] σ := by
  unfold fX7_findFed_57 at h
  refine V.iinc dX7_findFed_57 rfl (ii_1 _) (by decide) rfl ?_
  refine V.goto (tgt := 21) dX7_findFed_60 (by decide) ?_
  exact V.forget (hK21 _ _ _ h) ⟨rfl, ⟨rfl, ⟨rfl, trivial⟩⟩⟩
def fX7_findFed_21 (K21 : Int32 → Int32 → vMem → Option vMem) (l1 : Int32) (l2 : Int32) (σ : vMem) : Option vMem :=
  if (σ.1 5 0) ≤ l2 then (fX7_findFed_63 l1 σ) else
  (if (σ.1 0 10) = (-1 : Int32) then ((fX7_staysWhole l1 l2 (-1 : Int32) σ).bind fun q1 => if q1.1 = 0 then (fX7_findFed_57 K21 l1 l2 q1.2) else
  ((fX7_keepFed (1 : Int32) l2 (-1 : Int32) q1.2).bind fun q2 => fX7_findFed_57 K21 l1 l2 q2)) else
  (fX7_findFed_63 l1 σ))
theorem vX7_findFed_21 {ad : Nat → Nat} {Q : Option Value → vMem → Prop} {r : vMem} {K21 : Int32 → Int32 → vMem → Option vMem} (hK21 : ∀ (l1 : Int32) (l2 : Int32) (σ : vMem), K21 l1 l2 σ = some r → V GC mX7_findFed ad Q 5 21 [some (.ref (ad 0)), some (.int l1), some (.int l2), none] [] σ) {l1 : Int32} {l2 : Int32} {σ : vMem} (h : fX7_findFed_21 K21 l1 l2 σ = some r) (hQ : Q none r) : V GC mX7_findFed ad Q 5 21 [some (.ref (ad 0)), some (.int l1), some (.int l2), none] [] σ := by
  unfold fX7_findFed_21 at h
  refine V.iload_n dX7_findFed_21 rfl ?_
  refine V.aload_n dX7_findFed_22 rfl ?_
  refine V.get dX7_findFed_23 flX7_24 nC_0 gC_0 (by decide) (eC_0_2 _ _) ?_
  refine V.get dX7_findFed_26 flX7_217 nC_5 gC_5 (by decide) (eC_5_0 _ _) ?_
  rcases itc h with ⟨hc, h⟩ | ⟨hc, h⟩
  · refine V.icmp_ge (tgt := 63) dX7_findFed_29 (by decide) (fun _ => ?_) (fun hn => absurd hc hn)
    exact V.forget (vX7_findFed_63 h hQ) ⟨rfl, ⟨rfl, trivial⟩⟩
  · refine V.icmp_ge (tgt := 63) dX7_findFed_29 (by decide) (fun hn => absurd hn hc) (fun _ => ?_)
    refine V.aload_n dX7_findFed_32 rfl ?_
    refine V.get dX7_findFed_33 flX7_72 nC_0 gC_0 (by decide) (eC_0_10 _ _) ?_
    refine V.iconst ic_m1 dX7_findFed_36 ?_
    rcases itc h with ⟨hc, h⟩ | ⟨hc, h⟩
    · refine V.icmp_ne (tgt := 63) dX7_findFed_37 (by decide) (fun hn => absurd hc hn) (fun _ => ?_)
      refine V.aload_n dX7_findFed_40 rfl ?_
      refine V.iload_n dX7_findFed_41 rfl ?_
      refine V.iload_n dX7_findFed_42 rfl ?_
      refine V.iconst ic_m1 dX7_findFed_43 ?_
      obtain ⟨q1, h1, h⟩ := bdc h
      refine V.callV3 (mc := mX7_staysWhole) (d' := 4) dX7_findFed_44 lkX7_367 hfX7_staysWhole nC_0 gC_0 rfl (by decide) (Nat.le_of_ble_eq_true rfl) (Nat.le_of_ble_eq_true rfl) (vX7_staysWhole h1 ?_)
      rcases itc h with ⟨hc, h⟩ | ⟨hc, h⟩
      · refine V.if_eq (tgt := 57) dX7_findFed_47 (by decide) (fun _ => ?_) (fun hn => absurd hc hn)
        exact V.forget (vX7_findFed_57 hK21 h hQ) ⟨rfl, ⟨rfl, ⟨rfl, trivial⟩⟩⟩
      · refine V.if_eq (tgt := 57) dX7_findFed_47 (by decide) (fun hn => absurd hn hc) (fun _ => ?_)
        refine V.aload_n dX7_findFed_50 rfl ?_
        refine V.iconst ic_1 dX7_findFed_51 ?_
        refine V.iload_n dX7_findFed_52 rfl ?_
        refine V.iconst ic_m1 dX7_findFed_53 ?_
        obtain ⟨q2, h1, h⟩ := bdc h
        refine V.callV3 (mc := mX7_keepFed) (d' := 0) dX7_findFed_54 lkX7_370 hfX7_keepFed nC_0 gC_0 rfl (by decide) (Nat.le_of_ble_eq_true rfl) (Nat.le_of_ble_eq_true rfl) (vX7_keepFed h1 ?_)
        exact V.forget (vX7_findFed_57 hK21 h hQ) ⟨rfl, ⟨rfl, ⟨rfl, trivial⟩⟩⟩
    · refine V.icmp_ne (tgt := 63) dX7_findFed_37 (by decide) (fun _ => ?_) (fun hn => absurd hn hc)
      exact V.forget (vX7_findFed_63 h hQ) ⟨rfl, ⟨rfl, trivial⟩⟩
def LfX7_findFed_21 : Nat → Int32 → Int32 → vMem → Option vMem
  | 0, _, _, _ => none
  | n + 1, l1, l2, σ => fX7_findFed_21 (LfX7_findFed_21 n) l1 l2 σ
theorem LvX7_findFed_21 {ad : Nat → Nat} {Q : Option Value → vMem → Prop} {r : vMem} (hQ : Q none r) : ∀ (n : Nat) (l1 : Int32) (l2 : Int32) (σ : vMem), LfX7_findFed_21 n l1 l2 σ = some r → V GC mX7_findFed ad Q 5 21 [some (.ref (ad 0)), some (.int l1), some (.int l2), none] [] σ := by
  intro n
  induction n with
  | zero => intro l1 l2 σ h; cases h
  | succ n ih => intro l1 l2 σ h; exact vX7_findFed_21 ih h hQ
def fX7_findFed_19 (l1 : Int32) (σ : vMem) : Option vMem :=
  LfX7_findFed_21 200 l1 (0 : Int32) σ
theorem vX7_findFed_19 {ad : Nat → Nat} {Q : Option Value → vMem → Prop} {r : vMem} {l1 : Int32} {σ : vMem} (h : fX7_findFed_19 l1 σ = some r) (hQ : Q none r) : V GC mX7_findFed ad Q 5 19 [some (.ref (ad 0)), some (.int l1), none, none] [] σ := by
  unfold fX7_findFed_19 at h
  refine V.iconst ic_0 dX7_findFed_19 ?_
  refine V.istore_n dX7_findFed_20 (by decide) rfl ?_
  exact V.forget (LvX7_findFed_21 hQ 200 _ _ _ h) ⟨rfl, ⟨rfl, ⟨rfl, trivial⟩⟩⟩
def fX7_findFed_16 (l1 : Int32) (s1 : Int32) (σ : vMem) : Option vMem :=
  fX7_findFed_19 l1 (vup σ 0 10 s1)
theorem vX7_findFed_16 {ad : Nat → Nat} {Q : Option Value → vMem → Prop} {r : vMem} {l1 : Int32} {s1 : Int32} {σ : vMem} (h : fX7_findFed_16 l1 s1 σ = some r) (hQ : Q none r) : V GC mX7_findFed ad Q 5 16 [some (.ref (ad 0)), some (.int l1), none, none] [.int s1, .ref (ad 0)] σ := by
  unfold fX7_findFed_16 at h
  refine V.putI dX7_findFed_16 fpX7_72 nC_0 gC_0 (by decide) rfl ?_
  exact V.forget (vX7_findFed_19 h hQ) ⟨rfl, ⟨rfl, trivial⟩⟩
def fX7_findFed (l1 : Int32) (σ : vMem) : Option vMem :=
  (fX7_staysWhole l1 (-1 : Int32) (-1 : Int32) σ).bind fun q1 => if q1.1 = 0 then (fX7_findFed_16 l1 (-1 : Int32) q1.2) else
  (fX7_findFed_16 l1 (0 : Int32) q1.2)
theorem vX7_findFed {ad : Nat → Nat} {Q : Option Value → vMem → Prop} {r : vMem} {l1 : Int32} {σ : vMem} (h : fX7_findFed l1 σ = some r) (hQ : Q none r) : V GC mX7_findFed ad Q 5 0 [some (.ref (ad 0)), some (.int l1), none, none] [] σ := by
  unfold fX7_findFed at h
  refine V.aload_n dX7_findFed_0 rfl ?_
  refine V.aload_n dX7_findFed_1 rfl ?_
  refine V.iload_n dX7_findFed_2 rfl ?_
  refine V.iconst ic_m1 dX7_findFed_3 ?_
  refine V.iconst ic_m1 dX7_findFed_4 ?_
  obtain ⟨q1, h1, h⟩ := bdc h
  refine V.callV3 (mc := mX7_staysWhole) (d' := 4) dX7_findFed_5 lkX7_367 hfX7_staysWhole nC_0 gC_0 rfl (by decide) (Nat.le_of_ble_eq_true rfl) (Nat.le_of_ble_eq_true rfl) (vX7_staysWhole h1 ?_)
  rcases itc h with ⟨hc, h⟩ | ⟨hc, h⟩
  · refine V.if_eq (tgt := 15) dX7_findFed_8 (by decide) (fun _ => ?_) (fun hn => absurd hc hn)
    refine V.iconst ic_m1 dX7_findFed_15 ?_
    exact V.forget (vX7_findFed_16 h hQ) ⟨rfl, ⟨rfl, trivial⟩⟩
  · refine V.if_eq (tgt := 15) dX7_findFed_8 (by decide) (fun hn => absurd hn hc) (fun _ => ?_)
    refine V.iconst ic_0 dX7_findFed_11 ?_
    refine V.goto (tgt := 16) dX7_findFed_12 (by decide) ?_
    exact V.forget (vX7_findFed_16 h hQ) ⟨rfl, ⟨rfl, trivial⟩⟩
