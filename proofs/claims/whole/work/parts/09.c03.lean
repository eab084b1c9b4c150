def fX7_fedAt_27 (s0 : Int32) (σ : vMem) : Option (Int32 × vMem) :=
  some (s0, σ)
theorem vX7_fedAt_27 {ad : Nat → Nat} {Q : Option Value → vMem → Prop} {r : (Int32 × vMem)} {s0 : Int32} {σ : vMem} (h : fX7_fedAt_27 s0 σ = some r) (hQ : Q (some (.int r.1)) r.2) : V GC mX7_fedAt ad Q 0 27 [none, none] [.int s0] σ := by
  unfold fX7_fedAt_27 at h
  obtain rfl := Option.some.inj h
  exact V.iret dX7_fedAt_27 rfl hQ
def fX7_fedAt_26 (σ : vMem) : Option (Int32 × vMem) :=
  fX7_fedAt_27 (-1 : Int32) σ
theorem vX7_fedAt_26 {ad : Nat → Nat} {Q : Option Value → vMem → Prop} {r : (Int32 × vMem)} {σ : vMem} (h : fX7_fedAt_26 σ = some r) (hQ : Q (some (.int r.1)) r.2) : V GC mX7_fedAt ad Q 0 26 [none, none] [] σ := by
  unfold fX7_fedAt_26 at h
  refine V.iconst ic_m1 dX7_fedAt_26 ?_
  exact V.forget (vX7_fedAt_27 h hQ) trivial
def fX7_fedAt (l1 : Int32) (σ : vMem) : Option (Int32 × vMem) :=
  if l1 < 0 then (fX7_fedAt_26 σ) else
  (if (σ.1 0 10) ≤ l1 then (fX7_fedAt_26 σ) else
  (if (2 : Int32) ≤ l1 then (fX7_fedAt_26 σ) else
  (if l1 < 0 ∨ 2 ≤ l1.toNatClampNeg then none else fX7_fedAt_27 (σ.1 38 l1.toNatClampNeg) σ)))
theorem vX7_fedAt {ad : Nat → Nat} {Q : Option Value → vMem → Prop} {r : (Int32 × vMem)} {l1 : Int32} {σ : vMem} (h : fX7_fedAt l1 σ = some r) (hQ : Q (some (.int r.1)) r.2) : V GC mX7_fedAt ad Q 0 0 [some (.ref (ad 0)), some (.int l1)] [] σ := by
  unfold fX7_fedAt at h
  refine V.iload_n dX7_fedAt_0 rfl ?_
  rcases itc h with ⟨hc, h⟩ | ⟨hc, h⟩
  · refine V.if_lt (tgt := 26) dX7_fedAt_1 (by decide) (fun _ => ?_) (fun hn => absurd hc hn)
    exact V.forget (vX7_fedAt_26 h hQ) trivial
  · refine V.if_lt (tgt := 26) dX7_fedAt_1 (by decide) (fun hn => absurd hn hc) (fun _ => ?_)
    refine V.iload_n dX7_fedAt_4 rfl ?_
    refine V.aload_n dX7_fedAt_5 rfl ?_
    refine V.get dX7_fedAt_6 flX7_72 nC_0 gC_0 (by decide) (eC_0_10 _ _) ?_
    rcases itc h with ⟨hc, h⟩ | ⟨hc, h⟩
    · refine V.icmp_ge (tgt := 26) dX7_fedAt_9 (by decide) (fun _ => ?_) (fun hn => absurd hc hn)
      exact V.forget (vX7_fedAt_26 h hQ) trivial
    · refine V.icmp_ge (tgt := 26) dX7_fedAt_9 (by decide) (fun hn => absurd hn hc) (fun _ => ?_)
      refine V.iload_n dX7_fedAt_12 rfl ?_
      refine V.iconst ic_2 dX7_fedAt_13 ?_
      rcases itc h with ⟨hc, h⟩ | ⟨hc, h⟩
      · refine V.icmp_ge (tgt := 26) dX7_fedAt_14 (by decide) (fun _ => ?_) (fun hn => absurd hc hn)
        exact V.forget (vX7_fedAt_26 h hQ) trivial
      · refine V.icmp_ge (tgt := 26) dX7_fedAt_14 (by decide) (fun hn => absurd hn hc) (fun _ => ?_)
        refine V.aload_n dX7_fedAt_17 rfl ?_
        refine V.get dX7_fedAt_18 flX7_68 nC_0 gC_0 (by decide) (eC_0_9 _ _) ?_
        refine V.iload_n dX7_fedAt_21 rfl ?_
        obtain ⟨hb, h⟩ := ckn h
        refine V.iald dX7_fedAt_22 nC_38 gC_38 hb ?_
        refine V.goto (tgt := 27) dX7_fedAt_23 (by decide) ?_
        exact V.forget (vX7_fedAt_27 h hQ) trivial
def fX7_feed_18 (σ : vMem) : Option (Int32 × vMem) :=
  some ((-2 : Int32), σ)
theorem vX7_feed_18 {ad : Nat → Nat} {Q : Option Value → vMem → Prop} {r : (Int32 × vMem)} {σ : vMem} (h : fX7_feed_18 σ = some r) (hQ : Q (some (.int r.1)) r.2) : V GC mX7_feed ad Q 6 18 [none, none, none] [] σ := by
  unfold fX7_feed_18 at h
  refine V.bipush bp_m2 dX7_feed_18 ?_
  obtain rfl := Option.some.inj h
  exact V.iret dX7_feed_20 rfl hQ
def fX7_feed_43 (s0 : Int32) (σ : vMem) : Option (Int32 × vMem) :=
  some (s0, σ)
theorem vX7_feed_43 {ad : Nat → Nat} {Q : Option Value → vMem → Prop} {r : (Int32 × vMem)} {s0 : Int32} {σ : vMem} (h : fX7_feed_43 s0 σ = some r) (hQ : Q (some (.int r.1)) r.2) : V GC mX7_feed ad Q 6 43 [none, none, none] [.int s0] σ := by
  unfold fX7_feed_43 at h
  obtain rfl := Option.some.inj h
  exact V.iret dX7_feed_43 rfl hQ
def fX7_feed (l1 : Int32) (l2 : Int32) (σ : vMem) : Option (Int32 × vMem) :=
  (fX7_isBasket l1 σ).bind fun q1 => if q1.1 = 0 then (fX7_feed_18 q1.2) else
  (if l2 < (-1 : Int32) then (fX7_feed_18 q1.2) else
  (if l2 < (2 : Int32) then ((fX7_findFed l1 q1.2).bind fun q2 => if l2 = (-1 : Int32) then (fX7_feed_43 (q2.1 0 10) q2) else
  ((fX7_fedAt l2 q2).bind fun q3 => fX7_feed_43 q3.1 q3.2)) else
  (fX7_feed_18 q1.2)))
theorem vX7_feed {ad : Nat → Nat} {Q : Option Value → vMem → Prop} {r : (Int32 × vMem)} {l1 : Int32} {l2 : Int32} {σ : vMem} (h : fX7_feed l1 l2 σ = some r) (hQ : Q (some (.int r.1)) r.2) : V GC mX7_feed ad Q 6 0 [some (.ref (ad 0)), some (.int l1), some (.int l2)] [] σ := by
  unfold fX7_feed at h
  refine V.aload_n dX7_feed_0 rfl ?_
  refine V.iload_n dX7_feed_1 rfl ?_
  obtain ⟨q1, h1, h⟩ := bdc h
  refine V.callV1 (mc := mX7_isBasket) (d' := 0) dX7_feed_2 lkX7_125 hfX7_isBasket nC_0 gC_0 rfl (by decide) (Nat.le_of_ble_eq_true rfl) (Nat.le_of_ble_eq_true rfl) (vX7_isBasket h1 ?_)
  rcases itc h with ⟨hc, h⟩ | ⟨hc, h⟩
  · refine V.if_eq (tgt := 18) dX7_feed_5 (by decide) (fun _ => ?_) (fun hn => absurd hc hn)
    exact V.forget (vX7_feed_18 h hQ) trivial
  · refine V.if_eq (tgt := 18) dX7_feed_5 (by decide) (fun hn => absurd hn hc) (fun _ => ?_)
    refine V.iload_n dX7_feed_8 rfl ?_
    refine V.iconst ic_m1 dX7_feed_9 ?_
    rcases itc h with ⟨hc, h⟩ | ⟨hc, h⟩
    · refine V.icmp_lt (tgt := 18) dX7_feed_10 (by decide) (fun _ => ?_) (fun hn => absurd hc hn)
      exact V.forget (vX7_feed_18 h hQ) trivial
    · refine V.icmp_lt (tgt := 18) dX7_feed_10 (by decide) (fun hn => absurd hn hc) (fun _ => ?_)
      refine V.iload_n dX7_feed_13 rfl ?_
      refine V.iconst ic_2 dX7_feed_14 ?_
      rcases itc h with ⟨hc, h⟩ | ⟨hc, h⟩
      · refine V.icmp_lt (tgt := 21) dX7_feed_15 (by decide) (fun _ => ?_) (fun hn => absurd hc hn)
        refine V.aload_n dX7_feed_21 rfl ?_
        refine V.iload_n dX7_feed_22 rfl ?_
        obtain ⟨q2, h1, h⟩ := bdc h
        refine V.callV1 (mc := mX7_findFed) (d' := 5) dX7_feed_23 lkX7_240 hfX7_findFed nC_0 gC_0 rfl (by decide) (Nat.le_of_ble_eq_true rfl) (Nat.le_of_ble_eq_true rfl) (vX7_findFed h1 ?_)
        refine V.iload_n dX7_feed_26 rfl ?_
        refine V.iconst ic_m1 dX7_feed_27 ?_
        rcases itc h with ⟨hc, h⟩ | ⟨hc, h⟩
        · refine V.icmp_ne (tgt := 38) dX7_feed_28 (by decide) (fun hn => absurd hc hn) (fun _ => ?_)
          refine V.aload_n dX7_feed_31 rfl ?_
          refine V.get dX7_feed_32 flX7_72 nC_0 gC_0 (by decide) (eC_0_10 _ _) ?_
          refine V.goto (tgt := 43) dX7_feed_35 (by decide) ?_
          exact V.forget (vX7_feed_43 h hQ) trivial
        · refine V.icmp_ne (tgt := 38) dX7_feed_28 (by decide) (fun _ => ?_) (fun hn => absurd hn hc)
          refine V.aload_n dX7_feed_38 rfl ?_
          refine V.iload_n dX7_feed_39 rfl ?_
          obtain ⟨q3, h1, h⟩ := bdc h
          refine V.callV1 (mc := mX7_fedAt) (d' := 0) dX7_feed_40 lkX7_243 hfX7_fedAt nC_0 gC_0 rfl (by decide) (Nat.le_of_ble_eq_true rfl) (Nat.le_of_ble_eq_true rfl) (vX7_fedAt h1 ?_)
          exact V.forget (vX7_feed_43 h hQ) trivial
      · refine V.icmp_lt (tgt := 21) dX7_feed_15 (by decide) (fun hn => absurd hn hc) (fun _ => ?_)
        exact V.forget (vX7_feed_18 h hQ) trivial
def fX1_allBut_25 (l1 : Int32) (σ : vMem) : Option (Int64 × vMem) :=
  (fX1_chosen_25 (((1 : Int32) <<< (l1 &&& 31)) ^^^ (-1 : Int32)) σ).bind fun q1 => some (q1.1, q1.2)
theorem vX1_allBut_25 {ad : Nat → Nat} {Q : Option Value → vMem → Prop} {r : (Int64 × vMem)} {l1 : Int32} {σ : vMem} (h : fX1_allBut_25 l1 σ = some r) (hQ : Q (some (.long r.1)) r.2) : V GC mX1_allBut ad Q 1 0 [some (.ref (ad 25)), some (.int l1)] [] σ := by
  unfold fX1_allBut_25 at h
  refine V.aload_n dX1_allBut_0 rfl ?_
  refine V.iconst ic_1 dX1_allBut_1 ?_
  refine V.iload_n dX1_allBut_2 rfl ?_
  refine V.ishl dX1_allBut_3 ?_
  refine V.iconst ic_m1 dX1_allBut_4 ?_
  refine V.ixor dX1_allBut_5 ?_
  obtain ⟨q1, h1, h⟩ := bdc h
  refine V.callV1 (mc := mX1_chosen) (d' := 0) dX1_allBut_6 lkX1_19 hfX1_chosen nC_25 gC_25 rfl (by decide) (Nat.le_of_ble_eq_true rfl) (Nat.le_of_ble_eq_true rfl) (vX1_chosen_25 h1 ?_)
  obtain rfl := Option.some.inj h
  exact V.lret dX1_allBut_9 rfl hQ
def fX7_findStill_9 (K9 : Int32 → vMem → Option vMem) (l1 : Int32) (σ : vMem) : Option vMem :=
  if (σ.1 25 1) ≤ l1 then (some σ) else
  ((fX1_allBut_25 l1 σ).bind fun q1 => (fX1_all_27 q1.2).bind fun q2 => (fX6_go q1.1 q2.1 (40 : Int32) q2.2).bind fun q3 => (fX6_loadUp q3).bind fun q4 => (fX0_offer l1 q4.1 q4.2).bind fun q5 => K9 (l1 + (1 : Int32)) q5)
theorem vX7_findStill_9 {ad : Nat → Nat} {Q : Option Value → vMem → Prop} {r : vMem} {K9 : Int32 → vMem → Option vMem} (hK9 : ∀ (l1 : Int32) (σ : vMem), K9 l1 σ = some r → V GC mX7_findStill ad Q 4 9 [some (.ref (ad 0)), some (.int l1)] [] σ) {l1 : Int32} {σ : vMem} (h : fX7_findStill_9 K9 l1 σ = some r) (hQ : Q none r) : V GC mX7_findStill ad Q 4 9 [some (.ref (ad 0)), some (.int l1)] [] σ := by
  unfold fX7_findStill_9 at h
  refine V.iload_n dX7_findStill_9 rfl ?_
  refine V.aload_n dX7_findStill_10 rfl ?_
  refine V.get dX7_findStill_11 flX7_40 nC_0 gC_0 (by decide) (eC_0_4 _ _) ?_
  refine V.get dX7_findStill_14 flX7_151 nC_25 gC_25 (by decide) (eC_25_1 _ _) ?_
  rcases itc h with ⟨hc, h⟩ | ⟨hc, h⟩
  · refine V.icmp_ge (tgt := 65) dX7_findStill_17 (by decide) (fun _ => ?_) (fun hn => absurd hc hn)
    obtain rfl := Option.some.inj h
    exact V.vret dX7_findStill_65 rfl hQ
  · refine V.icmp_ge (tgt := 65) dX7_findStill_17 (by decide) (fun hn => absurd hn hc) (fun _ => ?_)
    refine V.aload_n dX7_findStill_20 rfl ?_
    refine V.get dX7_findStill_21 flX7_33 nC_0 gC_0 (by decide) (eC_0_3 _ _) ?_
    refine V.aload_n dX7_findStill_24 rfl ?_
    refine V.get dX7_findStill_25 flX7_40 nC_0 gC_0 (by decide) (eC_0_4 _ _) ?_
    refine V.iload_n dX7_findStill_28 rfl ?_
    obtain ⟨q1, h1, h⟩ := bdc h
    refine V.callV1 (mc := mX1_allBut) (d' := 1) dX7_findStill_29 lkX7_254 hfX1_allBut nC_25 gC_25 rfl (by decide) (Nat.le_of_ble_eq_true rfl) (Nat.le_of_ble_eq_true rfl) (vX1_allBut_25 h1 ?_)
    refine V.aload_n dX7_findStill_32 rfl ?_
    refine V.get dX7_findStill_33 flX7_44 nC_0 gC_0 (by decide) (eC_0_5 _ _) ?_
    obtain ⟨q2, h1, h⟩ := bdc h
    refine V.callV0 (mc := mX1_all) (d' := 1) dX7_findStill_36 lkX7_169 hfX1_all nC_27 gC_27 rfl (by decide) (Nat.le_of_ble_eq_true rfl) (Nat.le_of_ble_eq_true rfl) (vX1_all_27 h1 ?_)
    refine V.bipush bp_40 dX7_findStill_39 ?_
    obtain ⟨q3, h1, h⟩ := bdc h
    refine V.callV3 (mc := mX6_go) (d' := 3) dX7_findStill_41 lkX7_173 hfX6_go nC_13 gC_13 rfl (by decide) (Nat.le_of_ble_eq_true rfl) (Nat.le_of_ble_eq_true rfl) (vX6_go h1 ?_)
    refine V.aload_n dX7_findStill_44 rfl ?_
    refine V.get dX7_findStill_45 flX7_64 nC_0 gC_0 (by decide) (eC_0_8 _ _) ?_
    refine V.iload_n dX7_findStill_48 rfl ?_
    refine V.aload_n dX7_findStill_49 rfl ?_
    refine V.get dX7_findStill_50 flX7_33 nC_0 gC_0 (by decide) (eC_0_3 _ _) ?_
    obtain ⟨q4, h1, h⟩ := bdc h
    refine V.callV0 (mc := mX6_loadUp) (d' := 0) dX7_findStill_53 lkX7_205 hfX6_loadUp nC_13 gC_13 rfl (by decide) (Nat.le_of_ble_eq_true rfl) (Nat.le_of_ble_eq_true rfl) (vX6_loadUp h1 ?_)
    obtain ⟨q5, h1, h⟩ := bdc h
    refine V.callV2 (mc := mX0_offer) (d' := 0) dX7_findStill_56 lkX7_220 hfX0_offer nC_37 gC_37 rfl (by decide) (Nat.le_of_ble_eq_true rfl) (Nat.le_of_ble_eq_true rfl) (vX0_offer h1 ?_)
    refine V.iinc dX7_findStill_59 rfl (ii_1 _) (by decide) rfl ?_
    refine V.goto (tgt := 9) dX7_findStill_62 (by decide) ?_
    exact V.forget (hK9 _ _ h) ⟨rfl, ⟨rfl, trivial⟩⟩
def LfX7_findStill_9 : Nat → Int32 → vMem → Option vMem
  | 0, _, _ => none
  | n + 1, l1, σ => fX7_findStill_9 (LfX7_findStill_9 n) l1 σ
theorem LvX7_findStill_9 {ad : Nat → Nat} {Q : Option Value → vMem → Prop} {r : vMem} (hQ : Q none r) : ∀ (n : Nat) (l1 : Int32) (σ : vMem), LfX7_findStill_9 n l1 σ = some r → V GC mX7_findStill ad Q 4 9 [some (.ref (ad 0)), some (.int l1)] [] σ := by
  intro n
  induction n with
  | zero => intro l1 σ h; cases h
  | succ n ih => intro l1 σ h; exact vX7_findStill_9 ih h hQ
def fX7_findStill (σ : vMem) : Option vMem :=
  (fX0_clear σ).bind fun q1 => LfX7_findStill_9 200 (0 : Int32) q1
theorem vX7_findStill {ad : Nat → Nat} {Q : Option Value → vMem → Prop} {r : vMem} {σ : vMem} (h : fX7_findStill σ = some r) (hQ : Q none r) : V GC mX7_findStill ad Q 4 0 [some (.ref (ad 0)), none] [] σ := by
  unfold fX7_findStill at h
  refine V.aload_n dX7_findStill_0 rfl ?_
  refine V.get dX7_findStill_1 flX7_64 nC_0 gC_0 (by decide) (eC_0_8 _ _) ?_
  obtain ⟨q1, h1, h⟩ := bdc h
  refine V.callV0 (mc := mX0_clear) (d' := 0) dX7_findStill_4 lkX7_214 hfX0_clear nC_37 gC_37 rfl (by decide) (Nat.le_of_ble_eq_true rfl) (Nat.le_of_ble_eq_true rfl) (vX0_clear h1 ?_)
  refine V.iconst ic_0 dX7_findStill_7 ?_
  refine V.istore_n dX7_findStill_8 (by decide) rfl ?_
  exact V.forget (LvX7_findStill_9 hQ 200 _ _ h) ⟨rfl, ⟨rfl, trivial⟩⟩
def fX7_still_37 (s0 : Int32) (σ : vMem) : Option (Int32 × vMem) :=
  some (s0, σ)
theorem vX7_still_37 {ad : Nat → Nat} {Q : Option Value → vMem → Prop} {r : (Int32 × vMem)} {s0 : Int32} {σ : vMem} (h : fX7_still_37 s0 σ = some r) (hQ : Q (some (.int r.1)) r.2) : V GC mX7_still ad Q 5 37 [none, none] [.int s0] σ := by
  unfold fX7_still_37 at h
  obtain rfl := Option.some.inj h
  exact V.iret dX7_still_37 rfl hQ
def fX7_still_12 (l1 : Int32) (σ : vMem) : Option (Int32 × vMem) :=
  (fX7_findStill σ).bind fun q1 => if l1 = 0 then (fX7_still_37 (q1.1 37 0) q1) else
  (fX7_still_37 (q1.1 37 1) q1)
theorem vX7_still_12 {ad : Nat → Nat} {Q : Option Value → vMem → Prop} {r : (Int32 × vMem)} {l1 : Int32} {σ : vMem} (h : fX7_still_12 l1 σ = some r) (hQ : Q (some (.int r.1)) r.2) : V GC mX7_still ad Q 5 12 [some (.ref (ad 0)), some (.int l1)] [] σ := by
  unfold fX7_still_12 at h
  refine V.aload_n dX7_still_12 rfl ?_
  obtain ⟨q1, h1, h⟩ := bdc h
  refine V.callV0 (mc := mX7_findStill) (d' := 4) dX7_still_13 lkX7_246 hfX7_findStill nC_0 gC_0 rfl (by decide) (Nat.le_of_ble_eq_true rfl) (Nat.le_of_ble_eq_true rfl) (vX7_findStill h1 ?_)
  refine V.iload_n dX7_still_16 rfl ?_
  rcases itc h with ⟨hc, h⟩ | ⟨hc, h⟩
  · refine V.if_ne (tgt := 30) dX7_still_17 (by decide) (fun hn => absurd hc hn) (fun _ => ?_)
    refine V.aload_n dX7_still_20 rfl ?_
    refine V.get dX7_still_21 flX7_64 nC_0 gC_0 (by decide) (eC_0_8 _ _) ?_
    refine V.get dX7_still_24 flX7_224 nC_37 gC_37 (by decide) (eC_37_0 _ _) ?_
    refine V.goto (tgt := 37) dX7_still_27 (by decide) ?_
    exact V.forget (vX7_still_37 h hQ) trivial
  · refine V.if_ne (tgt := 30) dX7_still_17 (by decide) (fun _ => ?_) (fun hn => absurd hn hc)
    refine V.aload_n dX7_still_30 rfl ?_
    refine V.get dX7_still_31 flX7_64 nC_0 gC_0 (by decide) (eC_0_8 _ _) ?_
    refine V.get dX7_still_34 flX7_230 nC_37 gC_37 (by decide) (eC_37_1 _ _) ?_
    exact V.forget (vX7_still_37 h hQ) trivial
def fX7_still (l1 : Int32) (σ : vMem) : Option (Int32 × vMem) :=
  if l1 = 0 then (fX7_still_12 l1 σ) else
  (if l1 = (1 : Int32) then (fX7_still_12 l1 σ) else
  (some ((-2 : Int32), σ)))
theorem vX7_still {ad : Nat → Nat} {Q : Option Value → vMem → Prop} {r : (Int32 × vMem)} {l1 : Int32} {σ : vMem} (h : fX7_still l1 σ = some r) (hQ : Q (some (.int r.1)) r.2) : V GC mX7_still ad Q 5 0 [some (.ref (ad 0)), some (.int l1)] [] σ := by
  unfold fX7_still at h
  refine V.iload_n dX7_still_0 rfl ?_
  rcases itc h with ⟨hc, h⟩ | ⟨hc, h⟩
  · refine V.if_eq (tgt := 12) dX7_still_1 (by decide) (fun _ => ?_) (fun hn => absurd hc hn)
    exact V.forget (vX7_still_12 h hQ) ⟨rfl, ⟨rfl, trivial⟩⟩
  · refine V.if_eq (tgt := 12) dX7_still_1 (by decide) (fun hn => absurd hn hc) (fun _ => ?_)
    refine V.iload_n dX7_still_4 rfl ?_
    refine V.iconst ic_1 dX7_still_5 ?_
    rcases itc h with ⟨hc, h⟩ | ⟨hc, h⟩
    · refine V.icmp_eq (tgt := 12) dX7_still_6 (by decide) (fun _ => ?_) (fun hn => absurd hc hn)
      exact V.forget (vX7_still_12 h hQ) ⟨rfl, ⟨rfl, trivial⟩⟩
    · refine V.icmp_eq (tgt := 12) dX7_still_6 (by decide) (fun hn => absurd hn hc) (fun _ => ?_)
      refine V.bipush bp_m2 dX7_still_9 ?_
      obtain rfl := Option.some.inj h
      exact V.iret dX7_still_11 rfl hQ
def fX3_add_16 (σ : vMem) : Option (Int32 × vMem) :=
  some ((0 : Int32), σ)
theorem vX3_add_16 {ad : Nat → Nat} {Q : Option Value → vMem → Prop} {r : (Int32 × vMem)} {σ : vMem} (h : fX3_add_16 σ = some r) (hQ : Q (some (.int r.1)) r.2) : V GC mX3_add ad Q 0 16 [none, none, none, none] [] σ := by
  unfold fX3_add_16 at h
  refine V.iconst ic_0 dX3_add_16 ?_
  obtain rfl := Option.some.inj h
  exact V.zret dX3_add_17 rfl (Or.inl rfl) hQ
def fX3_add_68 (σ : vMem) : Option (Int32 × vMem) :=
  some ((1 : Int32), σ)
theorem vX3_add_68 {ad : Nat → Nat} {Q : Option Value → vMem → Prop} {r : (Int32 × vMem)} {σ : vMem} (h : fX3_add_68 σ = some r) (hQ : Q (some (.int r.1)) r.2) : V GC mX3_add ad Q 0 68 [none, none, none, none] [] σ := by
  unfold fX3_add_68 at h
  refine V.iconst ic_1 dX3_add_68 ?_
  obtain rfl := Option.some.inj h
  exact V.zret dX3_add_69 rfl (Or.inr rfl) hQ
def fX3_add_58 (σ : vMem) : Option (Int32 × vMem) :=
  fX3_add_68 (vup σ 29 3 ((σ.1 29 3) + (1 : Int32)))
theorem vX3_add_58 {ad : Nat → Nat} {Q : Option Value → vMem → Prop} {r : (Int32 × vMem)} {σ : vMem} (h : fX3_add_58 σ = some r) (hQ : Q (some (.int r.1)) r.2) : V GC mX3_add ad Q 0 58 [some (.ref (ad 29)), none, none, none] [] σ := by
  unfold fX3_add_58 at h
  refine V.aload_n dX3_add_58 rfl ?_
  refine V.dup rfl dX3_add_59 ?_
  refine V.get dX3_add_60 flX3_21 nC_29 gC_29 (by decide) (eC_29_3 _ _) ?_
  refine V.iconst ic_1 dX3_add_63 ?_
  refine V.iadd dX3_add_64 ?_
  refine V.putI dX3_add_65 fpX3_21 nC_29 gC_29 (by decide) rfl ?_
  exact V.forget (vX3_add_68 h hQ) trivial
def fX3_add_57 (s1 : Int32) (s2 : Int32) (σ : vMem) : Option (Int32 × vMem) :=
  if s1 < 0 ∨ 8 ≤ s1.toNatClampNeg then none else fX3_add_58 (vup σ 32 s1.toNatClampNeg s2)
theorem vX3_add_57 {ad : Nat → Nat} {Q : Option Value → vMem → Prop} {r : (Int32 × vMem)} {s1 : Int32} {s2 : Int32} {σ : vMem} (h : fX3_add_57 s1 s2 σ = some r) (hQ : Q (some (.int r.1)) r.2) : V GC mX3_add ad Q 0 57 [some (.ref (ad 29)), none, none, none] [.int s2, .int s1, .ref (ad 32)] σ := by
  unfold fX3_add_57 at h
  obtain ⟨hb, h⟩ := ckn h
  refine V.iast dX3_add_57 nC_32 gC_32 hb ?_
  exact V.forget (vX3_add_58 h hQ) ⟨rfl, trivial⟩
def fX3_add_38 (l3 : Int32) (σ : vMem) : Option (Int32 × vMem) :=
  if l3 = (8 : Int32) then (fX3_add_57 (σ.1 29 3) (-1 : Int32) σ) else
  (fX3_add_57 (σ.1 29 3) l3 σ)
theorem vX3_add_38 {ad : Nat → Nat} {Q : Option Value → vMem → Prop} {r : (Int32 × vMem)} {l3 : Int32} {σ : vMem} (h : fX3_add_38 l3 σ = some r) (hQ : Q (some (.int r.1)) r.2) : V GC mX3_add ad Q 0 38 [some (.ref (ad 29)), none, none, some (.int l3)] [] σ := by
  unfold fX3_add_38 at h
  refine V.aload_n dX3_add_38 rfl ?_
  refine V.get dX3_add_39 flX3_18 nC_29 gC_29 (by decide) (eC_29_2 _ _) ?_
  refine V.aload_n dX3_add_42 rfl ?_
  refine V.get dX3_add_43 flX3_21 nC_29 gC_29 (by decide) (eC_29_3 _ _) ?_
  refine V.iload_n dX3_add_46 rfl ?_
  refine V.bipush bp_8 dX3_add_47 ?_
  rcases itc h with ⟨hc, h⟩ | ⟨hc, h⟩
  · refine V.icmp_ne (tgt := 56) dX3_add_49 (by decide) (fun hn => absurd hc hn) (fun _ => ?_)
    refine V.iconst ic_m1 dX3_add_52 ?_
    refine V.goto (tgt := 57) dX3_add_53 (by decide) ?_
    exact V.forget (vX3_add_57 h hQ) ⟨rfl, trivial⟩
  · refine V.icmp_ne (tgt := 56) dX3_add_49 (by decide) (fun _ => ?_) (fun hn => absurd hn hc)
    refine V.iload_n dX3_add_56 rfl ?_
    exact V.forget (vX3_add_57 h hQ) ⟨rfl, trivial⟩
def fX3_add_28 (l2 : Int32) (l3 : Int32) (σ : vMem) : Option (Int32 × vMem) :=
  if (σ.1 29 3) < 0 ∨ 8 ≤ (σ.1 29 3).toNatClampNeg then none else fX3_add_38 l3 (vup σ 31 (σ.1 29 3).toNatClampNeg l2)
theorem vX3_add_28 {ad : Nat → Nat} {Q : Option Value → vMem → Prop} {r : (Int32 × vMem)} {l2 : Int32} {l3 : Int32} {σ : vMem} (h : fX3_add_28 l2 l3 σ = some r) (hQ : Q (some (.int r.1)) r.2) : V GC mX3_add ad Q 0 28 [some (.ref (ad 29)), none, some (.int l2), some (.int l3)] [] σ := by
  unfold fX3_add_28 at h
  refine V.aload_n dX3_add_28 rfl ?_
  refine V.get dX3_add_29 flX3_15 nC_29 gC_29 (by decide) (eC_29_1 _ _) ?_
  refine V.aload_n dX3_add_32 rfl ?_
  refine V.get dX3_add_33 flX3_21 nC_29 gC_29 (by decide) (eC_29_3 _ _) ?_
  refine V.iload_n dX3_add_36 rfl ?_
  obtain ⟨hb, h⟩ := ckn h
  refine V.iast dX3_add_37 nC_31 gC_31 hb ?_
  exact V.forget (vX3_add_38 h hQ) ⟨rfl, ⟨rfl, trivial⟩⟩
def fX3_add (l1 : Int32) (l2 : Int32) (l3 : Int32) (σ : vMem) : Option (Int32 × vMem) :=
  if (σ.1 29 3) < 0 then (fX3_add_16 σ) else
  (if (σ.1 29 3) < (8 : Int32) then (if (σ.1 29 3) < 0 ∨ 8 ≤ (σ.1 29 3).toNatClampNeg then none else fX3_add_28 l2 l3 (vup σ 30 (σ.1 29 3).toNatClampNeg l1)) else
  (fX3_add_16 σ))
theorem vX3_add {ad : Nat → Nat} {Q : Option Value → vMem → Prop} {r : (Int32 × vMem)} {l1 : Int32} {l2 : Int32} {l3 : Int32} {σ : vMem} (h : fX3_add l1 l2 l3 σ = some r) (hQ : Q (some (.int r.1)) r.2) : V GC mX3_add ad Q 0 0 [some (.ref (ad 29)), some (.int l1), some (.int l2), some (.int l3)] [] σ := by
  unfold fX3_add at h
  refine V.aload_n dX3_add_0 rfl ?_
  refine V.get dX3_add_1 flX3_21 nC_29 gC_29 (by decide) (eC_29_3 _ _) ?_
  rcases itc h with ⟨hc, h⟩ | ⟨hc, h⟩
  · refine V.if_lt (tgt := 16) dX3_add_4 (by decide) (fun _ => ?_) (fun hn => absurd hc hn)
    exact V.forget (vX3_add_16 h hQ) trivial
  · refine V.if_lt (tgt := 16) dX3_add_4 (by decide) (fun hn => absurd hn hc) (fun _ => ?_)
    refine V.aload_n dX3_add_7 rfl ?_
    refine V.get dX3_add_8 flX3_21 nC_29 gC_29 (by decide) (eC_29_3 _ _) ?_
    refine V.bipush bp_8 dX3_add_11 ?_
    rcases itc h with ⟨hc, h⟩ | ⟨hc, h⟩
    · refine V.icmp_lt (tgt := 18) dX3_add_13 (by decide) (fun _ => ?_) (fun hn => absurd hc hn)
      refine V.aload_n dX3_add_18 rfl ?_
      refine V.get dX3_add_19 flX3_9 nC_29 gC_29 (by decide) (eC_29_0 _ _) ?_
      refine V.aload_n dX3_add_22 rfl ?_
      refine V.get dX3_add_23 flX3_21 nC_29 gC_29 (by decide) (eC_29_3 _ _) ?_
      refine V.iload_n dX3_add_26 rfl ?_
      obtain ⟨hb, h⟩ := ckn h
      refine V.iast dX3_add_27 nC_30 gC_30 hb ?_
      exact V.forget (vX3_add_28 h hQ) ⟨rfl, ⟨rfl, ⟨rfl, trivial⟩⟩⟩
    · refine V.icmp_lt (tgt := 18) dX3_add_13 (by decide) (fun hn => absurd hn hc) (fun _ => ?_)
      exact V.forget (vX3_add_16 h hQ) trivial
def fX7_seen_30 (σ : vMem) : Option (Int32 × vMem) :=
  some ((-2 : Int32), σ)
theorem vX7_seen_30 {ad : Nat → Nat} {Q : Option Value → vMem → Prop} {r : (Int32 × vMem)} {σ : vMem} (h : fX7_seen_30 σ = some r) (hQ : Q (some (.int r.1)) r.2) : V GC mX7_seen ad Q 1 30 [none, none, none, none] [] σ := by
  unfold fX7_seen_30 at h
  refine V.bipush bp_m2 dX7_seen_30 ?_
  obtain rfl := Option.some.inj h
  exact V.iret dX7_seen_32 rfl hQ
def fX7_seen_58 (s0 : Int32) (σ : vMem) : Option (Int32 × vMem) :=
  some (s0, σ)
theorem vX7_seen_58 {ad : Nat → Nat} {Q : Option Value → vMem → Prop} {r : (Int32 × vMem)} {s0 : Int32} {σ : vMem} (h : fX7_seen_58 s0 σ = some r) (hQ : Q (some (.int r.1)) r.2) : V GC mX7_seen ad Q 1 58 [none, none, none, none] [.int s0] σ := by
  unfold fX7_seen_58 at h
  obtain rfl := Option.some.inj h
  exact V.iret dX7_seen_58 rfl hQ
def fX7_seen (l1 : Int32) (l2 : Int32) (l3 : Int32) (σ : vMem) : Option (Int32 × vMem) :=
  if l1 < 0 then (fX7_seen_30 σ) else
  (if (8 : Int32) ≤ l1 then (fX7_seen_30 σ) else
  (if l2 < 0 then (fX7_seen_30 σ) else
  (if (12 : Int32) ≤ l2 then (fX7_seen_30 σ) else
  (if l3 < 0 then (fX7_seen_30 σ) else
  (if l3 ≤ (8 : Int32) then ((fX3_add l1 l2 l3 σ).bind fun q1 => if q1.1 = 0 then (fX7_seen_58 (-4 : Int32) q1.2) else
  (fX7_seen_58 (q1.2.1 29 3) q1.2)) else
  (fX7_seen_30 σ))))))
theorem vX7_seen {ad : Nat → Nat} {Q : Option Value → vMem → Prop} {r : (Int32 × vMem)} {l1 : Int32} {l2 : Int32} {l3 : Int32} {σ : vMem} (h : fX7_seen l1 l2 l3 σ = some r) (hQ : Q (some (.int r.1)) r.2) : V GC mX7_seen ad Q 1 0 [some (.ref (ad 0)), some (.int l1), some (.int l2), some (.int l3)] [] σ := by
  unfold fX7_seen at h
  refine V.iload_n dX7_seen_0 rfl ?_
  rcases itc h with ⟨hc, h⟩ | ⟨hc, h⟩
  · refine V.if_lt (tgt := 30) dX7_seen_1 (by decide) (fun _ => ?_) (fun hn => absurd hc hn)
    exact V.forget (vX7_seen_30 h hQ) trivial
  · refine V.if_lt (tgt := 30) dX7_seen_1 (by decide) (fun hn => absurd hn hc) (fun _ => ?_)
    refine V.iload_n dX7_seen_4 rfl ?_
    refine V.bipush bp_8 dX7_seen_5 ?_
    rcases itc h with ⟨hc, h⟩ | ⟨hc, h⟩
    · refine V.icmp_ge (tgt := 30) dX7_seen_7 (by decide) (fun _ => ?_) (fun hn => absurd hc hn)
      exact V.forget (vX7_seen_30 h hQ) trivial
    · refine V.icmp_ge (tgt := 30) dX7_seen_7 (by decide) (fun hn => absurd hn hc) (fun _ => ?_)
      refine V.iload_n dX7_seen_10 rfl ?_
      rcases itc h with ⟨hc, h⟩ | ⟨hc, h⟩
      · refine V.if_lt (tgt := 30) dX7_seen_11 (by decide) (fun _ => ?_) (fun hn => absurd hc hn)
        exact V.forget (vX7_seen_30 h hQ) trivial
      · refine V.if_lt (tgt := 30) dX7_seen_11 (by decide) (fun hn => absurd hn hc) (fun _ => ?_)
        refine V.iload_n dX7_seen_14 rfl ?_
        refine V.bipush bp_12 dX7_seen_15 ?_
        rcases itc h with ⟨hc, h⟩ | ⟨hc, h⟩
        · refine V.icmp_ge (tgt := 30) dX7_seen_17 (by decide) (fun _ => ?_) (fun hn => absurd hc hn)
          exact V.forget (vX7_seen_30 h hQ) trivial
        · refine V.icmp_ge (tgt := 30) dX7_seen_17 (by decide) (fun hn => absurd hn hc) (fun _ => ?_)
          refine V.iload_n dX7_seen_20 rfl ?_
          rcases itc h with ⟨hc, h⟩ | ⟨hc, h⟩
          · refine V.if_lt (tgt := 30) dX7_seen_21 (by decide) (fun _ => ?_) (fun hn => absurd hc hn)
            exact V.forget (vX7_seen_30 h hQ) trivial
          · refine V.if_lt (tgt := 30) dX7_seen_21 (by decide) (fun hn => absurd hn hc) (fun _ => ?_)
            refine V.iload_n dX7_seen_24 rfl ?_
            refine V.bipush bp_8 dX7_seen_25 ?_
            rcases itc h with ⟨hc, h⟩ | ⟨hc, h⟩
            · refine V.icmp_le (tgt := 33) dX7_seen_27 (by decide) (fun _ => ?_) (fun hn => absurd hc hn)
              refine V.aload_n dX7_seen_33 rfl ?_
              refine V.get dX7_seen_34 flX7_50 nC_0 gC_0 (by decide) (eC_0_6 _ _) ?_
              refine V.iload_n dX7_seen_37 rfl ?_
              refine V.iload_n dX7_seen_38 rfl ?_
              refine V.iload_n dX7_seen_39 rfl ?_
              obtain ⟨q1, h1, h⟩ := bdc h
              refine V.callV3 (mc := mX3_add) (d' := 0) dX7_seen_40 lkX7_249 hfX3_add nC_29 gC_29 rfl (by decide) (Nat.le_of_ble_eq_true rfl) (Nat.le_of_ble_eq_true rfl) (vX3_add h1 ?_)
              rcases itc h with ⟨hc, h⟩ | ⟨hc, h⟩
              · refine V.if_eq (tgt := 56) dX7_seen_43 (by decide) (fun _ => ?_) (fun hn => absurd hc hn)
                refine V.bipush bp_m4 dX7_seen_56 ?_
                exact V.forget (vX7_seen_58 h hQ) trivial
              · refine V.if_eq (tgt := 56) dX7_seen_43 (by decide) (fun hn => absurd hn hc) (fun _ => ?_)
                refine V.aload_n dX7_seen_46 rfl ?_
                refine V.get dX7_seen_47 flX7_50 nC_0 gC_0 (by decide) (eC_0_6 _ _) ?_
                refine V.get dX7_seen_50 flX7_253 nC_29 gC_29 (by decide) (eC_29_3 _ _) ?_
                refine V.goto (tgt := 58) dX7_seen_53 (by decide) ?_
                exact V.forget (vX7_seen_58 h hQ) trivial
            · refine V.icmp_le (tgt := 33) dX7_seen_27 (by decide) (fun hn => absurd hn hc) (fun _ => ?_)
              exact V.forget (vX7_seen_30 h hQ) trivial
def fX7_forget_16 (l1 : Int32) (σ : vMem) : Option (Int32 × vMem) :=
  some (l1, σ)
theorem vX7_forget_16 {ad : Nat → Nat} {Q : Option Value → vMem → Prop} {r : (Int32 × vMem)} {l1 : Int32} {σ : vMem} (h : fX7_forget_16 l1 σ = some r) (hQ : Q (some (.int r.1)) r.2) : V GC mX7_forget ad Q 0 16 [none, some (.int l1)] [] σ := by
  unfold fX7_forget_16 at h
  refine V.iload_n dX7_forget_16 rfl ?_
  obtain rfl := Option.some.inj h
  exact V.iret dX7_forget_17 rfl hQ
def fX7_forget (σ : vMem) : Option (Int32 × vMem) :=
  fX7_forget_16 (σ.1 29 3) (vup σ 29 3 (0 : Int32))
theorem vX7_forget {ad : Nat → Nat} {Q : Option Value → vMem → Prop} {r : (Int32 × vMem)} {σ : vMem} (h : fX7_forget σ = some r) (hQ : Q (some (.int r.1)) r.2) : V GC mX7_forget ad Q 0 0 [some (.ref (ad 0)), none] [] σ := by
  unfold fX7_forget at h
  refine V.aload_n dX7_forget_0 rfl ?_
  refine V.get dX7_forget_1 flX7_50 nC_0 gC_0 (by decide) (eC_0_6 _ _) ?_
  refine V.get dX7_forget_4 flX7_253 nC_29 gC_29 (by decide) (eC_29_3 _ _) ?_
  refine V.istore_n dX7_forget_7 (by decide) rfl ?_
  refine V.aload_n dX7_forget_8 rfl ?_
  refine V.get dX7_forget_9 flX7_50 nC_0 gC_0 (by decide) (eC_0_6 _ _) ?_
  refine V.iconst ic_0 dX7_forget_12 ?_
  refine V.putI dX7_forget_13 fpX7_253 nC_29 gC_29 (by decide) rfl ?_
  exact V.forget (vX7_forget_16 h hQ) ⟨rfl, trivial⟩
def fX3_agree_51 (σ : vMem) : Option (Int32 × vMem) :=
  some ((0 : Int32), σ)
theorem vX3_agree_51 {ad : Nat → Nat} {Q : Option Value → vMem → Prop} {r : (Int32 × vMem)} {σ : vMem} (h : fX3_agree_51 σ = some r) (hQ : Q (some (.int r.1)) r.2) : V GC mX3_agree ad Q 2 51 [none, none, none] [] σ := by
  unfold fX3_agree_51 at h
  refine V.iconst ic_0 dX3_agree_51 ?_
  obtain rfl := Option.some.inj h
  exact V.zret dX3_agree_52 rfl (Or.inl rfl) hQ
def fX3_agree_2 (K2 : Int32 → vMem → Option (Int32 × vMem)) (l2 : Int32) (σ : vMem) : Option (Int32 × vMem) :=
  if (σ.1 29 3) ≤ l2 then (some ((1 : Int32), σ)) else
  (if l2 < 0 ∨ 8 ≤ l2.toNatClampNeg then none else if (σ.1 5 5) ≤ (σ.1 30 l2.toNatClampNeg) then (fX3_agree_51 σ) else
  (if l2 < 0 ∨ 8 ≤ l2.toNatClampNeg then none else if l2 < 0 ∨ 8 ≤ l2.toNatClampNeg then none else (fX6_letter (σ.1 30 l2.toNatClampNeg) (σ.1 31 l2.toNatClampNeg) σ).bind fun q1 => if l2 < 0 ∨ 8 ≤ l2.toNatClampNeg then none else if q1.1 = (q1.2.1 32 l2.toNatClampNeg) then (K2 (l2 + (1 : Int32)) q1.2) else
  (fX3_agree_51 q1.2)))
theorem vX3_agree_2 {ad : Nat → Nat} {Q : Option Value → vMem → Prop} {r : (Int32 × vMem)} {K2 : Int32 → vMem → Option (Int32 × vMem)} (hK2 : ∀ (l2 : Int32) (σ : vMem), K2 l2 σ = some r → V GC mX3_agree ad Q 2 2 [some (.ref (ad 29)), some (.ref (ad 13)), some (.int l2)] [] σ) {l2 : Int32} {σ : vMem} (h : fX3_agree_2 K2 l2 σ = some r) (hQ : Q (some (.int r.1)) r.2) : V GC mX3_agree ad Q 2 2 [some (.ref (ad 29)), some (.ref (ad 13)), some (.int l2)] [] σ := by
  unfold fX3_agree_2 at h
  refine V.iload_n dX3_agree_2 rfl ?_
  refine V.aload_n dX3_agree_3 rfl ?_
  refine V.get dX3_agree_4 flX3_21 nC_29 gC_29 (by decide) (eC_29_3 _ _) ?_
  rcases itc h with ⟨hc, h⟩ | ⟨hc, h⟩
  · refine V.icmp_ge (tgt := 59) dX3_agree_7 (by decide) (fun _ => ?_) (fun hn => absurd hc hn)
    refine V.iconst ic_1 dX3_agree_59 ?_
    obtain rfl := Option.some.inj h
    exact V.zret dX3_agree_60 rfl (Or.inr rfl) hQ
  · refine V.icmp_ge (tgt := 59) dX3_agree_7 (by decide) (fun hn => absurd hn hc) (fun _ => ?_)
    refine V.aload_n dX3_agree_10 rfl ?_
    refine V.get dX3_agree_11 flX3_9 nC_29 gC_29 (by decide) (eC_29_0 _ _) ?_
    refine V.iload_n dX3_agree_14 rfl ?_
    obtain ⟨hb, h⟩ := ckn h
    refine V.iald dX3_agree_15 nC_30 gC_30 hb ?_
    refine V.aload_n dX3_agree_16 rfl ?_
    refine V.get dX3_agree_17 flX3_25 nC_13 gC_13 (by decide) (eC_13_0 _ _) ?_
    refine V.get dX3_agree_20 flX3_31 nC_5 gC_5 (by decide) (eC_5_5 _ _) ?_
    rcases itc h with ⟨hc, h⟩ | ⟨hc, h⟩
    · refine V.icmp_ge (tgt := 51) dX3_agree_23 (by decide) (fun _ => ?_) (fun hn => absurd hc hn)
      exact V.forget (vX3_agree_51 h hQ) trivial
    · refine V.icmp_ge (tgt := 51) dX3_agree_23 (by decide) (fun hn => absurd hn hc) (fun _ => ?_)
      refine V.aload_n dX3_agree_26 rfl ?_
      refine V.aload_n dX3_agree_27 rfl ?_
      refine V.get dX3_agree_28 flX3_9 nC_29 gC_29 (by decide) (eC_29_0 _ _) ?_
      refine V.iload_n dX3_agree_31 rfl ?_
      obtain ⟨hb, h⟩ := ckn h
      refine V.iald dX3_agree_32 nC_30 gC_30 hb ?_
      refine V.aload_n dX3_agree_33 rfl ?_
      refine V.get dX3_agree_34 flX3_15 nC_29 gC_29 (by decide) (eC_29_1 _ _) ?_
      refine V.iload_n dX3_agree_37 rfl ?_
      obtain ⟨hb, h⟩ := ckn h
      refine V.iald dX3_agree_38 nC_31 gC_31 hb ?_
      obtain ⟨q1, h1, h⟩ := bdc h
      refine V.callV2 (mc := mX6_letter) (d' := 1) dX3_agree_39 lkX3_36 hfX6_letter nC_13 gC_13 rfl (by decide) (Nat.le_of_ble_eq_true rfl) (Nat.le_of_ble_eq_true rfl) (vX6_letter h1 ?_)
      refine V.aload_n dX3_agree_42 rfl ?_
      refine V.get dX3_agree_43 flX3_18 nC_29 gC_29 (by decide) (eC_29_2 _ _) ?_
      refine V.iload_n dX3_agree_46 rfl ?_
      obtain ⟨hb, h⟩ := ckn h
      refine V.iald dX3_agree_47 nC_32 gC_32 hb ?_
      rcases itc h with ⟨hc, h⟩ | ⟨hc, h⟩
      · refine V.icmp_eq (tgt := 53) dX3_agree_48 (by decide) (fun _ => ?_) (fun hn => absurd hc hn)
        refine V.iinc dX3_agree_53 rfl (ii_1 _) (by decide) rfl ?_
        refine V.goto (tgt := 2) dX3_agree_56 (by decide) ?_
        exact V.forget (hK2 _ _ h) ⟨rfl, ⟨rfl, ⟨rfl, trivial⟩⟩⟩
      · refine V.icmp_eq (tgt := 53) dX3_agree_48 (by decide) (fun hn => absurd hn hc) (fun _ => ?_)
        exact V.forget (vX3_agree_51 h hQ) trivial
def LfX3_agree_2 : Nat → Int32 → vMem → Option (Int32 × vMem)
  | 0, _, _ => none
  | n + 1, l2, σ => fX3_agree_2 (LfX3_agree_2 n) l2 σ
theorem LvX3_agree_2 {ad : Nat → Nat} {Q : Option Value → vMem → Prop} {r : (Int32 × vMem)} (hQ : Q (some (.int r.1)) r.2) : ∀ (n : Nat) (l2 : Int32) (σ : vMem), LfX3_agree_2 n l2 σ = some r → V GC mX3_agree ad Q 2 2 [some (.ref (ad 29)), some (.ref (ad 13)), some (.int l2)] [] σ := by
  intro n
  induction n with
  | zero => intro l2 σ h; cases h
  | succ n ih => intro l2 σ h; exact vX3_agree_2 ih h hQ
def fX3_agree (σ : vMem) : Option (Int32 × vMem) :=
  LfX3_agree_2 200 (0 : Int32) σ
theorem vX3_agree {ad : Nat → Nat} {Q : Option Value → vMem → Prop} {r : (Int32 × vMem)} {σ : vMem} (h : fX3_agree σ = some r) (hQ : Q (some (.int r.1)) r.2) : V GC mX3_agree ad Q 2 0 [some (.ref (ad 29)), some (.ref (ad 13)), none] [] σ := by
  unfold fX3_agree at h
  refine V.iconst ic_0 dX3_agree_0 ?_
  refine V.istore_n dX3_agree_1 (by decide) rfl ?_
  exact V.forget (LvX3_agree_2 hQ 200 _ _ h) ⟨rfl, ⟨rfl, ⟨rfl, trivial⟩⟩⟩
def fX7_never_59 (K4 : Int32 → Int32 → vMem → Option (Int32 × vMem)) (l1 : Int32) (l2 : Int32) (σ : vMem) : Option (Int32 × vMem) :=
  K4 l1 (l2 + (1 : Int32)) σ
theorem vX7_never_59 {ad : Nat → Nat} {Q : Option Value → vMem → Prop} {r : (Int32 × vMem)} {K4 : Int32 → Int32 → vMem → Option (Int32 × vMem)} (hK4 : ∀ (l1 : Int32) (l2 : Int32) (σ : vMem), K4 l1 l2 σ = some r → V GC mX7_never ad Q 4 4 [some (.ref (ad 0)), some (.int l1), some (.int l2)] [] σ) {l1 : Int32} {l2 : Int32} {σ : vMem} (h : fX7_never_59 K4 l1 l2 σ = some r) (hQ : Q (some (.int r.1)) r.2) : V GC mX7_never ad Q 4 59 [some (.ref (ad 0)), some (.int l1), some (.int l2)] [] σ := by
  unfold fX7_never_59 at h
  refine V.iinc dX7_never_59 rfl (ii_1 _) (by decide) rfl ?_
  refine V.goto (tgt := 4) dX7_never_62 (by decide) ?_
  exact V.forget (hK4 _ _ _ h) ⟨rfl, ⟨rfl, ⟨rfl, trivial⟩⟩⟩
def fX7_never_4 (K4 : Int32 → Int32 → vMem → Option (Int32 × vMem)) (l1 : Int32) (l2 : Int32) (σ : vMem) : Option (Int32 × vMem) :=
  if (σ.1 25 1) ≤ l2 then (some (l1, σ)) else
  ((fX1_allBut_25 l2 σ).bind fun q1 => (fX1_all_27 q1.2).bind fun q2 => (fX6_go q1.1 q2.1 (40 : Int32) q2.2).bind fun q3 => (fX3_agree q3).bind fun q4 => if q4.1 = 0 then (fX7_never_59 K4 l1 l2 q4.2) else
  (fX7_never_59 K4 (l1 ||| ((1 : Int32) <<< (l2 &&& 31))) l2 q4.2))
theorem vX7_never_4 {ad : Nat → Nat} {Q : Option Value → vMem → Prop} {r : (Int32 × vMem)} {K4 : Int32 → Int32 → vMem → Option (Int32 × vMem)} (hK4 : ∀ (l1 : Int32) (l2 : Int32) (σ : vMem), K4 l1 l2 σ = some r → V GC mX7_never ad Q 4 4 [some (.ref (ad 0)), some (.int l1), some (.int l2)] [] σ) {l1 : Int32} {l2 : Int32} {σ : vMem} (h : fX7_never_4 K4 l1 l2 σ = some r) (hQ : Q (some (.int r.1)) r.2) : V GC mX7_never ad Q 4 4 [some (.ref (ad 0)), some (.int l1), some (.int l2)] [] σ := by
  unfold fX7_never_4 at h
  refine V.iload_n dX7_never_4 rfl ?_
  refine V.aload_n dX7_never_5 rfl ?_
  refine V.get dX7_never_6 flX7_40 nC_0 gC_0 (by decide) (eC_0_4 _ _) ?_
  refine V.get dX7_never_9 flX7_151 nC_25 gC_25 (by decide) (eC_25_1 _ _) ?_
  rcases itc h with ⟨hc, h⟩ | ⟨hc, h⟩
  · refine V.icmp_ge (tgt := 65) dX7_never_12 (by decide) (fun _ => ?_) (fun hn => absurd hc hn)
    refine V.iload_n dX7_never_65 rfl ?_
    obtain rfl := Option.some.inj h
    exact V.iret dX7_never_66 rfl hQ
  · refine V.icmp_ge (tgt := 65) dX7_never_12 (by decide) (fun hn => absurd hn hc) (fun _ => ?_)
    refine V.aload_n dX7_never_15 rfl ?_
    refine V.get dX7_never_16 flX7_33 nC_0 gC_0 (by decide) (eC_0_3 _ _) ?_
    refine V.aload_n dX7_never_19 rfl ?_
    refine V.get dX7_never_20 flX7_40 nC_0 gC_0 (by decide) (eC_0_4 _ _) ?_
    refine V.iload_n dX7_never_23 rfl ?_
    obtain ⟨q1, h1, h⟩ := bdc h
    refine V.callV1 (mc := mX1_allBut) (d' := 1) dX7_never_24 lkX7_254 hfX1_allBut nC_25 gC_25 rfl (by decide) (Nat.le_of_ble_eq_true rfl) (Nat.le_of_ble_eq_true rfl) (vX1_allBut_25 h1 ?_)
    refine V.aload_n dX7_never_27 rfl ?_
    refine V.get dX7_never_28 flX7_44 nC_0 gC_0 (by decide) (eC_0_5 _ _) ?_
    obtain ⟨q2, h1, h⟩ := bdc h
    refine V.callV0 (mc := mX1_all) (d' := 1) dX7_never_31 lkX7_169 hfX1_all nC_27 gC_27 rfl (by decide) (Nat.le_of_ble_eq_true rfl) (Nat.le_of_ble_eq_true rfl) (vX1_all_27 h1 ?_)
    refine V.bipush bp_40 dX7_never_34 ?_
    obtain ⟨q3, h1, h⟩ := bdc h
    refine V.callV3 (mc := mX6_go) (d' := 3) dX7_never_36 lkX7_173 hfX6_go nC_13 gC_13 rfl (by decide) (Nat.le_of_ble_eq_true rfl) (Nat.le_of_ble_eq_true rfl) (vX6_go h1 ?_)
    refine V.aload_n dX7_never_39 rfl ?_
    refine V.get dX7_never_40 flX7_50 nC_0 gC_0 (by decide) (eC_0_6 _ _) ?_
    refine V.aload_n dX7_never_43 rfl ?_
    refine V.get dX7_never_44 flX7_33 nC_0 gC_0 (by decide) (eC_0_3 _ _) ?_
    obtain ⟨q4, h1, h⟩ := bdc h
    refine V.callV1 (mc := mX3_agree) (d' := 2) dX7_never_47 lkX7_258 hfX3_agree nC_29 gC_29 rfl (by decide) (Nat.le_of_ble_eq_true rfl) (Nat.le_of_ble_eq_true rfl) (vX3_agree h1 ?_)
    rcases itc h with ⟨hc, h⟩ | ⟨hc, h⟩
    · refine V.if_eq (tgt := 59) dX7_never_50 (by decide) (fun _ => ?_) (fun hn => absurd hc hn)
      exact V.forget (vX7_never_59 hK4 h hQ) ⟨rfl, ⟨rfl, ⟨rfl, trivial⟩⟩⟩
    · refine V.if_eq (tgt := 59) dX7_never_50 (by decide) (fun hn => absurd hn hc) (fun _ => ?_)
      refine V.iload_n dX7_never_53 rfl ?_
      refine V.iconst ic_1 dX7_never_54 ?_
      refine V.iload_n dX7_never_55 rfl ?_
      refine V.ishl dX7_never_56 ?_
      refine V.ior dX7_never_57 ?_
      refine V.istore_n dX7_never_58 (by decide) rfl ?_
      exact V.forget (vX7_never_59 hK4 h hQ) ⟨rfl, ⟨rfl, ⟨rfl, trivial⟩⟩⟩
def LfX7_never_4 : Nat → Int32 → Int32 → vMem → Option (Int32 × vMem)
  | 0, _, _, _ => none
  | n + 1, l1, l2, σ => fX7_never_4 (LfX7_never_4 n) l1 l2 σ
theorem LvX7_never_4 {ad : Nat → Nat} {Q : Option Value → vMem → Prop} {r : (Int32 × vMem)} (hQ : Q (some (.int r.1)) r.2) : ∀ (n : Nat) (l1 : Int32) (l2 : Int32) (σ : vMem), LfX7_never_4 n l1 l2 σ = some r → V GC mX7_never ad Q 4 4 [some (.ref (ad 0)), some (.int l1), some (.int l2)] [] σ := by
  intro n
  induction n with
  | zero => intro l1 l2 σ h; cases h
  | succ n ih => intro l1 l2 σ h; exact vX7_never_4 ih h hQ
def fX7_never (σ : vMem) : Option (Int32 × vMem) :=
  LfX7_never_4 200 (0 : Int32) (0 : Int32) σ
theorem vX7_never {ad : Nat → Nat} {Q : Option Value → vMem → Prop} {r : (Int32 × vMem)} {σ : vMem} (h : fX7_never σ = some r) (hQ : Q (some (.int r.1)) r.2) : V GC mX7_never ad Q 4 0 [some (.ref (ad 0)), none, none] [] σ := by
  unfold fX7_never at h
  refine V.iconst ic_0 dX7_never_0 ?_
  refine V.istore_n dX7_never_1 (by decide) rfl ?_
  refine V.iconst ic_0 dX7_never_2 ?_
  refine V.istore_n dX7_never_3 (by decide) rfl ?_
  exact V.forget (LvX7_never_4 hQ 200 _ _ _ h) ⟨rfl, ⟨rfl, ⟨rfl, trivial⟩⟩⟩
def fX7_fittingBites_115 (l3 : Int32) (σ : vMem) : Option (Int32 × vMem) :=
  some (l3, σ)
theorem vX7_fittingBites_115 {ad : Nat → Nat} {Q : Option Value → vMem → Prop} {r : (Int32 × vMem)} {l3 : Int32} {σ : vMem} (h : fX7_fittingBites_115 l3 σ = some r) (hQ : Q (some (.int r.1)) r.2) : V GC mX7_fittingBites ad Q 4 115 [none, none, none, some (.int l3), none] [] σ := by
  unfold fX7_fittingBites_115 at h
  refine V.iload_n dX7_fittingBites_115 rfl ?_
  obtain rfl := Option.some.inj h
  exact V.iret dX7_fittingBites_116 rfl hQ
def fX7_fittingBites_99 (K15 : Int32 → Int32 → Int32 → Int32 → vMem → Option (Int32 × vMem)) (l1 : Int32) (l2 : Int32) (l3 : Int32) (l4 : Int32) (σ : vMem) : Option (Int32 × vMem) :=
  K15 l1 l2 l3 (l4 + (1 : Int32)) σ
theorem vX7_fittingBites_99 {ad : Nat → Nat} {Q : Option Value → vMem → Prop} {r : (Int32 × vMem)} {K15 : Int32 → Int32 → Int32 → Int32 → vMem → Option (Int32 × vMem)} (hK15 : ∀ (l1 : Int32) (l2 : Int32) (l3 : Int32) (l4 : Int32) (σ : vMem), K15 l1 l2 l3 l4 σ = some r → V GC mX7_fittingBites ad Q 4 15 [some (.ref (ad 0)), some (.int l1), some (.int l2), some (.int l3), some (.int l4)] [] σ) {l1 : Int32} {l2 : Int32} {l3 : Int32} {l4 : Int32} {σ : vMem} (h : fX7_fittingBites_99 K15 l1 l2 l3 l4 σ = some r) (hQ : Q (some (.int r.1)) r.2) : V GC mX7_fittingBites ad Q 4 99 [some (.ref (ad 0)), some (.int l1), some (.int l2), some (.int l3), some (.int l4)] [] σ := by
  unfold fX7_fittingBites_99 at h
  refine V.iinc dX7_fittingBites_99 rfl (ii_1 _) (by decide) rfl ?_
  refine V.goto (tgt := 15) dX7_fittingBites_102 (by decide) ?_
  exact V.forget (hK15 _ _ _ _ _ h) ⟨rfl, ⟨rfl, ⟨rfl, ⟨rfl, ⟨rfl, trivial⟩⟩⟩⟩⟩
def fX7_fittingBites_77 (K15 : Int32 → Int32 → Int32 → Int32 → vMem → Option (Int32 × vMem)) (l1 : Int32) (l2 : Int32) (l3 : Int32) (l4 : Int32) (σ : vMem) : Option (Int32 × vMem) :=
  if (0 : Int32) < 0 ∨ (l4 * (8 : Int32)) < 0 ∨ (8 : Int32) < 0 ∨ 8 < (0 : Int32).toNatClampNeg + (8 : Int32).toNatClampNeg ∨ 80 < (l4 * (8 : Int32)).toNatClampNeg + (8 : Int32).toNatClampNeg then none else fX7_fittingBites_99 K15 l1 l2 l3 l4 (vcp σ 15 39 (0 : Int32).toNatClampNeg (l4 * (8 : Int32)).toNatClampNeg (8 : Int32).toNatClampNeg)
theorem vX7_fittingBites_77 {ad : Nat → Nat} {Q : Option Value → vMem → Prop} {r : (Int32 × vMem)} {K15 : Int32 → Int32 → Int32 → Int32 → vMem → Option (Int32 × vMem)} (hK15 : ∀ (l1 : Int32) (l2 : Int32) (l3 : Int32) (l4 : Int32) (σ : vMem), K15 l1 l2 l3 l4 σ = some r → V GC mX7_fittingBites ad Q 4 15 [some (.ref (ad 0)), some (.int l1), some (.int l2), some (.int l3), some (.int l4)] [] σ) {l1 : Int32} {l2 : Int32} {l3 : Int32} {l4 : Int32} {σ : vMem} (h : fX7_fittingBites_77 K15 l1 l2 l3 l4 σ = some r) (hQ : Q (some (.int r.1)) r.2) : V GC mX7_fittingBites ad Q 4 77 [some (.ref (ad 0)), some (.int l1), some (.int l2), some (.int l3), some (.int l4)] [] σ := by
  unfold fX7_fittingBites_77 at h
  refine V.aload_n dX7_fittingBites_77 rfl ?_
  refine V.get dX7_fittingBites_78 flX7_33 nC_0 gC_0 (by decide) (eC_0_3 _ _) ?_
  refine V.get dX7_fittingBites_81 flX7_180 nC_13 gC_13 (by decide) (eC_13_4 _ _) ?_
  refine V.iconst ic_0 dX7_fittingBites_84 ?_
  refine V.aload_n dX7_fittingBites_85 rfl ?_
  refine V.get dX7_fittingBites_86 flX7_76 nC_0 gC_0 (by decide) (eC_0_11 _ _) ?_
  refine V.iload dX7_fittingBites_89 rfl ?_
  refine V.bipush bp_8 dX7_fittingBites_91 ?_
  refine V.imul dX7_fittingBites_93 ?_
  refine V.bipush bp_8 dX7_fittingBites_94 ?_
  obtain ⟨hb, h⟩ := ckn h
  obtain ⟨hb1, hb2, hb3, hb4, hb5⟩ := ck5 hb
  refine V.copy dX7_fittingBites_96 lkacX7_310 ac_nat ac_sta ac_ini nC_15 gC_15 nC_39 gC_39 hb1 hb2 hb3 hb4 hb5 (by decide) (Nat.le_of_ble_eq_true rfl) ?_
  exact V.forget (vX7_fittingBites_99 hK15 h hQ) ⟨rfl, ⟨rfl, ⟨rfl, ⟨rfl, ⟨rfl, trivial⟩⟩⟩⟩⟩
def fX7_fittingBites_33 (K15 : Int32 → Int32 → Int32 → Int32 → vMem → Option (Int32 × vMem)) (l1 : Int32) (l2 : Int32) (l3 : Int32) (l4 : Int32) (σ : vMem) : Option (Int32 × vMem) :=
  (fX1_all_25 σ).bind fun q1 => (fX1_all_27 q1.2).bind fun q2 => (fX6_go q1.1 q2.1 (40 : Int32) q2.2).bind fun q3 => (fX3_agree q3).bind fun q4 => if q4.1 = 0 then (fX7_fittingBites_77 K15 l1 l2 l3 l4 q4.2) else
  (fX7_fittingBites_77 K15 l1 l2 (l3 ||| ((1 : Int32) <<< (l4 &&& 31))) l4 q4.2)
theorem vX7_fittingBites_33 {ad : Nat → Nat} {Q : Option Value → vMem → Prop} {r : (Int32 × vMem)} {K15 : Int32 → Int32 → Int32 → Int32 → vMem → Option (Int32 × vMem)} (hK15 : ∀ (l1 : Int32) (l2 : Int32) (l3 : Int32) (l4 : Int32) (σ : vMem), K15 l1 l2 l3 l4 σ = some r → V GC mX7_fittingBites ad Q 4 15 [some (.ref (ad 0)), some (.int l1), some (.int l2), some (.int l3), some (.int l4)] [] σ) {l1 : Int32} {l2 : Int32} {l3 : Int32} {l4 : Int32} {σ : vMem} (h : fX7_fittingBites_33 K15 l1 l2 l3 l4 σ = some r) (hQ : Q (some (.int r.1)) r.2) : V GC mX7_fittingBites ad Q 4 33 [some (.ref (ad 0)), some (.int l1), some (.int l2), some (.int l3), some (.int l4)] [] σ := by
  unfold fX7_fittingBites_33 at h
  refine V.aload_n dX7_fittingBites_33 rfl ?_
  refine V.get dX7_fittingBites_34 flX7_33 nC_0 gC_0 (by decide) (eC_0_3 _ _) ?_
  refine V.aload_n dX7_fittingBites_37 rfl ?_
  refine V.get dX7_fittingBites_38 flX7_40 nC_0 gC_0 (by decide) (eC_0_4 _ _) ?_
  obtain ⟨q1, h1, h⟩ := bdc h
  refine V.callV0 (mc := mX1_all) (d' := 1) dX7_fittingBites_41 lkX7_169 hfX1_all nC_25 gC_25 rfl (by decide) (Nat.le_of_ble_eq_true rfl) (Nat.le_of_ble_eq_true rfl) (vX1_all_25 h1 ?_)
  refine V.aload_n dX7_fittingBites_44 rfl ?_
  refine V.get dX7_fittingBites_45 flX7_44 nC_0 gC_0 (by decide) (eC_0_5 _ _) ?_
  obtain ⟨q2, h1, h⟩ := bdc h
  refine V.callV0 (mc := mX1_all) (d' := 1) dX7_fittingBites_48 lkX7_169 hfX1_all nC_27 gC_27 rfl (by decide) (Nat.le_of_ble_eq_true rfl) (Nat.le_of_ble_eq_true rfl) (vX1_all_27 h1 ?_)
  refine V.bipush bp_40 dX7_fittingBites_51 ?_
  obtain ⟨q3, h1, h⟩ := bdc h
  refine V.callV3 (mc := mX6_go) (d' := 3) dX7_fittingBites_53 lkX7_173 hfX6_go nC_13 gC_13 rfl (by decide) (Nat.le_of_ble_eq_true rfl) (Nat.le_of_ble_eq_true rfl) (vX6_go h1 ?_)
  refine V.aload_n dX7_fittingBites_56 rfl ?_
  refine V.get dX7_fittingBites_57 flX7_50 nC_0 gC_0 (by decide) (eC_0_6 _ _) ?_
  refine V.aload_n dX7_fittingBites_60 rfl ?_
  refine V.get dX7_fittingBites_61 flX7_33 nC_0 gC_0 (by decide) (eC_0_3 _ _) ?_
  obtain ⟨q4, h1, h⟩ := bdc h
  refine V.callV1 (mc := mX3_agree) (d' := 2) dX7_fittingBites_64 lkX7_258 hfX3_agree nC_29 gC_29 rfl (by decide) (Nat.le_of_ble_eq_true rfl) (Nat.le_of_ble_eq_true rfl) (vX3_agree h1 ?_)
  rcases itc h with ⟨hc, h⟩ | ⟨hc, h⟩
  · refine V.if_eq (tgt := 77) dX7_fittingBites_67 (by decide) (fun _ => ?_) (fun hn => absurd hc hn)
    exact V.forget (vX7_fittingBites_77 hK15 h hQ) ⟨rfl, ⟨rfl, ⟨rfl, ⟨rfl, ⟨rfl, trivial⟩⟩⟩⟩⟩
  · refine V.if_eq (tgt := 77) dX7_fittingBites_67 (by decide) (fun hn => absurd hn hc) (fun _ => ?_)
    refine V.iload_n dX7_fittingBites_70 rfl ?_
    refine V.iconst ic_1 dX7_fittingBites_71 ?_
    refine V.iload dX7_fittingBites_72 rfl ?_
    refine V.ishl dX7_fittingBites_74 ?_
    refine V.ior dX7_fittingBites_75 ?_
    refine V.istore_n dX7_fittingBites_76 (by decide) rfl ?_
    exact V.forget (vX7_fittingBites_77 hK15 h hQ) ⟨rfl, ⟨rfl, ⟨rfl, ⟨rfl, ⟨rfl, trivial⟩⟩⟩⟩⟩
def fX7_fittingBites_15 (K15 : Int32 → Int32 → Int32 → Int32 → vMem → Option (Int32 × vMem)) (l1 : Int32) (l2 : Int32) (l3 : Int32) (l4 : Int32) (σ : vMem) : Option (Int32 × vMem) :=
  if (10 : Int32) ≤ l4 then (if l1 < 0 ∨ 9 ≤ l1.toNatClampNeg then none else fX7_fittingBites_115 l3 (vup σ 7 l1.toNatClampNeg l2)) else
  (if l1 < 0 ∨ 9 ≤ l1.toNatClampNeg then none else fX7_fittingBites_33 K15 l1 l2 l3 l4 (vup σ 7 l1.toNatClampNeg l4))
theorem vX7_fittingBites_15 {ad : Nat → Nat} {Q : Option Value → vMem → Prop} {r : (Int32 × vMem)} {K15 : Int32 → Int32 → Int32 → Int32 → vMem → Option (Int32 × vMem)} (hK15 : ∀ (l1 : Int32) (l2 : Int32) (l3 : Int32) (l4 : Int32) (σ : vMem), K15 l1 l2 l3 l4 σ = some r → V GC mX7_fittingBites ad Q 4 15 [some (.ref (ad 0)), some (.int l1), some (.int l2), some (.int l3), some (.int l4)] [] σ) {l1 : Int32} {l2 : Int32} {l3 : Int32} {l4 : Int32} {σ : vMem} (h : fX7_fittingBites_15 K15 l1 l2 l3 l4 σ = some r) (hQ : Q (some (.int r.1)) r.2) : V GC mX7_fittingBites ad Q 4 15 [some (.ref (ad 0)), some (.int l1), some (.int l2), some (.int l3), some (.int l4)] [] σ := by
  unfold fX7_fittingBites_15 at h
  refine V.iload dX7_fittingBites_15 rfl ?_
  refine V.bipush bp_10 dX7_fittingBites_17 ?_
  rcases itc h with ⟨hc, h⟩ | ⟨hc, h⟩
  · refine V.icmp_ge (tgt := 105) dX7_fittingBites_19 (by decide) (fun _ => ?_) (fun hn => absurd hc hn)
    refine V.aload_n dX7_fittingBites_105 rfl ?_
    refine V.get dX7_fittingBites_106 flX7_24 nC_0 gC_0 (by decide) (eC_0_2 _ _) ?_
    refine V.get dX7_fittingBites_109 flX7_119 nC_5 gC_5 (by decide) (eC_5_3 _ _) ?_
    refine V.iload_n dX7_fittingBites_112 rfl ?_
    refine V.iload_n dX7_fittingBites_113 rfl ?_
    obtain ⟨hb, h⟩ := ckn h
    refine V.iast dX7_fittingBites_114 nC_7 gC_7 hb ?_
    exact V.forget (vX7_fittingBites_115 h hQ) ⟨rfl, trivial⟩
  · refine V.icmp_ge (tgt := 105) dX7_fittingBites_19 (by decide) (fun hn => absurd hn hc) (fun _ => ?_)
    refine V.aload_n dX7_fittingBites_22 rfl ?_
    refine V.get dX7_fittingBites_23 flX7_24 nC_0 gC_0 (by decide) (eC_0_2 _ _) ?_
    refine V.get dX7_fittingBites_26 flX7_119 nC_5 gC_5 (by decide) (eC_5_3 _ _) ?_
    refine V.iload_n dX7_fittingBites_29 rfl ?_
    refine V.iload dX7_fittingBites_30 rfl ?_
    obtain ⟨hb, h⟩ := ckn h
    refine V.iast dX7_fittingBites_32 nC_7 gC_7 hb ?_
    exact V.forget (vX7_fittingBites_33 hK15 h hQ) ⟨rfl, ⟨rfl, ⟨rfl, ⟨rfl, ⟨rfl, trivial⟩⟩⟩⟩⟩
def LfX7_fittingBites_15 : Nat → Int32 → Int32 → Int32 → Int32 → vMem → Option (Int32 × vMem)
  | 0, _, _, _, _, _ => none
  | n + 1, l1, l2, l3, l4, σ => fX7_fittingBites_15 (LfX7_fittingBites_15 n) l1 l2 l3 l4 σ
theorem LvX7_fittingBites_15 {ad : Nat → Nat} {Q : Option Value → vMem → Prop} {r : (Int32 × vMem)} (hQ : Q (some (.int r.1)) r.2) : ∀ (n : Nat) (l1 : Int32) (l2 : Int32) (l3 : Int32) (l4 : Int32) (σ : vMem), LfX7_fittingBites_15 n l1 l2 l3 l4 σ = some r → V GC mX7_fittingBites ad Q 4 15 [some (.ref (ad 0)), some (.int l1), some (.int l2), some (.int l3), some (.int l4)] [] σ := by
  intro n
  induction n with
  | zero => intro l1 l2 l3 l4 σ h; cases h
  | succ n ih => intro l1 l2 l3 l4 σ h; exact vX7_fittingBites_15 ih h hQ
def fX7_fittingBites (l1 : Int32) (σ : vMem) : Option (Int32 × vMem) :=
  if l1 < 0 ∨ 9 ≤ l1.toNatClampNeg then none else LfX7_fittingBites_15 200 l1 (σ.1 7 l1.toNatClampNeg) (0 : Int32) (0 : Int32) σ
theorem vX7_fittingBites {ad : Nat → Nat} {Q : Option Value → vMem → Prop} {r : (Int32 × vMem)} {l1 : Int32} {σ : vMem} (h : fX7_fittingBites l1 σ = some r) (hQ : Q (some (.int r.1)) r.2) : V GC mX7_fittingBites ad Q 4 0 [some (.ref (ad 0)), some (.int l1), none, none, none] [] σ := by
  unfold fX7_fittingBites at h
  refine V.aload_n dX7_fittingBites_0 rfl ?_
  refine V.get dX7_fittingBites_1 flX7_24 nC_0 gC_0 (by decide) (eC_0_2 _ _) ?_
  refine V.get dX7_fittingBites_4 flX7_119 nC_5 gC_5 (by decide) (eC_5_3 _ _) ?_
  refine V.iload_n dX7_fittingBites_7 rfl ?_
  obtain ⟨hb, h⟩ := ckn h
  refine V.iald dX7_fittingBites_8 nC_7 gC_7 hb ?_
  refine V.istore_n dX7_fittingBites_9 (by decide) rfl ?_
  refine V.iconst ic_0 dX7_fittingBites_10 ?_
  refine V.istore_n dX7_fittingBites_11 (by decide) rfl ?_
  refine V.iconst ic_0 dX7_fittingBites_12 ?_
  refine V.istore dX7_fittingBites_13 (by decide) rfl ?_
  exact V.forget (LvX7_fittingBites_15 hQ 200 _ _ _ _ _ h) ⟨rfl, ⟨rfl, ⟨rfl, ⟨rfl, ⟨rfl, trivial⟩⟩⟩⟩⟩
def fX7_fittingWords_93 (l3 : Int32) (σ : vMem) : Option (Int32 × vMem) :=
  some (l3, σ)
theorem vX7_fittingWords_93 {ad : Nat → Nat} {Q : Option Value → vMem → Prop} {r : (Int32 × vMem)} {l3 : Int32} {σ : vMem} (h : fX7_fittingWords_93 l3 σ = some r) (hQ : Q (some (.int r.1)) r.2) : V GC mX7_fittingWords ad Q 4 93 [none, none, none, some (.int l3), none] [] σ := by
  unfold fX7_fittingWords_93 at h
  refine V.iload_n dX7_fittingWords_93 rfl ?_
  obtain rfl := Option.some.inj h
  exact V.iret dX7_fittingWords_94 rfl hQ
def fX7_fittingWords_77 (K15 : Int32 → Int32 → Int32 → Int32 → vMem → Option (Int32 × vMem)) (l1 : Int32) (l2 : Int32) (l3 : Int32) (l4 : Int32) (σ : vMem) : Option (Int32 × vMem) :=
  K15 l1 l2 l3 (l4 + (1 : Int32)) σ
theorem vX7_fittingWords_77 {ad : Nat → Nat} {Q : Option Value → vMem → Prop} {r : (Int32 × vMem)} {K15 : Int32 → Int32 → Int32 → Int32 → vMem → Option (Int32 × vMem)} (hK15 : ∀ (l1 : Int32) (l2 : Int32) (l3 : Int32) (l4 : Int32) (σ : vMem), K15 l1 l2 l3 l4 σ = some r → V GC mX7_fittingWords ad Q 4 15 [some (.ref (ad 0)), some (.int l1), some (.int l2), some (.int l3), some (.int l4)] [] σ) {l1 : Int32} {l2 : Int32} {l3 : Int32} {l4 : Int32} {σ : vMem} (h : fX7_fittingWords_77 K15 l1 l2 l3 l4 σ = some r) (hQ : Q (some (.int r.1)) r.2) : V GC mX7_fittingWords ad Q 4 77 [some (.ref (ad 0)), some (.int l1), some (.int l2), some (.int l3), some (.int l4)] [] σ := by
  unfold fX7_fittingWords_77 at h
  refine V.iinc dX7_fittingWords_77 rfl (ii_1 _) (by decide) rfl ?_
  refine V.goto (tgt := 15) dX7_fittingWords_80 (by decide) ?_
  exact V.forget (hK15 _ _ _ _ _ h) ⟨rfl, ⟨rfl, ⟨rfl, ⟨rfl, ⟨rfl, trivial⟩⟩⟩⟩⟩
def fX7_fittingWords_33 (K15 : Int32 → Int32 → Int32 → Int32 → vMem → Option (Int32 × vMem)) (l1 : Int32) (l2 : Int32) (l3 : Int32) (l4 : Int32) (σ : vMem) : Option (Int32 × vMem) :=
  (fX1_all_25 σ).bind fun q1 => (fX1_all_27 q1.2).bind fun q2 => (fX6_go q1.1 q2.1 (40 : Int32) q2.2).bind fun q3 => (fX3_agree q3).bind fun q4 => if q4.1 = 0 then (fX7_fittingWords_77 K15 l1 l2 l3 l4 q4.2) else
  (fX7_fittingWords_77 K15 l1 l2 (l3 ||| ((1 : Int32) <<< (l4 &&& 31))) l4 q4.2)
theorem vX7_fittingWords_33 {ad : Nat → Nat} {Q : Option Value → vMem → Prop} {r : (Int32 × vMem)} {K15 : Int32 → Int32 → Int32 → Int32 → vMem → Option (Int32 × vMem)} (hK15 : ∀ (l1 : Int32) (l2 : Int32) (l3 : Int32) (l4 : Int32) (σ : vMem), K15 l1 l2 l3 l4 σ = some r → V GC mX7_fittingWords ad Q 4 15 [some (.ref (ad 0)), some (.int l1), some (.int l2), some (.int l3), some (.int l4)] [] σ) {l1 : Int32} {l2 : Int32} {l3 : Int32} {l4 : Int32} {σ : vMem} (h : fX7_fittingWords_33 K15 l1 l2 l3 l4 σ = some r) (hQ : Q (some (.int r.1)) r.2) : V GC mX7_fittingWords ad Q 4 33 [some (.ref (ad 0)), some (.int l1), some (.int l2), some (.int l3), some (.int l4)] [] σ := by
  unfold fX7_fittingWords_33 at h
  refine V.aload_n dX7_fittingWords_33 rfl ?_
  refine V.get dX7_fittingWords_34 flX7_33 nC_0 gC_0 (by decide) (eC_0_3 _ _) ?_
  refine V.aload_n dX7_fittingWords_37 rfl ?_
  refine V.get dX7_fittingWords_38 flX7_40 nC_0 gC_0 (by decide) (eC_0_4 _ _) ?_
  obtain ⟨q1, h1, h⟩ := bdc h
  refine V.callV0 (mc := mX1_all) (d' := 1) dX7_fittingWords_41 lkX7_169 hfX1_all nC_25 gC_25 rfl (by decide) (Nat.le_of_ble_eq_true rfl) (Nat.le_of_ble_eq_true rfl) (vX1_all_25 h1 ?_)
  refine V.aload_n dX7_fittingWords_44 rfl ?_
  refine V.get dX7_fittingWords_45 flX7_44 nC_0 gC_0 (by decide) (eC_0_5 _ _) ?_
  obtain ⟨q2, h1, h⟩ := bdc h
  refine V.callV0 (mc := mX1_all) (d' := 1) dX7_fittingWords_48 lkX7_169 hfX1_all nC_27 gC_27 rfl (by decide) (Nat.le_of_ble_eq_true rfl) (Nat.le_of_ble_eq_true rfl) (vX1_all_27 h1 ?_)
  refine V.bipush bp_40 dX7_fittingWords_51 ?_
  obtain ⟨q3, h1, h⟩ := bdc h
  refine V.callV3 (mc := mX6_go) (d' := 3) dX7_fittingWords_53 lkX7_173 hfX6_go nC_13 gC_13 rfl (by decide) (Nat.le_of_ble_eq_true rfl) (Nat.le_of_ble_eq_true rfl) (vX6_go h1 ?_)
  refine V.aload_n dX7_fittingWords_56 rfl ?_
  refine V.get dX7_fittingWords_57 flX7_50 nC_0 gC_0 (by decide) (eC_0_6 _ _) ?_
  refine V.aload_n dX7_fittingWords_60 rfl ?_
  refine V.get dX7_fittingWords_61 flX7_33 nC_0 gC_0 (by decide) (eC_0_3 _ _) ?_
  obtain ⟨q4, h1, h⟩ := bdc h
  refine V.callV1 (mc := mX3_agree) (d' := 2) dX7_fittingWords_64 lkX7_258 hfX3_agree nC_29 gC_29 rfl (by decide) (Nat.le_of_ble_eq_true rfl) (Nat.le_of_ble_eq_true rfl) (vX3_agree h1 ?_)
  rcases itc h with ⟨hc, h⟩ | ⟨hc, h⟩
  · refine V.if_eq (tgt := 77) dX7_fittingWords_67 (by decide) (fun _ => ?_) (fun hn => absurd hc hn)
    exact V.forget (vX7_fittingWords_77 hK15 h hQ) ⟨rfl, ⟨rfl, ⟨rfl, ⟨rfl, ⟨rfl, trivial⟩⟩⟩⟩⟩
  · refine V.if_eq (tgt := 77) dX7_fittingWords_67 (by decide) (fun hn => absurd hn hc) (fun _ => ?_)
    refine V.iload_n dX7_fittingWords_70 rfl ?_
    refine V.iconst ic_1 dX7_fittingWords_71 ?_
    refine V.iload dX7_fittingWords_72 rfl ?_
    refine V.ishl dX7_fittingWords_74 ?_
    refine V.ior dX7_fittingWords_75 ?_
    refine V.istore_n dX7_fittingWords_76 (by decide) rfl ?_
    exact V.forget (vX7_fittingWords_77 hK15 h hQ) ⟨rfl, ⟨rfl, ⟨rfl, ⟨rfl, ⟨rfl, trivial⟩⟩⟩⟩⟩
def fX7_fittingWords_15 (K15 : Int32 → Int32 → Int32 → Int32 → vMem → Option (Int32 × vMem)) (l1 : Int32) (l2 : Int32) (l3 : Int32) (l4 : Int32) (σ : vMem) : Option (Int32 × vMem) :=
  if (8 : Int32) ≤ l4 then (if l1 < 0 ∨ 9 ≤ l1.toNatClampNeg then none else fX7_fittingWords_93 l3 (vup σ 8 l1.toNatClampNeg l2)) else
  (if l1 < 0 ∨ 9 ≤ l1.toNatClampNeg then none else fX7_fittingWords_33 K15 l1 l2 l3 l4 (vup σ 8 l1.toNatClampNeg l4))
theorem vX7_fittingWords_15 {ad : Nat → Nat} {Q : Option Value → vMem → Prop} {r : (Int32 × vMem)} {K15 : Int32 → Int32 → Int32 → Int32 → vMem → Option (Int32 × vMem)} (hK15 : ∀ (l1 : Int32) (l2 : Int32) (l3 : Int32) (l4 : Int32) (σ : vMem), K15 l1 l2 l3 l4 σ = some r → V GC mX7_fittingWords ad Q 4 15 [some (.ref (ad 0)), some (.int l1), some (.int l2), some (.int l3), some (.int l4)] [] σ) {l1 : Int32} {l2 : Int32} {l3 : Int32} {l4 : Int32} {σ : vMem} (h : fX7_fittingWords_15 K15 l1 l2 l3 l4 σ = some r) (hQ : Q (some (.int r.1)) r.2) : V GC mX7_fittingWords ad Q 4 15 [some (.ref (ad 0)), some (.int l1), some (.int l2), some (.int l3), some (.int l4)] [] σ := by
  unfold fX7_fittingWords_15 at h
  refine V.iload dX7_fittingWords_15 rfl ?_
  refine V.bipush bp_8 dX7_fittingWords_17 ?_
  rcases itc h with ⟨hc, h⟩ | ⟨hc, h⟩
  · refine V.icmp_ge (tgt := 83) dX7_fittingWords_19 (by decide) (fun _ => ?_) (fun hn => absurd hc hn)
    refine V.aload_n dX7_fittingWords_83 rfl ?_
    refine V.get dX7_fittingWords_84 flX7_24 nC_0 gC_0 (by decide) (eC_0_2 _ _) ?_
    refine V.get dX7_fittingWords_87 flX7_122 nC_5 gC_5 (by decide) (eC_5_4 _ _) ?_
    refine V.iload_n dX7_fittingWords_90 rfl ?_
    refine V.iload_n dX7_fittingWords_91 rfl ?_
    obtain ⟨hb, h⟩ := ckn h
    refine V.iast dX7_fittingWords_92 nC_8 gC_8 hb ?_
    exact V.forget (vX7_fittingWords_93 h hQ) ⟨rfl, trivial⟩
  · refine V.icmp_ge (tgt := 83) dX7_fittingWords_19 (by decide) (fun hn => absurd hn hc) (fun _ => ?_)
    refine V.aload_n dX7_fittingWords_22 rfl ?_
    refine V.get dX7_fittingWords_23 flX7_24 nC_0 gC_0 (by decide) (eC_0_2 _ _) ?_
    refine V.get dX7_fittingWords_26 flX7_122 nC_5 gC_5 (by decide) (eC_5_4 _ _) ?_
    refine V.iload_n dX7_fittingWords_29 rfl ?_
    refine V.iload dX7_fittingWords_30 rfl ?_
    obtain ⟨hb, h⟩ := ckn h
    refine V.iast dX7_fittingWords_32 nC_8 gC_8 hb ?_
    exact V.forget (vX7_fittingWords_33 hK15 h hQ) ⟨rfl, ⟨rfl, ⟨rfl, ⟨rfl, ⟨rfl, trivial⟩⟩⟩⟩⟩
def LfX7_fittingWords_15 : Nat → Int32 → Int32 → Int32 → Int32 → vMem → Option (Int32 × vMem)
  | 0, _, _, _, _, _ => none
  | n + 1, l1, l2, l3, l4, σ => fX7_fittingWords_15 (LfX7_fittingWords_15 n) l1 l2 l3 l4 σ
theorem LvX7_fittingWords_15 {ad : Nat → Nat} {Q : Option Value → vMem → Prop} {r : (Int32 × vMem)} (hQ : Q (some (.int r.1)) r.2) : ∀ (n : Nat) (l1 : Int32) (l2 : Int32) (l3 : Int32) (l4 : Int32) (σ : vMem), LfX7_fittingWords_15 n l1 l2 l3 l4 σ = some r → V GC mX7_fittingWords ad Q 4 15 [some (.ref (ad 0)), some (.int l1), some (.int l2), some (.int l3), some (.int l4)] [] σ := by
  intro n
  induction n with
  | zero => intro l1 l2 l3 l4 σ h; cases h
  | succ n ih => intro l1 l2 l3 l4 σ h; exact vX7_fittingWords_15 ih h hQ
def fX7_fittingWords (l1 : Int32) (σ : vMem) : Option (Int32 × vMem) :=
  if l1 < 0 ∨ 9 ≤ l1.toNatClampNeg then none else LfX7_fittingWords_15 200 l1 (σ.1 8 l1.toNatClampNeg) (0 : Int32) (0 : Int32) σ
theorem vX7_fittingWords {ad : Nat → Nat} {Q : Option Value → vMem → Prop} {r : (Int32 × vMem)} {l1 : Int32} {σ : vMem} (h : fX7_fittingWords l1 σ = some r) (hQ : Q (some (.int r.1)) r.2) : V GC mX7_fittingWords ad Q 4 0 [some (.ref (ad 0)), some (.int l1), none, none, none] [] σ := by
  unfold fX7_fittingWords at h
  refine V.aload_n dX7_fittingWords_0 rfl ?_
  refine V.get dX7_fittingWords_1 flX7_24 nC_0 gC_0 (by decide) (eC_0_2 _ _) ?_
  refine V.get dX7_fittingWords_4 flX7_122 nC_5 gC_5 (by decide) (eC_5_4 _ _) ?_
  refine V.iload_n dX7_fittingWords_7 rfl ?_
  obtain ⟨hb, h⟩ := ckn h
  refine V.iald dX7_fittingWords_8 nC_8 gC_8 hb ?_
  refine V.istore_n dX7_fittingWords_9 (by decide) rfl ?_
  refine V.iconst ic_0 dX7_fittingWords_10 ?_
  refine V.istore_n dX7_fittingWords_11 (by decide) rfl ?_
  refine V.iconst ic_0 dX7_fittingWords_12 ?_
  refine V.istore dX7_fittingWords_13 (by decide) rfl ?_
  exact V.forget (LvX7_fittingWords_15 hQ 200 _ _ _ _ _ h) ⟨rfl, ⟨rfl, ⟨rfl, ⟨rfl, ⟨rfl, trivial⟩⟩⟩⟩⟩
def fX7_was (l1 : Int32) (l2 : Int32) (σ : vMem) : Option (Int32 × vMem) :=
  (fX7_isFloor l1 σ).bind fun q1 => if q1.1 = 0 then (some ((-2 : Int32), q1.2)) else
  (if l2 = 0 then ((fX7_fittingBites l1 q1.2).bind fun q2 => some (q2.1, q2.2)) else
  (if l2 = 1 then ((fX7_fittingWords l1 q1.2).bind fun q3 => some (q3.1, q3.2)) else
  (some ((-2 : Int32), q1.2))))
theorem vX7_was {ad : Nat → Nat} {Q : Option Value → vMem → Prop} {r : (Int32 × vMem)} {l1 : Int32} {l2 : Int32} {σ : vMem} (h : fX7_was l1 l2 σ = some r) (hQ : Q (some (.int r.1)) r.2) : V GC mX7_was ad Q 5 0 [some (.ref (ad 0)), some (.int l1), some (.int l2)] [] σ := by
  unfold fX7_was at h
  refine V.aload_n dX7_was_0 rfl ?_
  refine V.iload_n dX7_was_1 rfl ?_
  obtain ⟨q1, h1, h⟩ := bdc h
  refine V.callV1 (mc := mX7_isFloor) (d' := 0) dX7_was_2 lkX7_113 hfX7_isFloor nC_0 gC_0 rfl (by decide) (Nat.le_of_ble_eq_true rfl) (Nat.le_of_ble_eq_true rfl) (vX7_isFloor h1 ?_)
  rcases itc h with ⟨hc, h⟩ | ⟨hc, h⟩
  · refine V.if_ne (tgt := 11) dX7_was_5 (by decide) (fun hn => absurd hc hn) (fun _ => ?_)
    refine V.bipush bp_m2 dX7_was_8 ?_
    obtain rfl := Option.some.inj h
    exact V.iret dX7_was_10 rfl hQ
  · refine V.if_ne (tgt := 11) dX7_was_5 (by decide) (fun _ => ?_) (fun hn => absurd hn hc)
    refine V.iload_n dX7_was_11 rfl ?_
    rcases itc h with ⟨hc, h⟩ | ⟨hs0, h⟩
    · refine V.lookup (off := 28) (tgt := 40) dX7_was_12 (by decide) (by rw [hc]; rfl) (by decide) ?_
      refine V.aload_n dX7_was_40 rfl ?_
      refine V.iload_n dX7_was_41 rfl ?_
      obtain ⟨q2, h1, h⟩ := bdc h
      refine V.callV1 (mc := mX7_fittingBites) (d' := 4) dX7_was_42 lkX7_262 hfX7_fittingBites nC_0 gC_0 rfl (by decide) (Nat.le_of_ble_eq_true rfl) (Nat.le_of_ble_eq_true rfl) (vX7_fittingBites h1 ?_)
      obtain rfl := Option.some.inj h
      exact V.iret dX7_was_45 rfl hQ
    · rcases itc h with ⟨hc, h⟩ | ⟨hs1, h⟩
      · refine V.lookup (off := 34) (tgt := 46) dX7_was_12 (by decide) (by rw [hc]; rfl) (by decide) ?_
        refine V.aload_n dX7_was_46 rfl ?_
        refine V.iload_n dX7_was_47 rfl ?_
        obtain ⟨q3, h1, h⟩ := bdc h
        refine V.callV1 (mc := mX7_fittingWords) (d' := 4) dX7_was_48 lkX7_265 hfX7_fittingWords nC_0 gC_0 rfl (by decide) (Nat.le_of_ble_eq_true rfl) (Nat.le_of_ble_eq_true rfl) (vX7_fittingWords h1 ?_)
        obtain rfl := Option.some.inj h
        exact V.iret dX7_was_51 rfl hQ
      · refine V.lookup (off := 40) (tgt := 52) dX7_was_12 (by decide) ((lv_osw hs0 rfl).trans ((lv_osw hs1 rfl).trans rfl)) (by decide) ?_
        refine V.bipush bp_m2 dX7_was_52 ?_
        obtain rfl := Option.some.inj h
        exact V.iret dX7_was_54 rfl hQ
def fX7_greatestHeap_87 (K5 : Int32 → Int32 → Int32 → Int32 → vMem → Option (Int32 × vMem)) (K18 : Int32 → Int32 → Int32 → Int32 → Int32 → Int32 → vMem → Option (Int32 × vMem)) (l1 : Int32) (l2 : Int32) (l3 : Int32) (l4 : Int32) (l5 : Int32) (l6 : Int32) (σ : vMem) : Option (Int32 × vMem) :=
  K18 l1 l2 l3 l4 l5 (l6 + (1 : Int32)) σ
theorem vX7_greatestHeap_87 {ad : Nat → Nat} {Q : Option Value → vMem → Prop} {r : (Int32 × vMem)} {K5 : Int32 → Int32 → Int32 → Int32 → vMem → Option (Int32 × vMem)} (hK5 : ∀ (l1 : Int32) (l2 : Int32) (l3 : Int32) (l4 : Int32) (σ : vMem), K5 l1 l2 l3 l4 σ = some r → V GC mX7_greatestHeap ad Q 1 5 [some (.ref (ad 0)), some (.int l1), some (.int l2), some (.int l3), some (.int l4), none, none, none] [] σ) {K18 : Int32 → Int32 → Int32 → Int32 → Int32 → Int32 → vMem → Option (Int32 × vMem)} (hK18 : ∀ (l1 : Int32) (l2 : Int32) (l3 : Int32) (l4 : Int32) (l5 : Int32) (l6 : Int32) (σ : vMem), K18 l1 l2 l3 l4 l5 l6 σ = some r → V GC mX7_greatestHeap ad Q 1 18 [some (.ref (ad 0)), some (.int l1), some (.int l2), some (.int l3), some (.int l4), some (.int l5), some (.int l6), none] [] σ) {l1 : Int32} {l2 : Int32} {l3 : Int32} {l4 : Int32} {l5 : Int32} {l6 : Int32} {σ : vMem} (h : fX7_greatestHeap_87 K5 K18 l1 l2 l3 l4 l5 l6 σ = some r) (hQ : Q (some (.int r.1)) r.2) : V GC mX7_greatestHeap ad Q 1 87 [some (.ref (ad 0)), some (.int l1), some (.int l2), some (.int l3), some (.int l4), some (.int l5), some (.int l6), none] [] σ := by
  unfold fX7_greatestHeap_87 at h
  refine V.iinc dX7_greatestHeap_87 rfl (ii_1 _) (by decide) rfl ?_
  refine V.goto (tgt := 18) dX7_greatestHeap_90 (by decide) ?_
  exact V.forget (hK18 _ _ _ _ _ _ _ h) ⟨rfl, ⟨rfl, ⟨rfl, ⟨rfl, ⟨rfl, ⟨rfl, ⟨rfl, trivial⟩⟩⟩⟩⟩⟩⟩
def fX7_greatestHeap_50 (K5 : Int32 → Int32 → Int32 → Int32 → vMem → Option (Int32 × vMem)) (K18 : Int32 → Int32 → Int32 → Int32 → Int32 → Int32 → vMem → Option (Int32 × vMem)) (l1 : Int32) (l2 : Int32) (l3 : Int32) (l4 : Int32) (l5 : Int32) (l6 : Int32) (s0 : Int32) (σ : vMem) : Option (Int32 × vMem) :=
  if s0 = 0 then (fX7_greatestHeap_87 K5 K18 l1 l2 l3 l4 l5 l6 σ) else
  (if ((l4 * (8 : Int32)) + l1) < 0 ∨ 80 ≤ ((l4 * (8 : Int32)) + l1).toNatClampNeg then none else if ((l6 * (8 : Int32)) + l1) < 0 ∨ 80 ≤ ((l6 * (8 : Int32)) + l1).toNatClampNeg then none else if (σ.1 39 ((l4 * (8 : Int32)) + l1).toNatClampNeg) = (σ.1 39 ((l6 * (8 : Int32)) + l1).toNatClampNeg) then (fX7_greatestHeap_87 K5 K18 l1 l2 l3 l4 (l5 + (1 : Int32)) l6 σ) else
  (fX7_greatestHeap_87 K5 K18 l1 l2 l3 l4 l5 l6 σ))
theorem vX7_greatestHeap_50 {ad : Nat → Nat} {Q : Option Value → vMem → Prop} {r : (Int32 × vMem)} {K5 : Int32 → Int32 → Int32 → Int32 → vMem → Option (Int32 × vMem)} (hK5 : ∀ (l1 : Int32) (l2 : Int32) (l3 : Int32) (l4 : Int32) (σ : vMem), K5 l1 l2 l3 l4 σ = some r → V GC mX7_greatestHeap ad Q 1 5 [some (.ref (ad 0)), some (.int l1), some (.int l2), some (.int l3), some (.int l4), none, none, none] [] σ) {K18 : Int32 → Int32 → Int32 → Int32 → Int32 → Int32 → vMem → Option (Int32 × vMem)} (hK18 : ∀ (l1 : Int32) (l2 : Int32) (l3 : Int32) (l4 : Int32) (l5 : Int32) (l6 : Int32) (σ : vMem), K18 l1 l2 l3 l4 l5 l6 σ = some r → V GC mX7_greatestHeap ad Q 1 18 [some (.ref (ad 0)), some (.int l1), some (.int l2), some (.int l3), some (.int l4), some (.int l5), some (.int l6), none] [] σ) {l1 : Int32} {l2 : Int32} {l3 : Int32} {l4 : Int32} {l5 : Int32} {l6 : Int32} {s0 : Int32} {σ : vMem} (h : fX7_greatestHeap_50 K5 K18 l1 l2 l3 l4 l5 l6 s0 σ = some r) (hQ : Q (some (.int r.1)) r.2) : V GC mX7_greatestHeap ad Q 1 50 [some (.ref (ad 0)), some (.int l1), some (.int l2), some (.int l3), some (.int l4), some (.int l5), some (.int l6), none] [.int s0] σ := by
  unfold fX7_greatestHeap_50 at h
  refine V.istore dX7_greatestHeap_50 (by decide) rfl ?_
  refine V.iload dX7_greatestHeap_52 rfl ?_
  rcases itc h with ⟨hc, h⟩ | ⟨hc, h⟩
  · refine V.if_eq (tgt := 87) dX7_greatestHeap_54 (by decide) (fun _ => ?_) (fun hn => absurd hc hn)
    exact V.forget (vX7_greatestHeap_87 hK5 hK18 h hQ) ⟨rfl, ⟨rfl, ⟨rfl, ⟨rfl, ⟨rfl, ⟨rfl, ⟨rfl, trivial⟩⟩⟩⟩⟩⟩⟩
  · refine V.if_eq (tgt := 87) dX7_greatestHeap_54 (by decide) (fun hn => absurd hn hc) (fun _ => ?_)
    refine V.aload_n dX7_greatestHeap_57 rfl ?_
    refine V.get dX7_greatestHeap_58 flX7_76 nC_0 gC_0 (by decide) (eC_0_11 _ _) ?_
    refine V.iload dX7_greatestHeap_61 rfl ?_
    refine V.bipush bp_8 dX7_greatestHeap_63 ?_
    refine V.imul dX7_greatestHeap_65 ?_
    refine V.iload_n dX7_greatestHeap_66 rfl ?_
    refine V.iadd dX7_greatestHeap_67 ?_
    obtain ⟨hb, h⟩ := ckn h
    refine V.iald dX7_greatestHeap_68 nC_39 gC_39 hb ?_
    refine V.aload_n dX7_greatestHeap_69 rfl ?_
    refine V.get dX7_greatestHeap_70 flX7_76 nC_0 gC_0 (by decide) (eC_0_11 _ _) ?_
    refine V.iload dX7_greatestHeap_73 rfl ?_
    refine V.bipush bp_8 dX7_greatestHeap_75 ?_
    refine V.imul dX7_greatestHeap_77 ?_
    refine V.iload_n dX7_greatestHeap_78 rfl ?_
    refine V.iadd dX7_greatestHeap_79 ?_
    obtain ⟨hb, h⟩ := ckn h
    refine V.iald dX7_greatestHeap_80 nC_39 gC_39 hb ?_
    rcases itc h with ⟨hc, h⟩ | ⟨hc, h⟩
    · refine V.icmp_ne (tgt := 87) dX7_greatestHeap_81 (by decide) (fun hn => absurd hc hn) (fun _ => ?_)
      refine V.iinc dX7_greatestHeap_84 rfl (ii_1 _) (by decide) rfl ?_
      exact V.forget (vX7_greatestHeap_87 hK5 hK18 h hQ) ⟨rfl, ⟨rfl, ⟨rfl, ⟨rfl, ⟨rfl, ⟨rfl, ⟨rfl, trivial⟩⟩⟩⟩⟩⟩⟩
    · refine V.icmp_ne (tgt := 87) dX7_greatestHeap_81 (by decide) (fun _ => ?_) (fun hn => absurd hn hc)
      exact V.forget (vX7_greatestHeap_87 hK5 hK18 h hQ) ⟨rfl, ⟨rfl, ⟨rfl, ⟨rfl, ⟨rfl, ⟨rfl, ⟨rfl, trivial⟩⟩⟩⟩⟩⟩⟩
def fX7_greatestHeap_49 (K5 : Int32 → Int32 → Int32 → Int32 → vMem → Option (Int32 × vMem)) (K18 : Int32 → Int32 → Int32 → Int32 → Int32 → Int32 → vMem → Option (Int32 × vMem)) (l1 : Int32) (l2 : Int32) (l3 : Int32) (l4 : Int32) (l5 : Int32) (l6 : Int32) (σ : vMem) : Option (Int32 × vMem) :=
  fX7_greatestHeap_50 K5 K18 l1 l2 l3 l4 l5 l6 (0 : Int32) σ
theorem vX7_greatestHeap_49 {ad : Nat → Nat} {Q : Option Value → vMem → Prop} {r : (Int32 × vMem)} {K5 : Int32 → Int32 → Int32 → Int32 → vMem → Option (Int32 × vMem)} (hK5 : ∀ (l1 : Int32) (l2 : Int32) (l3 : Int32) (l4 : Int32) (σ : vMem), K5 l1 l2 l3 l4 σ = some r → V GC mX7_greatestHeap ad Q 1 5 [some (.ref (ad 0)), some (.int l1), some (.int l2), some (.int l3), some (.int l4), none, none, none] [] σ) {K18 : Int32 → Int32 → Int32 → Int32 → Int32 → Int32 → vMem → Option (Int32 × vMem)} (hK18 : ∀ (l1 : Int32) (l2 : Int32) (l3 : Int32) (l4 : Int32) (l5 : Int32) (l6 : Int32) (σ : vMem), K18 l1 l2 l3 l4 l5 l6 σ = some r → V GC mX7_greatestHeap ad Q 1 18 [some (.ref (ad 0)), some (.int l1), some (.int l2), some (.int l3), some (.int l4), some (.int l5), some (.int l6), none] [] σ) {l1 : Int32} {l2 : Int32} {l3 : Int32} {l4 : Int32} {l5 : Int32} {l6 : Int32} {σ : vMem} (h : fX7_greatestHeap_49 K5 K18 l1 l2 l3 l4 l5 l6 σ = some r) (hQ : Q (some (.int r.1)) r.2) : V GC mX7_greatestHeap ad Q 1 49 [some (.ref (ad 0)), some (.int l1), some (.int l2), some (.int l3), some (.int l4), some (.int l5), some (.int l6), none] [] σ := by
  unfold fX7_greatestHeap_49 at h
  refine V.iconst ic_0 dX7_greatestHeap_49 ?_
  exact V.forget (vX7_greatestHeap_50 hK5 hK18 h hQ) ⟨rfl, ⟨rfl, ⟨rfl, ⟨rfl, ⟨rfl, ⟨rfl, ⟨rfl, trivial⟩⟩⟩⟩⟩⟩⟩
def fX7_greatestHeap_18 (K5 : Int32 → Int32 → Int32 → Int32 → vMem → Option (Int32 × vMem)) (K18 : Int32 → Int32 → Int32 → Int32 → Int32 → Int32 → vMem → Option (Int32 × vMem)) (l1 : Int32) (l2 : Int32) (l3 : Int32) (l4 : Int32) (l5 : Int32) (l6 : Int32) (σ : vMem) : Option (Int32 × vMem) :=
  if (10 : Int32) ≤ l6 then (K5 l1 l2 (if l3 < l5 then l5 else l3) (l4 + (1 : Int32)) σ) else
  (if ((l2 >>> (l4 &&& 31)) &&& (1 : Int32)) = (1 : Int32) then (if ((l2 >>> (l6 &&& 31)) &&& (1 : Int32)) = (1 : Int32) then (fX7_greatestHeap_50 K5 K18 l1 l2 l3 l4 l5 l6 (1 : Int32) σ) else
  (fX7_greatestHeap_49 K5 K18 l1 l2 l3 l4 l5 l6 σ)) else
  (fX7_greatestHeap_49 K5 K18 l1 l2 l3 l4 l5 l6 σ))
theorem vX7_greatestHeap_18 {ad : Nat → Nat} {Q : Option Value → vMem → Prop} {r : (Int32 × vMem)} {K5 : Int32 → Int32 → Int32 → Int32 → vMem → Option (Int32 × vMem)} (hK5 : ∀ (l1 : Int32) (l2 : Int32) (l3 : Int32) (l4 : Int32) (σ : vMem), K5 l1 l2 l3 l4 σ = some r → V GC mX7_greatestHeap ad Q 1 5 [some (.ref (ad 0)), some (.int l1), some (.int l2), some (.int l3), some (.int l4), none, none, none] [] σ) {K18 : Int32 → Int32 → Int32 → Int32 → Int32 → Int32 → vMem → Option (Int32 × vMem)} (hK18 : ∀ (l1 : Int32) (l2 : Int32) (l3 : Int32) (l4 : Int32) (l5 : Int32) (l6 : Int32) (σ : vMem), K18 l1 l2 l3 l4 l5 l6 σ = some r → V GC mX7_greatestHeap ad Q 1 18 [some (.ref (ad 0)), some (.int l1), some (.int l2), some (.int l3), some (.int l4), some (.int l5), some (.int l6), none] [] σ) {l1 : Int32} {l2 : Int32} {l3 : Int32} {l4 : Int32} {l5 : Int32} {l6 : Int32} {σ : vMem} (h : fX7_greatestHeap_18 K5 K18 l1 l2 l3 l4 l5 l6 σ = some r) (hQ : Q (some (.int r.1)) r.2) : V GC mX7_greatestHeap ad Q 1 18 [some (.ref (ad 0)), some (.int l1), some (.int l2), some (.int l3), some (.int l4), some (.int l5), some (.int l6), none] [] σ := by
  unfold fX7_greatestHeap_18 at h
  refine V.iload dX7_greatestHeap_18 rfl ?_
  refine V.bipush bp_10 dX7_greatestHeap_20 ?_
  rcases itc h with ⟨hc, h⟩ | ⟨hc, h⟩
  · refine V.icmp_ge (tgt := 93) dX7_greatestHeap_22 (by decide) (fun _ => ?_) (fun hn => absurd hc hn)
    refine V.iload_n dX7_greatestHeap_93 rfl ?_
    refine V.iload dX7_greatestHeap_94 rfl ?_
    refine V.mmax dX7_greatestHeap_96 lkX7_379 ma_max_s ma_ini ma_max_c (by decide) (Nat.le_of_ble_eq_true rfl) ?_
    refine V.istore_n dX7_greatestHeap_99 (by decide) rfl ?_
    refine V.iinc dX7_greatestHeap_100 rfl (ii_1 _) (by decide) rfl ?_
    refine V.goto (tgt := 5) dX7_greatestHeap_103 (by decide) ?_
    exact V.forget (hK5 _ _ _ _ _ h) ⟨rfl, ⟨rfl, ⟨rfl, ⟨rfl, ⟨rfl, trivial⟩⟩⟩⟩⟩
  · refine V.icmp_ge (tgt := 93) dX7_greatestHeap_22 (by decide) (fun hn => absurd hn hc) (fun _ => ?_)
    refine V.iload_n dX7_greatestHeap_25 rfl ?_
    refine V.iload dX7_greatestHeap_26 rfl ?_
    refine V.ishr dX7_greatestHeap_28 ?_
    refine V.iconst ic_1 dX7_greatestHeap_29 ?_
    refine V.iand dX7_greatestHeap_30 ?_
    refine V.iconst ic_1 dX7_greatestHeap_31 ?_
    rcases itc h with ⟨hc, h⟩ | ⟨hc, h⟩
    · refine V.icmp_ne (tgt := 49) dX7_greatestHeap_32 (by decide) (fun hn => absurd hc hn) (fun _ => ?_)
      refine V.iload_n dX7_greatestHeap_35 rfl ?_
      refine V.iload dX7_greatestHeap_36 rfl ?_
      refine V.ishr dX7_greatestHeap_38 ?_
      refine V.iconst ic_1 dX7_greatestHeap_39 ?_
      refine V.iand dX7_greatestHeap_40 ?_
      refine V.iconst ic_1 dX7_greatestHeap_41 ?_
      rcases itc h with ⟨hc, h⟩ | ⟨hc, h⟩
      · refine V.icmp_ne (tgt := 49) dX7_greatestHeap_42 (by decide) (fun hn => absurd hc hn) (fun _ => ?_)
        refine V.iconst ic_1 dX7_greatestHeap_45 ?_
        refine V.goto (tgt := 50) dX7_greatestHeap_46 (by decide) ?_
        exact V.forget (vX7_greatestHeap_50 hK5 hK18 h hQ) ⟨rfl, ⟨rfl, ⟨rfl, ⟨rfl, ⟨rfl, ⟨rfl, ⟨rfl, trivial⟩⟩⟩⟩⟩⟩⟩
      · refine V.icmp_ne (tgt := 49) dX7_greatestHeap_42 (by decide) (fun _ => ?_) (fun hn => absurd hn hc)
        exact V.forget (vX7_greatestHeap_49 hK5 hK18 h hQ) ⟨rfl, ⟨rfl, ⟨rfl, ⟨rfl, ⟨rfl, ⟨rfl, ⟨rfl, trivial⟩⟩⟩⟩⟩⟩⟩
    · refine V.icmp_ne (tgt := 49) dX7_greatestHeap_32 (by decide) (fun _ => ?_) (fun hn => absurd hn hc)
      exact V.forget (vX7_greatestHeap_49 hK5 hK18 h hQ) ⟨rfl, ⟨rfl, ⟨rfl, ⟨rfl, ⟨rfl, ⟨rfl, ⟨rfl, trivial⟩⟩⟩⟩⟩⟩⟩
def LfX7_greatestHeap_18 (K5 : Int32 → Int32 → Int32 → Int32 → vMem → Option (Int32 × vMem)) : Nat → Int32 → Int32 → Int32 → Int32 → Int32 → Int32 → vMem → Option (Int32 × vMem)
  | 0, _, _, _, _, _, _, _ => none
  | n + 1, l1, l2, l3, l4, l5, l6, σ => fX7_greatestHeap_18 K5 (LfX7_greatestHeap_18 K5 n) l1 l2 l3 l4 l5 l6 σ
theorem LvX7_greatestHeap_18 {ad : Nat → Nat} {Q : Option Value → vMem → Prop} {r : (Int32 × vMem)} {K5 : Int32 → Int32 → Int32 → Int32 → vMem → Option (Int32 × vMem)} (hK5 : ∀ (l1 : Int32) (l2 : Int32) (l3 : Int32) (l4 : Int32) (σ : vMem), K5 l1 l2 l3 l4 σ = some r → V GC mX7_greatestHeap ad Q 1 5 [some (.ref (ad 0)), some (.int l1), some (.int l2), some (.int l3), some (.int l4), none, none, none] [] σ) (hQ : Q (some (.int r.1)) r.2) : ∀ (n : Nat) (l1 : Int32) (l2 : Int32) (l3 : Int32) (l4 : Int32) (l5 : Int32) (l6 : Int32) (σ : vMem), LfX7_greatestHeap_18 K5 n l1 l2 l3 l4 l5 l6 σ = some r → V GC mX7_greatestHeap ad Q 1 18 [some (.ref (ad 0)), some (.int l1), some (.int l2), some (.int l3), some (.int l4), some (.int l5), some (.int l6), none] [] σ := by
  intro n
  induction n with
  | zero => intro l1 l2 l3 l4 l5 l6 σ h; cases h
  | succ n ih => intro l1 l2 l3 l4 l5 l6 σ h; exact vX7_greatestHeap_18 hK5 ih h hQ
def fX7_greatestHeap_5 (K5 : Int32 → Int32 → Int32 → Int32 → vMem → Option (Int32 × vMem)) (l1 : Int32) (l2 : Int32) (l3 : Int32) (l4 : Int32) (σ : vMem) : Option (Int32 × vMem) :=
  if (10 : Int32) ≤ l4 then (some (l3, σ)) else
  (LfX7_greatestHeap_18 K5 200 l1 l2 l3 l4 (0 : Int32) (0 : Int32) σ)
theorem vX7_greatestHeap_5 {ad : Nat → Nat} {Q : Option Value → vMem → Prop} {r : (Int32 × vMem)} {K5 : Int32 → Int32 → Int32 → Int32 → vMem → Option (Int32 × vMem)} (hK5 : ∀ (l1 : Int32) (l2 : Int32) (l3 : Int32) (l4 : Int32) (σ : vMem), K5 l1 l2 l3 l4 σ = some r → V GC mX7_greatestHeap ad Q 1 5 [some (.ref (ad 0)), some (.int l1), some (.int l2), some (.int l3), some (.int l4), none, none, none] [] σ) {l1 : Int32} {l2 : Int32} {l3 : Int32} {l4 : Int32} {σ : vMem} (h : fX7_greatestHeap_5 K5 l1 l2 l3 l4 σ = some r) (hQ : Q (some (.int r.1)) r.2) : V GC mX7_greatestHeap ad Q 1 5 [some (.ref (ad 0)), some (.int l1), some (.int l2), some (.int l3), some (.int l4), none, none, none] [] σ := by
  unfold fX7_greatestHeap_5 at h
  refine V.iload dX7_greatestHeap_5 rfl ?_
  refine V.bipush bp_10 dX7_greatestHeap_7 ?_
  rcases itc h with ⟨hc, h⟩ | ⟨hc, h⟩
  · refine V.icmp_ge (tgt := 106) dX7_greatestHeap_9 (by decide) (fun _ => ?_) (fun hn => absurd hc hn)
    refine V.iload_n dX7_greatestHeap_106 rfl ?_
    obtain rfl := Option.some.inj h
    exact V.iret dX7_greatestHeap_107 rfl hQ
  · refine V.icmp_ge (tgt := 106) dX7_greatestHeap_9 (by decide) (fun hn => absurd hn hc) (fun _ => ?_)
    refine V.iconst ic_0 dX7_greatestHeap_12 ?_
    refine V.istore dX7_greatestHeap_13 (by decide) rfl ?_
    refine V.iconst ic_0 dX7_greatestHeap_15 ?_
    refine V.istore dX7_greatestHeap_16 (by decide) rfl ?_
    exact V.forget (LvX7_greatestHeap_18 hK5 hQ 200 _ _ _ _ _ _ _ h) ⟨rfl, ⟨rfl, ⟨rfl, ⟨rfl, ⟨rfl, ⟨rfl, ⟨rfl, trivial⟩⟩⟩⟩⟩⟩⟩
def LfX7_greatestHeap_5 : Nat → Int32 → Int32 → Int32 → Int32 → vMem → Option (Int32 × vMem)
  | 0, _, _, _, _, _ => none
  | n + 1, l1, l2, l3, l4, σ => fX7_greatestHeap_5 (LfX7_greatestHeap_5 n) l1 l2 l3 l4 σ
theorem LvX7_greatestHeap_5 {ad : Nat → Nat} {Q : Option Value → vMem → Prop} {r : (Int32 × vMem)} (hQ : Q (some (.int r.1)) r.2) : ∀ (n : Nat) (l1 : Int32) (l2 : Int32) (l3 : Int32) (l4 : Int32) (σ : vMem), LfX7_greatestHeap_5 n l1 l2 l3 l4 σ = some r → V GC mX7_greatestHeap ad Q 1 5 [some (.ref (ad 0)), some (.int l1), some (.int l2), some (.int l3), some (.int l4), none, none, none] [] σ := by
  intro n
  induction n with
  | zero => intro l1 l2 l3 l4 σ h; cases h
  | succ n ih => intro l1 l2 l3 l4 σ h; exact vX7_greatestHeap_5 ih h hQ
def fX7_greatestHeap (l1 : Int32) (l2 : Int32) (σ : vMem) : Option (Int32 × vMem) :=
  LfX7_greatestHeap_5 200 l1 l2 (0 : Int32) (0 : Int32) σ
theorem vX7_greatestHeap {ad : Nat → Nat} {Q : Option Value → vMem → Prop} {r : (Int32 × vMem)} {l1 : Int32} {l2 : Int32} {σ : vMem} (h : fX7_greatestHeap l1 l2 σ = some r) (hQ : Q (some (.int r.1)) r.2) : V GC mX7_greatestHeap ad Q 1 0 [some (.ref (ad 0)), some (.int l1), some (.int l2), none, none, none, none, none] [] σ := by
  unfold fX7_greatestHeap at h
  refine V.iconst ic_0 dX7_greatestHeap_0 ?_
  refine V.istore_n dX7_greatestHeap_1 (by decide) rfl ?_
  refine V.iconst ic_0 dX7_greatestHeap_2 ?_
  refine V.istore dX7_greatestHeap_3 (by decide) rfl ?_
  exact V.forget (LvX7_greatestHeap_5 hQ 200 _ _ _ _ _ h) ⟨rfl, ⟨rfl, ⟨rfl, ⟨rfl, ⟨rfl, trivial⟩⟩⟩⟩⟩
def fX7_ask_26 (K26 : Int32 → Int32 → vMem → Option (Int32 × vMem)) (l2 : Int32) (l3 : Int32) (σ : vMem) : Option (Int32 × vMem) :=
  if (σ.1 5 5) ≤ l3 then (some ((σ.1 37 0), σ)) else
  ((fX7_greatestHeap l3 l2 σ).bind fun q1 => (fX0_offer l3 ((10 : Int32) - q1.1) q1.2).bind fun q2 => K26 l2 (l3 + (1 : Int32)) q2)
theorem vX7_ask_26 {ad : Nat → Nat} {Q : Option Value → vMem → Prop} {r : (Int32 × vMem)} {K26 : Int32 → Int32 → vMem → Option (Int32 × vMem)} (hK26 : ∀ (l2 : Int32) (l3 : Int32) (σ : vMem), K26 l2 l3 σ = some r → V GC mX7_ask ad Q 5 26 [some (.ref (ad 0)), none, some (.int l2), some (.int l3)] [] σ) {l2 : Int32} {l3 : Int32} {σ : vMem} (h : fX7_ask_26 K26 l2 l3 σ = some r) (hQ : Q (some (.int r.1)) r.2) : V GC mX7_ask ad Q 5 26 [some (.ref (ad 0)), none, some (.int l2), some (.int l3)] [] σ := by
  unfold fX7_ask_26 at h
  refine V.iload_n dX7_ask_26 rfl ?_
  refine V.aload_n dX7_ask_27 rfl ?_
  refine V.get dX7_ask_28 flX7_24 nC_0 gC_0 (by decide) (eC_0_2 _ _) ?_
  refine V.get dX7_ask_31 flX7_268 nC_5 gC_5 (by decide) (eC_5_5 _ _) ?_
  rcases itc h with ⟨hc, h⟩ | ⟨hc, h⟩
  · refine V.icmp_ge (tgt := 60) dX7_ask_34 (by decide) (fun _ => ?_) (fun hn => absurd hc hn)
    refine V.aload_n dX7_ask_60 rfl ?_
    refine V.get dX7_ask_61 flX7_64 nC_0 gC_0 (by decide) (eC_0_8 _ _) ?_
    refine V.get dX7_ask_64 flX7_224 nC_37 gC_37 (by decide) (eC_37_0 _ _) ?_
    obtain rfl := Option.some.inj h
    exact V.iret dX7_ask_67 rfl hQ
  · refine V.icmp_ge (tgt := 60) dX7_ask_34 (by decide) (fun hn => absurd hn hc) (fun _ => ?_)
    refine V.aload_n dX7_ask_37 rfl ?_
    refine V.get dX7_ask_38 flX7_64 nC_0 gC_0 (by decide) (eC_0_8 _ _) ?_
    refine V.iload_n dX7_ask_41 rfl ?_
    refine V.bipush bp_10 dX7_ask_42 ?_
    refine V.aload_n dX7_ask_44 rfl ?_
    refine V.iload_n dX7_ask_45 rfl ?_
    refine V.iload_n dX7_ask_46 rfl ?_
    obtain ⟨q1, h1, h⟩ := bdc h
    refine V.callV2 (mc := mX7_greatestHeap) (d' := 1) dX7_ask_47 lkX7_271 hfX7_greatestHeap nC_0 gC_0 rfl (by decide) (Nat.le_of_ble_eq_true rfl) (Nat.le_of_ble_eq_true rfl) (vX7_greatestHeap h1 ?_)
    refine V.isub dX7_ask_50 ?_
    obtain ⟨q2, h1, h⟩ := bdc h
    refine V.callV2 (mc := mX0_offer) (d' := 0) dX7_ask_51 lkX7_220 hfX0_offer nC_37 gC_37 rfl (by decide) (Nat.le_of_ble_eq_true rfl) (Nat.le_of_ble_eq_true rfl) (vX0_offer h1 ?_)
    refine V.iinc dX7_ask_54 rfl (ii_1 _) (by decide) rfl ?_
    refine V.goto (tgt := 26) dX7_ask_57 (by decide) ?_
    exact V.forget (hK26 _ _ _ h) ⟨rfl, ⟨rfl, ⟨rfl, trivial⟩⟩⟩
def LfX7_ask_26 : Nat → Int32 → Int32 → vMem → Option (Int32 × vMem)
  | 0, _, _, _ => none
  | n + 1, l2, l3, σ => fX7_ask_26 (LfX7_ask_26 n) l2 l3 σ
theorem LvX7_ask_26 {ad : Nat → Nat} {Q : Option Value → vMem → Prop} {r : (Int32 × vMem)} (hQ : Q (some (.int r.1)) r.2) : ∀ (n : Nat) (l2 : Int32) (l3 : Int32) (σ : vMem), LfX7_ask_26 n l2 l3 σ = some r → V GC mX7_ask ad Q 5 26 [some (.ref (ad 0)), none, some (.int l2), some (.int l3)] [] σ := by
  intro n
  induction n with
  | zero => intro l2 l3 σ h; cases h
  | succ n ih => intro l2 l3 σ h; exact vX7_ask_26 ih h hQ
def fX7_ask (l1 : Int32) (σ : vMem) : Option (Int32 × vMem) :=
  (fX7_isFloor l1 σ).bind fun q1 => if q1.1 = 0 then (some ((-2 : Int32), q1.2)) else
  ((fX7_fittingBites l1 q1.2).bind fun q2 => (fX0_clear q2.2).bind fun q3 => LfX7_ask_26 200 q2.1 (0 : Int32) q3)
theorem vX7_ask {ad : Nat → Nat} {Q : Option Value → vMem → Prop} {r : (Int32 × vMem)} {l1 : Int32} {σ : vMem} (h : fX7_ask l1 σ = some r) (hQ : Q (some (.int r.1)) r.2) : V GC mX7_ask ad Q 5 0 [some (.ref (ad 0)), some (.int l1), none, none] [] σ := by
  unfold fX7_ask at h
  refine V.aload_n dX7_ask_0 rfl ?_
  refine V.iload_n dX7_ask_1 rfl ?_
  obtain ⟨q1, h1, h⟩ := bdc h
  refine V.callV1 (mc := mX7_isFloor) (d' := 0) dX7_ask_2 lkX7_113 hfX7_isFloor nC_0 gC_0 rfl (by decide) (Nat.le_of_ble_eq_true rfl) (Nat.le_of_ble_eq_true rfl) (vX7_isFloor h1 ?_)
  rcases itc h with ⟨hc, h⟩ | ⟨hc, h⟩
  · refine V.if_ne (tgt := 11) dX7_ask_5 (by decide) (fun hn => absurd hc hn) (fun _ => ?_)
    refine V.bipush bp_m2 dX7_ask_8 ?_
    obtain rfl := Option.some.inj h
    exact V.iret dX7_ask_10 rfl hQ
  · refine V.if_ne (tgt := 11) dX7_ask_5 (by decide) (fun _ => ?_) (fun hn => absurd hn hc)
    refine V.aload_n dX7_ask_11 rfl ?_
    refine V.iload_n dX7_ask_12 rfl ?_
    obtain ⟨q2, h1, h⟩ := bdc h
    refine V.callV1 (mc := mX7_fittingBites) (d' := 4) dX7_ask_13 lkX7_262 hfX7_fittingBites nC_0 gC_0 rfl (by decide) (Nat.le_of_ble_eq_true rfl) (Nat.le_of_ble_eq_true rfl) (vX7_fittingBites h1 ?_)
    refine V.istore_n dX7_ask_16 (by decide) rfl ?_
    refine V.aload_n dX7_ask_17 rfl ?_
    refine V.get dX7_ask_18 flX7_64 nC_0 gC_0 (by decide) (eC_0_8 _ _) ?_
    obtain ⟨q3, h1, h⟩ := bdc h
    refine V.callV0 (mc := mX0_clear) (d' := 0) dX7_ask_21 lkX7_214 hfX0_clear nC_37 gC_37 rfl (by decide) (Nat.le_of_ble_eq_true rfl) (Nat.le_of_ble_eq_true rfl) (vX0_clear h1 ?_)
    refine V.iconst ic_0 dX7_ask_24 ?_
    refine V.istore_n dX7_ask_25 (by decide) rfl ?_
    exact V.forget (LvX7_ask_26 hQ 200 _ _ _ h) ⟨rfl, ⟨rfl, ⟨rfl, trivial⟩⟩⟩
def fX7_findChance_214 (σ : vMem) : Option vMem :=
  some σ
theorem vX7_findChance_214 {ad : Nat → Nat} {Q : Option Value → vMem → Prop} {r : vMem} {σ : vMem} (h : fX7_findChance_214 σ = some r) (hQ : Q none r) : V GC mX7_findChance ad Q 4 214 [none, none, none, none, none, none, none, none] [] σ := by
  unfold fX7_findChance_214 at h
  obtain rfl := Option.some.inj h
  exact V.vret dX7_findChance_214 rfl hQ
def fX7_findChance_208 (K155 : Int32 → vMem → Option vMem) (l4 : Int32) (σ : vMem) : Option vMem :=
  K155 (l4 + (1 : Int32)) σ
theorem vX7_findChance_208 {ad : Nat → Nat} {Q : Option Value → vMem → Prop} {r : vMem} {K155 : Int32 → vMem → Option vMem} (hK155 : ∀ (l4 : Int32) (σ : vMem), K155 l4 σ = some r → V GC mX7_findChance ad Q 4 155 [some (.ref (ad 0)), none, none, none, some (.int l4), none, none, none] [] σ) {l4 : Int32} {σ : vMem} (h : fX7_findChance_208 K155 l4 σ = some r) (hQ : Q none r) : V GC mX7_findChance ad Q 4 208 [some (.ref (ad 0)), none, none, none, some (.int l4), none, none, none] [] σ := by
  unfold fX7_findChance_208 at h
  refine V.iinc dX7_findChance_208 rfl (ii_1 _) (by decide) rfl ?_
  refine V.goto (tgt := 155) dX7_findChance_211 (by decide) ?_
  exact V.forget (hK155 _ _ h) ⟨rfl, ⟨rfl, trivial⟩⟩
def fX7_findChance_196 (K155 : Int32 → vMem → Option vMem) (l4 : Int32) (σ : vMem) : Option vMem :=
  fX7_findChance_208 K155 l4 (vupL σ 0 13 ((σ.2 0 13) / (2 : Int64)))
theorem vX7_findChance_196 {ad : Nat → Nat} {Q : Option Value → vMem → Prop} {r : vMem} {K155 : Int32 → vMem → Option vMem} (hK155 : ∀ (l4 : Int32) (σ : vMem), K155 l4 σ = some r → V GC mX7_findChance ad Q 4 155 [some (.ref (ad 0)), none, none, none, some (.int l4), none, none, none] [] σ) {l4 : Int32} {σ : vMem} (h : fX7_findChance_196 K155 l4 σ = some r) (hQ : Q none r) : V GC mX7_findChance ad Q 4 196 [some (.ref (ad 0)), none, none, none, some (.int l4), none, none, none] [] σ := by
  unfold fX7_findChance_196 at h
  refine V.aload_n dX7_findChance_196 rfl ?_
  refine V.dup rfl dX7_findChance_197 ?_
  refine V.get dX7_findChance_198 flX7_83 nC_0 gC_0 (by decide) (eC_0_13 _ _) ?_
  refine V.ldc2 dX7_findChance_201 ctX7_385 ?_
  refine V.ldiv (by decide) dX7_findChance_204 ?_
  refine V.putL dX7_findChance_205 fpX7_83 nC_0 gC_0 (by decide) rfl ?_
  exact V.forget (vX7_findChance_208 hK155 h hQ) ⟨rfl, ⟨rfl, trivial⟩⟩
def fX7_findChance_155 (K155 : Int32 → vMem → Option vMem) (l4 : Int32) (σ : vMem) : Option vMem :=
  if (24 : Int32) ≤ l4 then (fX7_findChance_214 σ) else
  (if (lg_cmp (σ.2 0 13) (1 : Int64)) ≤ 0 then (fX7_findChance_214 σ) else
  (if (lg_cmp ((σ.2 0 12) - (σ.2 0 12) / (2 : Int64) * (2 : Int64)) (0 : Int64)) = 0 then (fX7_findChance_196 K155 l4 (vupL σ 0 12 ((σ.2 0 12) / (2 : Int64)))) else
  (fX7_findChance_214 σ)))
theorem vX7_findChance_155 {ad : Nat → Nat} {Q : Option Value → vMem → Prop} {r : vMem} {K155 : Int32 → vMem → Option vMem} (hK155 : ∀ (l4 : Int32) (σ : vMem), K155 l4 σ = some r → V GC mX7_findChance ad Q 4 155 [some (.ref (ad 0)), none, none, none, some (.int l4), none, none, none] [] σ) {l4 : Int32} {σ : vMem} (h : fX7_findChance_155 K155 l4 σ = some r) (hQ : Q none r) : V GC mX7_findChance ad Q 4 155 [some (.ref (ad 0)), none, none, none, some (.int l4), none, none, none] [] σ := by
  unfold fX7_findChance_155 at h
  refine V.iload dX7_findChance_155 rfl ?_
  refine V.bipush bp_24 dX7_findChance_157 ?_
  rcases itc h with ⟨hc, h⟩ | ⟨hc, h⟩
  · refine V.icmp_ge (tgt := 214) dX7_findChance_159 (by decide) (fun _ => ?_) (fun hn => absurd hc hn)
    exact V.forget (vX7_findChance_214 h hQ) trivial
  · refine V.icmp_ge (tgt := 214) dX7_findChance_159 (by decide) (fun hn => absurd hn hc) (fun _ => ?_)
    refine V.aload_n dX7_findChance_162 rfl ?_
    refine V.get dX7_findChance_163 flX7_83 nC_0 gC_0 (by decide) (eC_0_13 _ _) ?_
    refine V.lconst lc_1 dX7_findChance_166 ?_
    refine V.lcmp dX7_findChance_167 ?_
    rcases itc h with ⟨hc, h⟩ | ⟨hc, h⟩
    · refine V.if_le (tgt := 214) dX7_findChance_168 (by decide) (fun _ => ?_) (fun hn => absurd hc hn)
      exact V.forget (vX7_findChance_214 h hQ) trivial
    · refine V.if_le (tgt := 214) dX7_findChance_168 (by decide) (fun hn => absurd hn hc) (fun _ => ?_)
      refine V.aload_n dX7_findChance_171 rfl ?_
      refine V.get dX7_findChance_172 flX7_79 nC_0 gC_0 (by decide) (eC_0_12 _ _) ?_
      refine V.ldc2 dX7_findChance_175 ctX7_385 ?_
      refine V.lrem (by decide) dX7_findChance_178 ?_
      refine V.lconst lc_0 dX7_findChance_179 ?_
      refine V.lcmp dX7_findChance_180 ?_
      rcases itc h with ⟨hc, h⟩ | ⟨hc, h⟩
      · refine V.if_ne (tgt := 214) dX7_findChance_181 (by decide) (fun hn => absurd hc hn) (fun _ => ?_)
        refine V.aload_n dX7_findChance_184 rfl ?_
        refine V.dup rfl dX7_findChance_185 ?_
        refine V.get dX7_findChance_186 flX7_79 nC_0 gC_0 (by decide) (eC_0_12 _ _) ?_
        refine V.ldc2 dX7_findChance_189 ctX7_385 ?_
        refine V.ldiv (by decide) dX7_findChance_192 ?_
        refine V.putL dX7_findChance_193 fpX7_79 nC_0 gC_0 (by decide) rfl ?_
        exact V.forget (vX7_findChance_196 hK155 h hQ) ⟨rfl, ⟨rfl, trivial⟩⟩
      · refine V.if_ne (tgt := 214) dX7_findChance_181 (by decide) (fun _ => ?_) (fun hn => absurd hn hc)
        exact V.forget (vX7_findChance_214 h hQ) trivial
def LfX7_findChance_155 : Nat → Int32 → vMem → Option vMem
  | 0, _, _ => none
  | n + 1, l4, σ => fX7_findChance_155 (LfX7_findChance_155 n) l4 σ
theorem LvX7_findChance_155 {ad : Nat → Nat} {Q : Option Value → vMem → Prop} {r : vMem} (hQ : Q none r) : ∀ (n : Nat) (l4 : Int32) (σ : vMem), LfX7_findChance_155 n l4 σ = some r → V GC mX7_findChance ad Q 4 155 [some (.ref (ad 0)), none, none, none, some (.int l4), none, none, none] [] σ := by
  intro n
  induction n with
  | zero => intro l4 σ h; cases h
  | succ n ih => intro l4 σ h; exact vX7_findChance_155 ih h hQ
def fX7_findChance_146 (K23 : Int32 → Int32 → Int32 → Int32 → vMem → Option vMem) (l1 : Int32) (l2 : Int32) (l3 : Int32) (l4 : Int32) (σ : vMem) : Option vMem :=
  K23 l1 l2 l3 (l4 + (1 : Int32)) σ
theorem vX7_findChance_146 {ad : Nat → Nat} {Q : Option Value → vMem → Prop} {r : vMem} {K23 : Int32 → Int32 → Int32 → Int32 → vMem → Option vMem} (hK23 : ∀ (l1 : Int32) (l2 : Int32) (l3 : Int32) (l4 : Int32) (σ : vMem), K23 l1 l2 l3 l4 σ = some r → V GC mX7_findChance ad Q 4 23 [some (.ref (ad 0)), some (.int l1), some (.int l2), some (.int l3), some (.int l4), none, none, none] [] σ) {l1 : Int32} {l2 : Int32} {l3 : Int32} {l4 : Int32} {σ : vMem} (h : fX7_findChance_146 K23 l1 l2 l3 l4 σ = some r) (hQ : Q none r) : V GC mX7_findChance ad Q 4 146 [some (.ref (ad 0)), some (.int l1), some (.int l2), some (.int l3), some (.int l4), none, none, none] [] σ := by
  unfold fX7_findChance_146 at h
  refine V.iinc dX7_findChance_146 rfl (ii_1 _) (by decide) rfl ?_
  refine V.goto (tgt := 23) dX7_findChance_149 (by decide) ?_
  exact V.forget (hK23 _ _ _ _ _ h) ⟨rfl, ⟨rfl, ⟨rfl, ⟨rfl, ⟨rfl, trivial⟩⟩⟩⟩⟩
def fX7_findChance_142 (K23 : Int32 → Int32 → Int32 → Int32 → vMem → Option vMem) (l1 : Int32) (l2 : Int32) (l3 : Int32) (l4 : Int32) (s1 : Int64) (s2 : Int64) (σ : vMem) : Option vMem :=
  fX7_findChance_146 K23 l1 l2 l3 l4 (vupL σ 0 12 (s1 + s2))
theorem vX7_findChance_142 {ad : Nat → Nat} {Q : Option Value → vMem → Prop} {r : vMem} {K23 : Int32 → Int32 → Int32 → Int32 → vMem → Option vMem} (hK23 : ∀ (l1 : Int32) (l2 : Int32) (l3 : Int32) (l4 : Int32) (σ : vMem), K23 l1 l2 l3 l4 σ = some r → V GC mX7_findChance ad Q 4 23 [some (.ref (ad 0)), some (.int l1), some (.int l2), some (.int l3), some (.int l4), none, none, none] [] σ) {l1 : Int32} {l2 : Int32} {l3 : Int32} {l4 : Int32} {s1 : Int64} {s2 : Int64} {σ : vMem} (h : fX7_findChance_142 K23 l1 l2 l3 l4 s1 s2 σ = some r) (hQ : Q none r) : V GC mX7_findChance ad Q 4 142 [some (.ref (ad 0)), some (.int l1), some (.int l2), some (.int l3), some (.int l4), none, none, none] [.long s2, .long s1, .ref (ad 0)] σ := by
  unfold fX7_findChance_142 at h
  refine V.ladd dX7_findChance_142 ?_
  refine V.putL dX7_findChance_143 fpX7_79 nC_0 gC_0 (by decide) rfl ?_
  exact V.forget (vX7_findChance_146 hK23 h hQ) ⟨rfl, ⟨rfl, ⟨rfl, ⟨rfl, ⟨rfl, trivial⟩⟩⟩⟩⟩
def fX7_findChance_78 (K23 : Int32 → Int32 → Int32 → Int32 → vMem → Option vMem) (K43 : Int32 → Int32 → Int32 → Int32 → Int64 → Int32 → vMem → Option vMem) (l1 : Int32) (l2 : Int32) (l3 : Int32) (l4 : Int32) (l7 : Int32) (s0 : Int64) (s1 : Int64) (σ : vMem) : Option vMem :=
  K43 l1 l2 l3 l4 (s0 * s1) (l7 + (1 : Int32)) σ
theorem vX7_findChance_78 {ad : Nat → Nat} {Q : Option Value → vMem → Prop} {r : vMem} {K23 : Int32 → Int32 → Int32 → Int32 → vMem → Option vMem} (hK23 : ∀ (l1 : Int32) (l2 : Int32) (l3 : Int32) (l4 : Int32) (σ : vMem), K23 l1 l2 l3 l4 σ = some r → V GC mX7_findChance ad Q 4 23 [some (.ref (ad 0)), some (.int l1), some (.int l2), some (.int l3), some (.int l4), none, none, none] [] σ) {K43 : Int32 → Int32 → Int32 → Int32 → Int64 → Int32 → vMem → Option vMem} (hK43 : ∀ (l1 : Int32) (l2 : Int32) (l3 : Int32) (l4 : Int32) (l5 : Int64) (l7 : Int32) (σ : vMem), K43 l1 l2 l3 l4 l5 l7 σ = some r → V GC mX7_findChance ad Q 4 43 [some (.ref (ad 0)), some (.int l1), some (.int l2), some (.int l3), some (.int l4), some (.long l5), none, some (.int l7)] [] σ) {l1 : Int32} {l2 : Int32} {l3 : Int32} {l4 : Int32} {l7 : Int32} {s0 : Int64} {s1 : Int64} {σ : vMem} (h : fX7_findChance_78 K23 K43 l1 l2 l3 l4 l7 s0 s1 σ = some r) (hQ : Q none r) : V GC mX7_findChance ad Q 4 78 [some (.ref (ad 0)), some (.int l1), some (.int l2), some (.int l3), some (.int l4), none, none, some (.int l7)] [.long s1, .long s0] σ := by
  unfold fX7_findChance_78 at h
  refine V.lmul dX7_findChance_78 ?_
  refine V.lstore dX7_findChance_79 (by decide) rfl ?_
  refine V.iinc dX7_findChance_81 rfl (ii_1 _) (by decide) rfl ?_
  refine V.goto (tgt := 43) dX7_findChance_84 (by decide) ?_
  exact V.forget (hK43 _ _ _ _ _ _ _ h) ⟨rfl, ⟨rfl, ⟨rfl, ⟨rfl, ⟨rfl, ⟨rfl, ⟨rfl, trivial⟩⟩⟩⟩⟩⟩⟩
def fX7_findChance_43 (K23 : Int32 → Int32 → Int32 → Int32 → vMem → Option vMem) (K43 : Int32 → Int32 → Int32 → Int32 → Int64 → Int32 → vMem → Option vMem) (l1 : Int32) (l2 : Int32) (l3 : Int32) (l4 : Int32) (l5 : Int64) (l7 : Int32) (σ : vMem) : Option vMem :=
  if (σ.1 25 1) ≤ l7 then (if (lg_cmp l5 (0 : Int64)) ≤ 0 then (fX7_findChance_146 K23 l1 l2 l3 l4 σ) else
  ((fX1_chosen_25 l4 σ).bind fun q1 => (fX1_all_27 q1.2).bind fun q2 => (fX6_go q1.1 q2.1 (40 : Int32) q2.2).bind fun q3 => (fX6_bringsUp l2 l3 q3).bind fun q4 => if q4.1 = 0 then (fX7_findChance_142 K23 l1 l2 l3 l4 (q3.2 0 12) (0 : Int64) q4.2) else
  (fX7_findChance_142 K23 l1 l2 l3 l4 (q3.2 0 12) l5 q4.2))) else
  (if ((l4 >>> (l7 &&& 31)) &&& (1 : Int32)) = (1 : Int32) then (fX7_findChance_78 K23 K43 l1 l2 l3 l4 l7 l5 (l1.toInt64) σ) else
  (fX7_findChance_78 K23 K43 l1 l2 l3 l4 l7 l5 (((16 : Int32) - l1).toInt64) σ))
theorem vX7_findChance_43 {ad : Nat → Nat} {Q : Option Value → vMem → Prop} {r : vMem} {K23 : Int32 → Int32 → Int32 → Int32 → vMem → Option vMem} (hK23 : ∀ (l1 : Int32) (l2 : Int32) (l3 : Int32) (l4 : Int32) (σ : vMem), K23 l1 l2 l3 l4 σ = some r → V GC mX7_findChance ad Q 4 23 [some (.ref (ad 0)), some (.int l1), some (.int l2), some (.int l3), some (.int l4), none, none, none] [] σ) {K43 : Int32 → Int32 → Int32 → Int32 → Int64 → Int32 → vMem → Option vMem} (hK43 : ∀ (l1 : Int32) (l2 : Int32) (l3 : Int32) (l4 : Int32) (l5 : Int64) (l7 : Int32) (σ : vMem), K43 l1 l2 l3 l4 l5 l7 σ = some r → V GC mX7_findChance ad Q 4 43 [some (.ref (ad 0)), some (.int l1), some (.int l2), some (.int l3), some (.int l4), some (.long l5), none, some (.int l7)] [] σ) {l1 : Int32} {l2 : Int32} {l3 : Int32} {l4 : Int32} {l5 : Int64} {l7 : Int32} {σ : vMem} (h : fX7_findChance_43 K23 K43 l1 l2 l3 l4 l5 l7 σ = some r) (hQ : Q none r) : V GC mX7_findChance ad Q 4 43 [some (.ref (ad 0)), some (.int l1), some (.int l2), some (.int l3), some (.int l4), some (.long l5), none, some (.int l7)] [] σ := by
  unfold fX7_findChance_43 at h
  refine V.iload dX7_findChance_43 rfl ?_
  refine V.aload_n dX7_findChance_45 rfl ?_
  refine V.get dX7_findChance_46 flX7_40 nC_0 gC_0 (by decide) (eC_0_4 _ _) ?_
  refine V.get dX7_findChance_49 flX7_151 nC_25 gC_25 (by decide) (eC_25_1 _ _) ?_
  rcases itc h with ⟨hc, h⟩ | ⟨hc, h⟩
  · refine V.icmp_ge (tgt := 87) dX7_findChance_52 (by decide) (fun _ => ?_) (fun hn => absurd hc hn)
    refine V.lload dX7_findChance_87 rfl ?_
    refine V.lconst lc_0 dX7_findChance_89 ?_
    refine V.lcmp dX7_findChance_90 ?_
    rcases itc h with ⟨hc, h⟩ | ⟨hc, h⟩
    · refine V.if_le (tgt := 146) dX7_findChance_91 (by decide) (fun _ => ?_) (fun hn => absurd hc hn)
      exact V.forget (vX7_findChance_146 hK23 h hQ) ⟨rfl, ⟨rfl, ⟨rfl, ⟨rfl, ⟨rfl, trivial⟩⟩⟩⟩⟩
    · refine V.if_le (tgt := 146) dX7_findChance_91 (by decide) (fun hn => absurd hn hc) (fun _ => ?_)
      refine V.aload_n dX7_findChance_94 rfl ?_
      refine V.get dX7_findChance_95 flX7_33 nC_0 gC_0 (by decide) (eC_0_3 _ _) ?_
      refine V.aload_n dX7_findChance_98 rfl ?_
      refine V.get dX7_findChance_99 flX7_40 nC_0 gC_0 (by decide) (eC_0_4 _ _) ?_
      refine V.iload dX7_findChance_102 rfl ?_
      obtain ⟨q1, h1, h⟩ := bdc h
      refine V.callV1 (mc := mX1_chosen) (d' := 0) dX7_findChance_104 lkX7_382 hfX1_chosen nC_25 gC_25 rfl (by decide) (Nat.le_of_ble_eq_true rfl) (Nat.le_of_ble_eq_true rfl) (vX1_chosen_25 h1 ?_)
      refine V.aload_n dX7_findChance_107 rfl ?_
      refine V.get dX7_findChance_108 flX7_44 nC_0 gC_0 (by decide) (eC_0_5 _ _) ?_
      obtain ⟨q2, h1, h⟩ := bdc h
      refine V.callV0 (mc := mX1_all) (d' := 1) dX7_findChance_111 lkX7_169 hfX1_all nC_27 gC_27 rfl (by decide) (Nat.le_of_ble_eq_true rfl) (Nat.le_of_ble_eq_true rfl) (vX1_all_27 h1 ?_)
      refine V.bipush bp_40 dX7_findChance_114 ?_
      obtain ⟨q3, h1, h⟩ := bdc h
      refine V.callV3 (mc := mX6_go) (d' := 3) dX7_findChance_116 lkX7_173 hfX6_go nC_13 gC_13 rfl (by decide) (Nat.le_of_ble_eq_true rfl) (Nat.le_of_ble_eq_true rfl) (vX6_go h1 ?_)
      refine V.aload_n dX7_findChance_119 rfl ?_
      refine V.dup rfl dX7_findChance_120 ?_
      refine V.get dX7_findChance_121 flX7_79 nC_0 gC_0 (by decide) (eC_0_12 _ _) ?_
      refine V.aload_n dX7_findChance_124 rfl ?_
      refine V.get dX7_findChance_125 flX7_33 nC_0 gC_0 (by decide) (eC_0_3 _ _) ?_
      refine V.iload_n dX7_findChance_128 rfl ?_
      refine V.iload_n dX7_findChance_129 rfl ?_
      obtain ⟨q4, h1, h⟩ := bdc h
      refine V.callV2 (mc := mX6_bringsUp) (d' := 0) dX7_findChance_130 lkX7_236 hfX6_bringsUp nC_13 gC_13 rfl (by decide) (Nat.le_of_ble_eq_true rfl) (Nat.le_of_ble_eq_true rfl) (vX6_bringsUp h1 ?_)
      rcases itc h with ⟨hc, h⟩ | ⟨hc, h⟩
      · refine V.if_eq (tgt := 141) dX7_findChance_133 (by decide) (fun _ => ?_) (fun hn => absurd hc hn)
        refine V.lconst lc_0 dX7_findChance_141 ?_
        exact V.forget (vX7_findChance_142 hK23 h hQ) ⟨rfl, ⟨rfl, ⟨rfl, ⟨rfl, ⟨rfl, trivial⟩⟩⟩⟩⟩
      · refine V.if_eq (tgt := 141) dX7_findChance_133 (by decide) (fun hn => absurd hn hc) (fun _ => ?_)
        refine V.lload dX7_findChance_136 rfl ?_
        refine V.goto (tgt := 142) dX7_findChance_138 (by decide) ?_
        exact V.forget (vX7_findChance_142 hK23 h hQ) ⟨rfl, ⟨rfl, ⟨rfl, ⟨rfl, ⟨rfl, trivial⟩⟩⟩⟩⟩
  · refine V.icmp_ge (tgt := 87) dX7_findChance_52 (by decide) (fun hn => absurd hn hc) (fun _ => ?_)
    refine V.lload dX7_findChance_55 rfl ?_
    refine V.iload dX7_findChance_57 rfl ?_
    refine V.iload dX7_findChance_59 rfl ?_
    refine V.ishr dX7_findChance_61 ?_
    refine V.iconst ic_1 dX7_findChance_62 ?_
    refine V.iand dX7_findChance_63 ?_
    refine V.iconst ic_1 dX7_findChance_64 ?_
    rcases itc h with ⟨hc, h⟩ | ⟨hc, h⟩
    · refine V.icmp_ne (tgt := 73) dX7_findChance_65 (by decide) (fun hn => absurd hc hn) (fun _ => ?_)
      refine V.iload_n dX7_findChance_68 rfl ?_
      refine V.i2l dX7_findChance_69 ?_
      refine V.goto (tgt := 78) dX7_findChance_70 (by decide) ?_
      exact V.forget (vX7_findChance_78 hK23 hK43 h hQ) ⟨rfl, ⟨rfl, ⟨rfl, ⟨rfl, ⟨rfl, ⟨rfl, trivial⟩⟩⟩⟩⟩⟩
    · refine V.icmp_ne (tgt := 73) dX7_findChance_65 (by decide) (fun _ => ?_) (fun hn => absurd hn hc)
      refine V.bipush bp_16 dX7_findChance_73 ?_
      refine V.iload_n dX7_findChance_75 rfl ?_
      refine V.isub dX7_findChance_76 ?_
      refine V.i2l dX7_findChance_77 ?_
      exact V.forget (vX7_findChance_78 hK23 hK43 h hQ) ⟨rfl, ⟨rfl, ⟨rfl, ⟨rfl, ⟨rfl, ⟨rfl, trivial⟩⟩⟩⟩⟩⟩
def LfX7_findChance_43 (K23 : Int32 → Int32 → Int32 → Int32 → vMem → Option vMem) : Nat → Int32 → Int32 → Int32 → Int32 → Int64 → Int32 → vMem → Option vMem
  | 0, _, _, _, _, _, _, _ => none
  | n + 1, l1, l2, l3, l4, l5, l7, σ => fX7_findChance_43 K23 (LfX7_findChance_43 K23 n) l1 l2 l3 l4 l5 l7 σ
theorem LvX7_findChance_43 {ad : Nat → Nat} {Q : Option Value → vMem → Prop} {r : vMem} {K23 : Int32 → Int32 → Int32 → Int32 → vMem → Option vMem} (hK23 : ∀ (l1 : Int32) (l2 : Int32) (l3 : Int32) (l4 : Int32) (σ : vMem), K23 l1 l2 l3 l4 σ = some r → V GC mX7_findChance ad Q 4 23 [some (.ref (ad 0)), some (.int l1), some (.int l2), some (.int l3), some (.int l4), none, none, none] [] σ) (hQ : Q none r) : ∀ (n : Nat) (l1 : Int32) (l2 : Int32) (l3 : Int32) (l4 : Int32) (l5 : Int64) (l7 : Int32) (σ : vMem), LfX7_findChance_43 K23 n l1 l2 l3 l4 l5 l7 σ = some r → V GC mX7_findChance ad Q 4 43 [some (.ref (ad 0)), some (.int l1), some (.int l2), some (.int l3), some (.int l4), some (.long l5), none, some (.int l7)] [] σ := by
  intro n
  induction n with
  | zero => intro l1 l2 l3 l4 l5 l7 σ h; cases h
  | succ n ih => intro l1 l2 l3 l4 l5 l7 σ h; exact vX7_findChance_43 hK23 ih h hQ
def fX7_findChance_23 (K23 : Int32 → Int32 → Int32 → Int32 → vMem → Option vMem) (l1 : Int32) (l2 : Int32) (l3 : Int32) (l4 : Int32) (σ : vMem) : Option vMem :=
  if ((1 : Int32) <<< ((σ.1 25 1) &&& 31)) ≤ l4 then (LfX7_findChance_155 200 (0 : Int32) σ) else
  (LfX7_findChance_43 K23 200 l1 l2 l3 l4 (1 : Int64) (0 : Int32) σ)
theorem vX7_findChance_23 {ad : Nat → Nat} {Q : Option Value → vMem → Prop} {r : vMem} {K23 : Int32 → Int32 → Int32 → Int32 → vMem → Option vMem} (hK23 : ∀ (l1 : Int32) (l2 : Int32) (l3 : Int32) (l4 : Int32) (σ : vMem), K23 l1 l2 l3 l4 σ = some r → V GC mX7_findChance ad Q 4 23 [some (.ref (ad 0)), some (.int l1), some (.int l2), some (.int l3), some (.int l4), none, none, none] [] σ) {l1 : Int32} {l2 : Int32} {l3 : Int32} {l4 : Int32} {σ : vMem} (h : fX7_findChance_23 K23 l1 l2 l3 l4 σ = some r) (hQ : Q none r) : V GC mX7_findChance ad Q 4 23 [some (.ref (ad 0)), some (.int l1), some (.int l2), some (.int l3), some (.int l4), none, none, none] [] σ := by
  unfold fX7_findChance_23 at h
  refine V.iload dX7_findChance_23 rfl ?_
  refine V.iconst ic_1 dX7_findChance_25 ?_
  refine V.aload_n dX7_findChance_26 rfl ?_
  refine V.get dX7_findChance_27 flX7_40 nC_0 gC_0 (by decide) (eC_0_4 _ _) ?_
  refine V.get dX7_findChance_30 flX7_151 nC_25 gC_25 (by decide) (eC_25_1 _ _) ?_
  refine V.ishl dX7_findChance_33 ?_
  rcases itc h with ⟨hc, h⟩ | ⟨hc, h⟩
  · refine V.icmp_ge (tgt := 152) dX7_findChance_34 (by decide) (fun _ => ?_) (fun hn => absurd hc hn)
    refine V.iconst ic_0 dX7_findChance_152 ?_
    refine V.istore dX7_findChance_153 (by decide) rfl ?_
    exact V.forget (LvX7_findChance_155 hQ 200 _ _ h) ⟨rfl, ⟨rfl, trivial⟩⟩
  · refine V.icmp_ge (tgt := 152) dX7_findChance_34 (by decide) (fun hn => absurd hn hc) (fun _ => ?_)
    refine V.lconst lc_1 dX7_findChance_37 ?_
    refine V.lstore dX7_findChance_38 (by decide) rfl ?_
    refine V.iconst ic_0 dX7_findChance_40 ?_
    refine V.istore dX7_findChance_41 (by decide) rfl ?_
    exact V.forget (LvX7_findChance_43 hK23 hQ 200 _ _ _ _ _ _ _ h) ⟨rfl, ⟨rfl, ⟨rfl, ⟨rfl, ⟨rfl, ⟨rfl, ⟨rfl, trivial⟩⟩⟩⟩⟩⟩⟩
def LfX7_findChance_23 : Nat → Int32 → Int32 → Int32 → Int32 → vMem → Option vMem
  | 0, _, _, _, _, _ => none
  | n + 1, l1, l2, l3, l4, σ => fX7_findChance_23 (LfX7_findChance_23 n) l1 l2 l3 l4 σ
theorem LvX7_findChance_23 {ad : Nat → Nat} {Q : Option Value → vMem → Prop} {r : vMem} (hQ : Q none r) : ∀ (n : Nat) (l1 : Int32) (l2 : Int32) (l3 : Int32) (l4 : Int32) (σ : vMem), LfX7_findChance_23 n l1 l2 l3 l4 σ = some r → V GC mX7_findChance ad Q 4 23 [some (.ref (ad 0)), some (.int l1), some (.int l2), some (.int l3), some (.int l4), none, none, none] [] σ := by
  intro n
  induction n with
  | zero => intro l1 l2 l3 l4 σ h; cases h
  | succ n ih => intro l1 l2 l3 l4 σ h; exact vX7_findChance_23 ih h hQ
def fX7_findChance_20 (l1 : Int32) (l2 : Int32) (l3 : Int32) (σ : vMem) : Option vMem :=
  LfX7_findChance_23 200 l1 l2 l3 (0 : Int32) σ
theorem vX7_findChance_20 {ad : Nat → Nat} {Q : Option Value → vMem → Prop} {r : vMem} {l1 : Int32} {l2 : Int32} {l3 : Int32} {σ : vMem} (h : fX7_findChance_20 l1 l2 l3 σ = some r) (hQ : Q none r) : V GC mX7_findChance ad Q 4 20 [some (.ref (ad 0)), some (.int l1), some (.int l2), some (.int l3), none, none, none, none] [] σ := by
  unfold fX7_findChance_20 at h
  refine V.iconst ic_0 dX7_findChance_20 ?_
  refine V.istore dX7_findChance_21 (by decide) rfl ?_
  exact V.forget (LvX7_findChance_23 hQ 200 _ _ _ _ _ h) ⟨rfl, ⟨rfl, ⟨rfl, ⟨rfl, ⟨rfl, trivial⟩⟩⟩⟩⟩
def fX7_findChance_5 (l1 : Int32) (l2 : Int32) (l3 : Int32) (σ : vMem) : Option vMem :=
  fX7_findChance_20 l1 l2 l3 (vupL σ 0 13 ((1 : Int64) <<< (((4 : Int32) * (σ.1 25 1)).toInt64 &&& 63)))
theorem vX7_findChance_5 {ad : Nat → Nat} {Q : Option Value → vMem → Prop} {r : vMem} {l1 : Int32} {l2 : Int32} {l3 : Int32} {σ : vMem} (h : fX7_findChance_5 l1 l2 l3 σ = some r) (hQ : Q none r) : V GC mX7_findChance ad Q 4 5 [some (.ref (ad 0)), some (.int l1), some (.int l2), some (.int l3), none, none, none, none] [] σ := by
  unfold fX7_findChance_5 at h
  refine V.aload_n dX7_findChance_5 rfl ?_
  refine V.lconst lc_1 dX7_findChance_6 ?_
  refine V.iconst ic_4 dX7_findChance_7 ?_
  refine V.aload_n dX7_findChance_8 rfl ?_
  refine V.get dX7_findChance_9 flX7_40 nC_0 gC_0 (by decide) (eC_0_4 _ _) ?_
  refine V.get dX7_findChance_12 flX7_151 nC_25 gC_25 (by decide) (eC_25_1 _ _) ?_
  refine V.imul dX7_findChance_15 ?_
  refine V.lshl dX7_findChance_16 ?_
  refine V.putL dX7_findChance_17 fpX7_83 nC_0 gC_0 (by decide) rfl ?_
  exact V.forget (vX7_findChance_20 h hQ) ⟨rfl, ⟨rfl, ⟨rfl, ⟨rfl, trivial⟩⟩⟩⟩
def fX7_findChance (l1 : Int32) (l2 : Int32) (l3 : Int32) (σ : vMem) : Option vMem :=
  fX7_findChance_5 l1 l2 l3 (vupL σ 0 12 (0 : Int64))
theorem vX7_findChance {ad : Nat → Nat} {Q : Option Value → vMem → Prop} {r : vMem} {l1 : Int32} {l2 : Int32} {l3 : Int32} {σ : vMem} (h : fX7_findChance l1 l2 l3 σ = some r) (hQ : Q none r) : V GC mX7_findChance ad Q 4 0 [some (.ref (ad 0)), some (.int l1), some (.int l2), some (.int l3), none, none, none, none] [] σ := by
  unfold fX7_findChance at h
  refine V.aload_n dX7_findChance_0 rfl ?_
  refine V.lconst lc_0 dX7_findChance_1 ?_
  refine V.putL dX7_findChance_2 fpX7_79 nC_0 gC_0 (by decide) rfl ?_
  exact V.forget (vX7_findChance_5 h hQ) ⟨rfl, ⟨rfl, ⟨rfl, ⟨rfl, trivial⟩⟩⟩⟩
def fX7_gust_36 (σ : vMem) : Option (Int64 × vMem) :=
  some ((-9223372036854775806 : Int64), σ)
theorem vX7_gust_36 {ad : Nat → Nat} {Q : Option Value → vMem → Prop} {r : (Int64 × vMem)} {σ : vMem} (h : fX7_gust_36 σ = some r) (hQ : Q (some (.long r.1)) r.2) : V GC mX7_gust ad Q 5 36 [none, none, none, none, none] [] σ := by
  unfold fX7_gust_36 at h
  refine V.ldc2 dX7_gust_36 ctX7_274 ?_
  obtain rfl := Option.some.inj h
  exact V.lret dX7_gust_39 rfl hQ
def fX7_gust_63 (s0 : Int64) (σ : vMem) : Option (Int64 × vMem) :=
  some (s0, σ)
theorem vX7_gust_63 {ad : Nat → Nat} {Q : Option Value → vMem → Prop} {r : (Int64 × vMem)} {s0 : Int64} {σ : vMem} (h : fX7_gust_63 s0 σ = some r) (hQ : Q (some (.long r.1)) r.2) : V GC mX7_gust ad Q 5 63 [none, none, none, none, none] [.long s0] σ := by
  unfold fX7_gust_63 at h
  obtain rfl := Option.some.inj h
  exact V.lret dX7_gust_63 rfl hQ
def fX7_gust_40 (l1 : Int32) (l2 : Int32) (l3 : Int32) (l4 : Int32) (σ : vMem) : Option (Int64 × vMem) :=
  (fX7_findChance l1 l2 l3 σ).bind fun q1 => if l4 = 0 then (fX7_gust_63 (q1.2 0 12) q1) else
  (fX7_gust_63 (q1.2 0 13) q1)
theorem vX7_gust_40 {ad : Nat → Nat} {Q : Option Value → vMem → Prop} {r : (Int64 × vMem)} {l1 : Int32} {l2 : Int32} {l3 : Int32} {l4 : Int32} {σ : vMem} (h : fX7_gust_40 l1 l2 l3 l4 σ = some r) (hQ : Q (some (.long r.1)) r.2) : V GC mX7_gust ad Q 5 40 [some (.ref (ad 0)), some (.int l1), some (.int l2), some (.int l3), some (.int l4)] [] σ := by
  unfold fX7_gust_40 at h
  refine V.aload_n dX7_gust_40 rfl ?_
  refine V.iload_n dX7_gust_41 rfl ?_
  refine V.iload_n dX7_gust_42 rfl ?_
  refine V.iload_n dX7_gust_43 rfl ?_
  obtain ⟨q1, h1, h⟩ := bdc h
  refine V.callV3 (mc := mX7_findChance) (d' := 4) dX7_gust_44 lkX7_276 hfX7_findChance nC_0 gC_0 rfl (by decide) (Nat.le_of_ble_eq_true rfl) (Nat.le_of_ble_eq_true rfl) (vX7_findChance h1 ?_)
  refine V.iload dX7_gust_47 rfl ?_
  rcases itc h with ⟨hc, h⟩ | ⟨hc, h⟩
  · refine V.if_ne (tgt := 59) dX7_gust_49 (by decide) (fun hn => absurd hc hn) (fun _ => ?_)
    refine V.aload_n dX7_gust_52 rfl ?_
    refine V.get dX7_gust_53 flX7_79 nC_0 gC_0 (by decide) (eC_0_12 _ _) ?_
    refine V.goto (tgt := 63) dX7_gust_56 (by decide) ?_
    exact V.forget (vX7_gust_63 h hQ) trivial
  · refine V.if_ne (tgt := 59) dX7_gust_49 (by decide) (fun _ => ?_) (fun hn => absurd hn hc)
    refine V.aload_n dX7_gust_59 rfl ?_
    refine V.get dX7_gust_60 flX7_83 nC_0 gC_0 (by decide) (eC_0_13 _ _) ?_
    exact V.forget (vX7_gust_63 h hQ) trivial
def fX7_gust (l1 : Int32) (l2 : Int32) (l3 : Int32) (l4 : Int32) (σ : vMem) : Option (Int64 × vMem) :=
  if l1 < 0 then (fX7_gust_36 σ) else
  (if (16 : Int32) < l1 then (fX7_gust_36 σ) else
  ((fX7_isBasket l2 σ).bind fun q1 => if q1.1 = 0 then (fX7_gust_36 q1.2) else
  ((fX7_isLoad l3 q1.2).bind fun q2 => if q2.1 = 0 then (fX7_gust_36 q2.2) else
  (if l4 = 0 then (fX7_gust_40 l1 l2 l3 l4 q2.2) else
  (if l4 = (1 : Int32) then (fX7_gust_40 l1 l2 l3 l4 q2.2) else
  (fX7_gust_36 q2.2))))))
theorem vX7_gust {ad : Nat → Nat} {Q : Option Value → vMem → Prop} {r : (Int64 × vMem)} {l1 : Int32} {l2 : Int32} {l3 : Int32} {l4 : Int32} {σ : vMem} (h : fX7_gust l1 l2 l3 l4 σ = some r) (hQ : Q (some (.long r.1)) r.2) : V GC mX7_gust ad Q 5 0 [some (.ref (ad 0)), some (.int l1), some (.int l2), some (.int l3), some (.int l4)] [] σ := by
  unfold fX7_gust at h
  refine V.iload_n dX7_gust_0 rfl ?_
  rcases itc h with ⟨hc, h⟩ | ⟨hc, h⟩
  · refine V.if_lt (tgt := 36) dX7_gust_1 (by decide) (fun _ => ?_) (fun hn => absurd hc hn)
    exact V.forget (vX7_gust_36 h hQ) trivial
  · refine V.if_lt (tgt := 36) dX7_gust_1 (by decide) (fun hn => absurd hn hc) (fun _ => ?_)
    refine V.iload_n dX7_gust_4 rfl ?_
    refine V.bipush bp_16 dX7_gust_5 ?_
    rcases itc h with ⟨hc, h⟩ | ⟨hc, h⟩
    · refine V.icmp_gt (tgt := 36) dX7_gust_7 (by decide) (fun _ => ?_) (fun hn => absurd hc hn)
      exact V.forget (vX7_gust_36 h hQ) trivial
    · refine V.icmp_gt (tgt := 36) dX7_gust_7 (by decide) (fun hn => absurd hn hc) (fun _ => ?_)
      refine V.aload_n dX7_gust_10 rfl ?_
      refine V.iload_n dX7_gust_11 rfl ?_
      obtain ⟨q1, h1, h⟩ := bdc h
      refine V.callV1 (mc := mX7_isBasket) (d' := 0) dX7_gust_12 lkX7_125 hfX7_isBasket nC_0 gC_0 rfl (by decide) (Nat.le_of_ble_eq_true rfl) (Nat.le_of_ble_eq_true rfl) (vX7_isBasket h1 ?_)
      rcases itc h with ⟨hc, h⟩ | ⟨hc, h⟩
      · refine V.if_eq (tgt := 36) dX7_gust_15 (by decide) (fun _ => ?_) (fun hn => absurd hc hn)
        exact V.forget (vX7_gust_36 h hQ) trivial
      · refine V.if_eq (tgt := 36) dX7_gust_15 (by decide) (fun hn => absurd hn hc) (fun _ => ?_)
        refine V.iload_n dX7_gust_18 rfl ?_
        obtain ⟨q2, h1, h⟩ := bdc h
        refine V.callS1 (mc := mX7_isLoad) (d' := 0) dX7_gust_19 lkX7_233 hfX7_isLoad (by decide) (Nat.le_of_ble_eq_true rfl) (Nat.le_of_ble_eq_true rfl) (vX7_isLoad h1 ?_)
        rcases itc h with ⟨hc, h⟩ | ⟨hc, h⟩
        · refine V.if_eq (tgt := 36) dX7_gust_22 (by decide) (fun _ => ?_) (fun hn => absurd hc hn)
          exact V.forget (vX7_gust_36 h hQ) trivial
        · refine V.if_eq (tgt := 36) dX7_gust_22 (by decide) (fun hn => absurd hn hc) (fun _ => ?_)
          refine V.iload dX7_gust_25 rfl ?_
          rcases itc h with ⟨hc, h⟩ | ⟨hc, h⟩
          · refine V.if_eq (tgt := 40) dX7_gust_27 (by decide) (fun _ => ?_) (fun hn => absurd hc hn)
            exact V.forget (vX7_gust_40 h hQ) ⟨rfl, ⟨rfl, ⟨rfl, ⟨rfl, ⟨rfl, trivial⟩⟩⟩⟩⟩
          · refine V.if_eq (tgt := 40) dX7_gust_27 (by decide) (fun hn => absurd hn hc) (fun _ => ?_)
            refine V.iload dX7_gust_30 rfl ?_
            refine V.iconst ic_1 dX7_gust_32 ?_
            rcases itc h with ⟨hc, h⟩ | ⟨hc, h⟩
            · refine V.icmp_eq (tgt := 40) dX7_gust_33 (by decide) (fun _ => ?_) (fun hn => absurd hc hn)
              exact V.forget (vX7_gust_40 h hQ) ⟨rfl, ⟨rfl, ⟨rfl, ⟨rfl, ⟨rfl, trivial⟩⟩⟩⟩⟩
            · refine V.icmp_eq (tgt := 40) dX7_gust_33 (by decide) (fun hn => absurd hn hc) (fun _ => ?_)
              exact V.forget (vX7_gust_36 h hQ) trivial
def fX7_lots_8 (K8 : Int32 → Int64 → Int32 → Int32 → vMem → Option (Int64 × vMem)) (l1 : Int32) (l2 : Int64) (l4 : Int32) (l5 : Int32) (σ : vMem) : Option (Int64 × vMem) :=
  if l1 ≤ l5 then (some (l2, σ)) else
  (K8 l1 (l2 ||| ((1 : Int64) <<< (((((((1103515245 : Int32) * l4) + (12345 : Int32)).toUInt32 >>> ((16 : Int32).toUInt32 &&& Int32.toUInt32 31)).toInt32) - (((((1103515245 : Int32) * l4) + (12345 : Int32)).toUInt32 >>> ((16 : Int32).toUInt32 &&& Int32.toUInt32 31)).toInt32) / (40 : Int32) * (40 : Int32)).toInt64 &&& 63))) (((1103515245 : Int32) * l4) + (12345 : Int32)) (l5 + (1 : Int32)) σ)
theorem vX7_lots_8 {ad : Nat → Nat} {Q : Option Value → vMem → Prop} {r : (Int64 × vMem)} {K8 : Int32 → Int64 → Int32 → Int32 → vMem → Option (Int64 × vMem)} (hK8 : ∀ (l1 : Int32) (l2 : Int64) (l4 : Int32) (l5 : Int32) (σ : vMem), K8 l1 l2 l4 l5 σ = some r → V GC mX7_lots ad Q 0 8 [none, some (.int l1), some (.long l2), none, some (.int l4), some (.int l5)] [] σ) {l1 : Int32} {l2 : Int64} {l4 : Int32} {l5 : Int32} {σ : vMem} (h : fX7_lots_8 K8 l1 l2 l4 l5 σ = some r) (hQ : Q (some (.long r.1)) r.2) : V GC mX7_lots ad Q 0 8 [none, some (.int l1), some (.long l2), none, some (.int l4), some (.int l5)] [] σ := by
  unfold fX7_lots_8 at h
  refine V.iload dX7_lots_8 rfl ?_
  refine V.iload_n dX7_lots_10 rfl ?_
  rcases itc h with ⟨hc, h⟩ | ⟨hc, h⟩
  · refine V.icmp_ge (tgt := 45) dX7_lots_11 (by decide) (fun _ => ?_) (fun hn => absurd hc hn)
    refine V.lload_n dX7_lots_45 rfl ?_
    obtain rfl := Option.some.inj h
    exact V.lret dX7_lots_46 rfl hQ
  · refine V.icmp_ge (tgt := 45) dX7_lots_11 (by decide) (fun hn => absurd hn hc) (fun _ => ?_)
    refine V.ldcw dX7_lots_14 ctX7_387 ?_
    refine V.iload dX7_lots_17 rfl ?_
    refine V.imul dX7_lots_19 ?_
    refine V.sipush sp_12345 dX7_lots_20 ?_
    refine V.iadd dX7_lots_23 ?_
    refine V.istore dX7_lots_24 (by decide) rfl ?_
    refine V.lload_n dX7_lots_26 rfl ?_
    refine V.lconst lc_1 dX7_lots_27 ?_
    refine V.iload dX7_lots_28 rfl ?_
    refine V.bipush bp_16 dX7_lots_30 ?_
    refine V.iushr dX7_lots_32 ?_
    refine V.bipush bp_40 dX7_lots_33 ?_
    refine V.irem (by decide) dX7_lots_35 ?_
    refine V.lshl dX7_lots_36 ?_
    refine V.lor dX7_lots_37 ?_
    refine V.lstore_n dX7_lots_38 (by decide) rfl ?_
    refine V.iinc dX7_lots_39 rfl (ii_1 _) (by decide) rfl ?_
    refine V.goto (tgt := 8) dX7_lots_42 (by decide) ?_
    exact V.forget (hK8 _ _ _ _ _ h) ⟨rfl, ⟨rfl, ⟨rfl, ⟨rfl, trivial⟩⟩⟩⟩
def LfX7_lots_8 : Nat → Int32 → Int64 → Int32 → Int32 → vMem → Option (Int64 × vMem)
  | 0, _, _, _, _, _ => none
  | n + 1, l1, l2, l4, l5, σ => fX7_lots_8 (LfX7_lots_8 n) l1 l2 l4 l5 σ
theorem LvX7_lots_8 {ad : Nat → Nat} {Q : Option Value → vMem → Prop} {r : (Int64 × vMem)} (hQ : Q (some (.long r.1)) r.2) : ∀ (n : Nat) (l1 : Int32) (l2 : Int64) (l4 : Int32) (l5 : Int32) (σ : vMem), LfX7_lots_8 n l1 l2 l4 l5 σ = some r → V GC mX7_lots ad Q 0 8 [none, some (.int l1), some (.long l2), none, some (.int l4), some (.int l5)] [] σ := by
  intro n
  induction n with
  | zero => intro l1 l2 l4 l5 σ h; cases h
  | succ n ih => intro l1 l2 l4 l5 σ h; exact vX7_lots_8 ih h hQ
def fX7_lots (l0 : Int32) (l1 : Int32) (σ : vMem) : Option (Int64 × vMem) :=
  LfX7_lots_8 200 l1 (0 : Int64) l0 (0 : Int32) σ
theorem vX7_lots {ad : Nat → Nat} {Q : Option Value → vMem → Prop} {r : (Int64 × vMem)} {l0 : Int32} {l1 : Int32} {σ : vMem} (h : fX7_lots l0 l1 σ = some r) (hQ : Q (some (.long r.1)) r.2) : V GC mX7_lots ad Q 0 0 [some (.int l0), some (.int l1), none, none, none, none] [] σ := by
  unfold fX7_lots at h
  refine V.lconst lc_0 dX7_lots_0 ?_
  refine V.lstore_n dX7_lots_1 (by decide) rfl ?_
  refine V.iload_n dX7_lots_2 rfl ?_
  refine V.istore dX7_lots_3 (by decide) rfl ?_
  refine V.iconst ic_0 dX7_lots_5 ?_
  refine V.istore dX7_lots_6 (by decide) rfl ?_
  exact V.forget (LvX7_lots_8 hQ 200 _ _ _ _ _ h) ⟨rfl, ⟨rfl, ⟨rfl, ⟨rfl, trivial⟩⟩⟩⟩
def fX7_week_19 (σ : vMem) : Option (Int32 × vMem) :=
  some ((-2 : Int32), σ)
theorem vX7_week_19 {ad : Nat → Nat} {Q : Option Value → vMem → Prop} {r : (Int32 × vMem)} {σ : vMem} (h : fX7_week_19 σ = some r) (hQ : Q (some (.int r.1)) r.2) : V GC mX7_week ad Q 4 19 [none, none, none, none] [] σ := by
  unfold fX7_week_19 at h
  refine V.bipush bp_m2 dX7_week_19 ?_
  obtain rfl := Option.some.inj h
  exact V.iret dX7_week_21 rfl hQ
def fX7_week_64 (s0 : Int32) (σ : vMem) : Option (Int32 × vMem) :=
  some (s0, σ)
theorem vX7_week_64 {ad : Nat → Nat} {Q : Option Value → vMem → Prop} {r : (Int32 × vMem)} {s0 : Int32} {σ : vMem} (h : fX7_week_64 s0 σ = some r) (hQ : Q (some (.int r.1)) r.2) : V GC mX7_week ad Q 4 64 [none, none, none, none] [.int s0] σ := by
  unfold fX7_week_64 at h
  obtain rfl := Option.some.inj h
  exact V.iret dX7_week_64 rfl hQ
def fX7_week_22 (l1 : Int32) (l2 : Int32) (l3 : Int32) (σ : vMem) : Option (Int32 × vMem) :=
  (fX1_all_25 σ).bind fun q1 => (fX7_lots l1 l2 q1.2).bind fun q2 => (fX6_go q1.1 q2.1 (40 : Int32) q2.2).bind fun q3 => if l3 = 0 then ((fX6_loadUp q3).bind fun q4 => fX7_week_64 q4.1 q4.2) else
  (fX7_week_64 (q3.1 13 15) q3)
theorem vX7_week_22 {ad : Nat → Nat} {Q : Option Value → vMem → Prop} {r : (Int32 × vMem)} {l1 : Int32} {l2 : Int32} {l3 : Int32} {σ : vMem} (h : fX7_week_22 l1 l2 l3 σ = some r) (hQ : Q (some (.int r.1)) r.2) : V GC mX7_week ad Q 4 22 [some (.ref (ad 0)), some (.int l1), some (.int l2), some (.int l3)] [] σ := by
  unfold fX7_week_22 at h
  refine V.aload_n dX7_week_22 rfl ?_
  refine V.get dX7_week_23 flX7_33 nC_0 gC_0 (by decide) (eC_0_3 _ _) ?_
  refine V.aload_n dX7_week_26 rfl ?_
  refine V.get dX7_week_27 flX7_40 nC_0 gC_0 (by decide) (eC_0_4 _ _) ?_
  obtain ⟨q1, h1, h⟩ := bdc h
  refine V.callV0 (mc := mX1_all) (d' := 1) dX7_week_30 lkX7_169 hfX1_all nC_25 gC_25 rfl (by decide) (Nat.le_of_ble_eq_true rfl) (Nat.le_of_ble_eq_true rfl) (vX1_all_25 h1 ?_)
  refine V.iload_n dX7_week_33 rfl ?_
  refine V.iload_n dX7_week_34 rfl ?_
  obtain ⟨q2, h1, h⟩ := bdc h
  refine V.callS2 (mc := mX7_lots) (d' := 0) dX7_week_35 lkX7_280 hfX7_lots (by decide) (Nat.le_of_ble_eq_true rfl) (Nat.le_of_ble_eq_true rfl) (vX7_lots h1 ?_)
  refine V.bipush bp_40 dX7_week_38 ?_
  obtain ⟨q3, h1, h⟩ := bdc h
  refine V.callV3 (mc := mX6_go) (d' := 3) dX7_week_40 lkX7_173 hfX6_go nC_13 gC_13 rfl (by decide) (Nat.le_of_ble_eq_true rfl) (Nat.le_of_ble_eq_true rfl) (vX6_go h1 ?_)
  refine V.iload_n dX7_week_43 rfl ?_
  rcases itc h with ⟨hc, h⟩ | ⟨hc, h⟩
  · refine V.if_ne (tgt := 57) dX7_week_44 (by decide) (fun hn => absurd hc hn) (fun _ => ?_)
    refine V.aload_n dX7_week_47 rfl ?_
    refine V.get dX7_week_48 flX7_33 nC_0 gC_0 (by decide) (eC_0_3 _ _) ?_
    obtain ⟨q4, h1, h⟩ := bdc h
    refine V.callV0 (mc := mX6_loadUp) (d' := 0) dX7_week_51 lkX7_205 hfX6_loadUp nC_13 gC_13 rfl (by decide) (Nat.le_of_ble_eq_true rfl) (Nat.le_of_ble_eq_true rfl) (vX6_loadUp h1 ?_)
    refine V.goto (tgt := 64) dX7_week_54 (by decide) ?_
    exact V.forget (vX7_week_64 h hQ) trivial
  · refine V.if_ne (tgt := 57) dX7_week_44 (by decide) (fun _ => ?_) (fun hn => absurd hn hc)
    refine V.aload_n dX7_week_57 rfl ?_
    refine V.get dX7_week_58 flX7_33 nC_0 gC_0 (by decide) (eC_0_3 _ _) ?_
    refine V.get dX7_week_61 flX7_284 nC_13 gC_13 (by decide) (eC_13_15 _ _) ?_
    exact V.forget (vX7_week_64 h hQ) trivial
def fX7_week (l1 : Int32) (l2 : Int32) (l3 : Int32) (σ : vMem) : Option (Int32 × vMem) :=
  if l2 < 0 then (fX7_week_19 σ) else
  (if (6 : Int32) < l2 then (fX7_week_19 σ) else
  (if l3 = 0 then (fX7_week_22 l1 l2 l3 σ) else
  (if l3 = (1 : Int32) then (fX7_week_22 l1 l2 l3 σ) else
  (fX7_week_19 σ))))
theorem vX7_week {ad : Nat → Nat} {Q : Option Value → vMem → Prop} {r : (Int32 × vMem)} {l1 : Int32} {l2 : Int32} {l3 : Int32} {σ : vMem} (h : fX7_week l1 l2 l3 σ = some r) (hQ : Q (some (.int r.1)) r.2) : V GC mX7_week ad Q 4 0 [some (.ref (ad 0)), some (.int l1), some (.int l2), some (.int l3)] [] σ := by
  unfold fX7_week at h
  refine V.iload_n dX7_week_0 rfl ?_
  rcases itc h with ⟨hc, h⟩ | ⟨hc, h⟩
  · refine V.if_lt (tgt := 19) dX7_week_1 (by decide) (fun _ => ?_) (fun hn => absurd hc hn)
    exact V.forget (vX7_week_19 h hQ) trivial
  · refine V.if_lt (tgt := 19) dX7_week_1 (by decide) (fun hn => absurd hn hc) (fun _ => ?_)
    refine V.iload_n dX7_week_4 rfl ?_
    refine V.bipush bp_6 dX7_week_5 ?_
    rcases itc h with ⟨hc, h⟩ | ⟨hc, h⟩
    · refine V.icmp_gt (tgt := 19) dX7_week_7 (by decide) (fun _ => ?_) (fun hn => absurd hc hn)
      exact V.forget (vX7_week_19 h hQ) trivial
    · refine V.icmp_gt (tgt := 19) dX7_week_7 (by decide) (fun hn => absurd hn hc) (fun _ => ?_)
      refine V.iload_n dX7_week_10 rfl ?_
      rcases itc h with ⟨hc, h⟩ | ⟨hc, h⟩
      · refine V.if_eq (tgt := 22) dX7_week_11 (by decide) (fun _ => ?_) (fun hn => absurd hc hn)
        exact V.forget (vX7_week_22 h hQ) ⟨rfl, ⟨rfl, ⟨rfl, ⟨rfl, trivial⟩⟩⟩⟩
      · refine V.if_eq (tgt := 22) dX7_week_11 (by decide) (fun hn => absurd hn hc) (fun _ => ?_)
        refine V.iload_n dX7_week_14 rfl ?_
        refine V.iconst ic_1 dX7_week_15 ?_
        rcases itc h with ⟨hc, h⟩ | ⟨hc, h⟩
        · refine V.icmp_eq (tgt := 22) dX7_week_16 (by decide) (fun _ => ?_) (fun hn => absurd hc hn)
          exact V.forget (vX7_week_22 h hQ) ⟨rfl, ⟨rfl, ⟨rfl, ⟨rfl, trivial⟩⟩⟩⟩
        · refine V.icmp_eq (tgt := 22) dX7_week_16 (by decide) (fun hn => absurd hn hc) (fun _ => ?_)
          exact V.forget (vX7_week_19 h hQ) trivial
def fX7_isForm_14 (s0 : Int32) (σ : vMem) : Option (Int32 × vMem) :=
  if ¬ (s0 = 0 ∨ s0 = 1) then none else some (s0, σ)
theorem vX7_isForm_14 {ad : Nat → Nat} {Q : Option Value → vMem → Prop} {r : (Int32 × vMem)} {s0 : Int32} {σ : vMem} (h : fX7_isForm_14 s0 σ = some r) (hQ : Q (some (.int r.1)) r.2) : V GC mX7_isForm ad Q 0 14 [none] [.int s0] σ := by
  unfold fX7_isForm_14 at h
  obtain ⟨hb, h⟩ := ckn h
  obtain rfl := Option.some.inj h
  exact V.zret dX7_isForm_14 rfl (Decidable.not_not.mp hb) hQ
def fX7_isForm_13 (σ : vMem) : Option (Int32 × vMem) :=
  fX7_isForm_14 (0 : Int32) σ
theorem vX7_isForm_13 {ad : Nat → Nat} {Q : Option Value → vMem → Prop} {r : (Int32 × vMem)} {σ : vMem} (h : fX7_isForm_13 σ = some r) (hQ : Q (some (.int r.1)) r.2) : V GC mX7_isForm ad Q 0 13 [none] [] σ := by
  unfold fX7_isForm_13 at h
  refine V.iconst ic_0 dX7_isForm_13 ?_
  exact V.forget (vX7_isForm_14 h hQ) trivial
def fX7_isForm (l0 : Int32) (σ : vMem) : Option (Int32 × vMem) :=
  if l0 < 0 then (fX7_isForm_13 σ) else
  (if (3 : Int32) ≤ l0 then (fX7_isForm_13 σ) else
  (fX7_isForm_14 (1 : Int32) σ))
theorem vX7_isForm {ad : Nat → Nat} {Q : Option Value → vMem → Prop} {r : (Int32 × vMem)} {l0 : Int32} {σ : vMem} (h : fX7_isForm l0 σ = some r) (hQ : Q (some (.int r.1)) r.2) : V GC mX7_isForm ad Q 0 0 [some (.int l0)] [] σ := by
  unfold fX7_isForm at h
  refine V.iload_n dX7_isForm_0 rfl ?_
  rcases itc h with ⟨hc, h⟩ | ⟨hc, h⟩
  · refine V.if_lt (tgt := 13) dX7_isForm_1 (by decide) (fun _ => ?_) (fun hn => absurd hc hn)
    exact V.forget (vX7_isForm_13 h hQ) trivial
  · refine V.if_lt (tgt := 13) dX7_isForm_1 (by decide) (fun hn => absurd hn hc) (fun _ => ?_)
    refine V.iload_n dX7_isForm_4 rfl ?_
    refine V.iconst ic_3 dX7_isForm_5 ?_
    rcases itc h with ⟨hc, h⟩ | ⟨hc, h⟩
    · refine V.icmp_ge (tgt := 13) dX7_isForm_6 (by decide) (fun _ => ?_) (fun hn => absurd hc hn)
      exact V.forget (vX7_isForm_13 h hQ) trivial
    · refine V.icmp_ge (tgt := 13) dX7_isForm_6 (by decide) (fun hn => absurd hn hc) (fun _ => ?_)
      refine V.iconst ic_1 dX7_isForm_9 ?_
      refine V.goto (tgt := 14) dX7_isForm_10 (by decide) ?_
      exact V.forget (vX7_isForm_14 h hQ) trivial
def fX2_make_36 (K17 : Int32 → Int32 → Int32 → vMem → Option vMem) (l1 : Int32) (l3 : Int32) (l4 : Int32) (σ : vMem) : Option vMem :=
  K17 l1 l3 (l4 + (1 : Int32)) σ
theorem vX2_make_36 {ad : Nat → Nat} {Q : Option Value → vMem → Prop} {r : vMem} {K17 : Int32 → Int32 → Int32 → vMem → Option vMem} (hK17 : ∀ (l1 : Int32) (l3 : Int32) (l4 : Int32) (σ : vMem), K17 l1 l3 l4 σ = some r → V GC mX2_make ad Q 0 17 [some (.ref (ad 33)), some (.int l1), none, some (.int l3), some (.int l4)] [] σ) {l1 : Int32} {l3 : Int32} {l4 : Int32} {σ : vMem} (h : fX2_make_36 K17 l1 l3 l4 σ = some r) (hQ : Q none r) : V GC mX2_make ad Q 0 36 [some (.ref (ad 33)), some (.int l1), none, some (.int l3), some (.int l4)] [] σ := by
  unfold fX2_make_36 at h
  refine V.iinc dX2_make_36 rfl (ii_1 _) (by decide) rfl ?_
  refine V.goto (tgt := 17) dX2_make_39 (by decide) ?_
  exact V.forget (hK17 _ _ _ _ h) ⟨rfl, ⟨rfl, ⟨rfl, ⟨rfl, trivial⟩⟩⟩⟩
def fX2_make_17 (K17 : Int32 → Int32 → Int32 → vMem → Option vMem) (l1 : Int32) (l3 : Int32) (l4 : Int32) (σ : vMem) : Option vMem :=
  if l3 ≤ l4 then (some σ) else
  (if ((l1 * (60 : Int32)) + l4) < 0 ∨ 240 ≤ ((l1 * (60 : Int32)) + l4).toNatClampNeg then none else fX2_make_36 K17 l1 l3 l4 (vup σ 36 ((l1 * (60 : Int32)) + l4).toNatClampNeg (0 : Int32)))
theorem vX2_make_17 {ad : Nat → Nat} {Q : Option Value → vMem → Prop} {r : vMem} {K17 : Int32 → Int32 → Int32 → vMem → Option vMem} (hK17 : ∀ (l1 : Int32) (l3 : Int32) (l4 : Int32) (σ : vMem), K17 l1 l3 l4 σ = some r → V GC mX2_make ad Q 0 17 [some (.ref (ad 33)), some (.int l1), none, some (.int l3), some (.int l4)] [] σ) {l1 : Int32} {l3 : Int32} {l4 : Int32} {σ : vMem} (h : fX2_make_17 K17 l1 l3 l4 σ = some r) (hQ : Q none r) : V GC mX2_make ad Q 0 17 [some (.ref (ad 33)), some (.int l1), none, some (.int l3), some (.int l4)] [] σ := by
  unfold fX2_make_17 at h
  refine V.iload dX2_make_17 rfl ?_
  refine V.iload_n dX2_make_19 rfl ?_
  rcases itc h with ⟨hc, h⟩ | ⟨hc, h⟩
  · refine V.icmp_ge (tgt := 42) dX2_make_20 (by decide) (fun _ => ?_) (fun hn => absurd hc hn)
    obtain rfl := Option.some.inj h
    exact V.vret dX2_make_42 rfl hQ
  · refine V.icmp_ge (tgt := 42) dX2_make_20 (by decide) (fun hn => absurd hn hc) (fun _ => ?_)
    refine V.aload_n dX2_make_23 rfl ?_
    refine V.get dX2_make_24 flX2_18 nC_33 gC_33 (by decide) (eC_33_2 _ _) ?_
    refine V.iload_n dX2_make_27 rfl ?_
    refine V.bipush bp_60 dX2_make_28 ?_
    refine V.imul dX2_make_30 ?_
    refine V.iload dX2_make_31 rfl ?_
    refine V.iadd dX2_make_33 ?_
    refine V.iconst ic_0 dX2_make_34 ?_
    obtain ⟨hb, h⟩ := ckn h
    refine V.iast dX2_make_35 nC_36 gC_36 hb ?_
    exact V.forget (vX2_make_36 hK17 h hQ) ⟨rfl, ⟨rfl, ⟨rfl, ⟨rfl, trivial⟩⟩⟩⟩
def LfX2_make_17 : Nat → Int32 → Int32 → Int32 → vMem → Option vMem
  | 0, _, _, _, _ => none
  | n + 1, l1, l3, l4, σ => fX2_make_17 (LfX2_make_17 n) l1 l3 l4 σ
theorem LvX2_make_17 {ad : Nat → Nat} {Q : Option Value → vMem → Prop} {r : vMem} (hQ : Q none r) : ∀ (n : Nat) (l1 : Int32) (l3 : Int32) (l4 : Int32) (σ : vMem), LfX2_make_17 n l1 l3 l4 σ = some r → V GC mX2_make ad Q 0 17 [some (.ref (ad 33)), some (.int l1), none, some (.int l3), some (.int l4)] [] σ := by
  intro n
  induction n with
  | zero => intro l1 l3 l4 σ h; cases h
  | succ n ih => intro l1 l3 l4 σ h; exact vX2_make_17 ih h hQ
def fX2_make_14 (l1 : Int32) (l3 : Int32) (σ : vMem) : Option vMem :=
  LfX2_make_17 200 l1 l3 (0 : Int32) σ
theorem vX2_make_14 {ad : Nat → Nat} {Q : Option Value → vMem → Prop} {r : vMem} {l1 : Int32} {l3 : Int32} {σ : vMem} (h : fX2_make_14 l1 l3 σ = some r) (hQ : Q none r) : V GC mX2_make ad Q 0 14 [some (.ref (ad 33)), some (.int l1), none, some (.int l3), none] [] σ := by
  unfold fX2_make_14 at h
  refine V.iconst ic_0 dX2_make_14 ?_
  refine V.istore dX2_make_15 (by decide) rfl ?_
  exact V.forget (LvX2_make_17 hQ 200 _ _ _ _ h) ⟨rfl, ⟨rfl, ⟨rfl, ⟨rfl, trivial⟩⟩⟩⟩
def fX2_make_7 (l1 : Int32) (l3 : Int32) (σ : vMem) : Option vMem :=
  if l1 < 0 ∨ 4 ≤ l1.toNatClampNeg then none else fX2_make_14 l1 l3 (vup σ 35 l1.toNatClampNeg l3)
theorem vX2_make_7 {ad : Nat → Nat} {Q : Option Value → vMem → Prop} {r : vMem} {l1 : Int32} {l3 : Int32} {σ : vMem} (h : fX2_make_7 l1 l3 σ = some r) (hQ : Q none r) : V GC mX2_make ad Q 0 7 [some (.ref (ad 33)), some (.int l1), none, some (.int l3), none] [] σ := by
  unfold fX2_make_7 at h
  refine V.aload_n dX2_make_7 rfl ?_
  refine V.get dX2_make_8 flX2_15 nC_33 gC_33 (by decide) (eC_33_1 _ _) ?_
  refine V.iload_n dX2_make_11 rfl ?_
  refine V.iload_n dX2_make_12 rfl ?_
  obtain ⟨hb, h⟩ := ckn h
  refine V.iast dX2_make_13 nC_35 gC_35 hb ?_
  exact V.forget (vX2_make_14 h hQ) ⟨rfl, ⟨rfl, ⟨rfl, trivial⟩⟩⟩
def fX2_make (l1 : Int32) (l2 : Int32) (l3 : Int32) (σ : vMem) : Option vMem :=
  if l1 < 0 ∨ 4 ≤ l1.toNatClampNeg then none else fX2_make_7 l1 l3 (vup σ 34 l1.toNatClampNeg l2)
theorem vX2_make {ad : Nat → Nat} {Q : Option Value → vMem → Prop} {r : vMem} {l1 : Int32} {l2 : Int32} {l3 : Int32} {σ : vMem} (h : fX2_make l1 l2 l3 σ = some r) (hQ : Q none r) : V GC mX2_make ad Q 0 0 [some (.ref (ad 33)), some (.int l1), some (.int l2), some (.int l3), none] [] σ := by
  unfold fX2_make at h
  refine V.aload_n dX2_make_0 rfl ?_
  refine V.get dX2_make_1 flX2_9 nC_33 gC_33 (by decide) (eC_33_0 _ _) ?_
  refine V.iload_n dX2_make_4 rfl ?_
  refine V.iload_n dX2_make_5 rfl ?_
  obtain ⟨hb, h⟩ := ckn h
  refine V.iast dX2_make_6 nC_34 gC_34 hb ?_
  exact V.forget (vX2_make_7 h hQ) ⟨rfl, ⟨rfl, ⟨rfl, trivial⟩⟩⟩
