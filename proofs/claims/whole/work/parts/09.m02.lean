def fX8_runsTold (σ : vMem) : Option vMem :=
  (fX8_asTold σ).bind fun q1 => (fX8_runs q1).bind fun q2 => some q2
theorem vX8_runsTold {ad : Nat → Nat} {Q : Option Value → vMem → Prop} {r : vMem} {σ : vMem} (h : fX8_runsTold σ = some r) (hQ : Q none r) : V GM mX8_runsTold ad Q 7 0 [some (.ref (ad 0))] [] σ := by
  unfold fX8_runsTold at h
  refine V.aload_n dX8_runsTold_0 rfl ?_
  obtain ⟨q1, h1, h⟩ := bdc h
  refine V.callV0 (mc := mX8_asTold) (d' := 6) dX8_runsTold_1 lkX8_242 hfX8_asTold nM_0 gM_0 rfl (by decide) (Nat.le_of_ble_eq_true rfl) (Nat.le_of_ble_eq_true rfl) (vX8_asTold h1 ?_)
  refine V.aload_n dX8_runsTold_4 rfl ?_
  obtain ⟨q2, h1, h⟩ := bdc h
  refine V.callV0 (mc := mX8_runs) (d' := 3) dX8_runsTold_5 lkX8_245 hfX8_runs nM_0 gM_0 rfl (by decide) (Nat.le_of_ble_eq_true rfl) (Nat.le_of_ble_eq_true rfl) (vX8_runs h1 ?_)
  obtain rfl := Option.some.inj h
  exact V.vret dX8_runsTold_8 rfl hQ
def fX8_atOf_71 (s0 : Int32) (σ : vMem) : Option (Int32 × vMem) :=
  some (s0, σ)
theorem vX8_atOf_71 {ad : Nat → Nat} {Q : Option Value → vMem → Prop} {r : (Int32 × vMem)} {s0 : Int32} {σ : vMem} (h : fX8_atOf_71 s0 σ = some r) (hQ : Q (some (.int r.1)) r.2) : V GM mX8_atOf ad Q 8 71 [none, none, none, none, none] [.int s0] σ := by
  unfold fX8_atOf_71 at h
  obtain rfl := Option.some.inj h
  exact V.iret dX8_atOf_71 rfl hQ
def fX8_atOf (l1 : Int32) (l2 : Int32) (l3 : Int32) (σ : vMem) : Option (Int32 × vMem) :=
  (fX8_runsTold σ).bind fun q1 => if l3 = 0 then (if (((8 : Int32) * l1) + l2) < 0 ∨ 320 ≤ (((8 : Int32) * l1) + l2).toNatClampNeg then none else fX8_atOf_71 (q1.1 22 (((8 : Int32) * l1) + l2).toNatClampNeg) q1) else
  (if l3 = (1 : Int32) then (if (((8 : Int32) * l1) + l2) < 0 ∨ 320 ≤ (((8 : Int32) * l1) + l2).toNatClampNeg then none else fX8_atOf_71 (q1.1 23 (((8 : Int32) * l1) + l2).toNatClampNeg) q1) else
  (if l3 = (2 : Int32) then (if (((8 : Int32) * l1) + l2) < 0 ∨ 320 ≤ (((8 : Int32) * l1) + l2).toNatClampNeg then none else fX8_atOf_71 (q1.1 24 (((8 : Int32) * l1) + l2).toNatClampNeg) q1) else
  (if (((8 : Int32) * l1) + l2) < 0 ∨ 320 ≤ (((8 : Int32) * l1) + l2).toNatClampNeg then none else if (q1.1 25 (((8 : Int32) * l1) + l2).toNatClampNeg) = 0 then (fX8_atOf_71 (0 : Int32) q1) else
  (fX8_atOf_71 (1 : Int32) q1))))
theorem vX8_atOf {ad : Nat → Nat} {Q : Option Value → vMem → Prop} {r : (Int32 × vMem)} {l1 : Int32} {l2 : Int32} {l3 : Int32} {σ : vMem} (h : fX8_atOf l1 l2 l3 σ = some r) (hQ : Q (some (.int r.1)) r.2) : V GM mX8_atOf ad Q 8 0 [some (.ref (ad 0)), some (.int l1), some (.int l2), some (.int l3), none] [] σ := by
  unfold fX8_atOf at h
  refine V.aload_n dX8_atOf_0 rfl ?_
  obtain ⟨q1, h1, h⟩ := bdc h
  refine V.callV0 (mc := mX8_runsTold) (d' := 7) dX8_atOf_1 lkX8_248 hfX8_runsTold nM_0 gM_0 rfl (by decide) (Nat.le_of_ble_eq_true rfl) (Nat.le_of_ble_eq_true rfl) (vX8_runsTold h1 ?_)
  refine V.bipush bp_8 dX8_atOf_4 ?_
  refine V.iload_n dX8_atOf_6 rfl ?_
  refine V.imul dX8_atOf_7 ?_
  refine V.iload_n dX8_atOf_8 rfl ?_
  refine V.iadd dX8_atOf_9 ?_
  refine V.istore dX8_atOf_10 (by decide) rfl ?_
  refine V.iload_n dX8_atOf_12 rfl ?_
  rcases itc h with ⟨hc, h⟩ | ⟨hc, h⟩
  · refine V.if_ne (tgt := 26) dX8_atOf_13 (by decide) (fun hn => absurd hc hn) (fun _ => ?_)
    refine V.aload_n dX8_atOf_16 rfl ?_
    refine V.get dX8_atOf_17 flX8_74 nM_0 gM_0 (by decide) (eM_0_32 _ _) ?_
    refine V.iload dX8_atOf_20 rfl ?_
    obtain ⟨hb, h⟩ := ckn h
    refine V.iald dX8_atOf_22 nM_22 gM_22 hb ?_
    refine V.goto (tgt := 71) dX8_atOf_23 (by decide) ?_
    exact V.forget (vX8_atOf_71 h hQ) trivial
  · refine V.if_ne (tgt := 26) dX8_atOf_13 (by decide) (fun _ => ?_) (fun hn => absurd hn hc)
    refine V.iload_n dX8_atOf_26 rfl ?_
    refine V.iconst ic_1 dX8_atOf_27 ?_
    rcases itc h with ⟨hc, h⟩ | ⟨hc, h⟩
    · refine V.icmp_ne (tgt := 41) dX8_atOf_28 (by decide) (fun hn => absurd hc hn) (fun _ => ?_)
      refine V.aload_n dX8_atOf_31 rfl ?_
      refine V.get dX8_atOf_32 flX8_77 nM_0 gM_0 (by decide) (eM_0_33 _ _) ?_
      refine V.iload dX8_atOf_35 rfl ?_
      obtain ⟨hb, h⟩ := ckn h
      refine V.iald dX8_atOf_37 nM_23 gM_23 hb ?_
      refine V.goto (tgt := 71) dX8_atOf_38 (by decide) ?_
      exact V.forget (vX8_atOf_71 h hQ) trivial
    · refine V.icmp_ne (tgt := 41) dX8_atOf_28 (by decide) (fun _ => ?_) (fun hn => absurd hn hc)
      refine V.iload_n dX8_atOf_41 rfl ?_
      refine V.iconst ic_2 dX8_atOf_42 ?_
      rcases itc h with ⟨hc, h⟩ | ⟨hc, h⟩
      · refine V.icmp_ne (tgt := 56) dX8_atOf_43 (by decide) (fun hn => absurd hc hn) (fun _ => ?_)
        refine V.aload_n dX8_atOf_46 rfl ?_
        refine V.get dX8_atOf_47 flX8_80 nM_0 gM_0 (by decide) (eM_0_34 _ _) ?_
        refine V.iload dX8_atOf_50 rfl ?_
        obtain ⟨hb, h⟩ := ckn h
        refine V.iald dX8_atOf_52 nM_24 gM_24 hb ?_
        refine V.goto (tgt := 71) dX8_atOf_53 (by decide) ?_
        exact V.forget (vX8_atOf_71 h hQ) trivial
      · refine V.icmp_ne (tgt := 56) dX8_atOf_43 (by decide) (fun _ => ?_) (fun hn => absurd hn hc)
        refine V.aload_n dX8_atOf_56 rfl ?_
        refine V.get dX8_atOf_57 flX8_83 nM_0 gM_0 (by decide) (eM_0_35 _ _) ?_
        refine V.iload dX8_atOf_60 rfl ?_
        obtain ⟨hb, h⟩ := ckn h
        refine V.zald dX8_atOf_62 nM_25 gM_25 hb ?_
        rcases itc h with ⟨hc, h⟩ | ⟨hc, h⟩
        · refine V.if_eq (tgt := 70) dX8_atOf_63 (by decide) (fun _ => ?_) (fun hn => absurd hc hn)
          refine V.iconst ic_0 dX8_atOf_70 ?_
          exact V.forget (vX8_atOf_71 h hQ) trivial
        · refine V.if_eq (tgt := 70) dX8_atOf_63 (by decide) (fun hn => absurd hn hc) (fun _ => ?_)
          refine V.iconst ic_1 dX8_atOf_66 ?_
          refine V.goto (tgt := 71) dX8_atOf_67 (by decide) ?_
          exact V.forget (vX8_atOf_71 h hQ) trivial
def fX8_at_36 (s0 : Int32) (σ : vMem) : Option (Int32 × vMem) :=
  some (s0, σ)
theorem vX8_at_36 {ad : Nat → Nat} {Q : Option Value → vMem → Prop} {r : (Int32 × vMem)} {s0 : Int32} {σ : vMem} (h : fX8_at_36 s0 σ = some r) (hQ : Q (some (.int r.1)) r.2) : V GM mX8_at ad Q 9 36 [none, none, none, none] [.int s0] σ := by
  unfold fX8_at_36 at h
  obtain rfl := Option.some.inj h
  exact V.iret dX8_at_36 rfl hQ
def fX8_at_34 (σ : vMem) : Option (Int32 × vMem) :=
  fX8_at_36 (-2 : Int32) σ
theorem vX8_at_34 {ad : Nat → Nat} {Q : Option Value → vMem → Prop} {r : (Int32 × vMem)} {σ : vMem} (h : fX8_at_34 σ = some r) (hQ : Q (some (.int r.1)) r.2) : V GM mX8_at ad Q 9 34 [none, none, none, none] [] σ := by
  unfold fX8_at_34 at h
  refine V.bipush bp_m2 dX8_at_34 ?_
  exact V.forget (vX8_at_36 h hQ) trivial
def fX8_at (l1 : Int32) (l2 : Int32) (l3 : Int32) (σ : vMem) : Option (Int32 × vMem) :=
  (fX8_isHour l1 σ).bind fun q1 => if q1.1 = 0 then (fX8_at_34 q1.2) else
  ((fX8_isBasket l2 q1.2).bind fun q2 => if q2.1 = 0 then (fX8_at_34 q2.2) else
  ((fX8_in l3 (0 : Int32) (3 : Int32) q2.2).bind fun q3 => if q3.1 = 0 then (fX8_at_34 q3.2) else
  ((fX8_atOf l1 l2 l3 q3.2).bind fun q4 => fX8_at_36 q4.1 q4.2)))
theorem vX8_at {ad : Nat → Nat} {Q : Option Value → vMem → Prop} {r : (Int32 × vMem)} {l1 : Int32} {l2 : Int32} {l3 : Int32} {σ : vMem} (h : fX8_at l1 l2 l3 σ = some r) (hQ : Q (some (.int r.1)) r.2) : V GM mX8_at ad Q 9 0 [some (.ref (ad 0)), some (.int l1), some (.int l2), some (.int l3)] [] σ := by
  unfold fX8_at at h
  refine V.iload_n dX8_at_0 rfl ?_
  obtain ⟨q1, h1, h⟩ := bdc h
  refine V.callS1 (mc := mX8_isHour) (d' := 1) dX8_at_1 lkX8_178 hfX8_isHour (by decide) (Nat.le_of_ble_eq_true rfl) (Nat.le_of_ble_eq_true rfl) (vX8_isHour h1 ?_)
  rcases itc h with ⟨hc, h⟩ | ⟨hc, h⟩
  · refine V.if_eq (tgt := 34) dX8_at_4 (by decide) (fun _ => ?_) (fun hn => absurd hc hn)
    exact V.forget (vX8_at_34 h hQ) trivial
  · refine V.if_eq (tgt := 34) dX8_at_4 (by decide) (fun hn => absurd hn hc) (fun _ => ?_)
    refine V.aload_n dX8_at_7 rfl ?_
    refine V.iload_n dX8_at_8 rfl ?_
    obtain ⟨q2, h1, h⟩ := bdc h
    refine V.callV1 (mc := mX8_isBasket) (d' := 6) dX8_at_9 lkX8_172 hfX8_isBasket nM_0 gM_0 rfl (by decide) (Nat.le_of_ble_eq_true rfl) (Nat.le_of_ble_eq_true rfl) (vX8_isBasket h1 ?_)
    rcases itc h with ⟨hc, h⟩ | ⟨hc, h⟩
    · refine V.if_eq (tgt := 34) dX8_at_12 (by decide) (fun _ => ?_) (fun hn => absurd hc hn)
      exact V.forget (vX8_at_34 h hQ) trivial
    · refine V.if_eq (tgt := 34) dX8_at_12 (by decide) (fun hn => absurd hn hc) (fun _ => ?_)
      refine V.iload_n dX8_at_15 rfl ?_
      refine V.iconst ic_0 dX8_at_16 ?_
      refine V.iconst ic_3 dX8_at_17 ?_
      obtain ⟨q3, h1, h⟩ := bdc h
      refine V.callS3 (mc := mX8_in) (d' := 0) dX8_at_18 lkX8_125 hfX8_in (by decide) (Nat.le_of_ble_eq_true rfl) (Nat.le_of_ble_eq_true rfl) (vX8_in h1 ?_)
      rcases itc h with ⟨hc, h⟩ | ⟨hc, h⟩
      · refine V.if_eq (tgt := 34) dX8_at_21 (by decide) (fun _ => ?_) (fun hn => absurd hc hn)
        exact V.forget (vX8_at_34 h hQ) trivial
      · refine V.if_eq (tgt := 34) dX8_at_21 (by decide) (fun hn => absurd hn hc) (fun _ => ?_)
        refine V.aload_n dX8_at_24 rfl ?_
        refine V.iload_n dX8_at_25 rfl ?_
        refine V.iload_n dX8_at_26 rfl ?_
        refine V.iload_n dX8_at_27 rfl ?_
        obtain ⟨q4, h1, h⟩ := bdc h
        refine V.callV3 (mc := mX8_atOf) (d' := 8) dX8_at_28 lkX8_251 hfX8_atOf nM_0 gM_0 rfl (by decide) (Nat.le_of_ble_eq_true rfl) (Nat.le_of_ble_eq_true rfl) (vX8_atOf h1 ?_)
        refine V.goto (tgt := 36) dX8_at_31 (by decide) ?_
        exact V.forget (vX8_at_36 h hQ) trivial
def fX8_noteOf_29 (s0 : Int32) (σ : vMem) : Option (Int32 × vMem) :=
  some (s0, σ)
theorem vX8_noteOf_29 {ad : Nat → Nat} {Q : Option Value → vMem → Prop} {r : (Int32 × vMem)} {s0 : Int32} {σ : vMem} (h : fX8_noteOf_29 s0 σ = some r) (hQ : Q (some (.int r.1)) r.2) : V GM mX8_noteOf ad Q 8 29 [none, none, none] [.int s0] σ := by
  unfold fX8_noteOf_29 at h
  obtain rfl := Option.some.inj h
  exact V.iret dX8_noteOf_29 rfl hQ
def fX8_noteOf (l1 : Int32) (l2 : Int32) (σ : vMem) : Option (Int32 × vMem) :=
  (fX8_runsTold σ).bind fun q1 => if l1 < 0 ∨ 8 ≤ l1.toNatClampNeg then none else if (q1.1 14 l1.toNatClampNeg) ≤ l2 then (fX8_noteOf_29 (-1 : Int32) q1) else
  (if (((24 : Int32) * l1) + l2) < 0 ∨ 192 ≤ (((24 : Int32) * l1) + l2).toNatClampNeg then none else fX8_noteOf_29 (q1.1 15 (((24 : Int32) * l1) + l2).toNatClampNeg) q1)
theorem vX8_noteOf {ad : Nat → Nat} {Q : Option Value → vMem → Prop} {r : (Int32 × vMem)} {l1 : Int32} {l2 : Int32} {σ : vMem} (h : fX8_noteOf l1 l2 σ = some r) (hQ : Q (some (.int r.1)) r.2) : V GM mX8_noteOf ad Q 8 0 [some (.ref (ad 0)), some (.int l1), some (.int l2)] [] σ := by
  unfold fX8_noteOf at h
  refine V.aload_n dX8_noteOf_0 rfl ?_
  obtain ⟨q1, h1, h⟩ := bdc h
  refine V.callV0 (mc := mX8_runsTold) (d' := 7) dX8_noteOf_1 lkX8_248 hfX8_runsTold nM_0 gM_0 rfl (by decide) (Nat.le_of_ble_eq_true rfl) (Nat.le_of_ble_eq_true rfl) (vX8_runsTold h1 ?_)
  refine V.iload_n dX8_noteOf_4 rfl ?_
  refine V.aload_n dX8_noteOf_5 rfl ?_
  refine V.get dX8_noteOf_6 flX8_49 nM_0 gM_0 (by decide) (eM_0_22 _ _) ?_
  refine V.iload_n dX8_noteOf_9 rfl ?_
  obtain ⟨hb, h⟩ := ckn h
  refine V.iald dX8_noteOf_10 nM_14 gM_14 hb ?_
  rcases itc h with ⟨hc, h⟩ | ⟨hc, h⟩
  · refine V.icmp_ge (tgt := 28) dX8_noteOf_11 (by decide) (fun _ => ?_) (fun hn => absurd hc hn)
    refine V.iconst ic_m1 dX8_noteOf_28 ?_
    exact V.forget (vX8_noteOf_29 h hQ) trivial
  · refine V.icmp_ge (tgt := 28) dX8_noteOf_11 (by decide) (fun hn => absurd hn hc) (fun _ => ?_)
    refine V.aload_n dX8_noteOf_14 rfl ?_
    refine V.get dX8_noteOf_15 flX8_52 nM_0 gM_0 (by decide) (eM_0_23 _ _) ?_
    refine V.bipush bp_24 dX8_noteOf_18 ?_
    refine V.iload_n dX8_noteOf_20 rfl ?_
    refine V.imul dX8_noteOf_21 ?_
    refine V.iload_n dX8_noteOf_22 rfl ?_
    refine V.iadd dX8_noteOf_23 ?_
    obtain ⟨hb, h⟩ := ckn h
    refine V.iald dX8_noteOf_24 nM_15 gM_15 hb ?_
    refine V.goto (tgt := 29) dX8_noteOf_25 (by decide) ?_
    exact V.forget (vX8_noteOf_29 h hQ) trivial
def fX8_note_29 (s0 : Int32) (σ : vMem) : Option (Int32 × vMem) :=
  some (s0, σ)
theorem vX8_note_29 {ad : Nat → Nat} {Q : Option Value → vMem → Prop} {r : (Int32 × vMem)} {s0 : Int32} {σ : vMem} (h : fX8_note_29 s0 σ = some r) (hQ : Q (some (.int r.1)) r.2) : V GM mX8_note ad Q 9 29 [none, none, none] [.int s0] σ := by
  unfold fX8_note_29 at h
  obtain rfl := Option.some.inj h
  exact V.iret dX8_note_29 rfl hQ
def fX8_note_27 (σ : vMem) : Option (Int32 × vMem) :=
  fX8_note_29 (-2 : Int32) σ
theorem vX8_note_27 {ad : Nat → Nat} {Q : Option Value → vMem → Prop} {r : (Int32 × vMem)} {σ : vMem} (h : fX8_note_27 σ = some r) (hQ : Q (some (.int r.1)) r.2) : V GM mX8_note ad Q 9 27 [none, none, none] [] σ := by
  unfold fX8_note_27 at h
  refine V.bipush bp_m2 dX8_note_27 ?_
  exact V.forget (vX8_note_29 h hQ) trivial
def fX8_note (l1 : Int32) (l2 : Int32) (σ : vMem) : Option (Int32 × vMem) :=
  (fX8_isBasket l1 σ).bind fun q1 => if q1.1 = 0 then (fX8_note_27 q1.2) else
  ((fX8_in l2 (0 : Int32) (11 : Int32) q1.2).bind fun q2 => if q2.1 = 0 then (fX8_note_27 q2.2) else
  ((fX8_noteOf l1 l2 q2.2).bind fun q3 => fX8_note_29 q3.1 q3.2))
theorem vX8_note {ad : Nat → Nat} {Q : Option Value → vMem → Prop} {r : (Int32 × vMem)} {l1 : Int32} {l2 : Int32} {σ : vMem} (h : fX8_note l1 l2 σ = some r) (hQ : Q (some (.int r.1)) r.2) : V GM mX8_note ad Q 9 0 [some (.ref (ad 0)), some (.int l1), some (.int l2)] [] σ := by
  unfold fX8_note at h
  refine V.aload_n dX8_note_0 rfl ?_
  refine V.iload_n dX8_note_1 rfl ?_
  obtain ⟨q1, h1, h⟩ := bdc h
  refine V.callV1 (mc := mX8_isBasket) (d' := 6) dX8_note_2 lkX8_172 hfX8_isBasket nM_0 gM_0 rfl (by decide) (Nat.le_of_ble_eq_true rfl) (Nat.le_of_ble_eq_true rfl) (vX8_isBasket h1 ?_)
  rcases itc h with ⟨hc, h⟩ | ⟨hc, h⟩
  · refine V.if_eq (tgt := 27) dX8_note_5 (by decide) (fun _ => ?_) (fun hn => absurd hc hn)
    exact V.forget (vX8_note_27 h hQ) trivial
  · refine V.if_eq (tgt := 27) dX8_note_5 (by decide) (fun hn => absurd hn hc) (fun _ => ?_)
    refine V.iload_n dX8_note_8 rfl ?_
    refine V.iconst ic_0 dX8_note_9 ?_
    refine V.bipush bp_11 dX8_note_10 ?_
    obtain ⟨q2, h1, h⟩ := bdc h
    refine V.callS3 (mc := mX8_in) (d' := 0) dX8_note_12 lkX8_125 hfX8_in (by decide) (Nat.le_of_ble_eq_true rfl) (Nat.le_of_ble_eq_true rfl) (vX8_in h1 ?_)
    rcases itc h with ⟨hc, h⟩ | ⟨hc, h⟩
    · refine V.if_eq (tgt := 27) dX8_note_15 (by decide) (fun _ => ?_) (fun hn => absurd hc hn)
      exact V.forget (vX8_note_27 h hQ) trivial
    · refine V.if_eq (tgt := 27) dX8_note_15 (by decide) (fun hn => absurd hn hc) (fun _ => ?_)
      refine V.aload_n dX8_note_18 rfl ?_
      refine V.iload_n dX8_note_19 rfl ?_
      refine V.iload_n dX8_note_20 rfl ?_
      obtain ⟨q3, h1, h⟩ := bdc h
      refine V.callV2 (mc := mX8_noteOf) (d' := 8) dX8_note_21 lkX8_255 hfX8_noteOf nM_0 gM_0 rfl (by decide) (Nat.le_of_ble_eq_true rfl) (Nat.le_of_ble_eq_true rfl) (vX8_noteOf h1 ?_)
      refine V.goto (tgt := 29) dX8_note_24 (by decide) ?_
      exact V.forget (vX8_note_29 h hQ) trivial
def fX8_comesOf (l1 : Int32) (σ : vMem) : Option (Int32 × vMem) :=
  (fX8_runsTold σ).bind fun q1 => if l1 < 0 ∨ 8 ≤ l1.toNatClampNeg then none else some ((q1.1 18 l1.toNatClampNeg), q1)
theorem vX8_comesOf {ad : Nat → Nat} {Q : Option Value → vMem → Prop} {r : (Int32 × vMem)} {l1 : Int32} {σ : vMem} (h : fX8_comesOf l1 σ = some r) (hQ : Q (some (.int r.1)) r.2) : V GM mX8_comesOf ad Q 8 0 [some (.ref (ad 0)), some (.int l1)] [] σ := by
  unfold fX8_comesOf at h
  refine V.aload_n dX8_comesOf_0 rfl ?_
  obtain ⟨q1, h1, h⟩ := bdc h
  refine V.callV0 (mc := mX8_runsTold) (d' := 7) dX8_comesOf_1 lkX8_248 hfX8_runsTold nM_0 gM_0 rfl (by decide) (Nat.le_of_ble_eq_true rfl) (Nat.le_of_ble_eq_true rfl) (vX8_runsTold h1 ?_)
  refine V.aload_n dX8_comesOf_4 rfl ?_
  refine V.get dX8_comesOf_5 flX8_62 nM_0 gM_0 (by decide) (eM_0_26 _ _) ?_
  refine V.iload_n dX8_comesOf_8 rfl ?_
  obtain ⟨hb, h⟩ := ckn h
  refine V.iald dX8_comesOf_9 nM_18 gM_18 hb ?_
  obtain rfl := Option.some.inj h
  exact V.iret dX8_comesOf_10 rfl hQ
def fX8_comes_18 (s0 : Int32) (σ : vMem) : Option (Int32 × vMem) :=
  some (s0, σ)
theorem vX8_comes_18 {ad : Nat → Nat} {Q : Option Value → vMem → Prop} {r : (Int32 × vMem)} {s0 : Int32} {σ : vMem} (h : fX8_comes_18 s0 σ = some r) (hQ : Q (some (.int r.1)) r.2) : V GM mX8_comes ad Q 9 18 [none, none] [.int s0] σ := by
  unfold fX8_comes_18 at h
  obtain rfl := Option.some.inj h
  exact V.iret dX8_comes_18 rfl hQ
def fX8_comes (l1 : Int32) (σ : vMem) : Option (Int32 × vMem) :=
  (fX8_isBasket l1 σ).bind fun q1 => if q1.1 = 0 then (fX8_comes_18 (-2 : Int32) q1.2) else
  ((fX8_comesOf l1 q1.2).bind fun q2 => fX8_comes_18 q2.1 q2.2)
theorem vX8_comes {ad : Nat → Nat} {Q : Option Value → vMem → Prop} {r : (Int32 × vMem)} {l1 : Int32} {σ : vMem} (h : fX8_comes l1 σ = some r) (hQ : Q (some (.int r.1)) r.2) : V GM mX8_comes ad Q 9 0 [some (.ref (ad 0)), some (.int l1)] [] σ := by
  unfold fX8_comes at h
  refine V.aload_n dX8_comes_0 rfl ?_
  refine V.iload_n dX8_comes_1 rfl ?_
  obtain ⟨q1, h1, h⟩ := bdc h
  refine V.callV1 (mc := mX8_isBasket) (d' := 6) dX8_comes_2 lkX8_172 hfX8_isBasket nM_0 gM_0 rfl (by decide) (Nat.le_of_ble_eq_true rfl) (Nat.le_of_ble_eq_true rfl) (vX8_isBasket h1 ?_)
  rcases itc h with ⟨hc, h⟩ | ⟨hc, h⟩
  · refine V.if_eq (tgt := 16) dX8_comes_5 (by decide) (fun _ => ?_) (fun hn => absurd hc hn)
    refine V.bipush bp_m2 dX8_comes_16 ?_
    exact V.forget (vX8_comes_18 h hQ) trivial
  · refine V.if_eq (tgt := 16) dX8_comes_5 (by decide) (fun hn => absurd hn hc) (fun _ => ?_)
    refine V.aload_n dX8_comes_8 rfl ?_
    refine V.iload_n dX8_comes_9 rfl ?_
    obtain ⟨q2, h1, h⟩ := bdc h
    refine V.callV1 (mc := mX8_comesOf) (d' := 8) dX8_comes_10 lkX8_258 hfX8_comesOf nM_0 gM_0 rfl (by decide) (Nat.le_of_ble_eq_true rfl) (Nat.le_of_ble_eq_true rfl) (vX8_comesOf h1 ?_)
    refine V.goto (tgt := 18) dX8_comes_13 (by decide) ?_
    exact V.forget (vX8_comes_18 h hQ) trivial
def fX8_bitesOf_23 (s0 : Int32) (σ : vMem) : Option (Int32 × vMem) :=
  some (s0, σ)
theorem vX8_bitesOf_23 {ad : Nat → Nat} {Q : Option Value → vMem → Prop} {r : (Int32 × vMem)} {s0 : Int32} {σ : vMem} (h : fX8_bitesOf_23 s0 σ = some r) (hQ : Q (some (.int r.1)) r.2) : V GM mX8_bitesOf ad Q 8 23 [none, none, none] [.int s0] σ := by
  unfold fX8_bitesOf_23 at h
  obtain rfl := Option.some.inj h
  exact V.iret dX8_bitesOf_23 rfl hQ
def fX8_bitesOf (l1 : Int32) (l2 : Int32) (σ : vMem) : Option (Int32 × vMem) :=
  (fX8_runsTold σ).bind fun q1 => if l2 = 0 then (if l1 < 0 ∨ 9 ≤ l1.toNatClampNeg then none else fX8_bitesOf_23 (q1.1 20 l1.toNatClampNeg) q1) else
  (if l1 < 0 ∨ 9 ≤ l1.toNatClampNeg then none else fX8_bitesOf_23 (q1.1 21 l1.toNatClampNeg) q1)
theorem vX8_bitesOf {ad : Nat → Nat} {Q : Option Value → vMem → Prop} {r : (Int32 × vMem)} {l1 : Int32} {l2 : Int32} {σ : vMem} (h : fX8_bitesOf l1 l2 σ = some r) (hQ : Q (some (.int r.1)) r.2) : V GM mX8_bitesOf ad Q 8 0 [some (.ref (ad 0)), some (.int l1), some (.int l2)] [] σ := by
  unfold fX8_bitesOf at h
  refine V.aload_n dX8_bitesOf_0 rfl ?_
  obtain ⟨q1, h1, h⟩ := bdc h
  refine V.callV0 (mc := mX8_runsTold) (d' := 7) dX8_bitesOf_1 lkX8_248 hfX8_runsTold nM_0 gM_0 rfl (by decide) (Nat.le_of_ble_eq_true rfl) (Nat.le_of_ble_eq_true rfl) (vX8_runsTold h1 ?_)
  refine V.iload_n dX8_bitesOf_4 rfl ?_
  rcases itc h with ⟨hc, h⟩ | ⟨hc, h⟩
  · refine V.if_ne (tgt := 17) dX8_bitesOf_5 (by decide) (fun hn => absurd hc hn) (fun _ => ?_)
    refine V.aload_n dX8_bitesOf_8 rfl ?_
    refine V.get dX8_bitesOf_9 flX8_68 nM_0 gM_0 (by decide) (eM_0_28 _ _) ?_
    refine V.iload_n dX8_bitesOf_12 rfl ?_
    obtain ⟨hb, h⟩ := ckn h
    refine V.iald dX8_bitesOf_13 nM_20 gM_20 hb ?_
    refine V.goto (tgt := 23) dX8_bitesOf_14 (by decide) ?_
    exact V.forget (vX8_bitesOf_23 h hQ) trivial
  · refine V.if_ne (tgt := 17) dX8_bitesOf_5 (by decide) (fun _ => ?_) (fun hn => absurd hn hc)
    refine V.aload_n dX8_bitesOf_17 rfl ?_
    refine V.get dX8_bitesOf_18 flX8_71 nM_0 gM_0 (by decide) (eM_0_29 _ _) ?_
    refine V.iload_n dX8_bitesOf_21 rfl ?_
    obtain ⟨hb, h⟩ := ckn h
    refine V.iald dX8_bitesOf_22 nM_21 gM_21 hb ?_
    exact V.forget (vX8_bitesOf_23 h hQ) trivial
def fX8_bites_28 (s0 : Int32) (σ : vMem) : Option (Int32 × vMem) :=
  some (s0, σ)
theorem vX8_bites_28 {ad : Nat → Nat} {Q : Option Value → vMem → Prop} {r : (Int32 × vMem)} {s0 : Int32} {σ : vMem} (h : fX8_bites_28 s0 σ = some r) (hQ : Q (some (.int r.1)) r.2) : V GM mX8_bites ad Q 9 28 [none, none, none] [.int s0] σ := by
  unfold fX8_bites_28 at h
  obtain rfl := Option.some.inj h
  exact V.iret dX8_bites_28 rfl hQ
def fX8_bites_26 (σ : vMem) : Option (Int32 × vMem) :=
  fX8_bites_28 (-2 : Int32) σ
theorem vX8_bites_26 {ad : Nat → Nat} {Q : Option Value → vMem → Prop} {r : (Int32 × vMem)} {σ : vMem} (h : fX8_bites_26 σ = some r) (hQ : Q (some (.int r.1)) r.2) : V GM mX8_bites ad Q 9 26 [none, none, none] [] σ := by
  unfold fX8_bites_26 at h
  refine V.bipush bp_m2 dX8_bites_26 ?_
  exact V.forget (vX8_bites_28 h hQ) trivial
def fX8_bites (l1 : Int32) (l2 : Int32) (σ : vMem) : Option (Int32 × vMem) :=
  (fX8_isFloor l1 σ).bind fun q1 => if q1.1 = 0 then (fX8_bites_26 q1.2) else
  ((fX8_in l2 (0 : Int32) (1 : Int32) q1.2).bind fun q2 => if q2.1 = 0 then (fX8_bites_26 q2.2) else
  ((fX8_bitesOf l1 l2 q2.2).bind fun q3 => fX8_bites_28 q3.1 q3.2))
theorem vX8_bites {ad : Nat → Nat} {Q : Option Value → vMem → Prop} {r : (Int32 × vMem)} {l1 : Int32} {l2 : Int32} {σ : vMem} (h : fX8_bites l1 l2 σ = some r) (hQ : Q (some (.int r.1)) r.2) : V GM mX8_bites ad Q 9 0 [some (.ref (ad 0)), some (.int l1), some (.int l2)] [] σ := by
  unfold fX8_bites at h
  refine V.aload_n dX8_bites_0 rfl ?_
  refine V.iload_n dX8_bites_1 rfl ?_
  obtain ⟨q1, h1, h⟩ := bdc h
  refine V.callV1 (mc := mX8_isFloor) (d' := 6) dX8_bites_2 lkX8_166 hfX8_isFloor nM_0 gM_0 rfl (by decide) (Nat.le_of_ble_eq_true rfl) (Nat.le_of_ble_eq_true rfl) (vX8_isFloor h1 ?_)
  rcases itc h with ⟨hc, h⟩ | ⟨hc, h⟩
  · refine V.if_eq (tgt := 26) dX8_bites_5 (by decide) (fun _ => ?_) (fun hn => absurd hc hn)
    exact V.forget (vX8_bites_26 h hQ) trivial
  · refine V.if_eq (tgt := 26) dX8_bites_5 (by decide) (fun hn => absurd hn hc) (fun _ => ?_)
    refine V.iload_n dX8_bites_8 rfl ?_
    refine V.iconst ic_0 dX8_bites_9 ?_
    refine V.iconst ic_1 dX8_bites_10 ?_
    obtain ⟨q2, h1, h⟩ := bdc h
    refine V.callS3 (mc := mX8_in) (d' := 0) dX8_bites_11 lkX8_125 hfX8_in (by decide) (Nat.le_of_ble_eq_true rfl) (Nat.le_of_ble_eq_true rfl) (vX8_in h1 ?_)
    rcases itc h with ⟨hc, h⟩ | ⟨hc, h⟩
    · refine V.if_eq (tgt := 26) dX8_bites_14 (by decide) (fun _ => ?_) (fun hn => absurd hc hn)
      exact V.forget (vX8_bites_26 h hQ) trivial
    · refine V.if_eq (tgt := 26) dX8_bites_14 (by decide) (fun hn => absurd hn hc) (fun _ => ?_)
      refine V.aload_n dX8_bites_17 rfl ?_
      refine V.iload_n dX8_bites_18 rfl ?_
      refine V.iload_n dX8_bites_19 rfl ?_
      obtain ⟨q3, h1, h⟩ := bdc h
      refine V.callV2 (mc := mX8_bitesOf) (d' := 8) dX8_bites_20 lkX8_261 hfX8_bitesOf nM_0 gM_0 rfl (by decide) (Nat.le_of_ble_eq_true rfl) (Nat.le_of_ble_eq_true rfl) (vX8_bitesOf h1 ?_)
      refine V.goto (tgt := 28) dX8_bites_23 (by decide) ?_
      exact V.forget (vX8_bites_28 h hQ) trivial
def fX8_upMuch_33 (K4 : Int32 → Int32 → vMem → Option (Int32 × vMem)) (l2 : Int32) (s0 : Int32) (s1 : Int32) (σ : vMem) : Option (Int32 × vMem) :=
  K4 (s0 + s1) (l2 + (1 : Int32)) σ
theorem vX8_upMuch_33 {ad : Nat → Nat} {Q : Option Value → vMem → Prop} {r : (Int32 × vMem)} {K4 : Int32 → Int32 → vMem → Option (Int32 × vMem)} (hK4 : ∀ (l1 : Int32) (l2 : Int32) (σ : vMem), K4 l1 l2 σ = some r → V GM mX8_upMuch ad Q 0 4 [some (.ref (ad 0)), some (.int l1), some (.int l2)] [] σ) {l2 : Int32} {s0 : Int32} {s1 : Int32} {σ : vMem} (h : fX8_upMuch_33 K4 l2 s0 s1 σ = some r) (hQ : Q (some (.int r.1)) r.2) : V GM mX8_upMuch ad Q 0 33 [some (.ref (ad 0)), none, some (.int l2)] [.int s1, .int s0] σ := by
  unfold fX8_upMuch_33 at h
  refine V.iadd dX8_upMuch_33 ?_
  refine V.istore_n dX8_upMuch_34 (by decide) rfl ?_
  refine V.iinc dX8_upMuch_35 rfl (ii_1 _) (by decide) rfl ?_
  refine V.goto (tgt := 4) dX8_upMuch_38 (by decide) ?_
  exact V.forget (hK4 _ _ _ h) ⟨rfl, ⟨rfl, ⟨rfl, trivial⟩⟩⟩
def fX8_upMuch_4 (K4 : Int32 → Int32 → vMem → Option (Int32 × vMem)) (l1 : Int32) (l2 : Int32) (σ : vMem) : Option (Int32 × vMem) :=
  if (σ.1 0 6) ≤ l2 then (some (l1, σ)) else
  (if l2 < 0 ∨ 8 ≤ l2.toNatClampNeg then none else if (σ.1 18 l2.toNatClampNeg) = (-1 : Int32) then (fX8_upMuch_33 K4 l2 l1 (0 : Int32) σ) else
  (if l2 < 0 ∨ 8 ≤ l2.toNatClampNeg then none else fX8_upMuch_33 K4 l2 l1 (σ.1 13 l2.toNatClampNeg) σ))
theorem vX8_upMuch_4 {ad : Nat → Nat} {Q : Option Value → vMem → Prop} {r : (Int32 × vMem)} {K4 : Int32 → Int32 → vMem → Option (Int32 × vMem)} (hK4 : ∀ (l1 : Int32) (l2 : Int32) (σ : vMem), K4 l1 l2 σ = some r → V GM mX8_upMuch ad Q 0 4 [some (.ref (ad 0)), some (.int l1), some (.int l2)] [] σ) {l1 : Int32} {l2 : Int32} {σ : vMem} (h : fX8_upMuch_4 K4 l1 l2 σ = some r) (hQ : Q (some (.int r.1)) r.2) : V GM mX8_upMuch ad Q 0 4 [some (.ref (ad 0)), some (.int l1), some (.int l2)] [] σ := by
  unfold fX8_upMuch_4 at h
  refine V.iload_n dX8_upMuch_4 rfl ?_
  refine V.aload_n dX8_upMuch_5 rfl ?_
  refine V.get dX8_upMuch_6 flX8_147 nM_0 gM_0 (by decide) (eM_0_6 _ _) ?_
  rcases itc h with ⟨hc, h⟩ | ⟨hc, h⟩
  · refine V.icmp_ge (tgt := 41) dX8_upMuch_9 (by decide) (fun _ => ?_) (fun hn => absurd hc hn)
    refine V.iload_n dX8_upMuch_41 rfl ?_
    obtain rfl := Option.some.inj h
    exact V.iret dX8_upMuch_42 rfl hQ
  · refine V.icmp_ge (tgt := 41) dX8_upMuch_9 (by decide) (fun hn => absurd hn hc) (fun _ => ?_)
    refine V.iload_n dX8_upMuch_12 rfl ?_
    refine V.aload_n dX8_upMuch_13 rfl ?_
    refine V.get dX8_upMuch_14 flX8_62 nM_0 gM_0 (by decide) (eM_0_26 _ _) ?_
    refine V.iload_n dX8_upMuch_17 rfl ?_
    obtain ⟨hb, h⟩ := ckn h
    refine V.iald dX8_upMuch_18 nM_18 gM_18 hb ?_
    refine V.iconst ic_m1 dX8_upMuch_19 ?_
    rcases itc h with ⟨hc, h⟩ | ⟨hc, h⟩
    · refine V.icmp_ne (tgt := 27) dX8_upMuch_20 (by decide) (fun hn => absurd hc hn) (fun _ => ?_)
      refine V.iconst ic_0 dX8_upMuch_23 ?_
      refine V.goto (tgt := 33) dX8_upMuch_24 (by decide) ?_
      exact V.forget (vX8_upMuch_33 hK4 h hQ) ⟨rfl, ⟨rfl, trivial⟩⟩
    · refine V.icmp_ne (tgt := 27) dX8_upMuch_20 (by decide) (fun _ => ?_) (fun hn => absurd hn hc)
      refine V.aload_n dX8_upMuch_27 rfl ?_
      refine V.get dX8_upMuch_28 flX8_46 nM_0 gM_0 (by decide) (eM_0_21 _ _) ?_
      refine V.iload_n dX8_upMuch_31 rfl ?_
      obtain ⟨hb, h⟩ := ckn h
      refine V.iald dX8_upMuch_32 nM_13 gM_13 hb ?_
      exact V.forget (vX8_upMuch_33 hK4 h hQ) ⟨rfl, ⟨rfl, trivial⟩⟩
def LfX8_upMuch_4 : Nat → Int32 → Int32 → vMem → Option (Int32 × vMem)
  | 0, _, _, _ => none
  | n + 1, l1, l2, σ => fX8_upMuch_4 (LfX8_upMuch_4 n) l1 l2 σ
theorem LvX8_upMuch_4 {ad : Nat → Nat} {Q : Option Value → vMem → Prop} {r : (Int32 × vMem)} (hQ : Q (some (.int r.1)) r.2) : ∀ (n : Nat) (l1 : Int32) (l2 : Int32) (σ : vMem), LfX8_upMuch_4 n l1 l2 σ = some r → V GM mX8_upMuch ad Q 0 4 [some (.ref (ad 0)), some (.int l1), some (.int l2)] [] σ := by
  intro n
  induction n with
  | zero => intro l1 l2 σ h; cases h
  | succ n ih => intro l1 l2 σ h; exact vX8_upMuch_4 ih h hQ
def fX8_upMuch (σ : vMem) : Option (Int32 × vMem) :=
  LfX8_upMuch_4 200 (0 : Int32) (0 : Int32) σ
theorem vX8_upMuch {ad : Nat → Nat} {Q : Option Value → vMem → Prop} {r : (Int32 × vMem)} {σ : vMem} (h : fX8_upMuch σ = some r) (hQ : Q (some (.int r.1)) r.2) : V GM mX8_upMuch ad Q 0 0 [some (.ref (ad 0)), none, none] [] σ := by
  unfold fX8_upMuch at h
  refine V.iconst ic_0 dX8_upMuch_0 ?_
  refine V.istore_n dX8_upMuch_1 (by decide) rfl ?_
  refine V.iconst ic_0 dX8_upMuch_2 ?_
  refine V.istore_n dX8_upMuch_3 (by decide) rfl ?_
  exact V.forget (LvX8_upMuch_4 hQ 200 _ _ _ h) ⟨rfl, ⟨rfl, ⟨rfl, trivial⟩⟩⟩
def fX8_famineNow_8 (K8 : Int32 → Int32 → vMem → Option (Int32 × vMem)) (l1 : Int32) (l2 : Int32) (σ : vMem) : Option (Int32 × vMem) :=
  if (σ.1 0 6) ≤ l2 then ((fX8_upMuch σ).bind fun q1 => some ((l1 - q1.1), q1.2)) else
  (if l2 < 0 ∨ 9 ≤ l2.toNatClampNeg then none else K8 (l1 + (σ.1 7 l2.toNatClampNeg)) (l2 + (1 : Int32)) σ)
theorem vX8_famineNow_8 {ad : Nat → Nat} {Q : Option Value → vMem → Prop} {r : (Int32 × vMem)} {K8 : Int32 → Int32 → vMem → Option (Int32 × vMem)} (hK8 : ∀ (l1 : Int32) (l2 : Int32) (σ : vMem), K8 l1 l2 σ = some r → V GM mX8_famineNow ad Q 8 8 [some (.ref (ad 0)), some (.int l1), some (.int l2)] [] σ) {l1 : Int32} {l2 : Int32} {σ : vMem} (h : fX8_famineNow_8 K8 l1 l2 σ = some r) (hQ : Q (some (.int r.1)) r.2) : V GM mX8_famineNow ad Q 8 8 [some (.ref (ad 0)), some (.int l1), some (.int l2)] [] σ := by
  unfold fX8_famineNow_8 at h
  refine V.iload_n dX8_famineNow_8 rfl ?_
  refine V.aload_n dX8_famineNow_9 rfl ?_
  refine V.get dX8_famineNow_10 flX8_147 nM_0 gM_0 (by decide) (eM_0_6 _ _) ?_
  rcases itc h with ⟨hc, h⟩ | ⟨hc, h⟩
  · refine V.icmp_ge (tgt := 31) dX8_famineNow_13 (by decide) (fun _ => ?_) (fun hn => absurd hc hn)
    refine V.iload_n dX8_famineNow_31 rfl ?_
    refine V.aload_n dX8_famineNow_32 rfl ?_
    obtain ⟨q1, h1, h⟩ := bdc h
    refine V.callV0 (mc := mX8_upMuch) (d' := 0) dX8_famineNow_33 lkX8_264 hfX8_upMuch nM_0 gM_0 rfl (by decide) (Nat.le_of_ble_eq_true rfl) (Nat.le_of_ble_eq_true rfl) (vX8_upMuch h1 ?_)
    refine V.isub dX8_famineNow_36 ?_
    obtain rfl := Option.some.inj h
    exact V.iret dX8_famineNow_37 rfl hQ
  · refine V.icmp_ge (tgt := 31) dX8_famineNow_13 (by decide) (fun hn => absurd hn hc) (fun _ => ?_)
    refine V.iload_n dX8_famineNow_16 rfl ?_
    refine V.aload_n dX8_famineNow_17 rfl ?_
    refine V.get dX8_famineNow_18 flX8_28 nM_0 gM_0 (by decide) (eM_0_8 _ _) ?_
    refine V.iload_n dX8_famineNow_21 rfl ?_
    obtain ⟨hb, h⟩ := ckn h
    refine V.iald dX8_famineNow_22 nM_7 gM_7 hb ?_
    refine V.iadd dX8_famineNow_23 ?_
    refine V.istore_n dX8_famineNow_24 (by decide) rfl ?_
    refine V.iinc dX8_famineNow_25 rfl (ii_1 _) (by decide) rfl ?_
    refine V.goto (tgt := 8) dX8_famineNow_28 (by decide) ?_
    exact V.forget (hK8 _ _ _ h) ⟨rfl, ⟨rfl, ⟨rfl, trivial⟩⟩⟩
def LfX8_famineNow_8 : Nat → Int32 → Int32 → vMem → Option (Int32 × vMem)
  | 0, _, _, _ => none
  | n + 1, l1, l2, σ => fX8_famineNow_8 (LfX8_famineNow_8 n) l1 l2 σ
theorem LvX8_famineNow_8 {ad : Nat → Nat} {Q : Option Value → vMem → Prop} {r : (Int32 × vMem)} (hQ : Q (some (.int r.1)) r.2) : ∀ (n : Nat) (l1 : Int32) (l2 : Int32) (σ : vMem), LfX8_famineNow_8 n l1 l2 σ = some r → V GM mX8_famineNow ad Q 8 8 [some (.ref (ad 0)), some (.int l1), some (.int l2)] [] σ := by
  intro n
  induction n with
  | zero => intro l1 l2 σ h; cases h
  | succ n ih => intro l1 l2 σ h; exact vX8_famineNow_8 ih h hQ
def fX8_famineNow (σ : vMem) : Option (Int32 × vMem) :=
  (fX8_runsTold σ).bind fun q1 => LfX8_famineNow_8 200 (0 : Int32) (0 : Int32) q1
theorem vX8_famineNow {ad : Nat → Nat} {Q : Option Value → vMem → Prop} {r : (Int32 × vMem)} {σ : vMem} (h : fX8_famineNow σ = some r) (hQ : Q (some (.int r.1)) r.2) : V GM mX8_famineNow ad Q 8 0 [some (.ref (ad 0)), none, none] [] σ := by
  unfold fX8_famineNow at h
  refine V.aload_n dX8_famineNow_0 rfl ?_
  obtain ⟨q1, h1, h⟩ := bdc h
  refine V.callV0 (mc := mX8_runsTold) (d' := 7) dX8_famineNow_1 lkX8_248 hfX8_runsTold nM_0 gM_0 rfl (by decide) (Nat.le_of_ble_eq_true rfl) (Nat.le_of_ble_eq_true rfl) (vX8_runsTold h1 ?_)
  refine V.iconst ic_0 dX8_famineNow_4 ?_
  refine V.istore_n dX8_famineNow_5 (by decide) rfl ?_
  refine V.iconst ic_0 dX8_famineNow_6 ?_
  refine V.istore_n dX8_famineNow_7 (by decide) rfl ?_
  exact V.forget (LvX8_famineNow_8 hQ 200 _ _ _ h) ⟨rfl, ⟨rfl, ⟨rfl, trivial⟩⟩⟩
def fX8_famine (σ : vMem) : Option (Int32 × vMem) :=
  (fX8_famineNow σ).bind fun q1 => some (q1.1, q1.2)
theorem vX8_famine {ad : Nat → Nat} {Q : Option Value → vMem → Prop} {r : (Int32 × vMem)} {σ : vMem} (h : fX8_famine σ = some r) (hQ : Q (some (.int r.1)) r.2) : V GM mX8_famine ad Q 9 0 [some (.ref (ad 0))] [] σ := by
  unfold fX8_famine at h
  refine V.aload_n dX8_famine_0 rfl ?_
  obtain ⟨q1, h1, h⟩ := bdc h
  refine V.callV0 (mc := mX8_famineNow) (d' := 8) dX8_famine_1 lkX8_268 hfX8_famineNow nM_0 gM_0 rfl (by decide) (Nat.le_of_ble_eq_true rfl) (Nat.le_of_ble_eq_true rfl) (vX8_famineNow h1 ?_)
  obtain rfl := Option.some.inj h
  exact V.iret dX8_famine_4 rfl hQ
def fX8_firstOf_19 (s0 : Int32) (σ : vMem) : Option (Int32 × vMem) :=
  some (s0, σ)
theorem vX8_firstOf_19 {ad : Nat → Nat} {Q : Option Value → vMem → Prop} {r : (Int32 × vMem)} {s0 : Int32} {σ : vMem} (h : fX8_firstOf_19 s0 σ = some r) (hQ : Q (some (.int r.1)) r.2) : V GM mX8_firstOf ad Q 8 19 [none, none] [.int s0] σ := by
  unfold fX8_firstOf_19 at h
  obtain rfl := Option.some.inj h
  exact V.iret dX8_firstOf_19 rfl hQ
def fX8_firstOf (l1 : Int32) (σ : vMem) : Option (Int32 × vMem) :=
  (fX8_runsTold σ).bind fun q1 => if l1 = 0 then (fX8_firstOf_19 (q1.1 0 30) q1) else
  (fX8_firstOf_19 (q1.1 0 31) q1)
theorem vX8_firstOf {ad : Nat → Nat} {Q : Option Value → vMem → Prop} {r : (Int32 × vMem)} {l1 : Int32} {σ : vMem} (h : fX8_firstOf l1 σ = some r) (hQ : Q (some (.int r.1)) r.2) : V GM mX8_firstOf ad Q 8 0 [some (.ref (ad 0)), some (.int l1)] [] σ := by
  unfold fX8_firstOf at h
  refine V.aload_n dX8_firstOf_0 rfl ?_
  obtain ⟨q1, h1, h⟩ := bdc h
  refine V.callV0 (mc := mX8_runsTold) (d' := 7) dX8_firstOf_1 lkX8_248 hfX8_runsTold nM_0 gM_0 rfl (by decide) (Nat.le_of_ble_eq_true rfl) (Nat.le_of_ble_eq_true rfl) (vX8_runsTold h1 ?_)
  refine V.iload_n dX8_firstOf_4 rfl ?_
  rcases itc h with ⟨hc, h⟩ | ⟨hc, h⟩
  · refine V.if_ne (tgt := 15) dX8_firstOf_5 (by decide) (fun hn => absurd hc hn) (fun _ => ?_)
    refine V.aload_n dX8_firstOf_8 rfl ?_
    refine V.get dX8_firstOf_9 flX8_218 nM_0 gM_0 (by decide) (eM_0_30 _ _) ?_
    refine V.goto (tgt := 19) dX8_firstOf_12 (by decide) ?_
    exact V.forget (vX8_firstOf_19 h hQ) trivial
  · refine V.if_ne (tgt := 15) dX8_firstOf_5 (by decide) (fun _ => ?_) (fun hn => absurd hn hc)
    refine V.aload_n dX8_firstOf_15 rfl ?_
    refine V.get dX8_firstOf_16 flX8_221 nM_0 gM_0 (by decide) (eM_0_31 _ _) ?_
    exact V.forget (vX8_firstOf_19 h hQ) trivial
def fX8_first_19 (s0 : Int32) (σ : vMem) : Option (Int32 × vMem) :=
  some (s0, σ)
theorem vX8_first_19 {ad : Nat → Nat} {Q : Option Value → vMem → Prop} {r : (Int32 × vMem)} {s0 : Int32} {σ : vMem} (h : fX8_first_19 s0 σ = some r) (hQ : Q (some (.int r.1)) r.2) : V GM mX8_first ad Q 9 19 [none, none] [.int s0] σ := by
  unfold fX8_first_19 at h
  obtain rfl := Option.some.inj h
  exact V.iret dX8_first_19 rfl hQ
def fX8_first (l1 : Int32) (σ : vMem) : Option (Int32 × vMem) :=
  (fX8_in l1 (0 : Int32) (1 : Int32) σ).bind fun q1 => if q1.1 = 0 then (fX8_first_19 (-2 : Int32) q1.2) else
  ((fX8_firstOf l1 q1.2).bind fun q2 => fX8_first_19 q2.1 q2.2)
theorem vX8_first {ad : Nat → Nat} {Q : Option Value → vMem → Prop} {r : (Int32 × vMem)} {l1 : Int32} {σ : vMem} (h : fX8_first l1 σ = some r) (hQ : Q (some (.int r.1)) r.2) : V GM mX8_first ad Q 9 0 [some (.ref (ad 0)), some (.int l1)] [] σ := by
  unfold fX8_first at h
  refine V.iload_n dX8_first_0 rfl ?_
  refine V.iconst ic_0 dX8_first_1 ?_
  refine V.iconst ic_1 dX8_first_2 ?_
  obtain ⟨q1, h1, h⟩ := bdc h
  refine V.callS3 (mc := mX8_in) (d' := 0) dX8_first_3 lkX8_125 hfX8_in (by decide) (Nat.le_of_ble_eq_true rfl) (Nat.le_of_ble_eq_true rfl) (vX8_in h1 ?_)
  rcases itc h with ⟨hc, h⟩ | ⟨hc, h⟩
  · refine V.if_eq (tgt := 17) dX8_first_6 (by decide) (fun _ => ?_) (fun hn => absurd hc hn)
    refine V.bipush bp_m2 dX8_first_17 ?_
    exact V.forget (vX8_first_19 h hQ) trivial
  · refine V.if_eq (tgt := 17) dX8_first_6 (by decide) (fun hn => absurd hn hc) (fun _ => ?_)
    refine V.aload_n dX8_first_9 rfl ?_
    refine V.iload_n dX8_first_10 rfl ?_
    obtain ⟨q2, h1, h⟩ := bdc h
    refine V.callV1 (mc := mX8_firstOf) (d' := 8) dX8_first_11 lkX8_271 hfX8_firstOf nM_0 gM_0 rfl (by decide) (Nat.le_of_ble_eq_true rfl) (Nat.le_of_ble_eq_true rfl) (vX8_firstOf h1 ?_)
    refine V.goto (tgt := 19) dX8_first_14 (by decide) ?_
    exact V.forget (vX8_first_19 h hQ) trivial
def fX8_greedyNow_41 (K8 : Int32 → Int32 → vMem → Option (Int32 × vMem)) (l2 : Int32) (s0 : Int32) (σ : vMem) : Option (Int32 × vMem) :=
  K8 s0 (l2 + (1 : Int32)) σ
theorem vX8_greedyNow_41 {ad : Nat → Nat} {Q : Option Value → vMem → Prop} {r : (Int32 × vMem)} {K8 : Int32 → Int32 → vMem → Option (Int32 × vMem)} (hK8 : ∀ (l1 : Int32) (l2 : Int32) (σ : vMem), K8 l1 l2 σ = some r → V GM mX8_greedyNow ad Q 8 8 [some (.ref (ad 0)), some (.int l1), some (.int l2)] [] σ) {l2 : Int32} {s0 : Int32} {σ : vMem} (h : fX8_greedyNow_41 K8 l2 s0 σ = some r) (hQ : Q (some (.int r.1)) r.2) : V GM mX8_greedyNow ad Q 8 41 [some (.ref (ad 0)), none, some (.int l2)] [.int s0] σ := by
  unfold fX8_greedyNow_41 at h
  refine V.istore_n dX8_greedyNow_41 (by decide) rfl ?_
  refine V.iinc dX8_greedyNow_42 rfl (ii_1 _) (by decide) rfl ?_
  refine V.goto (tgt := 8) dX8_greedyNow_45 (by decide) ?_
  exact V.forget (hK8 _ _ _ h) ⟨rfl, ⟨rfl, ⟨rfl, trivial⟩⟩⟩
def fX8_greedyNow_36 (K8 : Int32 → Int32 → vMem → Option (Int32 × vMem)) (l2 : Int32) (σ : vMem) : Option (Int32 × vMem) :=
  fX8_greedyNow_41 K8 l2 l2 σ
theorem vX8_greedyNow_36 {ad : Nat → Nat} {Q : Option Value → vMem → Prop} {r : (Int32 × vMem)} {K8 : Int32 → Int32 → vMem → Option (Int32 × vMem)} (hK8 : ∀ (l1 : Int32) (l2 : Int32) (σ : vMem), K8 l1 l2 σ = some r → V GM mX8_greedyNow ad Q 8 8 [some (.ref (ad 0)), some (.int l1), some (.int l2)] [] σ) {l2 : Int32} {σ : vMem} (h : fX8_greedyNow_36 K8 l2 σ = some r) (hQ : Q (some (.int r.1)) r.2) : V GM mX8_greedyNow ad Q 8 36 [some (.ref (ad 0)), none, some (.int l2)] [] σ := by
  unfold fX8_greedyNow_36 at h
  refine V.iload_n dX8_greedyNow_36 rfl ?_
  refine V.goto (tgt := 41) dX8_greedyNow_37 (by decide) ?_
  exact V.forget (vX8_greedyNow_41 hK8 h hQ) ⟨rfl, ⟨rfl, trivial⟩⟩
def fX8_greedyNow_8 (K8 : Int32 → Int32 → vMem → Option (Int32 × vMem)) (l1 : Int32) (l2 : Int32) (σ : vMem) : Option (Int32 × vMem) :=
  if (σ.1 0 2) ≤ l2 then (some (l1, σ)) else
  (if l1 = (-1 : Int32) then (fX8_greedyNow_36 K8 l2 σ) else
  (if l2 < 0 ∨ 9 ≤ l2.toNatClampNeg then none else if l1 < 0 ∨ 9 ≤ l1.toNatClampNeg then none else if (σ.1 21 l2.toNatClampNeg) ≤ (σ.1 21 l1.toNatClampNeg) then (fX8_greedyNow_41 K8 l2 l1 σ) else
  (fX8_greedyNow_36 K8 l2 σ)))
theorem vX8_greedyNow_8 {ad : Nat → Nat} {Q : Option Value → vMem → Prop} {r : (Int32 × vMem)} {K8 : Int32 → Int32 → vMem → Option (Int32 × vMem)} (hK8 : ∀ (l1 : Int32) (l2 : Int32) (σ : vMem), K8 l1 l2 σ = some r → V GM mX8_greedyNow ad Q 8 8 [some (.ref (ad 0)), some (.int l1), some (.int l2)] [] σ) {l1 : Int32} {l2 : Int32} {σ : vMem} (h : fX8_greedyNow_8 K8 l1 l2 σ = some r) (hQ : Q (some (.int r.1)) r.2) : V GM mX8_greedyNow ad Q 8 8 [some (.ref (ad 0)), some (.int l1), some (.int l2)] [] σ := by
  unfold fX8_greedyNow_8 at h
  refine V.iload_n dX8_greedyNow_8 rfl ?_
  refine V.aload_n dX8_greedyNow_9 rfl ?_
  refine V.get dX8_greedyNow_10 flX8_144 nM_0 gM_0 (by decide) (eM_0_2 _ _) ?_
  rcases itc h with ⟨hc, h⟩ | ⟨hc, h⟩
  · refine V.icmp_ge (tgt := 48) dX8_greedyNow_13 (by decide) (fun _ => ?_) (fun hn => absurd hc hn)
    refine V.iload_n dX8_greedyNow_48 rfl ?_
    obtain rfl := Option.some.inj h
    exact V.iret dX8_greedyNow_49 rfl hQ
  · refine V.icmp_ge (tgt := 48) dX8_greedyNow_13 (by decide) (fun hn => absurd hn hc) (fun _ => ?_)
    refine V.iload_n dX8_greedyNow_16 rfl ?_
    refine V.iconst ic_m1 dX8_greedyNow_17 ?_
    rcases itc h with ⟨hc, h⟩ | ⟨hc, h⟩
    · refine V.icmp_eq (tgt := 36) dX8_greedyNow_18 (by decide) (fun _ => ?_) (fun hn => absurd hc hn)
      exact V.forget (vX8_greedyNow_36 hK8 h hQ) ⟨rfl, ⟨rfl, trivial⟩⟩
    · refine V.icmp_eq (tgt := 36) dX8_greedyNow_18 (by decide) (fun hn => absurd hn hc) (fun _ => ?_)
      refine V.aload_n dX8_greedyNow_21 rfl ?_
      refine V.get dX8_greedyNow_22 flX8_71 nM_0 gM_0 (by decide) (eM_0_29 _ _) ?_
      refine V.iload_n dX8_greedyNow_25 rfl ?_
      obtain ⟨hb, h⟩ := ckn h
      refine V.iald dX8_greedyNow_26 nM_21 gM_21 hb ?_
      refine V.aload_n dX8_greedyNow_27 rfl ?_
      refine V.get dX8_greedyNow_28 flX8_71 nM_0 gM_0 (by decide) (eM_0_29 _ _) ?_
      refine V.iload_n dX8_greedyNow_31 rfl ?_
      obtain ⟨hb, h⟩ := ckn h
      refine V.iald dX8_greedyNow_32 nM_21 gM_21 hb ?_
      rcases itc h with ⟨hc, h⟩ | ⟨hc, h⟩
      · refine V.icmp_le (tgt := 40) dX8_greedyNow_33 (by decide) (fun _ => ?_) (fun hn => absurd hc hn)
        refine V.iload_n dX8_greedyNow_40 rfl ?_
        exact V.forget (vX8_greedyNow_41 hK8 h hQ) ⟨rfl, ⟨rfl, trivial⟩⟩
      · refine V.icmp_le (tgt := 40) dX8_greedyNow_33 (by decide) (fun hn => absurd hn hc) (fun _ => ?_)
        exact V.forget (vX8_greedyNow_36 hK8 h hQ) ⟨rfl, ⟨rfl, trivial⟩⟩
def LfX8_greedyNow_8 : Nat → Int32 → Int32 → vMem → Option (Int32 × vMem)
  | 0, _, _, _ => none
  | n + 1, l1, l2, σ => fX8_greedyNow_8 (LfX8_greedyNow_8 n) l1 l2 σ
theorem LvX8_greedyNow_8 {ad : Nat → Nat} {Q : Option Value → vMem → Prop} {r : (Int32 × vMem)} (hQ : Q (some (.int r.1)) r.2) : ∀ (n : Nat) (l1 : Int32) (l2 : Int32) (σ : vMem), LfX8_greedyNow_8 n l1 l2 σ = some r → V GM mX8_greedyNow ad Q 8 8 [some (.ref (ad 0)), some (.int l1), some (.int l2)] [] σ := by
  intro n
  induction n with
  | zero => intro l1 l2 σ h; cases h
  | succ n ih => intro l1 l2 σ h; exact vX8_greedyNow_8 ih h hQ
def fX8_greedyNow (σ : vMem) : Option (Int32 × vMem) :=
  (fX8_runsTold σ).bind fun q1 => LfX8_greedyNow_8 200 (-1 : Int32) (0 : Int32) q1
theorem vX8_greedyNow {ad : Nat → Nat} {Q : Option Value → vMem → Prop} {r : (Int32 × vMem)} {σ : vMem} (h : fX8_greedyNow σ = some r) (hQ : Q (some (.int r.1)) r.2) : V GM mX8_greedyNow ad Q 8 0 [some (.ref (ad 0)), none, none] [] σ := by
  unfold fX8_greedyNow at h
  refine V.aload_n dX8_greedyNow_0 rfl ?_
  obtain ⟨q1, h1, h⟩ := bdc h
  refine V.callV0 (mc := mX8_runsTold) (d' := 7) dX8_greedyNow_1 lkX8_248 hfX8_runsTold nM_0 gM_0 rfl (by decide) (Nat.le_of_ble_eq_true rfl) (Nat.le_of_ble_eq_true rfl) (vX8_runsTold h1 ?_)
  refine V.iconst ic_m1 dX8_greedyNow_4 ?_
  refine V.istore_n dX8_greedyNow_5 (by decide) rfl ?_
  refine V.iconst ic_0 dX8_greedyNow_6 ?_
  refine V.istore_n dX8_greedyNow_7 (by decide) rfl ?_
  exact V.forget (LvX8_greedyNow_8 hQ 200 _ _ _ h) ⟨rfl, ⟨rfl, ⟨rfl, trivial⟩⟩⟩
def fX8_greedy (σ : vMem) : Option (Int32 × vMem) :=
  (fX8_greedyNow σ).bind fun q1 => some (q1.1, q1.2)
theorem vX8_greedy {ad : Nat → Nat} {Q : Option Value → vMem → Prop} {r : (Int32 × vMem)} {σ : vMem} (h : fX8_greedy σ = some r) (hQ : Q (some (.int r.1)) r.2) : V GM mX8_greedy ad Q 9 0 [some (.ref (ad 0))] [] σ := by
  unfold fX8_greedy at h
  refine V.aload_n dX8_greedy_0 rfl ?_
  obtain ⟨q1, h1, h⟩ := bdc h
  refine V.callV0 (mc := mX8_greedyNow) (d' := 8) dX8_greedy_1 lkX8_274 hfX8_greedyNow nM_0 gM_0 rfl (by decide) (Nat.le_of_ble_eq_true rfl) (Nat.le_of_ble_eq_true rfl) (vX8_greedyNow h1 ?_)
  obtain rfl := Option.some.inj h
  exact V.iret dX8_greedy_4 rfl hQ
def fX8_sendOf_101 (s0 : Int32) (σ : vMem) : Option (Int32 × vMem) :=
  some (s0, σ)
theorem vX8_sendOf_101 {ad : Nat → Nat} {Q : Option Value → vMem → Prop} {r : (Int32 × vMem)} {s0 : Int32} {σ : vMem} (h : fX8_sendOf_101 s0 σ = some r) (hQ : Q (some (.int r.1)) r.2) : V GM mX8_sendOf ad Q 7 101 [none, none, none, none, none, none, none, none] [.int s0] σ := by
  unfold fX8_sendOf_101 at h
  obtain rfl := Option.some.inj h
  exact V.iret dX8_sendOf_101 rfl hQ
def fX8_sendOf_90 (l2 : Int32) (l4 : Int32) (l5 : Int32) (σ : vMem) : Option (Int32 × vMem) :=
  if l2 = 0 then (fX8_sendOf_101 l4 σ) else
  (fX8_sendOf_101 l5 σ)
theorem vX8_sendOf_90 {ad : Nat → Nat} {Q : Option Value → vMem → Prop} {r : (Int32 × vMem)} {l2 : Int32} {l4 : Int32} {l5 : Int32} {σ : vMem} (h : fX8_sendOf_90 l2 l4 l5 σ = some r) (hQ : Q (some (.int r.1)) r.2) : V GM mX8_sendOf ad Q 7 90 [none, none, some (.int l2), none, some (.int l4), some (.int l5), none, none] [] σ := by
  unfold fX8_sendOf_90 at h
  refine V.iload_n dX8_sendOf_90 rfl ?_
  rcases itc h with ⟨hc, h⟩ | ⟨hc, h⟩
  · refine V.if_ne (tgt := 99) dX8_sendOf_91 (by decide) (fun hn => absurd hc hn) (fun _ => ?_)
    refine V.iload dX8_sendOf_94 rfl ?_
    refine V.goto (tgt := 101) dX8_sendOf_96 (by decide) ?_
    exact V.forget (vX8_sendOf_101 h hQ) trivial
  · refine V.if_ne (tgt := 99) dX8_sendOf_91 (by decide) (fun _ => ?_) (fun hn => absurd hn hc)
    refine V.iload dX8_sendOf_99 rfl ?_
    exact V.forget (vX8_sendOf_101 h hQ) trivial
def fX8_sendOf_75 (K20 : Int32 → Int32 → Int32 → Int32 → Int32 → Int32 → vMem → Option (Int32 × vMem)) (l1 : Int32) (l2 : Int32) (l3 : Int32) (l4 : Int32) (l6 : Int32) (s0 : Int32) (σ : vMem) : Option (Int32 × vMem) :=
  K20 l1 l2 l3 l4 s0 (l6 + (1 : Int32)) σ
theorem vX8_sendOf_75 {ad : Nat → Nat} {Q : Option Value → vMem → Prop} {r : (Int32 × vMem)} {K20 : Int32 → Int32 → Int32 → Int32 → Int32 → Int32 → vMem → Option (Int32 × vMem)} (hK20 : ∀ (l1 : Int32) (l2 : Int32) (l3 : Int32) (l4 : Int32) (l5 : Int32) (l6 : Int32) (σ : vMem), K20 l1 l2 l3 l4 l5 l6 σ = some r → V GM mX8_sendOf ad Q 7 20 [some (.ref (ad 0)), some (.int l1), some (.int l2), some (.int l3), some (.int l4), some (.int l5), some (.int l6), none] [] σ) {l1 : Int32} {l2 : Int32} {l3 : Int32} {l4 : Int32} {l6 : Int32} {s0 : Int32} {σ : vMem} (h : fX8_sendOf_75 K20 l1 l2 l3 l4 l6 s0 σ = some r) (hQ : Q (some (.int r.1)) r.2) : V GM mX8_sendOf ad Q 7 75 [some (.ref (ad 0)), some (.int l1), some (.int l2), some (.int l3), some (.int l4), none, some (.int l6), none] [.int s0] σ := by
  unfold fX8_sendOf_75 at h
  refine V.istore dX8_sendOf_75 (by decide) rfl ?_
  refine V.iinc dX8_sendOf_77 rfl (ii_1 _) (by decide) rfl ?_
  refine V.goto (tgt := 20) dX8_sendOf_80 (by decide) ?_
  exact V.forget (hK20 _ _ _ _ _ _ _ h) ⟨rfl, ⟨rfl, ⟨rfl, ⟨rfl, ⟨rfl, ⟨rfl, ⟨rfl, trivial⟩⟩⟩⟩⟩⟩⟩
def fX8_sendOf_59 (K20 : Int32 → Int32 → Int32 → Int32 → Int32 → Int32 → vMem → Option (Int32 × vMem)) (l1 : Int32) (l2 : Int32) (l3 : Int32) (l5 : Int32) (l6 : Int32) (l7 : Int32) (s0 : Int32) (σ : vMem) : Option (Int32 × vMem) :=
  if l7 ≤ l5 then (fX8_sendOf_75 K20 l1 l2 l3 s0 l6 l5 σ) else
  (fX8_sendOf_75 K20 l1 l2 l3 s0 l6 l7 σ)
theorem vX8_sendOf_59 {ad : Nat → Nat} {Q : Option Value → vMem → Prop} {r : (Int32 × vMem)} {K20 : Int32 → Int32 → Int32 → Int32 → Int32 → Int32 → vMem → Option (Int32 × vMem)} (hK20 : ∀ (l1 : Int32) (l2 : Int32) (l3 : Int32) (l4 : Int32) (l5 : Int32) (l6 : Int32) (σ : vMem), K20 l1 l2 l3 l4 l5 l6 σ = some r → V GM mX8_sendOf ad Q 7 20 [some (.ref (ad 0)), some (.int l1), some (.int l2), some (.int l3), some (.int l4), some (.int l5), some (.int l6), none] [] σ) {l1 : Int32} {l2 : Int32} {l3 : Int32} {l5 : Int32} {l6 : Int32} {l7 : Int32} {s0 : Int32} {σ : vMem} (h : fX8_sendOf_59 K20 l1 l2 l3 l5 l6 l7 s0 σ = some r) (hQ : Q (some (.int r.1)) r.2) : V GM mX8_sendOf ad Q 7 59 [some (.ref (ad 0)), some (.int l1), some (.int l2), some (.int l3), none, some (.int l5), some (.int l6), some (.int l7)] [.int s0] σ := by
  unfold fX8_sendOf_59 at h
  refine V.istore dX8_sendOf_59 (by decide) rfl ?_
  refine V.iload dX8_sendOf_61 rfl ?_
  refine V.iload dX8_sendOf_63 rfl ?_
  rcases itc h with ⟨hc, h⟩ | ⟨hc, h⟩
  · refine V.icmp_le (tgt := 73) dX8_sendOf_65 (by decide) (fun _ => ?_) (fun hn => absurd hc hn)
    refine V.iload dX8_sendOf_73 rfl ?_
    exact V.forget (vX8_sendOf_75 hK20 h hQ) ⟨rfl, ⟨rfl, ⟨rfl, ⟨rfl, ⟨rfl, ⟨rfl, trivial⟩⟩⟩⟩⟩⟩
  · refine V.icmp_le (tgt := 73) dX8_sendOf_65 (by decide) (fun hn => absurd hn hc) (fun _ => ?_)
    refine V.iload dX8_sendOf_68 rfl ?_
    refine V.goto (tgt := 75) dX8_sendOf_70 (by decide) ?_
    exact V.forget (vX8_sendOf_75 hK20 h hQ) ⟨rfl, ⟨rfl, ⟨rfl, ⟨rfl, ⟨rfl, ⟨rfl, trivial⟩⟩⟩⟩⟩⟩
def fX8_sendOf_35 (K20 : Int32 → Int32 → Int32 → Int32 → Int32 → Int32 → vMem → Option (Int32 × vMem)) (l1 : Int32) (l2 : Int32) (l3 : Int32) (l4 : Int32) (l5 : Int32) (l6 : Int32) (σ : vMem) : Option (Int32 × vMem) :=
  (fX8_runs σ).bind fun q1 => (fX8_upMuch q1).bind fun q2 => if q2.1 ≤ l5 then (fX8_sendOf_59 K20 l1 l2 l3 l5 l6 q2.1 l4 q2.2) else
  (fX8_sendOf_59 K20 l1 l2 l3 l5 l6 q2.1 l6 q2.2)
theorem vX8_sendOf_35 {ad : Nat → Nat} {Q : Option Value → vMem → Prop} {r : (Int32 × vMem)} {K20 : Int32 → Int32 → Int32 → Int32 → Int32 → Int32 → vMem → Option (Int32 × vMem)} (hK20 : ∀ (l1 : Int32) (l2 : Int32) (l3 : Int32) (l4 : Int32) (l5 : Int32) (l6 : Int32) (σ : vMem), K20 l1 l2 l3 l4 l5 l6 σ = some r → V GM mX8_sendOf ad Q 7 20 [some (.ref (ad 0)), some (.int l1), some (.int l2), some (.int l3), some (.int l4), some (.int l5), some (.int l6), none] [] σ) {l1 : Int32} {l2 : Int32} {l3 : Int32} {l4 : Int32} {l5 : Int32} {l6 : Int32} {σ : vMem} (h : fX8_sendOf_35 K20 l1 l2 l3 l4 l5 l6 σ = some r) (hQ : Q (some (.int r.1)) r.2) : V GM mX8_sendOf ad Q 7 35 [some (.ref (ad 0)), some (.int l1), some (.int l2), some (.int l3), some (.int l4), some (.int l5), some (.int l6), none] [] σ := by
  unfold fX8_sendOf_35 at h
  refine V.aload_n dX8_sendOf_35 rfl ?_
  obtain ⟨q1, h1, h⟩ := bdc h
  refine V.callV0 (mc := mX8_runs) (d' := 3) dX8_sendOf_36 lkX8_245 hfX8_runs nM_0 gM_0 rfl (by decide) (Nat.le_of_ble_eq_true rfl) (Nat.le_of_ble_eq_true rfl) (vX8_runs h1 ?_)
  refine V.aload_n dX8_sendOf_39 rfl ?_
  obtain ⟨q2, h1, h⟩ := bdc h
  refine V.callV0 (mc := mX8_upMuch) (d' := 0) dX8_sendOf_40 lkX8_264 hfX8_upMuch nM_0 gM_0 rfl (by decide) (Nat.le_of_ble_eq_true rfl) (Nat.le_of_ble_eq_true rfl) (vX8_upMuch h1 ?_)
  refine V.istore dX8_sendOf_43 (by decide) rfl ?_
  refine V.iload dX8_sendOf_45 rfl ?_
  refine V.iload dX8_sendOf_47 rfl ?_
  rcases itc h with ⟨hc, h⟩ | ⟨hc, h⟩
  · refine V.icmp_le (tgt := 57) dX8_sendOf_49 (by decide) (fun _ => ?_) (fun hn => absurd hc hn)
    refine V.iload dX8_sendOf_57 rfl ?_
    exact V.forget (vX8_sendOf_59 hK20 h hQ) ⟨rfl, ⟨rfl, ⟨rfl, ⟨rfl, ⟨rfl, ⟨rfl, ⟨rfl, trivial⟩⟩⟩⟩⟩⟩⟩
  · refine V.icmp_le (tgt := 57) dX8_sendOf_49 (by decide) (fun hn => absurd hn hc) (fun _ => ?_)
    refine V.iload dX8_sendOf_52 rfl ?_
    refine V.goto (tgt := 59) dX8_sendOf_54 (by decide) ?_
    exact V.forget (vX8_sendOf_59 hK20 h hQ) ⟨rfl, ⟨rfl, ⟨rfl, ⟨rfl, ⟨rfl, ⟨rfl, ⟨rfl, trivial⟩⟩⟩⟩⟩⟩⟩
def fX8_sendOf_20 (K20 : Int32 → Int32 → Int32 → Int32 → Int32 → Int32 → vMem → Option (Int32 × vMem)) (l1 : Int32) (l2 : Int32) (l3 : Int32) (l4 : Int32) (l5 : Int32) (l6 : Int32) (σ : vMem) : Option (Int32 × vMem) :=
  if (30 : Int32) ≤ l6 then (if l1 < 0 ∨ 9 ≤ l1.toNatClampNeg then none else fX8_sendOf_90 l2 l4 l5 (vup σ 6 l1.toNatClampNeg l3)) else
  (if l1 < 0 ∨ 9 ≤ l1.toNatClampNeg then none else fX8_sendOf_35 K20 l1 l2 l3 l4 l5 l6 (vup σ 6 l1.toNatClampNeg l6))
theorem vX8_sendOf_20 {ad : Nat → Nat} {Q : Option Value → vMem → Prop} {r : (Int32 × vMem)} {K20 : Int32 → Int32 → Int32 → Int32 → Int32 → Int32 → vMem → Option (Int32 × vMem)} (hK20 : ∀ (l1 : Int32) (l2 : Int32) (l3 : Int32) (l4 : Int32) (l5 : Int32) (l6 : Int32) (σ : vMem), K20 l1 l2 l3 l4 l5 l6 σ = some r → V GM mX8_sendOf ad Q 7 20 [some (.ref (ad 0)), some (.int l1), some (.int l2), some (.int l3), some (.int l4), some (.int l5), some (.int l6), none] [] σ) {l1 : Int32} {l2 : Int32} {l3 : Int32} {l4 : Int32} {l5 : Int32} {l6 : Int32} {σ : vMem} (h : fX8_sendOf_20 K20 l1 l2 l3 l4 l5 l6 σ = some r) (hQ : Q (some (.int r.1)) r.2) : V GM mX8_sendOf ad Q 7 20 [some (.ref (ad 0)), some (.int l1), some (.int l2), some (.int l3), some (.int l4), some (.int l5), some (.int l6), none] [] σ := by
  unfold fX8_sendOf_20 at h
  refine V.iload dX8_sendOf_20 rfl ?_
  refine V.bipush bp_30 dX8_sendOf_22 ?_
  rcases itc h with ⟨hc, h⟩ | ⟨hc, h⟩
  · refine V.icmp_ge (tgt := 83) dX8_sendOf_24 (by decide) (fun _ => ?_) (fun hn => absurd hc hn)
    refine V.aload_n dX8_sendOf_83 rfl ?_
    refine V.get dX8_sendOf_84 flX8_25 nM_0 gM_0 (by decide) (eM_0_7 _ _) ?_
    refine V.iload_n dX8_sendOf_87 rfl ?_
    refine V.iload_n dX8_sendOf_88 rfl ?_
    obtain ⟨hb, h⟩ := ckn h
    refine V.iast dX8_sendOf_89 nM_6 gM_6 hb ?_
    exact V.forget (vX8_sendOf_90 h hQ) ⟨rfl, ⟨rfl, ⟨rfl, trivial⟩⟩⟩
  · refine V.icmp_ge (tgt := 83) dX8_sendOf_24 (by decide) (fun hn => absurd hn hc) (fun _ => ?_)
    refine V.aload_n dX8_sendOf_27 rfl ?_
    refine V.get dX8_sendOf_28 flX8_25 nM_0 gM_0 (by decide) (eM_0_7 _ _) ?_
    refine V.iload_n dX8_sendOf_31 rfl ?_
    refine V.iload dX8_sendOf_32 rfl ?_
    obtain ⟨hb, h⟩ := ckn h
    refine V.iast dX8_sendOf_34 nM_6 gM_6 hb ?_
    exact V.forget (vX8_sendOf_35 hK20 h hQ) ⟨rfl, ⟨rfl, ⟨rfl, ⟨rfl, ⟨rfl, ⟨rfl, ⟨rfl, trivial⟩⟩⟩⟩⟩⟩⟩
def LfX8_sendOf_20 : Nat → Int32 → Int32 → Int32 → Int32 → Int32 → Int32 → vMem → Option (Int32 × vMem)
  | 0, _, _, _, _, _, _, _ => none
  | n + 1, l1, l2, l3, l4, l5, l6, σ => fX8_sendOf_20 (LfX8_sendOf_20 n) l1 l2 l3 l4 l5 l6 σ
theorem LvX8_sendOf_20 {ad : Nat → Nat} {Q : Option Value → vMem → Prop} {r : (Int32 × vMem)} (hQ : Q (some (.int r.1)) r.2) : ∀ (n : Nat) (l1 : Int32) (l2 : Int32) (l3 : Int32) (l4 : Int32) (l5 : Int32) (l6 : Int32) (σ : vMem), LfX8_sendOf_20 n l1 l2 l3 l4 l5 l6 σ = some r → V GM mX8_sendOf ad Q 7 20 [some (.ref (ad 0)), some (.int l1), some (.int l2), some (.int l3), some (.int l4), some (.int l5), some (.int l6), none] [] σ := by
  intro n
  induction n with
  | zero => intro l1 l2 l3 l4 l5 l6 σ h; cases h
  | succ n ih => intro l1 l2 l3 l4 l5 l6 σ h; exact vX8_sendOf_20 ih h hQ
def fX8_sendOf (l1 : Int32) (l2 : Int32) (σ : vMem) : Option (Int32 × vMem) :=
  (fX8_asTold σ).bind fun q1 => if l1 < 0 ∨ 9 ≤ l1.toNatClampNeg then none else LfX8_sendOf_20 200 l1 l2 (q1.1 6 l1.toNatClampNeg) (-1 : Int32) (-1 : Int32) (0 : Int32) q1
theorem vX8_sendOf {ad : Nat → Nat} {Q : Option Value → vMem → Prop} {r : (Int32 × vMem)} {l1 : Int32} {l2 : Int32} {σ : vMem} (h : fX8_sendOf l1 l2 σ = some r) (hQ : Q (some (.int r.1)) r.2) : V GM mX8_sendOf ad Q 7 0 [some (.ref (ad 0)), some (.int l1), some (.int l2), none, none, none, none, none] [] σ := by
  unfold fX8_sendOf at h
  refine V.aload_n dX8_sendOf_0 rfl ?_
  obtain ⟨q1, h1, h⟩ := bdc h
  refine V.callV0 (mc := mX8_asTold) (d' := 6) dX8_sendOf_1 lkX8_242 hfX8_asTold nM_0 gM_0 rfl (by decide) (Nat.le_of_ble_eq_true rfl) (Nat.le_of_ble_eq_true rfl) (vX8_asTold h1 ?_)
  refine V.aload_n dX8_sendOf_4 rfl ?_
  refine V.get dX8_sendOf_5 flX8_25 nM_0 gM_0 (by decide) (eM_0_7 _ _) ?_
  refine V.iload_n dX8_sendOf_8 rfl ?_
  obtain ⟨hb, h⟩ := ckn h
  refine V.iald dX8_sendOf_9 nM_6 gM_6 hb ?_
  refine V.istore_n dX8_sendOf_10 (by decide) rfl ?_
  refine V.iconst ic_m1 dX8_sendOf_11 ?_
  refine V.istore dX8_sendOf_12 (by decide) rfl ?_
  refine V.iconst ic_m1 dX8_sendOf_14 ?_
  refine V.istore dX8_sendOf_15 (by decide) rfl ?_
  refine V.iconst ic_0 dX8_sendOf_17 ?_
  refine V.istore dX8_sendOf_18 (by decide) rfl ?_
  exact V.forget (LvX8_sendOf_20 hQ 200 _ _ _ _ _ _ _ h) ⟨rfl, ⟨rfl, ⟨rfl, ⟨rfl, ⟨rfl, ⟨rfl, ⟨rfl, trivial⟩⟩⟩⟩⟩⟩⟩
def fX8_send_28 (s0 : Int32) (σ : vMem) : Option (Int32 × vMem) :=
  some (s0, σ)
theorem vX8_send_28 {ad : Nat → Nat} {Q : Option Value → vMem → Prop} {r : (Int32 × vMem)} {s0 : Int32} {σ : vMem} (h : fX8_send_28 s0 σ = some r) (hQ : Q (some (.int r.1)) r.2) : V GM mX8_send ad Q 8 28 [none, none, none] [.int s0] σ := by
  unfold fX8_send_28 at h
  obtain rfl := Option.some.inj h
  exact V.iret dX8_send_28 rfl hQ
def fX8_send_26 (σ : vMem) : Option (Int32 × vMem) :=
  fX8_send_28 (-2 : Int32) σ
theorem vX8_send_26 {ad : Nat → Nat} {Q : Option Value → vMem → Prop} {r : (Int32 × vMem)} {σ : vMem} (h : fX8_send_26 σ = some r) (hQ : Q (some (.int r.1)) r.2) : V GM mX8_send ad Q 8 26 [none, none, none] [] σ := by
  unfold fX8_send_26 at h
  refine V.bipush bp_m2 dX8_send_26 ?_
  exact V.forget (vX8_send_28 h hQ) trivial
def fX8_send (l1 : Int32) (l2 : Int32) (σ : vMem) : Option (Int32 × vMem) :=
  (fX8_isBasket l1 σ).bind fun q1 => if q1.1 = 0 then (fX8_send_26 q1.2) else
  ((fX8_in l2 (0 : Int32) (1 : Int32) q1.2).bind fun q2 => if q2.1 = 0 then (fX8_send_26 q2.2) else
  ((fX8_sendOf l1 l2 q2.2).bind fun q3 => fX8_send_28 q3.1 q3.2))
theorem vX8_send {ad : Nat → Nat} {Q : Option Value → vMem → Prop} {r : (Int32 × vMem)} {l1 : Int32} {l2 : Int32} {σ : vMem} (h : fX8_send l1 l2 σ = some r) (hQ : Q (some (.int r.1)) r.2) : V GM mX8_send ad Q 8 0 [some (.ref (ad 0)), some (.int l1), some (.int l2)] [] σ := by
  unfold fX8_send at h
  refine V.aload_n dX8_send_0 rfl ?_
  refine V.iload_n dX8_send_1 rfl ?_
  obtain ⟨q1, h1, h⟩ := bdc h
  refine V.callV1 (mc := mX8_isBasket) (d' := 6) dX8_send_2 lkX8_172 hfX8_isBasket nM_0 gM_0 rfl (by decide) (Nat.le_of_ble_eq_true rfl) (Nat.le_of_ble_eq_true rfl) (vX8_isBasket h1 ?_)
  rcases itc h with ⟨hc, h⟩ | ⟨hc, h⟩
  · refine V.if_eq (tgt := 26) dX8_send_5 (by decide) (fun _ => ?_) (fun hn => absurd hc hn)
    exact V.forget (vX8_send_26 h hQ) trivial
  · refine V.if_eq (tgt := 26) dX8_send_5 (by decide) (fun hn => absurd hn hc) (fun _ => ?_)
    refine V.iload_n dX8_send_8 rfl ?_
    refine V.iconst ic_0 dX8_send_9 ?_
    refine V.iconst ic_1 dX8_send_10 ?_
    obtain ⟨q2, h1, h⟩ := bdc h
    refine V.callS3 (mc := mX8_in) (d' := 0) dX8_send_11 lkX8_125 hfX8_in (by decide) (Nat.le_of_ble_eq_true rfl) (Nat.le_of_ble_eq_true rfl) (vX8_in h1 ?_)
    rcases itc h with ⟨hc, h⟩ | ⟨hc, h⟩
    · refine V.if_eq (tgt := 26) dX8_send_14 (by decide) (fun _ => ?_) (fun hn => absurd hc hn)
      exact V.forget (vX8_send_26 h hQ) trivial
    · refine V.if_eq (tgt := 26) dX8_send_14 (by decide) (fun hn => absurd hn hc) (fun _ => ?_)
      refine V.aload_n dX8_send_17 rfl ?_
      refine V.iload_n dX8_send_18 rfl ?_
      refine V.iload_n dX8_send_19 rfl ?_
      obtain ⟨q3, h1, h⟩ := bdc h
      refine V.callV2 (mc := mX8_sendOf) (d' := 7) dX8_send_20 lkX8_277 hfX8_sendOf nM_0 gM_0 rfl (by decide) (Nat.le_of_ble_eq_true rfl) (Nat.le_of_ble_eq_true rfl) (vX8_sendOf h1 ?_)
      refine V.goto (tgt := 28) dX8_send_23 (by decide) ?_
      exact V.forget (vX8_send_28 h hQ) trivial
def fX8_loafOf_83 (l4 : Int32) (σ : vMem) : Option (Int32 × vMem) :=
  some (l4, σ)
theorem vX8_loafOf_83 {ad : Nat → Nat} {Q : Option Value → vMem → Prop} {r : (Int32 × vMem)} {l4 : Int32} {σ : vMem} (h : fX8_loafOf_83 l4 σ = some r) (hQ : Q (some (.int r.1)) r.2) : V GM mX8_loafOf ad Q 7 83 [none, none, none, none, some (.int l4), none] [] σ := by
  unfold fX8_loafOf_83 at h
  refine V.iload dX8_loafOf_83 rfl ?_
  obtain rfl := Option.some.inj h
  exact V.iret dX8_loafOf_85 rfl hQ
def fX8_loafOf_76 (l1 : Int32) (l3 : Int32) (l4 : Int32) (σ : vMem) : Option (Int32 × vMem) :=
  if l1 < 0 ∨ 9 ≤ l1.toNatClampNeg then none else fX8_loafOf_83 l4 (vup σ 7 l1.toNatClampNeg l3)
theorem vX8_loafOf_76 {ad : Nat → Nat} {Q : Option Value → vMem → Prop} {r : (Int32 × vMem)} {l1 : Int32} {l3 : Int32} {l4 : Int32} {σ : vMem} (h : fX8_loafOf_76 l1 l3 l4 σ = some r) (hQ : Q (some (.int r.1)) r.2) : V GM mX8_loafOf ad Q 7 76 [some (.ref (ad 0)), some (.int l1), none, some (.int l3), some (.int l4), none] [] σ := by
  unfold fX8_loafOf_76 at h
  refine V.aload_n dX8_loafOf_76 rfl ?_
  refine V.get dX8_loafOf_77 flX8_28 nM_0 gM_0 (by decide) (eM_0_8 _ _) ?_
  refine V.iload_n dX8_loafOf_80 rfl ?_
  refine V.iload_n dX8_loafOf_81 rfl ?_
  obtain ⟨hb, h⟩ := ckn h
  refine V.iast dX8_loafOf_82 nM_7 gM_7 hb ?_
  exact V.forget (vX8_loafOf_83 h hQ) ⟨rfl, trivial⟩
def fX8_loafOf_68 (K17 : Int32 → Int32 → Int32 → Int32 → Int32 → vMem → Option (Int32 × vMem)) (l1 : Int32) (l2 : Int32) (l3 : Int32) (l5 : Int32) (s0 : Int32) (σ : vMem) : Option (Int32 × vMem) :=
  K17 l1 l2 l3 s0 (l5 + (1 : Int32)) σ
theorem vX8_loafOf_68 {ad : Nat → Nat} {Q : Option Value → vMem → Prop} {r : (Int32 × vMem)} {K17 : Int32 → Int32 → Int32 → Int32 → Int32 → vMem → Option (Int32 × vMem)} (hK17 : ∀ (l1 : Int32) (l2 : Int32) (l3 : Int32) (l4 : Int32) (l5 : Int32) (σ : vMem), K17 l1 l2 l3 l4 l5 σ = some r → V GM mX8_loafOf ad Q 7 17 [some (.ref (ad 0)), some (.int l1), some (.int l2), some (.int l3), some (.int l4), some (.int l5)] [] σ) {l1 : Int32} {l2 : Int32} {l3 : Int32} {l5 : Int32} {s0 : Int32} {σ : vMem} (h : fX8_loafOf_68 K17 l1 l2 l3 l5 s0 σ = some r) (hQ : Q (some (.int r.1)) r.2) : V GM mX8_loafOf ad Q 7 68 [some (.ref (ad 0)), some (.int l1), some (.int l2), some (.int l3), none, some (.int l5)] [.int s0] σ := by
  unfold fX8_loafOf_68 at h
  refine V.istore dX8_loafOf_68 (by decide) rfl ?_
  refine V.iinc dX8_loafOf_70 rfl (ii_1 _) (by decide) rfl ?_
  refine V.goto (tgt := 17) dX8_loafOf_73 (by decide) ?_
  exact V.forget (hK17 _ _ _ _ _ _ h) ⟨rfl, ⟨rfl, ⟨rfl, ⟨rfl, ⟨rfl, ⟨rfl, trivial⟩⟩⟩⟩⟩⟩
def fX8_loafOf_67 (K17 : Int32 → Int32 → Int32 → Int32 → Int32 → vMem → Option (Int32 × vMem)) (l1 : Int32) (l2 : Int32) (l3 : Int32) (l5 : Int32) (σ : vMem) : Option (Int32 × vMem) :=
  fX8_loafOf_68 K17 l1 l2 l3 l5 (-1 : Int32) σ
theorem vX8_loafOf_67 {ad : Nat → Nat} {Q : Option Value → vMem → Prop} {r : (Int32 × vMem)} {K17 : Int32 → Int32 → Int32 → Int32 → Int32 → vMem → Option (Int32 × vMem)} (hK17 : ∀ (l1 : Int32) (l2 : Int32) (l3 : Int32) (l4 : Int32) (l5 : Int32) (σ : vMem), K17 l1 l2 l3 l4 l5 σ = some r → V GM mX8_loafOf ad Q 7 17 [some (.ref (ad 0)), some (.int l1), some (.int l2), some (.int l3), some (.int l4), some (.int l5)] [] σ) {l1 : Int32} {l2 : Int32} {l3 : Int32} {l5 : Int32} {σ : vMem} (h : fX8_loafOf_67 K17 l1 l2 l3 l5 σ = some r) (hQ : Q (some (.int r.1)) r.2) : V GM mX8_loafOf ad Q 7 67 [some (.ref (ad 0)), some (.int l1), some (.int l2), some (.int l3), none, some (.int l5)] [] σ := by
  unfold fX8_loafOf_67 at h
  refine V.iconst ic_m1 dX8_loafOf_67 ?_
  exact V.forget (vX8_loafOf_68 hK17 h hQ) ⟨rfl, ⟨rfl, ⟨rfl, ⟨rfl, ⟨rfl, trivial⟩⟩⟩⟩⟩
def fX8_loafOf_38 (K17 : Int32 → Int32 → Int32 → Int32 → Int32 → vMem → Option (Int32 × vMem)) (l1 : Int32) (l2 : Int32) (l3 : Int32) (l5 : Int32) (σ : vMem) : Option (Int32 × vMem) :=
  (fX8_runs σ).bind fun q1 => if l1 < 0 ∨ 8 ≤ l1.toNatClampNeg then none else if (q1.1 18 l1.toNatClampNeg) = (-1 : Int32) then (fX8_loafOf_67 K17 l1 l2 l3 l5 q1) else
  (if l1 < 0 ∨ 8 ≤ l1.toNatClampNeg then none else if (q1.1 13 l1.toNatClampNeg) < l2 then (fX8_loafOf_67 K17 l1 l2 l3 l5 q1) else
  (fX8_loafOf_68 K17 l1 l2 l3 l5 l5 q1))
theorem vX8_loafOf_38 {ad : Nat → Nat} {Q : Option Value → vMem → Prop} {r : (Int32 × vMem)} {K17 : Int32 → Int32 → Int32 → Int32 → Int32 → vMem → Option (Int32 × vMem)} (hK17 : ∀ (l1 : Int32) (l2 : Int32) (l3 : Int32) (l4 : Int32) (l5 : Int32) (σ : vMem), K17 l1 l2 l3 l4 l5 σ = some r → V GM mX8_loafOf ad Q 7 17 [some (.ref (ad 0)), some (.int l1), some (.int l2), some (.int l3), some (.int l4), some (.int l5)] [] σ) {l1 : Int32} {l2 : Int32} {l3 : Int32} {l5 : Int32} {σ : vMem} (h : fX8_loafOf_38 K17 l1 l2 l3 l5 σ = some r) (hQ : Q (some (.int r.1)) r.2) : V GM mX8_loafOf ad Q 7 38 [some (.ref (ad 0)), some (.int l1), some (.int l2), some (.int l3), none, some (.int l5)] [] σ := by
  unfold fX8_loafOf_38 at h
  refine V.aload_n dX8_loafOf_38 rfl ?_
  obtain ⟨q1, h1, h⟩ := bdc h
  refine V.callV0 (mc := mX8_runs) (d' := 3) dX8_loafOf_39 lkX8_245 hfX8_runs nM_0 gM_0 rfl (by decide) (Nat.le_of_ble_eq_true rfl) (Nat.le_of_ble_eq_true rfl) (vX8_runs h1 ?_)
  refine V.aload_n dX8_loafOf_42 rfl ?_
  refine V.get dX8_loafOf_43 flX8_62 nM_0 gM_0 (by decide) (eM_0_26 _ _) ?_
  refine V.iload_n dX8_loafOf_46 rfl ?_
  obtain ⟨hb, h⟩ := ckn h
  refine V.iald dX8_loafOf_47 nM_18 gM_18 hb ?_
  refine V.iconst ic_m1 dX8_loafOf_48 ?_
  rcases itc h with ⟨hc, h⟩ | ⟨hc, h⟩
  · refine V.icmp_eq (tgt := 67) dX8_loafOf_49 (by decide) (fun _ => ?_) (fun hn => absurd hc hn)
    exact V.forget (vX8_loafOf_67 hK17 h hQ) ⟨rfl, ⟨rfl, ⟨rfl, ⟨rfl, ⟨rfl, trivial⟩⟩⟩⟩⟩
  · refine V.icmp_eq (tgt := 67) dX8_loafOf_49 (by decide) (fun hn => absurd hn hc) (fun _ => ?_)
    refine V.aload_n dX8_loafOf_52 rfl ?_
    refine V.get dX8_loafOf_53 flX8_46 nM_0 gM_0 (by decide) (eM_0_21 _ _) ?_
    refine V.iload_n dX8_loafOf_56 rfl ?_
    obtain ⟨hb, h⟩ := ckn h
    refine V.iald dX8_loafOf_57 nM_13 gM_13 hb ?_
    refine V.iload_n dX8_loafOf_58 rfl ?_
    rcases itc h with ⟨hc, h⟩ | ⟨hc, h⟩
    · refine V.icmp_lt (tgt := 67) dX8_loafOf_59 (by decide) (fun _ => ?_) (fun hn => absurd hc hn)
      exact V.forget (vX8_loafOf_67 hK17 h hQ) ⟨rfl, ⟨rfl, ⟨rfl, ⟨rfl, ⟨rfl, trivial⟩⟩⟩⟩⟩
    · refine V.icmp_lt (tgt := 67) dX8_loafOf_59 (by decide) (fun hn => absurd hn hc) (fun _ => ?_)
      refine V.iload dX8_loafOf_62 rfl ?_
      refine V.goto (tgt := 68) dX8_loafOf_64 (by decide) ?_
      exact V.forget (vX8_loafOf_68 hK17 h hQ) ⟨rfl, ⟨rfl, ⟨rfl, ⟨rfl, ⟨rfl, trivial⟩⟩⟩⟩⟩
def fX8_loafOf_17 (K17 : Int32 → Int32 → Int32 → Int32 → Int32 → vMem → Option (Int32 × vMem)) (l1 : Int32) (l2 : Int32) (l3 : Int32) (l4 : Int32) (l5 : Int32) (σ : vMem) : Option (Int32 × vMem) :=
  if (100 : Int32) ≤ l5 then (fX8_loafOf_76 l1 l3 l4 σ) else
  (if l4 = (-1 : Int32) then (if l1 < 0 ∨ 9 ≤ l1.toNatClampNeg then none else fX8_loafOf_38 K17 l1 l2 l3 l5 (vup σ 7 l1.toNatClampNeg l5)) else
  (fX8_loafOf_76 l1 l3 l4 σ))
theorem vX8_loafOf_17 {ad : Nat → Nat} {Q : Option Value → vMem → Prop} {r : (Int32 × vMem)} {K17 : Int32 → Int32 → Int32 → Int32 → Int32 → vMem → Option (Int32 × vMem)} (hK17 : ∀ (l1 : Int32) (l2 : Int32) (l3 : Int32) (l4 : Int32) (l5 : Int32) (σ : vMem), K17 l1 l2 l3 l4 l5 σ = some r → V GM mX8_loafOf ad Q 7 17 [some (.ref (ad 0)), some (.int l1), some (.int l2), some (.int l3), some (.int l4), some (.int l5)] [] σ) {l1 : Int32} {l2 : Int32} {l3 : Int32} {l4 : Int32} {l5 : Int32} {σ : vMem} (h : fX8_loafOf_17 K17 l1 l2 l3 l4 l5 σ = some r) (hQ : Q (some (.int r.1)) r.2) : V GM mX8_loafOf ad Q 7 17 [some (.ref (ad 0)), some (.int l1), some (.int l2), some (.int l3), some (.int l4), some (.int l5)] [] σ := by
  unfold fX8_loafOf_17 at h
  refine V.iload dX8_loafOf_17 rfl ?_
  refine V.bipush bp_100 dX8_loafOf_19 ?_
  rcases itc h with ⟨hc, h⟩ | ⟨hc, h⟩
  · refine V.icmp_ge (tgt := 76) dX8_loafOf_21 (by decide) (fun _ => ?_) (fun hn => absurd hc hn)
    exact V.forget (vX8_loafOf_76 h hQ) ⟨rfl, ⟨rfl, ⟨rfl, ⟨rfl, trivial⟩⟩⟩⟩
  · refine V.icmp_ge (tgt := 76) dX8_loafOf_21 (by decide) (fun hn => absurd hn hc) (fun _ => ?_)
    refine V.iload dX8_loafOf_24 rfl ?_
    refine V.iconst ic_m1 dX8_loafOf_26 ?_
    rcases itc h with ⟨hc, h⟩ | ⟨hc, h⟩
    · refine V.icmp_ne (tgt := 76) dX8_loafOf_27 (by decide) (fun hn => absurd hc hn) (fun _ => ?_)
      refine V.aload_n dX8_loafOf_30 rfl ?_
      refine V.get dX8_loafOf_31 flX8_28 nM_0 gM_0 (by decide) (eM_0_8 _ _) ?_
      refine V.iload_n dX8_loafOf_34 rfl ?_
      refine V.iload dX8_loafOf_35 rfl ?_
      obtain ⟨hb, h⟩ := ckn h
      refine V.iast dX8_loafOf_37 nM_7 gM_7 hb ?_
      exact V.forget (vX8_loafOf_38 hK17 h hQ) ⟨rfl, ⟨rfl, ⟨rfl, ⟨rfl, ⟨rfl, trivial⟩⟩⟩⟩⟩
    · refine V.icmp_ne (tgt := 76) dX8_loafOf_27 (by decide) (fun _ => ?_) (fun hn => absurd hn hc)
      exact V.forget (vX8_loafOf_76 h hQ) ⟨rfl, ⟨rfl, ⟨rfl, ⟨rfl, trivial⟩⟩⟩⟩
def LfX8_loafOf_17 : Nat → Int32 → Int32 → Int32 → Int32 → Int32 → vMem → Option (Int32 × vMem)
  | 0, _, _, _, _, _, _ => none
  | n + 1, l1, l2, l3, l4, l5, σ => fX8_loafOf_17 (LfX8_loafOf_17 n) l1 l2 l3 l4 l5 σ
theorem LvX8_loafOf_17 {ad : Nat → Nat} {Q : Option Value → vMem → Prop} {r : (Int32 × vMem)} (hQ : Q (some (.int r.1)) r.2) : ∀ (n : Nat) (l1 : Int32) (l2 : Int32) (l3 : Int32) (l4 : Int32) (l5 : Int32) (σ : vMem), LfX8_loafOf_17 n l1 l2 l3 l4 l5 σ = some r → V GM mX8_loafOf ad Q 7 17 [some (.ref (ad 0)), some (.int l1), some (.int l2), some (.int l3), some (.int l4), some (.int l5)] [] σ := by
  intro n
  induction n with
  | zero => intro l1 l2 l3 l4 l5 σ h; cases h
  | succ n ih => intro l1 l2 l3 l4 l5 σ h; exact vX8_loafOf_17 ih h hQ
def fX8_loafOf (l1 : Int32) (l2 : Int32) (σ : vMem) : Option (Int32 × vMem) :=
  (fX8_asTold σ).bind fun q1 => if l1 < 0 ∨ 9 ≤ l1.toNatClampNeg then none else LfX8_loafOf_17 200 l1 l2 (q1.1 7 l1.toNatClampNeg) (-1 : Int32) (0 : Int32) q1
theorem vX8_loafOf {ad : Nat → Nat} {Q : Option Value → vMem → Prop} {r : (Int32 × vMem)} {l1 : Int32} {l2 : Int32} {σ : vMem} (h : fX8_loafOf l1 l2 σ = some r) (hQ : Q (some (.int r.1)) r.2) : V GM mX8_loafOf ad Q 7 0 [some (.ref (ad 0)), some (.int l1), some (.int l2), none, none, none] [] σ := by
  unfold fX8_loafOf at h
  refine V.aload_n dX8_loafOf_0 rfl ?_
  obtain ⟨q1, h1, h⟩ := bdc h
  refine V.callV0 (mc := mX8_asTold) (d' := 6) dX8_loafOf_1 lkX8_242 hfX8_asTold nM_0 gM_0 rfl (by decide) (Nat.le_of_ble_eq_true rfl) (Nat.le_of_ble_eq_true rfl) (vX8_asTold h1 ?_)
  refine V.aload_n dX8_loafOf_4 rfl ?_
  refine V.get dX8_loafOf_5 flX8_28 nM_0 gM_0 (by decide) (eM_0_8 _ _) ?_
  refine V.iload_n dX8_loafOf_8 rfl ?_
  obtain ⟨hb, h⟩ := ckn h
  refine V.iald dX8_loafOf_9 nM_7 gM_7 hb ?_
  refine V.istore_n dX8_loafOf_10 (by decide) rfl ?_
  refine V.iconst ic_m1 dX8_loafOf_11 ?_
  refine V.istore dX8_loafOf_12 (by decide) rfl ?_
  refine V.iconst ic_0 dX8_loafOf_14 ?_
  refine V.istore dX8_loafOf_15 (by decide) rfl ?_
  exact V.forget (LvX8_loafOf_17 hQ 200 _ _ _ _ _ _ h) ⟨rfl, ⟨rfl, ⟨rfl, ⟨rfl, ⟨rfl, ⟨rfl, trivial⟩⟩⟩⟩⟩⟩
def fX8_loaf_29 (s0 : Int32) (σ : vMem) : Option (Int32 × vMem) :=
  some (s0, σ)
theorem vX8_loaf_29 {ad : Nat → Nat} {Q : Option Value → vMem → Prop} {r : (Int32 × vMem)} {s0 : Int32} {σ : vMem} (h : fX8_loaf_29 s0 σ = some r) (hQ : Q (some (.int r.1)) r.2) : V GM mX8_loaf ad Q 8 29 [none, none, none] [.int s0] σ := by
  unfold fX8_loaf_29 at h
  obtain rfl := Option.some.inj h
  exact V.iret dX8_loaf_29 rfl hQ
def fX8_loaf_27 (σ : vMem) : Option (Int32 × vMem) :=
  fX8_loaf_29 (-2 : Int32) σ
theorem vX8_loaf_27 {ad : Nat → Nat} {Q : Option Value → vMem → Prop} {r : (Int32 × vMem)} {σ : vMem} (h : fX8_loaf_27 σ = some r) (hQ : Q (some (.int r.1)) r.2) : V GM mX8_loaf ad Q 8 27 [none, none, none] [] σ := by
  unfold fX8_loaf_27 at h
  refine V.bipush bp_m2 dX8_loaf_27 ?_
  exact V.forget (vX8_loaf_29 h hQ) trivial
def fX8_loaf (l1 : Int32) (l2 : Int32) (σ : vMem) : Option (Int32 × vMem) :=
  (fX8_isBasket l1 σ).bind fun q1 => if q1.1 = 0 then (fX8_loaf_27 q1.2) else
  ((fX8_in l2 (0 : Int32) (99 : Int32) q1.2).bind fun q2 => if q2.1 = 0 then (fX8_loaf_27 q2.2) else
  ((fX8_loafOf l1 l2 q2.2).bind fun q3 => fX8_loaf_29 q3.1 q3.2))
theorem vX8_loaf {ad : Nat → Nat} {Q : Option Value → vMem → Prop} {r : (Int32 × vMem)} {l1 : Int32} {l2 : Int32} {σ : vMem} (h : fX8_loaf l1 l2 σ = some r) (hQ : Q (some (.int r.1)) r.2) : V GM mX8_loaf ad Q 8 0 [some (.ref (ad 0)), some (.int l1), some (.int l2)] [] σ := by
  unfold fX8_loaf at h
  refine V.aload_n dX8_loaf_0 rfl ?_
  refine V.iload_n dX8_loaf_1 rfl ?_
  obtain ⟨q1, h1, h⟩ := bdc h
  refine V.callV1 (mc := mX8_isBasket) (d' := 6) dX8_loaf_2 lkX8_172 hfX8_isBasket nM_0 gM_0 rfl (by decide) (Nat.le_of_ble_eq_true rfl) (Nat.le_of_ble_eq_true rfl) (vX8_isBasket h1 ?_)
  rcases itc h with ⟨hc, h⟩ | ⟨hc, h⟩
  · refine V.if_eq (tgt := 27) dX8_loaf_5 (by decide) (fun _ => ?_) (fun hn => absurd hc hn)
    exact V.forget (vX8_loaf_27 h hQ) trivial
  · refine V.if_eq (tgt := 27) dX8_loaf_5 (by decide) (fun hn => absurd hn hc) (fun _ => ?_)
    refine V.iload_n dX8_loaf_8 rfl ?_
    refine V.iconst ic_0 dX8_loaf_9 ?_
    refine V.bipush bp_99 dX8_loaf_10 ?_
    obtain ⟨q2, h1, h⟩ := bdc h
    refine V.callS3 (mc := mX8_in) (d' := 0) dX8_loaf_12 lkX8_125 hfX8_in (by decide) (Nat.le_of_ble_eq_true rfl) (Nat.le_of_ble_eq_true rfl) (vX8_in h1 ?_)
    rcases itc h with ⟨hc, h⟩ | ⟨hc, h⟩
    · refine V.if_eq (tgt := 27) dX8_loaf_15 (by decide) (fun _ => ?_) (fun hn => absurd hc hn)
      exact V.forget (vX8_loaf_27 h hQ) trivial
    · refine V.if_eq (tgt := 27) dX8_loaf_15 (by decide) (fun hn => absurd hn hc) (fun _ => ?_)
      refine V.aload_n dX8_loaf_18 rfl ?_
      refine V.iload_n dX8_loaf_19 rfl ?_
      refine V.iload_n dX8_loaf_20 rfl ?_
      obtain ⟨q3, h1, h⟩ := bdc h
      refine V.callV2 (mc := mX8_loafOf) (d' := 7) dX8_loaf_21 lkX8_280 hfX8_loafOf nM_0 gM_0 rfl (by decide) (Nat.le_of_ble_eq_true rfl) (Nat.le_of_ble_eq_true rfl) (vX8_loafOf h1 ?_)
      refine V.goto (tgt := 29) dX8_loaf_24 (by decide) ?_
      exact V.forget (vX8_loaf_29 h hQ) trivial
def fX8_isKept_89 (K43 : Int32 → Int32 → Int32 → vMem → Option (Int32 × vMem)) (l1 : Int32) (l4 : Int32) (s0 : Int32) (σ : vMem) : Option (Int32 × vMem) :=
  K43 l1 s0 (l4 + (1 : Int32)) σ
theorem vX8_isKept_89 {ad : Nat → Nat} {Q : Option Value → vMem → Prop} {r : (Int32 × vMem)} {K43 : Int32 → Int32 → Int32 → vMem → Option (Int32 × vMem)} (hK43 : ∀ (l1 : Int32) (l3 : Int32) (l4 : Int32) (σ : vMem), K43 l1 l3 l4 σ = some r → V GM mX8_isKept ad Q 4 43 [some (.ref (ad 0)), some (.int l1), none, some (.int l3), some (.int l4)] [] σ) {l1 : Int32} {l4 : Int32} {s0 : Int32} {σ : vMem} (h : fX8_isKept_89 K43 l1 l4 s0 σ = some r) (hQ : Q (some (.int r.1)) r.2) : V GM mX8_isKept ad Q 4 89 [some (.ref (ad 0)), some (.int l1), none, none, some (.int l4)] [.int s0] σ := by
  unfold fX8_isKept_89 at h
  refine V.istore_n dX8_isKept_89 (by decide) rfl ?_
  refine V.iinc dX8_isKept_90 rfl (ii_1 _) (by decide) rfl ?_
  refine V.goto (tgt := 43) dX8_isKept_93 (by decide) ?_
  exact V.forget (hK43 _ _ _ _ h) ⟨rfl, ⟨rfl, ⟨rfl, ⟨rfl, trivial⟩⟩⟩⟩
def fX8_isKept_88 (K43 : Int32 → Int32 → Int32 → vMem → Option (Int32 × vMem)) (l1 : Int32) (l4 : Int32) (σ : vMem) : Option (Int32 × vMem) :=
  fX8_isKept_89 K43 l1 l4 (0 : Int32) σ
theorem vX8_isKept_88 {ad : Nat → Nat} {Q : Option Value → vMem → Prop} {r : (Int32 × vMem)} {K43 : Int32 → Int32 → Int32 → vMem → Option (Int32 × vMem)} (hK43 : ∀ (l1 : Int32) (l3 : Int32) (l4 : Int32) (σ : vMem), K43 l1 l3 l4 σ = some r → V GM mX8_isKept ad Q 4 43 [some (.ref (ad 0)), some (.int l1), none, some (.int l3), some (.int l4)] [] σ) {l1 : Int32} {l4 : Int32} {σ : vMem} (h : fX8_isKept_88 K43 l1 l4 σ = some r) (hQ : Q (some (.int r.1)) r.2) : V GM mX8_isKept ad Q 4 88 [some (.ref (ad 0)), some (.int l1), none, none, some (.int l4)] [] σ := by
  unfold fX8_isKept_88 at h
  refine V.iconst ic_0 dX8_isKept_88 ?_
  exact V.forget (vX8_isKept_89 hK43 h hQ) ⟨rfl, ⟨rfl, ⟨rfl, trivial⟩⟩⟩
def fX8_isKept_43 (K43 : Int32 → Int32 → Int32 → vMem → Option (Int32 × vMem)) (l1 : Int32) (l3 : Int32) (l4 : Int32) (σ : vMem) : Option (Int32 × vMem) :=
  if l1 < 0 ∨ 9 ≤ l1.toNatClampNeg then none else if (σ.1 8 l1.toNatClampNeg) ≤ l4 then (if ¬ (l3 = 0 ∨ l3 = 1) then none else some (l3, σ)) else
  (if l3 = 0 then (fX8_isKept_88 K43 l1 l4 σ) else
  (if (((24 : Int32) * l1) + l4) < 0 ∨ 192 ≤ (((24 : Int32) * l1) + l4).toNatClampNeg then none else if (((3 : Int32) * l1) + l4) < 0 ∨ 27 ≤ (((3 : Int32) * l1) + l4).toNatClampNeg then none else if (σ.1 15 (((24 : Int32) * l1) + l4).toNatClampNeg) = (σ.1 9 (((3 : Int32) * l1) + l4).toNatClampNeg) then (fX8_isKept_89 K43 l1 l4 (1 : Int32) σ) else
  (fX8_isKept_88 K43 l1 l4 σ)))
theorem vX8_isKept_43 {ad : Nat → Nat} {Q : Option Value → vMem → Prop} {r : (Int32 × vMem)} {K43 : Int32 → Int32 → Int32 → vMem → Option (Int32 × vMem)} (hK43 : ∀ (l1 : Int32) (l3 : Int32) (l4 : Int32) (σ : vMem), K43 l1 l3 l4 σ = some r → V GM mX8_isKept ad Q 4 43 [some (.ref (ad 0)), some (.int l1), none, some (.int l3), some (.int l4)] [] σ) {l1 : Int32} {l3 : Int32} {l4 : Int32} {σ : vMem} (h : fX8_isKept_43 K43 l1 l3 l4 σ = some r) (hQ : Q (some (.int r.1)) r.2) : V GM mX8_isKept ad Q 4 43 [some (.ref (ad 0)), some (.int l1), none, some (.int l3), some (.int l4)] [] σ := by
  unfold fX8_isKept_43 at h
  refine V.iload dX8_isKept_43 rfl ?_
  refine V.aload_n dX8_isKept_45 rfl ?_
  refine V.get dX8_isKept_46 flX8_31 nM_0 gM_0 (by decide) (eM_0_9 _ _) ?_
  refine V.iload_n dX8_isKept_49 rfl ?_
  obtain ⟨hb, h⟩ := ckn h
  refine V.iald dX8_isKept_50 nM_8 gM_8 hb ?_
  rcases itc h with ⟨hc, h⟩ | ⟨hc, h⟩
  · refine V.icmp_ge (tgt := 96) dX8_isKept_51 (by decide) (fun _ => ?_) (fun hn => absurd hc hn)
    refine V.iload_n dX8_isKept_96 rfl ?_
    obtain ⟨hb, h⟩ := ckn h
    obtain rfl := Option.some.inj h
    exact V.zret dX8_isKept_97 rfl (Decidable.not_not.mp hb) hQ
  · refine V.icmp_ge (tgt := 96) dX8_isKept_51 (by decide) (fun hn => absurd hn hc) (fun _ => ?_)
    refine V.iload_n dX8_isKept_54 rfl ?_
    rcases itc h with ⟨hc, h⟩ | ⟨hc, h⟩
    · refine V.if_eq (tgt := 88) dX8_isKept_55 (by decide) (fun _ => ?_) (fun hn => absurd hc hn)
      exact V.forget (vX8_isKept_88 hK43 h hQ) ⟨rfl, ⟨rfl, ⟨rfl, trivial⟩⟩⟩
    · refine V.if_eq (tgt := 88) dX8_isKept_55 (by decide) (fun hn => absurd hn hc) (fun _ => ?_)
      refine V.aload_n dX8_isKept_58 rfl ?_
      refine V.get dX8_isKept_59 flX8_52 nM_0 gM_0 (by decide) (eM_0_23 _ _) ?_
      refine V.bipush bp_24 dX8_isKept_62 ?_
      refine V.iload_n dX8_isKept_64 rfl ?_
      refine V.imul dX8_isKept_65 ?_
      refine V.iload dX8_isKept_66 rfl ?_
      refine V.iadd dX8_isKept_68 ?_
      obtain ⟨hb, h⟩ := ckn h
      refine V.iald dX8_isKept_69 nM_15 gM_15 hb ?_
      refine V.aload_n dX8_isKept_70 rfl ?_
      refine V.get dX8_isKept_71 flX8_34 nM_0 gM_0 (by decide) (eM_0_10 _ _) ?_
      refine V.iconst ic_3 dX8_isKept_74 ?_
      refine V.iload_n dX8_isKept_75 rfl ?_
      refine V.imul dX8_isKept_76 ?_
      refine V.iload dX8_isKept_77 rfl ?_
      refine V.iadd dX8_isKept_79 ?_
      obtain ⟨hb, h⟩ := ckn h
      refine V.iald dX8_isKept_80 nM_9 gM_9 hb ?_
      rcases itc h with ⟨hc, h⟩ | ⟨hc, h⟩
      · refine V.icmp_ne (tgt := 88) dX8_isKept_81 (by decide) (fun hn => absurd hc hn) (fun _ => ?_)
        refine V.iconst ic_1 dX8_isKept_84 ?_
        refine V.goto (tgt := 89) dX8_isKept_85 (by decide) ?_
        exact V.forget (vX8_isKept_89 hK43 h hQ) ⟨rfl, ⟨rfl, ⟨rfl, trivial⟩⟩⟩
      · refine V.icmp_ne (tgt := 88) dX8_isKept_81 (by decide) (fun _ => ?_) (fun hn => absurd hn hc)
        exact V.forget (vX8_isKept_88 hK43 h hQ) ⟨rfl, ⟨rfl, ⟨rfl, trivial⟩⟩⟩
def LfX8_isKept_43 : Nat → Int32 → Int32 → Int32 → vMem → Option (Int32 × vMem)
  | 0, _, _, _, _ => none
  | n + 1, l1, l3, l4, σ => fX8_isKept_43 (LfX8_isKept_43 n) l1 l3 l4 σ
theorem LvX8_isKept_43 {ad : Nat → Nat} {Q : Option Value → vMem → Prop} {r : (Int32 × vMem)} (hQ : Q (some (.int r.1)) r.2) : ∀ (n : Nat) (l1 : Int32) (l3 : Int32) (l4 : Int32) (σ : vMem), LfX8_isKept_43 n l1 l3 l4 σ = some r → V GM mX8_isKept ad Q 4 43 [some (.ref (ad 0)), some (.int l1), none, some (.int l3), some (.int l4)] [] σ := by
  intro n
  induction n with
  | zero => intro l1 l3 l4 σ h; cases h
  | succ n ih => intro l1 l3 l4 σ h; exact vX8_isKept_43 ih h hQ
def fX8_isKept_39 (l1 : Int32) (s0 : Int32) (σ : vMem) : Option (Int32 × vMem) :=
  LfX8_isKept_43 200 l1 s0 (0 : Int32) σ
theorem vX8_isKept_39 {ad : Nat → Nat} {Q : Option Value → vMem → Prop} {r : (Int32 × vMem)} {l1 : Int32} {s0 : Int32} {σ : vMem} (h : fX8_isKept_39 l1 s0 σ = some r) (hQ : Q (some (.int r.1)) r.2) : V GM mX8_isKept ad Q 4 39 [some (.ref (ad 0)), some (.int l1), none, none, none] [.int s0] σ := by
  unfold fX8_isKept_39 at h
  refine V.istore_n dX8_isKept_39 (by decide) rfl ?_
  refine V.iconst ic_0 dX8_isKept_40 ?_
  refine V.istore dX8_isKept_41 (by decide) rfl ?_
  exact V.forget (LvX8_isKept_43 hQ 200 _ _ _ _ h) ⟨rfl, ⟨rfl, ⟨rfl, ⟨rfl, trivial⟩⟩⟩⟩
def fX8_isKept_38 (l1 : Int32) (σ : vMem) : Option (Int32 × vMem) :=
  fX8_isKept_39 l1 (0 : Int32) σ
theorem vX8_isKept_38 {ad : Nat → Nat} {Q : Option Value → vMem → Prop} {r : (Int32 × vMem)} {l1 : Int32} {σ : vMem} (h : fX8_isKept_38 l1 σ = some r) (hQ : Q (some (.int r.1)) r.2) : V GM mX8_isKept ad Q 4 38 [some (.ref (ad 0)), some (.int l1), none, none, none] [] σ := by
  unfold fX8_isKept_38 at h
  refine V.iconst ic_0 dX8_isKept_38 ?_
  exact V.forget (vX8_isKept_39 h hQ) ⟨rfl, ⟨rfl, trivial⟩⟩
def fX8_isKept_5 (l1 : Int32) (σ : vMem) : Option (Int32 × vMem) :=
  (fX8_runs σ).bind fun q1 => if l1 < 0 ∨ 8 ≤ l1.toNatClampNeg then none else if (q1.1 18 l1.toNatClampNeg) = (-1 : Int32) then (fX8_isKept_38 l1 q1) else
  (if l1 < 0 ∨ 8 ≤ l1.toNatClampNeg then none else if l1 < 0 ∨ 9 ≤ l1.toNatClampNeg then none else if (q1.1 14 l1.toNatClampNeg) = (q1.1 8 l1.toNatClampNeg) then (fX8_isKept_39 l1 (1 : Int32) q1) else
  (fX8_isKept_38 l1 q1))
theorem vX8_isKept_5 {ad : Nat → Nat} {Q : Option Value → vMem → Prop} {r : (Int32 × vMem)} {l1 : Int32} {σ : vMem} (h : fX8_isKept_5 l1 σ = some r) (hQ : Q (some (.int r.1)) r.2) : V GM mX8_isKept ad Q 4 5 [some (.ref (ad 0)), some (.int l1), none, none, none] [] σ := by
  unfold fX8_isKept_5 at h
  refine V.aload_n dX8_isKept_5 rfl ?_
  obtain ⟨q1, h1, h⟩ := bdc h
  refine V.callV0 (mc := mX8_runs) (d' := 3) dX8_isKept_6 lkX8_245 hfX8_runs nM_0 gM_0 rfl (by decide) (Nat.le_of_ble_eq_true rfl) (Nat.le_of_ble_eq_true rfl) (vX8_runs h1 ?_)
  refine V.aload_n dX8_isKept_9 rfl ?_
  refine V.get dX8_isKept_10 flX8_62 nM_0 gM_0 (by decide) (eM_0_26 _ _) ?_
  refine V.iload_n dX8_isKept_13 rfl ?_
  obtain ⟨hb, h⟩ := ckn h
  refine V.iald dX8_isKept_14 nM_18 gM_18 hb ?_
  refine V.iconst ic_m1 dX8_isKept_15 ?_
  rcases itc h with ⟨hc, h⟩ | ⟨hc, h⟩
  · refine V.icmp_eq (tgt := 38) dX8_isKept_16 (by decide) (fun _ => ?_) (fun hn => absurd hc hn)
    exact V.forget (vX8_isKept_38 h hQ) ⟨rfl, ⟨rfl, trivial⟩⟩
  · refine V.icmp_eq (tgt := 38) dX8_isKept_16 (by decide) (fun hn => absurd hn hc) (fun _ => ?_)
    refine V.aload_n dX8_isKept_19 rfl ?_
    refine V.get dX8_isKept_20 flX8_49 nM_0 gM_0 (by decide) (eM_0_22 _ _) ?_
    refine V.iload_n dX8_isKept_23 rfl ?_
    obtain ⟨hb, h⟩ := ckn h
    refine V.iald dX8_isKept_24 nM_14 gM_14 hb ?_
    refine V.aload_n dX8_isKept_25 rfl ?_
    refine V.get dX8_isKept_26 flX8_31 nM_0 gM_0 (by decide) (eM_0_9 _ _) ?_
    refine V.iload_n dX8_isKept_29 rfl ?_
    obtain ⟨hb, h⟩ := ckn h
    refine V.iald dX8_isKept_30 nM_8 gM_8 hb ?_
    rcases itc h with ⟨hc, h⟩ | ⟨hc, h⟩
    · refine V.icmp_ne (tgt := 38) dX8_isKept_31 (by decide) (fun hn => absurd hc hn) (fun _ => ?_)
      refine V.iconst ic_1 dX8_isKept_34 ?_
      refine V.goto (tgt := 39) dX8_isKept_35 (by decide) ?_
      exact V.forget (vX8_isKept_39 h hQ) ⟨rfl, ⟨rfl, trivial⟩⟩
    · refine V.icmp_ne (tgt := 38) dX8_isKept_31 (by decide) (fun _ => ?_) (fun hn => absurd hn hc)
      exact V.forget (vX8_isKept_38 h hQ) ⟨rfl, ⟨rfl, trivial⟩⟩
def fX8_isKept (l1 : Int32) (l2 : Int32) (σ : vMem) : Option (Int32 × vMem) :=
  fX8_isKept_5 l1 (vup σ 0 19 l2)
theorem vX8_isKept {ad : Nat → Nat} {Q : Option Value → vMem → Prop} {r : (Int32 × vMem)} {l1 : Int32} {l2 : Int32} {σ : vMem} (h : fX8_isKept l1 l2 σ = some r) (hQ : Q (some (.int r.1)) r.2) : V GM mX8_isKept ad Q 4 0 [some (.ref (ad 0)), some (.int l1), some (.int l2), none, none] [] σ := by
  unfold fX8_isKept at h
  refine V.aload_n dX8_isKept_0 rfl ?_
  refine V.iload_n dX8_isKept_1 rfl ?_
  refine V.putI dX8_isKept_2 fpX8_215 nM_0 gM_0 (by decide) rfl ?_
  exact V.forget (vX8_isKept_5 h hQ) ⟨rfl, ⟨rfl, trivial⟩⟩
def fX8_feedBy_87 (K53 : Int32 → Int32 → vMem → Option (Int32 × vMem)) (K65 : Int32 → Int32 → Int32 → vMem → Option (Int32 × vMem)) (l1 : Int32) (l2 : Int32) (l3 : Int32) (σ : vMem) : Option (Int32 × vMem) :=
  (fX8_isKept l1 (((1 : Int32) <<< (l2 &&& 31)) ||| ((1 : Int32) <<< (l3 &&& 31))) σ).bind fun q1 => if q1.1 = 0 then (K65 l1 l2 (l3 + (1 : Int32)) q1.2) else
  (some ((2 : Int32), q1.2))
theorem vX8_feedBy_87 {ad : Nat → Nat} {Q : Option Value → vMem → Prop} {r : (Int32 × vMem)} {K53 : Int32 → Int32 → vMem → Option (Int32 × vMem)} (hK53 : ∀ (l1 : Int32) (l2 : Int32) (σ : vMem), K53 l1 l2 σ = some r → V GM mX8_feedBy ad Q 7 53 [some (.ref (ad 0)), some (.int l1), some (.int l2), none] [] σ) {K65 : Int32 → Int32 → Int32 → vMem → Option (Int32 × vMem)} (hK65 : ∀ (l1 : Int32) (l2 : Int32) (l3 : Int32) (σ : vMem), K65 l1 l2 l3 σ = some r → V GM mX8_feedBy ad Q 7 65 [some (.ref (ad 0)), some (.int l1), some (.int l2), some (.int l3)] [] σ) {l1 : Int32} {l2 : Int32} {l3 : Int32} {σ : vMem} (h : fX8_feedBy_87 K53 K65 l1 l2 l3 σ = some r) (hQ : Q (some (.int r.1)) r.2) : V GM mX8_feedBy ad Q 7 87 [some (.ref (ad 0)), some (.int l1), some (.int l2), some (.int l3)] [] σ := by
  unfold fX8_feedBy_87 at h
  refine V.aload_n dX8_feedBy_87 rfl ?_
  refine V.iload_n dX8_feedBy_88 rfl ?_
  refine V.iconst ic_1 dX8_feedBy_89 ?_
  refine V.iload_n dX8_feedBy_90 rfl ?_
  refine V.ishl dX8_feedBy_91 ?_
  refine V.iconst ic_1 dX8_feedBy_92 ?_
  refine V.iload_n dX8_feedBy_93 rfl ?_
  refine V.ishl dX8_feedBy_94 ?_
  refine V.ior dX8_feedBy_95 ?_
  obtain ⟨q1, h1, h⟩ := bdc h
  refine V.callV2 (mc := mX8_isKept) (d' := 4) dX8_feedBy_96 lkX8_283 hfX8_isKept nM_0 gM_0 rfl (by decide) (Nat.le_of_ble_eq_true rfl) (Nat.le_of_ble_eq_true rfl) (vX8_isKept h1 ?_)
  rcases itc h with ⟨hc, h⟩ | ⟨hc, h⟩
  · refine V.if_eq (tgt := 104) dX8_feedBy_99 (by decide) (fun _ => ?_) (fun hn => absurd hc hn)
    refine V.iinc dX8_feedBy_104 rfl (ii_1 _) (by decide) rfl ?_
    refine V.goto (tgt := 65) dX8_feedBy_107 (by decide) ?_
    exact V.forget (hK65 _ _ _ _ h) ⟨rfl, ⟨rfl, ⟨rfl, ⟨rfl, trivial⟩⟩⟩⟩
  · refine V.if_eq (tgt := 104) dX8_feedBy_99 (by decide) (fun hn => absurd hn hc) (fun _ => ?_)
    refine V.iconst ic_2 dX8_feedBy_102 ?_
    obtain rfl := Option.some.inj h
    exact V.iret dX8_feedBy_103 rfl hQ
def fX8_feedBy_80 (K53 : Int32 → Int32 → vMem → Option (Int32 × vMem)) (K65 : Int32 → Int32 → Int32 → vMem → Option (Int32 × vMem)) (l1 : Int32) (l2 : Int32) (l3 : Int32) (σ : vMem) : Option (Int32 × vMem) :=
  if (1 : Int32) < 0 ∨ 2 ≤ (1 : Int32).toNatClampNeg then none else fX8_feedBy_87 K53 K65 l1 l2 l3 (vup σ 26 (1 : Int32).toNatClampNeg l3)
theorem vX8_feedBy_80 {ad : Nat → Nat} {Q : Option Value → vMem → Prop} {r : (Int32 × vMem)} {K53 : Int32 → Int32 → vMem → Option (Int32 × vMem)} (hK53 : ∀ (l1 : Int32) (l2 : Int32) (σ : vMem), K53 l1 l2 σ = some r → V GM mX8_feedBy ad Q 7 53 [some (.ref (ad 0)), some (.int l1), some (.int l2), none] [] σ) {K65 : Int32 → Int32 → Int32 → vMem → Option (Int32 × vMem)} (hK65 : ∀ (l1 : Int32) (l2 : Int32) (l3 : Int32) (σ : vMem), K65 l1 l2 l3 σ = some r → V GM mX8_feedBy ad Q 7 65 [some (.ref (ad 0)), some (.int l1), some (.int l2), some (.int l3)] [] σ) {l1 : Int32} {l2 : Int32} {l3 : Int32} {σ : vMem} (h : fX8_feedBy_80 K53 K65 l1 l2 l3 σ = some r) (hQ : Q (some (.int r.1)) r.2) : V GM mX8_feedBy ad Q 7 80 [some (.ref (ad 0)), some (.int l1), some (.int l2), some (.int l3)] [] σ := by
  unfold fX8_feedBy_80 at h
  refine V.aload_n dX8_feedBy_80 rfl ?_
  refine V.get dX8_feedBy_81 flX8_86 nM_0 gM_0 (by decide) (eM_0_36 _ _) ?_
  refine V.iconst ic_1 dX8_feedBy_84 ?_
  refine V.iload_n dX8_feedBy_85 rfl ?_
  obtain ⟨hb, h⟩ := ckn h
  refine V.iast dX8_feedBy_86 nM_26 gM_26 hb ?_
  exact V.forget (vX8_feedBy_87 hK53 hK65 h hQ) ⟨rfl, ⟨rfl, ⟨rfl, ⟨rfl, trivial⟩⟩⟩⟩
def fX8_feedBy_65 (K53 : Int32 → Int32 → vMem → Option (Int32 × vMem)) (K65 : Int32 → Int32 → Int32 → vMem → Option (Int32 × vMem)) (l1 : Int32) (l2 : Int32) (l3 : Int32) (σ : vMem) : Option (Int32 × vMem) :=
  if (σ.1 0 2) ≤ l3 then (K53 l1 (l2 + (1 : Int32)) σ) else
  (if (0 : Int32) < 0 ∨ 2 ≤ (0 : Int32).toNatClampNeg then none else fX8_feedBy_80 K53 K65 l1 l2 l3 (vup σ 26 (0 : Int32).toNatClampNeg l2))
theorem vX8_feedBy_65 {ad : Nat → Nat} {Q : Option Value → vMem → Prop} {r : (Int32 × vMem)} {K53 : Int32 → Int32 → vMem → Option (Int32 × vMem)} (hK53 : ∀ (l1 : Int32) (l2 : Int32) (σ : vMem), K53 l1 l2 σ = some r → V GM mX8_feedBy ad Q 7 53 [some (.ref (ad 0)), some (.int l1), some (.int l2), none] [] σ) {K65 : Int32 → Int32 → Int32 → vMem → Option (Int32 × vMem)} (hK65 : ∀ (l1 : Int32) (l2 : Int32) (l3 : Int32) (σ : vMem), K65 l1 l2 l3 σ = some r → V GM mX8_feedBy ad Q 7 65 [some (.ref (ad 0)), some (.int l1), some (.int l2), some (.int l3)] [] σ) {l1 : Int32} {l2 : Int32} {l3 : Int32} {σ : vMem} (h : fX8_feedBy_65 K53 K65 l1 l2 l3 σ = some r) (hQ : Q (some (.int r.1)) r.2) : V GM mX8_feedBy ad Q 7 65 [some (.ref (ad 0)), some (.int l1), some (.int l2), some (.int l3)] [] σ := by
  unfold fX8_feedBy_65 at h
  refine V.iload_n dX8_feedBy_65 rfl ?_
  refine V.aload_n dX8_feedBy_66 rfl ?_
  refine V.get dX8_feedBy_67 flX8_144 nM_0 gM_0 (by decide) (eM_0_2 _ _) ?_
  rcases itc h with ⟨hc, h⟩ | ⟨hc, h⟩
  · refine V.icmp_ge (tgt := 110) dX8_feedBy_70 (by decide) (fun _ => ?_) (fun hn => absurd hc hn)
    refine V.iinc dX8_feedBy_110 rfl (ii_1 _) (by decide) rfl ?_
    refine V.goto (tgt := 53) dX8_feedBy_113 (by decide) ?_
    exact V.forget (hK53 _ _ _ h) ⟨rfl, ⟨rfl, ⟨rfl, trivial⟩⟩⟩
  · refine V.icmp_ge (tgt := 110) dX8_feedBy_70 (by decide) (fun hn => absurd hn hc) (fun _ => ?_)
    refine V.aload_n dX8_feedBy_73 rfl ?_
    refine V.get dX8_feedBy_74 flX8_86 nM_0 gM_0 (by decide) (eM_0_36 _ _) ?_
    refine V.iconst ic_0 dX8_feedBy_77 ?_
    refine V.iload_n dX8_feedBy_78 rfl ?_
    obtain ⟨hb, h⟩ := ckn h
    refine V.iast dX8_feedBy_79 nM_26 gM_26 hb ?_
    exact V.forget (vX8_feedBy_80 hK53 hK65 h hQ) ⟨rfl, ⟨rfl, ⟨rfl, ⟨rfl, trivial⟩⟩⟩⟩
def LfX8_feedBy_65 (K53 : Int32 → Int32 → vMem → Option (Int32 × vMem)) : Nat → Int32 → Int32 → Int32 → vMem → Option (Int32 × vMem)
  | 0, _, _, _, _ => none
  | n + 1, l1, l2, l3, σ => fX8_feedBy_65 K53 (LfX8_feedBy_65 K53 n) l1 l2 l3 σ
theorem LvX8_feedBy_65 {ad : Nat → Nat} {Q : Option Value → vMem → Prop} {r : (Int32 × vMem)} {K53 : Int32 → Int32 → vMem → Option (Int32 × vMem)} (hK53 : ∀ (l1 : Int32) (l2 : Int32) (σ : vMem), K53 l1 l2 σ = some r → V GM mX8_feedBy ad Q 7 53 [some (.ref (ad 0)), some (.int l1), some (.int l2), none] [] σ) (hQ : Q (some (.int r.1)) r.2) : ∀ (n : Nat) (l1 : Int32) (l2 : Int32) (l3 : Int32) (σ : vMem), LfX8_feedBy_65 K53 n l1 l2 l3 σ = some r → V GM mX8_feedBy ad Q 7 65 [some (.ref (ad 0)), some (.int l1), some (.int l2), some (.int l3)] [] σ := by
  intro n
  induction n with
  | zero => intro l1 l2 l3 σ h; cases h
  | succ n ih => intro l1 l2 l3 σ h; exact vX8_feedBy_65 hK53 ih h hQ
def fX8_feedBy_53 (K53 : Int32 → Int32 → vMem → Option (Int32 × vMem)) (l1 : Int32) (l2 : Int32) (σ : vMem) : Option (Int32 × vMem) :=
  if (σ.1 0 2) ≤ l2 then (some ((-1 : Int32), σ)) else
  (LfX8_feedBy_65 K53 200 l1 l2 (l2 + (1 : Int32)) σ)
theorem vX8_feedBy_53 {ad : Nat → Nat} {Q : Option Value → vMem → Prop} {r : (Int32 × vMem)} {K53 : Int32 → Int32 → vMem → Option (Int32 × vMem)} (hK53 : ∀ (l1 : Int32) (l2 : Int32) (σ : vMem), K53 l1 l2 σ = some r → V GM mX8_feedBy ad Q 7 53 [some (.ref (ad 0)), some (.int l1), some (.int l2), none] [] σ) {l1 : Int32} {l2 : Int32} {σ : vMem} (h : fX8_feedBy_53 K53 l1 l2 σ = some r) (hQ : Q (some (.int r.1)) r.2) : V GM mX8_feedBy ad Q 7 53 [some (.ref (ad 0)), some (.int l1), some (.int l2), none] [] σ := by
  unfold fX8_feedBy_53 at h
  refine V.iload_n dX8_feedBy_53 rfl ?_
  refine V.aload_n dX8_feedBy_54 rfl ?_
  refine V.get dX8_feedBy_55 flX8_144 nM_0 gM_0 (by decide) (eM_0_2 _ _) ?_
  rcases itc h with ⟨hc, h⟩ | ⟨hc, h⟩
  · refine V.icmp_ge (tgt := 116) dX8_feedBy_58 (by decide) (fun _ => ?_) (fun hn => absurd hc hn)
    refine V.iconst ic_m1 dX8_feedBy_116 ?_
    obtain rfl := Option.some.inj h
    exact V.iret dX8_feedBy_117 rfl hQ
  · refine V.icmp_ge (tgt := 116) dX8_feedBy_58 (by decide) (fun hn => absurd hn hc) (fun _ => ?_)
    refine V.iload_n dX8_feedBy_61 rfl ?_
    refine V.iconst ic_1 dX8_feedBy_62 ?_
    refine V.iadd dX8_feedBy_63 ?_
    refine V.istore_n dX8_feedBy_64 (by decide) rfl ?_
    exact V.forget (LvX8_feedBy_65 hK53 hQ 200 _ _ _ _ h) ⟨rfl, ⟨rfl, ⟨rfl, ⟨rfl, trivial⟩⟩⟩⟩
def LfX8_feedBy_53 : Nat → Int32 → Int32 → vMem → Option (Int32 × vMem)
  | 0, _, _, _ => none
  | n + 1, l1, l2, σ => fX8_feedBy_53 (LfX8_feedBy_53 n) l1 l2 σ
theorem LvX8_feedBy_53 {ad : Nat → Nat} {Q : Option Value → vMem → Prop} {r : (Int32 × vMem)} (hQ : Q (some (.int r.1)) r.2) : ∀ (n : Nat) (l1 : Int32) (l2 : Int32) (σ : vMem), LfX8_feedBy_53 n l1 l2 σ = some r → V GM mX8_feedBy ad Q 7 53 [some (.ref (ad 0)), some (.int l1), some (.int l2), none] [] σ := by
  intro n
  induction n with
  | zero => intro l1 l2 σ h; cases h
  | succ n ih => intro l1 l2 σ h; exact vX8_feedBy_53 ih h hQ
def fX8_feedBy_32 (K17 : Int32 → Int32 → vMem → Option (Int32 × vMem)) (l1 : Int32) (l2 : Int32) (σ : vMem) : Option (Int32 × vMem) :=
  (fX8_isKept l1 ((1 : Int32) <<< (l2 &&& 31)) σ).bind fun q1 => if q1.1 = 0 then (K17 l1 (l2 + (1 : Int32)) q1.2) else
  (some ((1 : Int32), q1.2))
theorem vX8_feedBy_32 {ad : Nat → Nat} {Q : Option Value → vMem → Prop} {r : (Int32 × vMem)} {K17 : Int32 → Int32 → vMem → Option (Int32 × vMem)} (hK17 : ∀ (l1 : Int32) (l2 : Int32) (σ : vMem), K17 l1 l2 σ = some r → V GM mX8_feedBy ad Q 7 17 [some (.ref (ad 0)), some (.int l1), some (.int l2), none] [] σ) {l1 : Int32} {l2 : Int32} {σ : vMem} (h : fX8_feedBy_32 K17 l1 l2 σ = some r) (hQ : Q (some (.int r.1)) r.2) : V GM mX8_feedBy ad Q 7 32 [some (.ref (ad 0)), some (.int l1), some (.int l2), none] [] σ := by
  unfold fX8_feedBy_32 at h
  refine V.aload_n dX8_feedBy_32 rfl ?_
  refine V.iload_n dX8_feedBy_33 rfl ?_
  refine V.iconst ic_1 dX8_feedBy_34 ?_
  refine V.iload_n dX8_feedBy_35 rfl ?_
  refine V.ishl dX8_feedBy_36 ?_
  obtain ⟨q1, h1, h⟩ := bdc h
  refine V.callV2 (mc := mX8_isKept) (d' := 4) dX8_feedBy_37 lkX8_283 hfX8_isKept nM_0 gM_0 rfl (by decide) (Nat.le_of_ble_eq_true rfl) (Nat.le_of_ble_eq_true rfl) (vX8_isKept h1 ?_)
  rcases itc h with ⟨hc, h⟩ | ⟨hc, h⟩
  · refine V.if_eq (tgt := 45) dX8_feedBy_40 (by decide) (fun _ => ?_) (fun hn => absurd hc hn)
    refine V.iinc dX8_feedBy_45 rfl (ii_1 _) (by decide) rfl ?_
    refine V.goto (tgt := 17) dX8_feedBy_48 (by decide) ?_
    exact V.forget (hK17 _ _ _ h) ⟨rfl, ⟨rfl, ⟨rfl, trivial⟩⟩⟩
  · refine V.if_eq (tgt := 45) dX8_feedBy_40 (by decide) (fun hn => absurd hn hc) (fun _ => ?_)
    refine V.iconst ic_1 dX8_feedBy_43 ?_
    obtain rfl := Option.some.inj h
    exact V.iret dX8_feedBy_44 rfl hQ
def fX8_feedBy_17 (K17 : Int32 → Int32 → vMem → Option (Int32 × vMem)) (l1 : Int32) (l2 : Int32) (σ : vMem) : Option (Int32 × vMem) :=
  if (σ.1 0 2) ≤ l2 then (LfX8_feedBy_53 200 l1 (0 : Int32) σ) else
  (if (0 : Int32) < 0 ∨ 2 ≤ (0 : Int32).toNatClampNeg then none else fX8_feedBy_32 K17 l1 l2 (vup σ 26 (0 : Int32).toNatClampNeg l2))
theorem vX8_feedBy_17 {ad : Nat → Nat} {Q : Option Value → vMem → Prop} {r : (Int32 × vMem)} {K17 : Int32 → Int32 → vMem → Option (Int32 × vMem)} (hK17 : ∀ (l1 : Int32) (l2 : Int32) (σ : vMem), K17 l1 l2 σ = some r → V GM mX8_feedBy ad Q 7 17 [some (.ref (ad 0)), some (.int l1), some (.int l2), none] [] σ) {l1 : Int32} {l2 : Int32} {σ : vMem} (h : fX8_feedBy_17 K17 l1 l2 σ = some r) (hQ : Q (some (.int r.1)) r.2) : V GM mX8_feedBy ad Q 7 17 [some (.ref (ad 0)), some (.int l1), some (.int l2), none] [] σ := by
  unfold fX8_feedBy_17 at h
  refine V.iload_n dX8_feedBy_17 rfl ?_
  refine V.aload_n dX8_feedBy_18 rfl ?_
  refine V.get dX8_feedBy_19 flX8_144 nM_0 gM_0 (by decide) (eM_0_2 _ _) ?_
  rcases itc h with ⟨hc, h⟩ | ⟨hc, h⟩
  · refine V.icmp_ge (tgt := 51) dX8_feedBy_22 (by decide) (fun _ => ?_) (fun hn => absurd hc hn)
    refine V.iconst ic_0 dX8_feedBy_51 ?_
    refine V.istore_n dX8_feedBy_52 (by decide) rfl ?_
    exact V.forget (LvX8_feedBy_53 hQ 200 _ _ _ h) ⟨rfl, ⟨rfl, ⟨rfl, trivial⟩⟩⟩
  · refine V.icmp_ge (tgt := 51) dX8_feedBy_22 (by decide) (fun hn => absurd hn hc) (fun _ => ?_)
    refine V.aload_n dX8_feedBy_25 rfl ?_
    refine V.get dX8_feedBy_26 flX8_86 nM_0 gM_0 (by decide) (eM_0_36 _ _) ?_
    refine V.iconst ic_0 dX8_feedBy_29 ?_
    refine V.iload_n dX8_feedBy_30 rfl ?_
    obtain ⟨hb, h⟩ := ckn h
    refine V.iast dX8_feedBy_31 nM_26 gM_26 hb ?_
    exact V.forget (vX8_feedBy_32 hK17 h hQ) ⟨rfl, ⟨rfl, ⟨rfl, trivial⟩⟩⟩
def LfX8_feedBy_17 : Nat → Int32 → Int32 → vMem → Option (Int32 × vMem)
  | 0, _, _, _ => none
  | n + 1, l1, l2, σ => fX8_feedBy_17 (LfX8_feedBy_17 n) l1 l2 σ
theorem LvX8_feedBy_17 {ad : Nat → Nat} {Q : Option Value → vMem → Prop} {r : (Int32 × vMem)} (hQ : Q (some (.int r.1)) r.2) : ∀ (n : Nat) (l1 : Int32) (l2 : Int32) (σ : vMem), LfX8_feedBy_17 n l1 l2 σ = some r → V GM mX8_feedBy ad Q 7 17 [some (.ref (ad 0)), some (.int l1), some (.int l2), none] [] σ := by
  intro n
  induction n with
  | zero => intro l1 l2 σ h; cases h
  | succ n ih => intro l1 l2 σ h; exact vX8_feedBy_17 ih h hQ
def fX8_feedBy (l1 : Int32) (σ : vMem) : Option (Int32 × vMem) :=
  (fX8_asTold σ).bind fun q1 => (fX8_isKept l1 (0 : Int32) q1).bind fun q2 => if q2.1 = 0 then (LfX8_feedBy_17 200 l1 (0 : Int32) q2.2) else
  (some ((0 : Int32), q2.2))
theorem vX8_feedBy {ad : Nat → Nat} {Q : Option Value → vMem → Prop} {r : (Int32 × vMem)} {l1 : Int32} {σ : vMem} (h : fX8_feedBy l1 σ = some r) (hQ : Q (some (.int r.1)) r.2) : V GM mX8_feedBy ad Q 7 0 [some (.ref (ad 0)), some (.int l1), none, none] [] σ := by
  unfold fX8_feedBy at h
  refine V.aload_n dX8_feedBy_0 rfl ?_
  obtain ⟨q1, h1, h⟩ := bdc h
  refine V.callV0 (mc := mX8_asTold) (d' := 6) dX8_feedBy_1 lkX8_242 hfX8_asTold nM_0 gM_0 rfl (by decide) (Nat.le_of_ble_eq_true rfl) (Nat.le_of_ble_eq_true rfl) (vX8_asTold h1 ?_)
  refine V.aload_n dX8_feedBy_4 rfl ?_
  refine V.iload_n dX8_feedBy_5 rfl ?_
  refine V.iconst ic_0 dX8_feedBy_6 ?_
  obtain ⟨q2, h1, h⟩ := bdc h
  refine V.callV2 (mc := mX8_isKept) (d' := 4) dX8_feedBy_7 lkX8_283 hfX8_isKept nM_0 gM_0 rfl (by decide) (Nat.le_of_ble_eq_true rfl) (Nat.le_of_ble_eq_true rfl) (vX8_isKept h1 ?_)
  rcases itc h with ⟨hc, h⟩ | ⟨hc, h⟩
  · refine V.if_eq (tgt := 15) dX8_feedBy_10 (by decide) (fun _ => ?_) (fun hn => absurd hc hn)
    refine V.iconst ic_0 dX8_feedBy_15 ?_
    refine V.istore_n dX8_feedBy_16 (by decide) rfl ?_
    exact V.forget (LvX8_feedBy_17 hQ 200 _ _ _ h) ⟨rfl, ⟨rfl, ⟨rfl, trivial⟩⟩⟩
  · refine V.if_eq (tgt := 15) dX8_feedBy_10 (by decide) (fun hn => absurd hn hc) (fun _ => ?_)
    refine V.iconst ic_0 dX8_feedBy_13 ?_
    obtain rfl := Option.some.inj h
    exact V.iret dX8_feedBy_14 rfl hQ
def fX8_ofRow_24 (s0 : Int32) (σ : vMem) : Option (Int32 × vMem) :=
  some (s0, σ)
theorem vX8_ofRow_24 {ad : Nat → Nat} {Q : Option Value → vMem → Prop} {r : (Int32 × vMem)} {s0 : Int32} {σ : vMem} (h : fX8_ofRow_24 s0 σ = some r) (hQ : Q (some (.int r.1)) r.2) : V GM mX8_ofRow ad Q 0 24 [none, none, none] [.int s0] σ := by
  unfold fX8_ofRow_24 at h
  obtain rfl := Option.some.inj h
  exact V.iret dX8_ofRow_24 rfl hQ
def fX8_ofRow (l1 : Int32) (l2 : Int32) (σ : vMem) : Option (Int32 × vMem) :=
  if l2 = (-1 : Int32) then (fX8_ofRow_24 l1 σ) else
  (if l1 ≤ l2 then (fX8_ofRow_24 (-1 : Int32) σ) else
  (if l2 < 0 ∨ 2 ≤ l2.toNatClampNeg then none else fX8_ofRow_24 (σ.1 26 l2.toNatClampNeg) σ))
theorem vX8_ofRow {ad : Nat → Nat} {Q : Option Value → vMem → Prop} {r : (Int32 × vMem)} {l1 : Int32} {l2 : Int32} {σ : vMem} (h : fX8_ofRow l1 l2 σ = some r) (hQ : Q (some (.int r.1)) r.2) : V GM mX8_ofRow ad Q 0 0 [some (.ref (ad 0)), some (.int l1), some (.int l2)] [] σ := by
  unfold fX8_ofRow at h
  refine V.iload_n dX8_ofRow_0 rfl ?_
  refine V.iconst ic_m1 dX8_ofRow_1 ?_
  rcases itc h with ⟨hc, h⟩ | ⟨hc, h⟩
  · refine V.icmp_ne (tgt := 9) dX8_ofRow_2 (by decide) (fun hn => absurd hc hn) (fun _ => ?_)
    refine V.iload_n dX8_ofRow_5 rfl ?_
    refine V.goto (tgt := 24) dX8_ofRow_6 (by decide) ?_
    exact V.forget (vX8_ofRow_24 h hQ) trivial
  · refine V.icmp_ne (tgt := 9) dX8_ofRow_2 (by decide) (fun _ => ?_) (fun hn => absurd hn hc)
    refine V.iload_n dX8_ofRow_9 rfl ?_
    refine V.iload_n dX8_ofRow_10 rfl ?_
    rcases itc h with ⟨hc, h⟩ | ⟨hc, h⟩
    · refine V.icmp_ge (tgt := 23) dX8_ofRow_11 (by decide) (fun _ => ?_) (fun hn => absurd hc hn)
      refine V.iconst ic_m1 dX8_ofRow_23 ?_
      exact V.forget (vX8_ofRow_24 h hQ) trivial
    · refine V.icmp_ge (tgt := 23) dX8_ofRow_11 (by decide) (fun hn => absurd hn hc) (fun _ => ?_)
      refine V.aload_n dX8_ofRow_14 rfl ?_
      refine V.get dX8_ofRow_15 flX8_86 nM_0 gM_0 (by decide) (eM_0_36 _ _) ?_
      refine V.iload_n dX8_ofRow_18 rfl ?_
      obtain ⟨hb, h⟩ := ckn h
      refine V.iald dX8_ofRow_19 nM_26 gM_26 hb ?_
      refine V.goto (tgt := 24) dX8_ofRow_20 (by decide) ?_
      exact V.forget (vX8_ofRow_24 h hQ) trivial
def fX8_feed_32 (s0 : Int32) (σ : vMem) : Option (Int32 × vMem) :=
  some (s0, σ)
theorem vX8_feed_32 {ad : Nat → Nat} {Q : Option Value → vMem → Prop} {r : (Int32 × vMem)} {s0 : Int32} {σ : vMem} (h : fX8_feed_32 s0 σ = some r) (hQ : Q (some (.int r.1)) r.2) : V GM mX8_feed ad Q 8 32 [none, none, none] [.int s0] σ := by
  unfold fX8_feed_32 at h
  obtain rfl := Option.some.inj h
  exact V.iret dX8_feed_32 rfl hQ
def fX8_feed_30 (σ : vMem) : Option (Int32 × vMem) :=
  fX8_feed_32 (-2 : Int32) σ
theorem vX8_feed_30 {ad : Nat → Nat} {Q : Option Value → vMem → Prop} {r : (Int32 × vMem)} {σ : vMem} (h : fX8_feed_30 σ = some r) (hQ : Q (some (.int r.1)) r.2) : V GM mX8_feed ad Q 8 30 [none, none, none] [] σ := by
  unfold fX8_feed_30 at h
  refine V.bipush bp_m2 dX8_feed_30 ?_
  exact V.forget (vX8_feed_32 h hQ) trivial
def fX8_feed (l1 : Int32) (l2 : Int32) (σ : vMem) : Option (Int32 × vMem) :=
  (fX8_isBasket l1 σ).bind fun q1 => if q1.1 = 0 then (fX8_feed_30 q1.2) else
  ((fX8_in l2 (-1 : Int32) (1 : Int32) q1.2).bind fun q2 => if q2.1 = 0 then (fX8_feed_30 q2.2) else
  ((fX8_feedBy l1 q2.2).bind fun q3 => (fX8_ofRow q3.1 l2 q3.2).bind fun q4 => fX8_feed_32 q4.1 q4.2))
theorem vX8_feed {ad : Nat → Nat} {Q : Option Value → vMem → Prop} {r : (Int32 × vMem)} {l1 : Int32} {l2 : Int32} {σ : vMem} (h : fX8_feed l1 l2 σ = some r) (hQ : Q (some (.int r.1)) r.2) : V GM mX8_feed ad Q 8 0 [some (.ref (ad 0)), some (.int l1), some (.int l2)] [] σ := by
  unfold fX8_feed at h
  refine V.aload_n dX8_feed_0 rfl ?_
  refine V.iload_n dX8_feed_1 rfl ?_
  obtain ⟨q1, h1, h⟩ := bdc h
  refine V.callV1 (mc := mX8_isBasket) (d' := 6) dX8_feed_2 lkX8_172 hfX8_isBasket nM_0 gM_0 rfl (by decide) (Nat.le_of_ble_eq_true rfl) (Nat.le_of_ble_eq_true rfl) (vX8_isBasket h1 ?_)
  rcases itc h with ⟨hc, h⟩ | ⟨hc, h⟩
  · refine V.if_eq (tgt := 30) dX8_feed_5 (by decide) (fun _ => ?_) (fun hn => absurd hc hn)
    exact V.forget (vX8_feed_30 h hQ) trivial
  · refine V.if_eq (tgt := 30) dX8_feed_5 (by decide) (fun hn => absurd hn hc) (fun _ => ?_)
    refine V.iload_n dX8_feed_8 rfl ?_
    refine V.iconst ic_m1 dX8_feed_9 ?_
    refine V.iconst ic_1 dX8_feed_10 ?_
    obtain ⟨q2, h1, h⟩ := bdc h
    refine V.callS3 (mc := mX8_in) (d' := 0) dX8_feed_11 lkX8_125 hfX8_in (by decide) (Nat.le_of_ble_eq_true rfl) (Nat.le_of_ble_eq_true rfl) (vX8_in h1 ?_)
    rcases itc h with ⟨hc, h⟩ | ⟨hc, h⟩
    · refine V.if_eq (tgt := 30) dX8_feed_14 (by decide) (fun _ => ?_) (fun hn => absurd hc hn)
      exact V.forget (vX8_feed_30 h hQ) trivial
    · refine V.if_eq (tgt := 30) dX8_feed_14 (by decide) (fun hn => absurd hn hc) (fun _ => ?_)
      refine V.aload_n dX8_feed_17 rfl ?_
      refine V.aload_n dX8_feed_18 rfl ?_
      refine V.iload_n dX8_feed_19 rfl ?_
      obtain ⟨q3, h1, h⟩ := bdc h
      refine V.callV1 (mc := mX8_feedBy) (d' := 7) dX8_feed_20 lkX8_286 hfX8_feedBy nM_0 gM_0 rfl (by decide) (Nat.le_of_ble_eq_true rfl) (Nat.le_of_ble_eq_true rfl) (vX8_feedBy h1 ?_)
      refine V.iload_n dX8_feed_23 rfl ?_
      obtain ⟨q4, h1, h⟩ := bdc h
      refine V.callV2 (mc := mX8_ofRow) (d' := 0) dX8_feed_24 lkX8_289 hfX8_ofRow nM_0 gM_0 rfl (by decide) (Nat.le_of_ble_eq_true rfl) (Nat.le_of_ble_eq_true rfl) (vX8_ofRow h1 ?_)
      refine V.goto (tgt := 32) dX8_feed_27 (by decide) ?_
      exact V.forget (vX8_feed_32 h hQ) trivial
def fX8_stillOf_83 (s0 : Int32) (σ : vMem) : Option (Int32 × vMem) :=
  some (s0, σ)
theorem vX8_stillOf_83 {ad : Nat → Nat} {Q : Option Value → vMem → Prop} {r : (Int32 × vMem)} {s0 : Int32} {σ : vMem} (h : fX8_stillOf_83 s0 σ = some r) (hQ : Q (some (.int r.1)) r.2) : V GM mX8_stillOf ad Q 7 83 [none, none, none, none, none, none] [.int s0] σ := by
  unfold fX8_stillOf_83 at h
  obtain rfl := Option.some.inj h
  exact V.iret dX8_stillOf_83 rfl hQ
def fX8_stillOf_67 (K11 : Int32 → Int32 → Int32 → Int32 → vMem → Option (Int32 × vMem)) (l1 : Int32) (l2 : Int32) (l4 : Int32) (s0 : Int32) (σ : vMem) : Option (Int32 × vMem) :=
  K11 l1 l2 s0 (l4 + (1 : Int32)) σ
theorem vX8_stillOf_67 {ad : Nat → Nat} {Q : Option Value → vMem → Prop} {r : (Int32 × vMem)} {K11 : Int32 → Int32 → Int32 → Int32 → vMem → Option (Int32 × vMem)} (hK11 : ∀ (l1 : Int32) (l2 : Int32) (l3 : Int32) (l4 : Int32) (σ : vMem), K11 l1 l2 l3 l4 σ = some r → V GM mX8_stillOf ad Q 7 11 [some (.ref (ad 0)), some (.int l1), some (.int l2), some (.int l3), some (.int l4), none] [] σ) {l1 : Int32} {l2 : Int32} {l4 : Int32} {s0 : Int32} {σ : vMem} (h : fX8_stillOf_67 K11 l1 l2 l4 s0 σ = some r) (hQ : Q (some (.int r.1)) r.2) : V GM mX8_stillOf ad Q 7 67 [some (.ref (ad 0)), some (.int l1), some (.int l2), none, some (.int l4), none] [.int s0] σ := by
  unfold fX8_stillOf_67 at h
  refine V.istore_n dX8_stillOf_67 (by decide) rfl ?_
  refine V.iinc dX8_stillOf_68 rfl (ii_1 _) (by decide) rfl ?_
  refine V.goto (tgt := 11) dX8_stillOf_71 (by decide) ?_
  exact V.forget (hK11 _ _ _ _ _ h) ⟨rfl, ⟨rfl, ⟨rfl, ⟨rfl, ⟨rfl, trivial⟩⟩⟩⟩⟩
def fX8_stillOf_54 (K11 : Int32 → Int32 → Int32 → Int32 → vMem → Option (Int32 × vMem)) (l1 : Int32) (l3 : Int32) (l4 : Int32) (l5 : Int32) (s0 : Int32) (σ : vMem) : Option (Int32 × vMem) :=
  if l5 ≤ l3 then (fX8_stillOf_67 K11 l1 s0 l4 l3 σ) else
  (fX8_stillOf_67 K11 l1 s0 l4 l5 σ)
theorem vX8_stillOf_54 {ad : Nat → Nat} {Q : Option Value → vMem → Prop} {r : (Int32 × vMem)} {K11 : Int32 → Int32 → Int32 → Int32 → vMem → Option (Int32 × vMem)} (hK11 : ∀ (l1 : Int32) (l2 : Int32) (l3 : Int32) (l4 : Int32) (σ : vMem), K11 l1 l2 l3 l4 σ = some r → V GM mX8_stillOf ad Q 7 11 [some (.ref (ad 0)), some (.int l1), some (.int l2), some (.int l3), some (.int l4), none] [] σ) {l1 : Int32} {l3 : Int32} {l4 : Int32} {l5 : Int32} {s0 : Int32} {σ : vMem} (h : fX8_stillOf_54 K11 l1 l3 l4 l5 s0 σ = some r) (hQ : Q (some (.int r.1)) r.2) : V GM mX8_stillOf ad Q 7 54 [some (.ref (ad 0)), some (.int l1), none, some (.int l3), some (.int l4), some (.int l5)] [.int s0] σ := by
  unfold fX8_stillOf_54 at h
  refine V.istore_n dX8_stillOf_54 (by decide) rfl ?_
  refine V.iload dX8_stillOf_55 rfl ?_
  refine V.iload_n dX8_stillOf_57 rfl ?_
  rcases itc h with ⟨hc, h⟩ | ⟨hc, h⟩
  · refine V.icmp_le (tgt := 66) dX8_stillOf_58 (by decide) (fun _ => ?_) (fun hn => absurd hc hn)
    refine V.iload_n dX8_stillOf_66 rfl ?_
    exact V.forget (vX8_stillOf_67 hK11 h hQ) ⟨rfl, ⟨rfl, ⟨rfl, ⟨rfl, trivial⟩⟩⟩⟩
  · refine V.icmp_le (tgt := 66) dX8_stillOf_58 (by decide) (fun hn => absurd hn hc) (fun _ => ?_)
    refine V.iload dX8_stillOf_61 rfl ?_
    refine V.goto (tgt := 67) dX8_stillOf_63 (by decide) ?_
    exact V.forget (vX8_stillOf_67 hK11 h hQ) ⟨rfl, ⟨rfl, ⟨rfl, ⟨rfl, trivial⟩⟩⟩⟩
def fX8_stillOf_32 (K11 : Int32 → Int32 → Int32 → Int32 → vMem → Option (Int32 × vMem)) (l1 : Int32) (l2 : Int32) (l3 : Int32) (l4 : Int32) (σ : vMem) : Option (Int32 × vMem) :=
  (fX8_runs σ).bind fun q1 => (fX8_upMuch q1).bind fun q2 => if q2.1 ≤ l3 then (fX8_stillOf_54 K11 l1 l3 l4 q2.1 l2 q2.2) else
  (fX8_stillOf_54 K11 l1 l3 l4 q2.1 l4 q2.2)
theorem vX8_stillOf_32 {ad : Nat → Nat} {Q : Option Value → vMem → Prop} {r : (Int32 × vMem)} {K11 : Int32 → Int32 → Int32 → Int32 → vMem → Option (Int32 × vMem)} (hK11 : ∀ (l1 : Int32) (l2 : Int32) (l3 : Int32) (l4 : Int32) (σ : vMem), K11 l1 l2 l3 l4 σ = some r → V GM mX8_stillOf ad Q 7 11 [some (.ref (ad 0)), some (.int l1), some (.int l2), some (.int l3), some (.int l4), none] [] σ) {l1 : Int32} {l2 : Int32} {l3 : Int32} {l4 : Int32} {σ : vMem} (h : fX8_stillOf_32 K11 l1 l2 l3 l4 σ = some r) (hQ : Q (some (.int r.1)) r.2) : V GM mX8_stillOf ad Q 7 32 [some (.ref (ad 0)), some (.int l1), some (.int l2), some (.int l3), some (.int l4), none] [] σ := by
  unfold fX8_stillOf_32 at h
  refine V.aload_n dX8_stillOf_32 rfl ?_
  obtain ⟨q1, h1, h⟩ := bdc h
  refine V.callV0 (mc := mX8_runs) (d' := 3) dX8_stillOf_33 lkX8_245 hfX8_runs nM_0 gM_0 rfl (by decide) (Nat.le_of_ble_eq_true rfl) (Nat.le_of_ble_eq_true rfl) (vX8_runs h1 ?_)
  refine V.aload_n dX8_stillOf_36 rfl ?_
  obtain ⟨q2, h1, h⟩ := bdc h
  refine V.callV0 (mc := mX8_upMuch) (d' := 0) dX8_stillOf_37 lkX8_264 hfX8_upMuch nM_0 gM_0 rfl (by decide) (Nat.le_of_ble_eq_true rfl) (Nat.le_of_ble_eq_true rfl) (vX8_upMuch h1 ?_)
  refine V.istore dX8_stillOf_40 (by decide) rfl ?_
  refine V.iload dX8_stillOf_42 rfl ?_
  refine V.iload_n dX8_stillOf_44 rfl ?_
  rcases itc h with ⟨hc, h⟩ | ⟨hc, h⟩
  · refine V.icmp_le (tgt := 53) dX8_stillOf_45 (by decide) (fun _ => ?_) (fun hn => absurd hc hn)
    refine V.iload_n dX8_stillOf_53 rfl ?_
    exact V.forget (vX8_stillOf_54 hK11 h hQ) ⟨rfl, ⟨rfl, ⟨rfl, ⟨rfl, ⟨rfl, trivial⟩⟩⟩⟩⟩
  · refine V.icmp_le (tgt := 53) dX8_stillOf_45 (by decide) (fun hn => absurd hn hc) (fun _ => ?_)
    refine V.iload dX8_stillOf_48 rfl ?_
    refine V.goto (tgt := 54) dX8_stillOf_50 (by decide) ?_
    exact V.forget (vX8_stillOf_54 hK11 h hQ) ⟨rfl, ⟨rfl, ⟨rfl, ⟨rfl, ⟨rfl, trivial⟩⟩⟩⟩⟩
def fX8_stillOf_11 (K11 : Int32 → Int32 → Int32 → Int32 → vMem → Option (Int32 × vMem)) (l1 : Int32) (l2 : Int32) (l3 : Int32) (l4 : Int32) (σ : vMem) : Option (Int32 × vMem) :=
  if (σ.1 0 13) ≤ l4 then (if l1 = 0 then (fX8_stillOf_83 l2 σ) else
  (fX8_stillOf_83 l3 σ)) else
  ((fX8_windsBut ((1 : Int32) <<< (l4 &&& 31)) σ).bind fun q1 => fX8_stillOf_32 K11 l1 l2 l3 l4 (vupL q1.2 0 17 q1.1))
theorem vX8_stillOf_11 {ad : Nat → Nat} {Q : Option Value → vMem → Prop} {r : (Int32 × vMem)} {K11 : Int32 → Int32 → Int32 → Int32 → vMem → Option (Int32 × vMem)} (hK11 : ∀ (l1 : Int32) (l2 : Int32) (l3 : Int32) (l4 : Int32) (σ : vMem), K11 l1 l2 l3 l4 σ = some r → V GM mX8_stillOf ad Q 7 11 [some (.ref (ad 0)), some (.int l1), some (.int l2), some (.int l3), some (.int l4), none] [] σ) {l1 : Int32} {l2 : Int32} {l3 : Int32} {l4 : Int32} {σ : vMem} (h : fX8_stillOf_11 K11 l1 l2 l3 l4 σ = some r) (hQ : Q (some (.int r.1)) r.2) : V GM mX8_stillOf ad Q 7 11 [some (.ref (ad 0)), some (.int l1), some (.int l2), some (.int l3), some (.int l4), none] [] σ := by
  unfold fX8_stillOf_11 at h
  refine V.iload dX8_stillOf_11 rfl ?_
  refine V.aload_n dX8_stillOf_13 rfl ?_
  refine V.get dX8_stillOf_14 flX8_181 nM_0 gM_0 (by decide) (eM_0_13 _ _) ?_
  rcases itc h with ⟨hc, h⟩ | ⟨hc, h⟩
  · refine V.icmp_ge (tgt := 74) dX8_stillOf_17 (by decide) (fun _ => ?_) (fun hn => absurd hc hn)
    refine V.iload_n dX8_stillOf_74 rfl ?_
    rcases itc h with ⟨hc, h⟩ | ⟨hc, h⟩
    · refine V.if_ne (tgt := 82) dX8_stillOf_75 (by decide) (fun hn => absurd hc hn) (fun _ => ?_)
      refine V.iload_n dX8_stillOf_78 rfl ?_
      refine V.goto (tgt := 83) dX8_stillOf_79 (by decide) ?_
      exact V.forget (vX8_stillOf_83 h hQ) trivial
    · refine V.if_ne (tgt := 82) dX8_stillOf_75 (by decide) (fun _ => ?_) (fun hn => absurd hn hc)
      refine V.iload_n dX8_stillOf_82 rfl ?_
      exact V.forget (vX8_stillOf_83 h hQ) trivial
  · refine V.icmp_ge (tgt := 74) dX8_stillOf_17 (by decide) (fun hn => absurd hn hc) (fun _ => ?_)
    refine V.aload_n dX8_stillOf_20 rfl ?_
    refine V.aload_n dX8_stillOf_21 rfl ?_
    refine V.iconst ic_1 dX8_stillOf_22 ?_
    refine V.iload dX8_stillOf_23 rfl ?_
    refine V.ishl dX8_stillOf_25 ?_
    obtain ⟨q1, h1, h⟩ := bdc h
    refine V.callV1 (mc := mX8_windsBut) (d' := 1) dX8_stillOf_26 lkX8_204 hfX8_windsBut nM_0 gM_0 rfl (by decide) (Nat.le_of_ble_eq_true rfl) (Nat.le_of_ble_eq_true rfl) (vX8_windsBut h1 ?_)
    refine V.putL dX8_stillOf_29 fpX8_208 nM_0 gM_0 (by decide) rfl ?_
    exact V.forget (vX8_stillOf_32 hK11 h hQ) ⟨rfl, ⟨rfl, ⟨rfl, ⟨rfl, ⟨rfl, trivial⟩⟩⟩⟩⟩
def LfX8_stillOf_11 : Nat → Int32 → Int32 → Int32 → Int32 → vMem → Option (Int32 × vMem)
  | 0, _, _, _, _, _ => none
  | n + 1, l1, l2, l3, l4, σ => fX8_stillOf_11 (LfX8_stillOf_11 n) l1 l2 l3 l4 σ
theorem LvX8_stillOf_11 {ad : Nat → Nat} {Q : Option Value → vMem → Prop} {r : (Int32 × vMem)} (hQ : Q (some (.int r.1)) r.2) : ∀ (n : Nat) (l1 : Int32) (l2 : Int32) (l3 : Int32) (l4 : Int32) (σ : vMem), LfX8_stillOf_11 n l1 l2 l3 l4 σ = some r → V GM mX8_stillOf ad Q 7 11 [some (.ref (ad 0)), some (.int l1), some (.int l2), some (.int l3), some (.int l4), none] [] σ := by
  intro n
  induction n with
  | zero => intro l1 l2 l3 l4 σ h; cases h
  | succ n ih => intro l1 l2 l3 l4 σ h; exact vX8_stillOf_11 ih h hQ
def fX8_stillOf (l1 : Int32) (σ : vMem) : Option (Int32 × vMem) :=
  (fX8_asTold σ).bind fun q1 => LfX8_stillOf_11 200 l1 (-1 : Int32) (-1 : Int32) (0 : Int32) q1
theorem vX8_stillOf {ad : Nat → Nat} {Q : Option Value → vMem → Prop} {r : (Int32 × vMem)} {l1 : Int32} {σ : vMem} (h : fX8_stillOf l1 σ = some r) (hQ : Q (some (.int r.1)) r.2) : V GM mX8_stillOf ad Q 7 0 [some (.ref (ad 0)), some (.int l1), none, none, none, none] [] σ := by
  unfold fX8_stillOf at h
  refine V.aload_n dX8_stillOf_0 rfl ?_
  obtain ⟨q1, h1, h⟩ := bdc h
  refine V.callV0 (mc := mX8_asTold) (d' := 6) dX8_stillOf_1 lkX8_242 hfX8_asTold nM_0 gM_0 rfl (by decide) (Nat.le_of_ble_eq_true rfl) (Nat.le_of_ble_eq_true rfl) (vX8_asTold h1 ?_)
  refine V.iconst ic_m1 dX8_stillOf_4 ?_
  refine V.istore_n dX8_stillOf_5 (by decide) rfl ?_
  refine V.iconst ic_m1 dX8_stillOf_6 ?_
  refine V.istore_n dX8_stillOf_7 (by decide) rfl ?_
  refine V.iconst ic_0 dX8_stillOf_8 ?_
  refine V.istore dX8_stillOf_9 (by decide) rfl ?_
  exact V.forget (LvX8_stillOf_11 hQ 200 _ _ _ _ _ h) ⟨rfl, ⟨rfl, ⟨rfl, ⟨rfl, ⟨rfl, trivial⟩⟩⟩⟩⟩
def fX8_still_19 (s0 : Int32) (σ : vMem) : Option (Int32 × vMem) :=
  some (s0, σ)
theorem vX8_still_19 {ad : Nat → Nat} {Q : Option Value → vMem → Prop} {r : (Int32 × vMem)} {s0 : Int32} {σ : vMem} (h : fX8_still_19 s0 σ = some r) (hQ : Q (some (.int r.1)) r.2) : V GM mX8_still ad Q 8 19 [none, none] [.int s0] σ := by
  unfold fX8_still_19 at h
  obtain rfl := Option.some.inj h
  exact V.iret dX8_still_19 rfl hQ
def fX8_still (l1 : Int32) (σ : vMem) : Option (Int32 × vMem) :=
  (fX8_in l1 (0 : Int32) (1 : Int32) σ).bind fun q1 => if q1.1 = 0 then (fX8_still_19 (-2 : Int32) q1.2) else
  ((fX8_stillOf l1 q1.2).bind fun q2 => fX8_still_19 q2.1 q2.2)
theorem vX8_still {ad : Nat → Nat} {Q : Option Value → vMem → Prop} {r : (Int32 × vMem)} {l1 : Int32} {σ : vMem} (h : fX8_still l1 σ = some r) (hQ : Q (some (.int r.1)) r.2) : V GM mX8_still ad Q 8 0 [some (.ref (ad 0)), some (.int l1)] [] σ := by
  unfold fX8_still at h
  refine V.iload_n dX8_still_0 rfl ?_
  refine V.iconst ic_0 dX8_still_1 ?_
  refine V.iconst ic_1 dX8_still_2 ?_
  obtain ⟨q1, h1, h⟩ := bdc h
  refine V.callS3 (mc := mX8_in) (d' := 0) dX8_still_3 lkX8_125 hfX8_in (by decide) (Nat.le_of_ble_eq_true rfl) (Nat.le_of_ble_eq_true rfl) (vX8_in h1 ?_)
  rcases itc h with ⟨hc, h⟩ | ⟨hc, h⟩
  · refine V.if_eq (tgt := 17) dX8_still_6 (by decide) (fun _ => ?_) (fun hn => absurd hc hn)
    refine V.bipush bp_m2 dX8_still_17 ?_
    exact V.forget (vX8_still_19 h hQ) trivial
  · refine V.if_eq (tgt := 17) dX8_still_6 (by decide) (fun hn => absurd hn hc) (fun _ => ?_)
    refine V.aload_n dX8_still_9 rfl ?_
    refine V.iload_n dX8_still_10 rfl ?_
    obtain ⟨q2, h1, h⟩ := bdc h
    refine V.callV1 (mc := mX8_stillOf) (d' := 7) dX8_still_11 lkX8_292 hfX8_stillOf nM_0 gM_0 rfl (by decide) (Nat.le_of_ble_eq_true rfl) (Nat.le_of_ble_eq_true rfl) (vX8_stillOf h1 ?_)
    refine V.goto (tgt := 19) dX8_still_14 (by decide) ?_
    exact V.forget (vX8_still_19 h hQ) trivial
def fX8_seen_30 (σ : vMem) : Option (Int32 × vMem) :=
  some ((-2 : Int32), σ)
theorem vX8_seen_30 {ad : Nat → Nat} {Q : Option Value → vMem → Prop} {r : (Int32 × vMem)} {σ : vMem} (h : fX8_seen_30 σ = some r) (hQ : Q (some (.int r.1)) r.2) : V GM mX8_seen ad Q 1 30 [none, none, none, none] [] σ := by
  unfold fX8_seen_30 at h
  refine V.bipush bp_m2 dX8_seen_30 ?_
  obtain rfl := Option.some.inj h
  exact V.iret dX8_seen_32 rfl hQ
def fX8_seen_85 (σ : vMem) : Option (Int32 × vMem) :=
  some ((σ.1 0 37), σ)
theorem vX8_seen_85 {ad : Nat → Nat} {Q : Option Value → vMem → Prop} {r : (Int32 × vMem)} {σ : vMem} (h : fX8_seen_85 σ = some r) (hQ : Q (some (.int r.1)) r.2) : V GM mX8_seen ad Q 1 85 [some (.ref (ad 0)), none, none, none] [] σ := by
  unfold fX8_seen_85 at h
  refine V.aload_n dX8_seen_85 rfl ?_
  refine V.get dX8_seen_86 flX8_295 nM_0 gM_0 (by decide) (eM_0_37 _ _) ?_
  obtain rfl := Option.some.inj h
  exact V.iret dX8_seen_89 rfl hQ
def fX8_seen_75 (σ : vMem) : Option (Int32 × vMem) :=
  fX8_seen_85 (vup σ 0 37 ((σ.1 0 37) + (1 : Int32)))
theorem vX8_seen_75 {ad : Nat → Nat} {Q : Option Value → vMem → Prop} {r : (Int32 × vMem)} {σ : vMem} (h : fX8_seen_75 σ = some r) (hQ : Q (some (.int r.1)) r.2) : V GM mX8_seen ad Q 1 75 [some (.ref (ad 0)), none, none, none] [] σ := by
  unfold fX8_seen_75 at h
  refine V.aload_n dX8_seen_75 rfl ?_
  refine V.dup rfl dX8_seen_76 ?_
  refine V.get dX8_seen_77 flX8_295 nM_0 gM_0 (by decide) (eM_0_37 _ _) ?_
  refine V.iconst ic_1 dX8_seen_80 ?_
  refine V.iadd dX8_seen_81 ?_
  refine V.putI dX8_seen_82 fpX8_295 nM_0 gM_0 (by decide) rfl ?_
  exact V.forget (vX8_seen_85 h hQ) ⟨rfl, trivial⟩
def fX8_seen_65 (l3 : Int32) (σ : vMem) : Option (Int32 × vMem) :=
  if (σ.1 0 37) < 0 ∨ 8 ≤ (σ.1 0 37).toNatClampNeg then none else fX8_seen_75 (vup σ 29 (σ.1 0 37).toNatClampNeg l3)
theorem vX8_seen_65 {ad : Nat → Nat} {Q : Option Value → vMem → Prop} {r : (Int32 × vMem)} {l3 : Int32} {σ : vMem} (h : fX8_seen_65 l3 σ = some r) (hQ : Q (some (.int r.1)) r.2) : V GM mX8_seen ad Q 1 65 [some (.ref (ad 0)), none, none, some (.int l3)] [] σ := by
  unfold fX8_seen_65 at h
  refine V.aload_n dX8_seen_65 rfl ?_
  refine V.get dX8_seen_66 flX8_95 nM_0 gM_0 (by decide) (eM_0_40 _ _) ?_
  refine V.aload_n dX8_seen_69 rfl ?_
  refine V.get dX8_seen_70 flX8_295 nM_0 gM_0 (by decide) (eM_0_37 _ _) ?_
  refine V.iload_n dX8_seen_73 rfl ?_
  obtain ⟨hb, h⟩ := ckn h
  refine V.iast dX8_seen_74 nM_29 gM_29 hb ?_
  exact V.forget (vX8_seen_75 h hQ) ⟨rfl, trivial⟩
def fX8_seen_55 (l2 : Int32) (l3 : Int32) (σ : vMem) : Option (Int32 × vMem) :=
  if (σ.1 0 37) < 0 ∨ 8 ≤ (σ.1 0 37).toNatClampNeg then none else fX8_seen_65 l3 (vup σ 28 (σ.1 0 37).toNatClampNeg l2)
theorem vX8_seen_55 {ad : Nat → Nat} {Q : Option Value → vMem → Prop} {r : (Int32 × vMem)} {l2 : Int32} {l3 : Int32} {σ : vMem} (h : fX8_seen_55 l2 l3 σ = some r) (hQ : Q (some (.int r.1)) r.2) : V GM mX8_seen ad Q 1 55 [some (.ref (ad 0)), none, some (.int l2), some (.int l3)] [] σ := by
  unfold fX8_seen_55 at h
  refine V.aload_n dX8_seen_55 rfl ?_
  refine V.get dX8_seen_56 flX8_92 nM_0 gM_0 (by decide) (eM_0_39 _ _) ?_
  refine V.aload_n dX8_seen_59 rfl ?_
  refine V.get dX8_seen_60 flX8_295 nM_0 gM_0 (by decide) (eM_0_37 _ _) ?_
  refine V.iload_n dX8_seen_63 rfl ?_
  obtain ⟨hb, h⟩ := ckn h
  refine V.iast dX8_seen_64 nM_28 gM_28 hb ?_
  exact V.forget (vX8_seen_65 h hQ) ⟨rfl, ⟨rfl, trivial⟩⟩
def fX8_seen (l1 : Int32) (l2 : Int32) (l3 : Int32) (σ : vMem) : Option (Int32 × vMem) :=
  (fX8_in l1 (0 : Int32) (7 : Int32) σ).bind fun q1 => if q1.1 = 0 then (fX8_seen_30 q1.2) else
  ((fX8_in l2 (0 : Int32) (11 : Int32) q1.2).bind fun q2 => if q2.1 = 0 then (fX8_seen_30 q2.2) else
  ((fX8_in l3 (0 : Int32) (8 : Int32) q2.2).bind fun q3 => if q3.1 = 0 then (fX8_seen_30 q3.2) else
  (if (q3.2.1 0 37) = (8 : Int32) then (some ((-4 : Int32), q3.2)) else
  (if (q3.2.1 0 37) < 0 ∨ 8 ≤ (q3.2.1 0 37).toNatClampNeg then none else fX8_seen_55 l2 l3 (vup q3.2 27 (q3.2.1 0 37).toNatClampNeg l1)))))
theorem vX8_seen {ad : Nat → Nat} {Q : Option Value → vMem → Prop} {r : (Int32 × vMem)} {l1 : Int32} {l2 : Int32} {l3 : Int32} {σ : vMem} (h : fX8_seen l1 l2 l3 σ = some r) (hQ : Q (some (.int r.1)) r.2) : V GM mX8_seen ad Q 1 0 [some (.ref (ad 0)), some (.int l1), some (.int l2), some (.int l3)] [] σ := by
  unfold fX8_seen at h
  refine V.iload_n dX8_seen_0 rfl ?_
  refine V.iconst ic_0 dX8_seen_1 ?_
  refine V.bipush bp_7 dX8_seen_2 ?_
  obtain ⟨q1, h1, h⟩ := bdc h
  refine V.callS3 (mc := mX8_in) (d' := 0) dX8_seen_4 lkX8_125 hfX8_in (by decide) (Nat.le_of_ble_eq_true rfl) (Nat.le_of_ble_eq_true rfl) (vX8_in h1 ?_)
  rcases itc h with ⟨hc, h⟩ | ⟨hc, h⟩
  · refine V.if_eq (tgt := 30) dX8_seen_7 (by decide) (fun _ => ?_) (fun hn => absurd hc hn)
    exact V.forget (vX8_seen_30 h hQ) trivial
  · refine V.if_eq (tgt := 30) dX8_seen_7 (by decide) (fun hn => absurd hn hc) (fun _ => ?_)
    refine V.iload_n dX8_seen_10 rfl ?_
    refine V.iconst ic_0 dX8_seen_11 ?_
    refine V.bipush bp_11 dX8_seen_12 ?_
    obtain ⟨q2, h1, h⟩ := bdc h
    refine V.callS3 (mc := mX8_in) (d' := 0) dX8_seen_14 lkX8_125 hfX8_in (by decide) (Nat.le_of_ble_eq_true rfl) (Nat.le_of_ble_eq_true rfl) (vX8_in h1 ?_)
    rcases itc h with ⟨hc, h⟩ | ⟨hc, h⟩
    · refine V.if_eq (tgt := 30) dX8_seen_17 (by decide) (fun _ => ?_) (fun hn => absurd hc hn)
      exact V.forget (vX8_seen_30 h hQ) trivial
    · refine V.if_eq (tgt := 30) dX8_seen_17 (by decide) (fun hn => absurd hn hc) (fun _ => ?_)
      refine V.iload_n dX8_seen_20 rfl ?_
      refine V.iconst ic_0 dX8_seen_21 ?_
      refine V.bipush bp_8 dX8_seen_22 ?_
      obtain ⟨q3, h1, h⟩ := bdc h
      refine V.callS3 (mc := mX8_in) (d' := 0) dX8_seen_24 lkX8_125 hfX8_in (by decide) (Nat.le_of_ble_eq_true rfl) (Nat.le_of_ble_eq_true rfl) (vX8_in h1 ?_)
      rcases itc h with ⟨hc, h⟩ | ⟨hc, h⟩
      · refine V.if_ne (tgt := 33) dX8_seen_27 (by decide) (fun hn => absurd hc hn) (fun _ => ?_)
        exact V.forget (vX8_seen_30 h hQ) trivial
      · refine V.if_ne (tgt := 33) dX8_seen_27 (by decide) (fun _ => ?_) (fun hn => absurd hn hc)
        refine V.aload_n dX8_seen_33 rfl ?_
        refine V.get dX8_seen_34 flX8_295 nM_0 gM_0 (by decide) (eM_0_37 _ _) ?_
        refine V.bipush bp_8 dX8_seen_37 ?_
        rcases itc h with ⟨hc, h⟩ | ⟨hc, h⟩
        · refine V.icmp_ne (tgt := 45) dX8_seen_39 (by decide) (fun hn => absurd hc hn) (fun _ => ?_)
          refine V.bipush bp_m4 dX8_seen_42 ?_
          obtain rfl := Option.some.inj h
          exact V.iret dX8_seen_44 rfl hQ
        · refine V.icmp_ne (tgt := 45) dX8_seen_39 (by decide) (fun _ => ?_) (fun hn => absurd hn hc)
          refine V.aload_n dX8_seen_45 rfl ?_
          refine V.get dX8_seen_46 flX8_89 nM_0 gM_0 (by decide) (eM_0_38 _ _) ?_
          refine V.aload_n dX8_seen_49 rfl ?_
          refine V.get dX8_seen_50 flX8_295 nM_0 gM_0 (by decide) (eM_0_37 _ _) ?_
          refine V.iload_n dX8_seen_53 rfl ?_
          obtain ⟨hb, h⟩ := ckn h
          refine V.iast dX8_seen_54 nM_27 gM_27 hb ?_
          exact V.forget (vX8_seen_55 h hQ) ⟨rfl, ⟨rfl, ⟨rfl, trivial⟩⟩⟩
def fX8_forget_10 (l1 : Int32) (σ : vMem) : Option (Int32 × vMem) :=
  some (l1, σ)
theorem vX8_forget_10 {ad : Nat → Nat} {Q : Option Value → vMem → Prop} {r : (Int32 × vMem)} {l1 : Int32} {σ : vMem} (h : fX8_forget_10 l1 σ = some r) (hQ : Q (some (.int r.1)) r.2) : V GM mX8_forget ad Q 0 10 [none, some (.int l1)] [] σ := by
  unfold fX8_forget_10 at h
  refine V.iload_n dX8_forget_10 rfl ?_
  obtain rfl := Option.some.inj h
  exact V.iret dX8_forget_11 rfl hQ
def fX8_forget (σ : vMem) : Option (Int32 × vMem) :=
  fX8_forget_10 (σ.1 0 37) (vup σ 0 37 (0 : Int32))
theorem vX8_forget {ad : Nat → Nat} {Q : Option Value → vMem → Prop} {r : (Int32 × vMem)} {σ : vMem} (h : fX8_forget σ = some r) (hQ : Q (some (.int r.1)) r.2) : V GM mX8_forget ad Q 0 0 [some (.ref (ad 0)), none] [] σ := by
  unfold fX8_forget at h
  refine V.aload_n dX8_forget_0 rfl ?_
  refine V.get dX8_forget_1 flX8_295 nM_0 gM_0 (by decide) (eM_0_37 _ _) ?_
  refine V.istore_n dX8_forget_4 (by decide) rfl ?_
  refine V.aload_n dX8_forget_5 rfl ?_
  refine V.iconst ic_0 dX8_forget_6 ?_
  refine V.putI dX8_forget_7 fpX8_295 nM_0 gM_0 (by decide) rfl ?_
  exact V.forget (vX8_forget_10 h hQ) ⟨rfl, trivial⟩
