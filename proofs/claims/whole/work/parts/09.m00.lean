def fX8_in_15 (s0 : Int32) (σ : vMem) : Option (Int32 × vMem) :=
  if ¬ (s0 = 0 ∨ s0 = 1) then none else some (s0, σ)
theorem vX8_in_15 {ad : Nat → Nat} {Q : Option Value → vMem → Prop} {r : (Int32 × vMem)} {s0 : Int32} {σ : vMem} (h : fX8_in_15 s0 σ = some r) (hQ : Q (some (.int r.1)) r.2) : V GM mX8_in ad Q 0 15 [none, none, none] [.int s0] σ := by
  unfold fX8_in_15 at h
  obtain ⟨hb, h⟩ := ckn h
  obtain rfl := Option.some.inj h
  exact V.zret dX8_in_15 rfl (Decidable.not_not.mp hb) hQ
def fX8_in_14 (σ : vMem) : Option (Int32 × vMem) :=
  fX8_in_15 (0 : Int32) σ
theorem vX8_in_14 {ad : Nat → Nat} {Q : Option Value → vMem → Prop} {r : (Int32 × vMem)} {σ : vMem} (h : fX8_in_14 σ = some r) (hQ : Q (some (.int r.1)) r.2) : V GM mX8_in ad Q 0 14 [none, none, none] [] σ := by
  unfold fX8_in_14 at h
  refine V.iconst ic_0 dX8_in_14 ?_
  exact V.forget (vX8_in_15 h hQ) trivial
def fX8_in (l0 : Int32) (l1 : Int32) (l2 : Int32) (σ : vMem) : Option (Int32 × vMem) :=
  if l0 < l1 then (fX8_in_14 σ) else
  (if l2 < l0 then (fX8_in_14 σ) else
  (fX8_in_15 (1 : Int32) σ))
theorem vX8_in {ad : Nat → Nat} {Q : Option Value → vMem → Prop} {r : (Int32 × vMem)} {l0 : Int32} {l1 : Int32} {l2 : Int32} {σ : vMem} (h : fX8_in l0 l1 l2 σ = some r) (hQ : Q (some (.int r.1)) r.2) : V GM mX8_in ad Q 0 0 [some (.int l0), some (.int l1), some (.int l2)] [] σ := by
  unfold fX8_in at h
  refine V.iload_n dX8_in_0 rfl ?_
  refine V.iload_n dX8_in_1 rfl ?_
  rcases itc h with ⟨hc, h⟩ | ⟨hc, h⟩
  · refine V.icmp_lt (tgt := 14) dX8_in_2 (by decide) (fun _ => ?_) (fun hn => absurd hc hn)
    exact V.forget (vX8_in_14 h hQ) trivial
  · refine V.icmp_lt (tgt := 14) dX8_in_2 (by decide) (fun hn => absurd hn hc) (fun _ => ?_)
    refine V.iload_n dX8_in_5 rfl ?_
    refine V.iload_n dX8_in_6 rfl ?_
    rcases itc h with ⟨hc, h⟩ | ⟨hc, h⟩
    · refine V.icmp_gt (tgt := 14) dX8_in_7 (by decide) (fun _ => ?_) (fun hn => absurd hc hn)
      exact V.forget (vX8_in_14 h hQ) trivial
    · refine V.icmp_gt (tgt := 14) dX8_in_7 (by decide) (fun hn => absurd hn hc) (fun _ => ?_)
      refine V.iconst ic_1 dX8_in_10 ?_
      refine V.goto (tgt := 15) dX8_in_11 (by decide) ?_
      exact V.forget (vX8_in_15 h hQ) trivial
def fX8_isText (l0 : Int32) (σ : vMem) : Option (Int32 × vMem) :=
  (fX8_in l0 (0 : Int32) (1 : Int32) σ).bind fun q1 => if ¬ (q1.1 = 0 ∨ q1.1 = 1) then none else some (q1.1, q1.2)
theorem vX8_isText {ad : Nat → Nat} {Q : Option Value → vMem → Prop} {r : (Int32 × vMem)} {l0 : Int32} {σ : vMem} (h : fX8_isText l0 σ = some r) (hQ : Q (some (.int r.1)) r.2) : V GM mX8_isText ad Q 1 0 [some (.int l0)] [] σ := by
  unfold fX8_isText at h
  refine V.iload_n dX8_isText_0 rfl ?_
  refine V.iconst ic_0 dX8_isText_1 ?_
  refine V.iconst ic_1 dX8_isText_2 ?_
  obtain ⟨q1, h1, h⟩ := bdc h
  refine V.callS3 (mc := mX8_in) (d' := 0) dX8_isText_3 lkX8_125 hfX8_in (by decide) (Nat.le_of_ble_eq_true rfl) (Nat.le_of_ble_eq_true rfl) (vX8_in h1 ?_)
  obtain ⟨hb, h⟩ := ckn h
  obtain rfl := Option.some.inj h
  exact V.zret dX8_isText_6 rfl (Decidable.not_not.mp hb) hQ
def fX8_type_18 (σ : vMem) : Option (Int32 × vMem) :=
  some ((-2 : Int32), σ)
theorem vX8_type_18 {ad : Nat → Nat} {Q : Option Value → vMem → Prop} {r : (Int32 × vMem)} {σ : vMem} (h : fX8_type_18 σ = some r) (hQ : Q (some (.int r.1)) r.2) : V GM mX8_type ad Q 2 18 [none, none, none] [] σ := by
  unfold fX8_type_18 at h
  refine V.bipush bp_m2 dX8_type_18 ?_
  obtain rfl := Option.some.inj h
  exact V.iret dX8_type_20 rfl hQ
def fX8_type_71 (l1 : Int32) (σ : vMem) : Option (Int32 × vMem) :=
  if l1 < 0 ∨ 2 ≤ l1.toNatClampNeg then none else some ((σ.1 1 l1.toNatClampNeg), σ)
theorem vX8_type_71 {ad : Nat → Nat} {Q : Option Value → vMem → Prop} {r : (Int32 × vMem)} {l1 : Int32} {σ : vMem} (h : fX8_type_71 l1 σ = some r) (hQ : Q (some (.int r.1)) r.2) : V GM mX8_type ad Q 2 71 [some (.ref (ad 0)), some (.int l1), none] [] σ := by
  unfold fX8_type_71 at h
  refine V.aload_n dX8_type_71 rfl ?_
  refine V.get dX8_type_72 flX8_7 nM_0 gM_0 (by decide) (eM_0_0 _ _) ?_
  refine V.iload_n dX8_type_75 rfl ?_
  obtain ⟨hb, h⟩ := ckn h
  refine V.iald dX8_type_76 nM_1 gM_1 hb ?_
  obtain rfl := Option.some.inj h
  exact V.iret dX8_type_77 rfl hQ
def fX8_type_61 (l1 : Int32) (σ : vMem) : Option (Int32 × vMem) :=
  if l1 < 0 ∨ 2 ≤ l1.toNatClampNeg then none else if l1 < 0 ∨ 2 ≤ l1.toNatClampNeg then none else fX8_type_71 l1 (vup σ 1 l1.toNatClampNeg ((σ.1 1 l1.toNatClampNeg) + (1 : Int32)))
theorem vX8_type_61 {ad : Nat → Nat} {Q : Option Value → vMem → Prop} {r : (Int32 × vMem)} {l1 : Int32} {σ : vMem} (h : fX8_type_61 l1 σ = some r) (hQ : Q (some (.int r.1)) r.2) : V GM mX8_type ad Q 2 61 [some (.ref (ad 0)), some (.int l1), none] [] σ := by
  unfold fX8_type_61 at h
  refine V.aload_n dX8_type_61 rfl ?_
  refine V.get dX8_type_62 flX8_7 nM_0 gM_0 (by decide) (eM_0_0 _ _) ?_
  refine V.iload_n dX8_type_65 rfl ?_
  refine V.dup2 rfl rfl dX8_type_66 ?_
  obtain ⟨hb, h⟩ := ckn h
  refine V.iald dX8_type_67 nM_1 gM_1 hb ?_
  refine V.iconst ic_1 dX8_type_68 ?_
  refine V.iadd dX8_type_69 ?_
  obtain ⟨hb, h⟩ := ckn h
  refine V.iast dX8_type_70 nM_1 gM_1 hb ?_
  exact V.forget (vX8_type_71 h hQ) ⟨rfl, ⟨rfl, trivial⟩⟩
def fX8_type_38 (l1 : Int32) (l2 : Int32) (s0 : Int32) (s1 : Int32) (σ : vMem) : Option (Int32 × vMem) :=
  if s0 = s1 then (some ((-4 : Int32), σ)) else
  (if l1 < 0 ∨ 2 ≤ l1.toNatClampNeg then none else if (((63 : Int32) * l1) + (σ.1 1 l1.toNatClampNeg)) < 0 ∨ 126 ≤ (((63 : Int32) * l1) + (σ.1 1 l1.toNatClampNeg)).toNatClampNeg then none else fX8_type_61 l1 (vup σ 2 (((63 : Int32) * l1) + (σ.1 1 l1.toNatClampNeg)).toNatClampNeg l2))
theorem vX8_type_38 {ad : Nat → Nat} {Q : Option Value → vMem → Prop} {r : (Int32 × vMem)} {l1 : Int32} {l2 : Int32} {s0 : Int32} {s1 : Int32} {σ : vMem} (h : fX8_type_38 l1 l2 s0 s1 σ = some r) (hQ : Q (some (.int r.1)) r.2) : V GM mX8_type ad Q 2 38 [some (.ref (ad 0)), some (.int l1), some (.int l2)] [.int s1, .int s0] σ := by
  unfold fX8_type_38 at h
  rcases itc h with ⟨hc, h⟩ | ⟨hc, h⟩
  · refine V.icmp_ne (tgt := 44) dX8_type_38 (by decide) (fun hn => absurd hc hn) (fun _ => ?_)
    refine V.bipush bp_m4 dX8_type_41 ?_
    obtain rfl := Option.some.inj h
    exact V.iret dX8_type_43 rfl hQ
  · refine V.icmp_ne (tgt := 44) dX8_type_38 (by decide) (fun _ => ?_) (fun hn => absurd hn hc)
    refine V.aload_n dX8_type_44 rfl ?_
    refine V.get dX8_type_45 flX8_13 nM_0 gM_0 (by decide) (eM_0_1 _ _) ?_
    refine V.bipush bp_63 dX8_type_48 ?_
    refine V.iload_n dX8_type_50 rfl ?_
    refine V.imul dX8_type_51 ?_
    refine V.aload_n dX8_type_52 rfl ?_
    refine V.get dX8_type_53 flX8_7 nM_0 gM_0 (by decide) (eM_0_0 _ _) ?_
    refine V.iload_n dX8_type_56 rfl ?_
    obtain ⟨hb, h⟩ := ckn h
    refine V.iald dX8_type_57 nM_1 gM_1 hb ?_
    refine V.iadd dX8_type_58 ?_
    refine V.iload_n dX8_type_59 rfl ?_
    obtain ⟨hb, h⟩ := ckn h
    refine V.iast dX8_type_60 nM_2 gM_2 hb ?_
    exact V.forget (vX8_type_61 h hQ) ⟨rfl, ⟨rfl, trivial⟩⟩
def fX8_type (l1 : Int32) (l2 : Int32) (σ : vMem) : Option (Int32 × vMem) :=
  (fX8_isText l1 σ).bind fun q1 => if q1.1 = 0 then (fX8_type_18 q1.2) else
  ((fX8_in l2 (0 : Int32) (255 : Int32) q1.2).bind fun q2 => if q2.1 = 0 then (fX8_type_18 q2.2) else
  (if l1 < 0 ∨ 2 ≤ l1.toNatClampNeg then none else if l1 = 0 then (fX8_type_38 l1 l2 (q2.2.1 1 l1.toNatClampNeg) (35 : Int32) q2.2) else
  (fX8_type_38 l1 l2 (q2.2.1 1 l1.toNatClampNeg) (63 : Int32) q2.2)))
theorem vX8_type {ad : Nat → Nat} {Q : Option Value → vMem → Prop} {r : (Int32 × vMem)} {l1 : Int32} {l2 : Int32} {σ : vMem} (h : fX8_type l1 l2 σ = some r) (hQ : Q (some (.int r.1)) r.2) : V GM mX8_type ad Q 2 0 [some (.ref (ad 0)), some (.int l1), some (.int l2)] [] σ := by
  unfold fX8_type at h
  refine V.iload_n dX8_type_0 rfl ?_
  obtain ⟨q1, h1, h⟩ := bdc h
  refine V.callS1 (mc := mX8_isText) (d' := 1) dX8_type_1 lkX8_129 hfX8_isText (by decide) (Nat.le_of_ble_eq_true rfl) (Nat.le_of_ble_eq_true rfl) (vX8_isText h1 ?_)
  rcases itc h with ⟨hc, h⟩ | ⟨hc, h⟩
  · refine V.if_eq (tgt := 18) dX8_type_4 (by decide) (fun _ => ?_) (fun hn => absurd hc hn)
    exact V.forget (vX8_type_18 h hQ) trivial
  · refine V.if_eq (tgt := 18) dX8_type_4 (by decide) (fun hn => absurd hn hc) (fun _ => ?_)
    refine V.iload_n dX8_type_7 rfl ?_
    refine V.iconst ic_0 dX8_type_8 ?_
    refine V.sipush sp_255 dX8_type_9 ?_
    obtain ⟨q2, h1, h⟩ := bdc h
    refine V.callS3 (mc := mX8_in) (d' := 0) dX8_type_12 lkX8_125 hfX8_in (by decide) (Nat.le_of_ble_eq_true rfl) (Nat.le_of_ble_eq_true rfl) (vX8_in h1 ?_)
    rcases itc h with ⟨hc, h⟩ | ⟨hc, h⟩
    · refine V.if_ne (tgt := 21) dX8_type_15 (by decide) (fun hn => absurd hc hn) (fun _ => ?_)
      exact V.forget (vX8_type_18 h hQ) trivial
    · refine V.if_ne (tgt := 21) dX8_type_15 (by decide) (fun _ => ?_) (fun hn => absurd hn hc)
      refine V.aload_n dX8_type_21 rfl ?_
      refine V.get dX8_type_22 flX8_7 nM_0 gM_0 (by decide) (eM_0_0 _ _) ?_
      refine V.iload_n dX8_type_25 rfl ?_
      obtain ⟨hb, h⟩ := ckn h
      refine V.iald dX8_type_26 nM_1 gM_1 hb ?_
      refine V.iload_n dX8_type_27 rfl ?_
      rcases itc h with ⟨hc, h⟩ | ⟨hc, h⟩
      · refine V.if_ne (tgt := 36) dX8_type_28 (by decide) (fun hn => absurd hc hn) (fun _ => ?_)
        refine V.bipush bp_35 dX8_type_31 ?_
        refine V.goto (tgt := 38) dX8_type_33 (by decide) ?_
        exact V.forget (vX8_type_38 h hQ) ⟨rfl, ⟨rfl, ⟨rfl, trivial⟩⟩⟩
      · refine V.if_ne (tgt := 36) dX8_type_28 (by decide) (fun _ => ?_) (fun hn => absurd hn hc)
        refine V.bipush bp_63 dX8_type_36 ?_
        exact V.forget (vX8_type_38 h hQ) ⟨rfl, ⟨rfl, ⟨rfl, trivial⟩⟩⟩
def fX8_wipe_24 (l2 : Int32) (σ : vMem) : Option (Int32 × vMem) :=
  some (l2, σ)
theorem vX8_wipe_24 {ad : Nat → Nat} {Q : Option Value → vMem → Prop} {r : (Int32 × vMem)} {l2 : Int32} {σ : vMem} (h : fX8_wipe_24 l2 σ = some r) (hQ : Q (some (.int r.1)) r.2) : V GM mX8_wipe ad Q 2 24 [none, none, some (.int l2)] [] σ := by
  unfold fX8_wipe_24 at h
  refine V.iload_n dX8_wipe_24 rfl ?_
  obtain rfl := Option.some.inj h
  exact V.iret dX8_wipe_25 rfl hQ
def fX8_wipe (l1 : Int32) (σ : vMem) : Option (Int32 × vMem) :=
  (fX8_isText l1 σ).bind fun q1 => if q1.1 = 0 then (some ((-2 : Int32), q1.2)) else
  (if l1 < 0 ∨ 2 ≤ l1.toNatClampNeg then none else if l1 < 0 ∨ 2 ≤ l1.toNatClampNeg then none else fX8_wipe_24 (q1.2.1 1 l1.toNatClampNeg) (vup q1.2 1 l1.toNatClampNeg (0 : Int32)))
theorem vX8_wipe {ad : Nat → Nat} {Q : Option Value → vMem → Prop} {r : (Int32 × vMem)} {l1 : Int32} {σ : vMem} (h : fX8_wipe l1 σ = some r) (hQ : Q (some (.int r.1)) r.2) : V GM mX8_wipe ad Q 2 0 [some (.ref (ad 0)), some (.int l1), none] [] σ := by
  unfold fX8_wipe at h
  refine V.iload_n dX8_wipe_0 rfl ?_
  obtain ⟨q1, h1, h⟩ := bdc h
  refine V.callS1 (mc := mX8_isText) (d' := 1) dX8_wipe_1 lkX8_129 hfX8_isText (by decide) (Nat.le_of_ble_eq_true rfl) (Nat.le_of_ble_eq_true rfl) (vX8_isText h1 ?_)
  rcases itc h with ⟨hc, h⟩ | ⟨hc, h⟩
  · refine V.if_ne (tgt := 10) dX8_wipe_4 (by decide) (fun hn => absurd hc hn) (fun _ => ?_)
    refine V.bipush bp_m2 dX8_wipe_7 ?_
    obtain rfl := Option.some.inj h
    exact V.iret dX8_wipe_9 rfl hQ
  · refine V.if_ne (tgt := 10) dX8_wipe_4 (by decide) (fun _ => ?_) (fun hn => absurd hn hc)
    refine V.aload_n dX8_wipe_10 rfl ?_
    refine V.get dX8_wipe_11 flX8_7 nM_0 gM_0 (by decide) (eM_0_0 _ _) ?_
    refine V.iload_n dX8_wipe_14 rfl ?_
    obtain ⟨hb, h⟩ := ckn h
    refine V.iald dX8_wipe_15 nM_1 gM_1 hb ?_
    refine V.istore_n dX8_wipe_16 (by decide) rfl ?_
    refine V.aload_n dX8_wipe_17 rfl ?_
    refine V.get dX8_wipe_18 flX8_7 nM_0 gM_0 (by decide) (eM_0_0 _ _) ?_
    refine V.iload_n dX8_wipe_21 rfl ?_
    refine V.iconst ic_0 dX8_wipe_22 ?_
    obtain ⟨hb, h⟩ := ckn h
    refine V.iast dX8_wipe_23 nM_1 gM_1 hb ?_
    exact V.forget (vX8_wipe_24 h hQ) ⟨rfl, trivial⟩
def fX8_undo_32 (l1 : Int32) (σ : vMem) : Option (Int32 × vMem) :=
  if l1 < 0 ∨ 2 ≤ l1.toNatClampNeg then none else some ((σ.1 1 l1.toNatClampNeg), σ)
theorem vX8_undo_32 {ad : Nat → Nat} {Q : Option Value → vMem → Prop} {r : (Int32 × vMem)} {l1 : Int32} {σ : vMem} (h : fX8_undo_32 l1 σ = some r) (hQ : Q (some (.int r.1)) r.2) : V GM mX8_undo ad Q 2 32 [some (.ref (ad 0)), some (.int l1)] [] σ := by
  unfold fX8_undo_32 at h
  refine V.aload_n dX8_undo_32 rfl ?_
  refine V.get dX8_undo_33 flX8_7 nM_0 gM_0 (by decide) (eM_0_0 _ _) ?_
  refine V.iload_n dX8_undo_36 rfl ?_
  obtain ⟨hb, h⟩ := ckn h
  refine V.iald dX8_undo_37 nM_1 gM_1 hb ?_
  obtain rfl := Option.some.inj h
  exact V.iret dX8_undo_38 rfl hQ
def fX8_undo (l1 : Int32) (σ : vMem) : Option (Int32 × vMem) :=
  (fX8_isText l1 σ).bind fun q1 => if q1.1 = 0 then (some ((-2 : Int32), q1.2)) else
  (if l1 < 0 ∨ 2 ≤ l1.toNatClampNeg then none else if (q1.2.1 1 l1.toNatClampNeg) = 0 then (some ((-3 : Int32), q1.2)) else
  (if l1 < 0 ∨ 2 ≤ l1.toNatClampNeg then none else if l1 < 0 ∨ 2 ≤ l1.toNatClampNeg then none else fX8_undo_32 l1 (vup q1.2 1 l1.toNatClampNeg ((q1.2.1 1 l1.toNatClampNeg) - (1 : Int32)))))
theorem vX8_undo {ad : Nat → Nat} {Q : Option Value → vMem → Prop} {r : (Int32 × vMem)} {l1 : Int32} {σ : vMem} (h : fX8_undo l1 σ = some r) (hQ : Q (some (.int r.1)) r.2) : V GM mX8_undo ad Q 2 0 [some (.ref (ad 0)), some (.int l1)] [] σ := by
  unfold fX8_undo at h
  refine V.iload_n dX8_undo_0 rfl ?_
  obtain ⟨q1, h1, h⟩ := bdc h
  refine V.callS1 (mc := mX8_isText) (d' := 1) dX8_undo_1 lkX8_129 hfX8_isText (by decide) (Nat.le_of_ble_eq_true rfl) (Nat.le_of_ble_eq_true rfl) (vX8_isText h1 ?_)
  rcases itc h with ⟨hc, h⟩ | ⟨hc, h⟩
  · refine V.if_ne (tgt := 10) dX8_undo_4 (by decide) (fun hn => absurd hc hn) (fun _ => ?_)
    refine V.bipush bp_m2 dX8_undo_7 ?_
    obtain rfl := Option.some.inj h
    exact V.iret dX8_undo_9 rfl hQ
  · refine V.if_ne (tgt := 10) dX8_undo_4 (by decide) (fun _ => ?_) (fun hn => absurd hn hc)
    refine V.aload_n dX8_undo_10 rfl ?_
    refine V.get dX8_undo_11 flX8_7 nM_0 gM_0 (by decide) (eM_0_0 _ _) ?_
    refine V.iload_n dX8_undo_14 rfl ?_
    obtain ⟨hb, h⟩ := ckn h
    refine V.iald dX8_undo_15 nM_1 gM_1 hb ?_
    rcases itc h with ⟨hc, h⟩ | ⟨hc, h⟩
    · refine V.if_ne (tgt := 22) dX8_undo_16 (by decide) (fun hn => absurd hc hn) (fun _ => ?_)
      refine V.bipush bp_m3 dX8_undo_19 ?_
      obtain rfl := Option.some.inj h
      exact V.iret dX8_undo_21 rfl hQ
    · refine V.if_ne (tgt := 22) dX8_undo_16 (by decide) (fun _ => ?_) (fun hn => absurd hn hc)
      refine V.aload_n dX8_undo_22 rfl ?_
      refine V.get dX8_undo_23 flX8_7 nM_0 gM_0 (by decide) (eM_0_0 _ _) ?_
      refine V.iload_n dX8_undo_26 rfl ?_
      refine V.dup2 rfl rfl dX8_undo_27 ?_
      obtain ⟨hb, h⟩ := ckn h
      refine V.iald dX8_undo_28 nM_1 gM_1 hb ?_
      refine V.iconst ic_1 dX8_undo_29 ?_
      refine V.isub dX8_undo_30 ?_
      obtain ⟨hb, h⟩ := ckn h
      refine V.iast dX8_undo_31 nM_1 gM_1 hb ?_
      exact V.forget (vX8_undo_32 h hQ) ⟨rfl, ⟨rfl, trivial⟩⟩
def fX8_byteAt_25 (s0 : Int32) (σ : vMem) : Option (Int32 × vMem) :=
  some (s0, σ)
theorem vX8_byteAt_25 {ad : Nat → Nat} {Q : Option Value → vMem → Prop} {r : (Int32 × vMem)} {s0 : Int32} {σ : vMem} (h : fX8_byteAt_25 s0 σ = some r) (hQ : Q (some (.int r.1)) r.2) : V GM mX8_byteAt ad Q 0 25 [none, none, none] [.int s0] σ := by
  unfold fX8_byteAt_25 at h
  obtain rfl := Option.some.inj h
  exact V.iret dX8_byteAt_25 rfl hQ
def fX8_byteAt (l1 : Int32) (l2 : Int32) (σ : vMem) : Option (Int32 × vMem) :=
  if l1 < 0 ∨ 2 ≤ l1.toNatClampNeg then none else if (σ.1 1 l1.toNatClampNeg) ≤ l2 then (fX8_byteAt_25 (-1 : Int32) σ) else
  (if (((63 : Int32) * l1) + l2) < 0 ∨ 126 ≤ (((63 : Int32) * l1) + l2).toNatClampNeg then none else fX8_byteAt_25 (σ.1 2 (((63 : Int32) * l1) + l2).toNatClampNeg) σ)
theorem vX8_byteAt {ad : Nat → Nat} {Q : Option Value → vMem → Prop} {r : (Int32 × vMem)} {l1 : Int32} {l2 : Int32} {σ : vMem} (h : fX8_byteAt l1 l2 σ = some r) (hQ : Q (some (.int r.1)) r.2) : V GM mX8_byteAt ad Q 0 0 [some (.ref (ad 0)), some (.int l1), some (.int l2)] [] σ := by
  unfold fX8_byteAt at h
  refine V.iload_n dX8_byteAt_0 rfl ?_
  refine V.aload_n dX8_byteAt_1 rfl ?_
  refine V.get dX8_byteAt_2 flX8_7 nM_0 gM_0 (by decide) (eM_0_0 _ _) ?_
  refine V.iload_n dX8_byteAt_5 rfl ?_
  obtain ⟨hb, h⟩ := ckn h
  refine V.iald dX8_byteAt_6 nM_1 gM_1 hb ?_
  rcases itc h with ⟨hc, h⟩ | ⟨hc, h⟩
  · refine V.icmp_ge (tgt := 24) dX8_byteAt_7 (by decide) (fun _ => ?_) (fun hn => absurd hc hn)
    refine V.iconst ic_m1 dX8_byteAt_24 ?_
    exact V.forget (vX8_byteAt_25 h hQ) trivial
  · refine V.icmp_ge (tgt := 24) dX8_byteAt_7 (by decide) (fun hn => absurd hn hc) (fun _ => ?_)
    refine V.aload_n dX8_byteAt_10 rfl ?_
    refine V.get dX8_byteAt_11 flX8_13 nM_0 gM_0 (by decide) (eM_0_1 _ _) ?_
    refine V.bipush bp_63 dX8_byteAt_14 ?_
    refine V.iload_n dX8_byteAt_16 rfl ?_
    refine V.imul dX8_byteAt_17 ?_
    refine V.iload_n dX8_byteAt_18 rfl ?_
    refine V.iadd dX8_byteAt_19 ?_
    obtain ⟨hb, h⟩ := ckn h
    refine V.iald dX8_byteAt_20 nM_2 gM_2 hb ?_
    refine V.goto (tgt := 25) dX8_byteAt_21 (by decide) ?_
    exact V.forget (vX8_byteAt_25 h hQ) trivial
def fX8_isLetter (l1 : Int32) (l2 : Int32) (σ : vMem) : Option (Int32 × vMem) :=
  (fX8_byteAt l1 l2 σ).bind fun q1 => (fX8_in q1.1 (97 : Int32) (104 : Int32) q1.2).bind fun q2 => if ¬ (q2.1 = 0 ∨ q2.1 = 1) then none else some (q2.1, q2.2)
theorem vX8_isLetter {ad : Nat → Nat} {Q : Option Value → vMem → Prop} {r : (Int32 × vMem)} {l1 : Int32} {l2 : Int32} {σ : vMem} (h : fX8_isLetter l1 l2 σ = some r) (hQ : Q (some (.int r.1)) r.2) : V GM mX8_isLetter ad Q 1 0 [some (.ref (ad 0)), some (.int l1), some (.int l2)] [] σ := by
  unfold fX8_isLetter at h
  refine V.aload_n dX8_isLetter_0 rfl ?_
  refine V.iload_n dX8_isLetter_1 rfl ?_
  refine V.iload_n dX8_isLetter_2 rfl ?_
  obtain ⟨q1, h1, h⟩ := bdc h
  refine V.callV2 (mc := mX8_byteAt) (d' := 0) dX8_isLetter_3 lkX8_133 hfX8_byteAt nM_0 gM_0 rfl (by decide) (Nat.le_of_ble_eq_true rfl) (Nat.le_of_ble_eq_true rfl) (vX8_byteAt h1 ?_)
  refine V.bipush bp_97 dX8_isLetter_6 ?_
  refine V.bipush bp_104 dX8_isLetter_8 ?_
  obtain ⟨q2, h1, h⟩ := bdc h
  refine V.callS3 (mc := mX8_in) (d' := 0) dX8_isLetter_10 lkX8_125 hfX8_in (by decide) (Nat.le_of_ble_eq_true rfl) (Nat.le_of_ble_eq_true rfl) (vX8_in h1 ?_)
  obtain ⟨hb, h⟩ := ckn h
  obtain rfl := Option.some.inj h
  exact V.zret dX8_isLetter_13 rfl (Decidable.not_not.mp hb) hQ
def fX8_isFigure (l1 : Int32) (l2 : Int32) (l3 : Int32) (σ : vMem) : Option (Int32 × vMem) :=
  (fX8_byteAt l1 l2 σ).bind fun q1 => (fX8_in q1.1 (48 : Int32) ((48 : Int32) + l3) q1.2).bind fun q2 => if ¬ (q2.1 = 0 ∨ q2.1 = 1) then none else some (q2.1, q2.2)
theorem vX8_isFigure {ad : Nat → Nat} {Q : Option Value → vMem → Prop} {r : (Int32 × vMem)} {l1 : Int32} {l2 : Int32} {l3 : Int32} {σ : vMem} (h : fX8_isFigure l1 l2 l3 σ = some r) (hQ : Q (some (.int r.1)) r.2) : V GM mX8_isFigure ad Q 1 0 [some (.ref (ad 0)), some (.int l1), some (.int l2), some (.int l3)] [] σ := by
  unfold fX8_isFigure at h
  refine V.aload_n dX8_isFigure_0 rfl ?_
  refine V.iload_n dX8_isFigure_1 rfl ?_
  refine V.iload_n dX8_isFigure_2 rfl ?_
  obtain ⟨q1, h1, h⟩ := bdc h
  refine V.callV2 (mc := mX8_byteAt) (d' := 0) dX8_isFigure_3 lkX8_133 hfX8_byteAt nM_0 gM_0 rfl (by decide) (Nat.le_of_ble_eq_true rfl) (Nat.le_of_ble_eq_true rfl) (vX8_byteAt h1 ?_)
  refine V.bipush bp_48 dX8_isFigure_6 ?_
  refine V.bipush bp_48 dX8_isFigure_8 ?_
  refine V.iload_n dX8_isFigure_10 rfl ?_
  refine V.iadd dX8_isFigure_11 ?_
  obtain ⟨q2, h1, h⟩ := bdc h
  refine V.callS3 (mc := mX8_in) (d' := 0) dX8_isFigure_12 lkX8_125 hfX8_in (by decide) (Nat.le_of_ble_eq_true rfl) (Nat.le_of_ble_eq_true rfl) (vX8_in h1 ?_)
  obtain ⟨hb, h⟩ := ckn h
  obtain rfl := Option.some.inj h
  exact V.zret dX8_isFigure_15 rfl (Decidable.not_not.mp hb) hQ
def fX8_readsBasket_56 (l3 : Int32) (σ : vMem) : Option (Int32 × vMem) :=
  some (((-l3) - (1 : Int32)), σ)
theorem vX8_readsBasket_56 {ad : Nat → Nat} {Q : Option Value → vMem → Prop} {r : (Int32 × vMem)} {l3 : Int32} {σ : vMem} (h : fX8_readsBasket_56 l3 σ = some r) (hQ : Q (some (.int r.1)) r.2) : V GM mX8_readsBasket ad Q 2 56 [none, none, none, some (.int l3), none] [] σ := by
  unfold fX8_readsBasket_56 at h
  refine V.iload_n dX8_readsBasket_56 rfl ?_
  refine V.ineg dX8_readsBasket_57 ?_
  refine V.iconst ic_1 dX8_readsBasket_58 ?_
  refine V.isub dX8_readsBasket_59 ?_
  obtain rfl := Option.some.inj h
  exact V.iret dX8_readsBasket_60 rfl hQ
def fX8_readsBasket_185 (l4 : Int32) (σ : vMem) : Option (Int32 × vMem) :=
  some (((4 : Int32) + l4), σ)
theorem vX8_readsBasket_185 {ad : Nat → Nat} {Q : Option Value → vMem → Prop} {r : (Int32 × vMem)} {l4 : Int32} {σ : vMem} (h : fX8_readsBasket_185 l4 σ = some r) (hQ : Q (some (.int r.1)) r.2) : V GM mX8_readsBasket ad Q 2 185 [none, none, none, none, some (.int l4)] [] σ := by
  unfold fX8_readsBasket_185 at h
  refine V.iconst ic_4 dX8_readsBasket_185 ?_
  refine V.iload dX8_readsBasket_186 rfl ?_
  refine V.iadd dX8_readsBasket_188 ?_
  obtain rfl := Option.some.inj h
  exact V.iret dX8_readsBasket_189 rfl hQ
def fX8_readsBasket_177 (l1 : Int32) (l4 : Int32) (σ : vMem) : Option (Int32 × vMem) :=
  if l1 < 0 ∨ 9 ≤ l1.toNatClampNeg then none else fX8_readsBasket_185 l4 (vup σ 8 l1.toNatClampNeg l4)
theorem vX8_readsBasket_177 {ad : Nat → Nat} {Q : Option Value → vMem → Prop} {r : (Int32 × vMem)} {l1 : Int32} {l4 : Int32} {σ : vMem} (h : fX8_readsBasket_177 l1 l4 σ = some r) (hQ : Q (some (.int r.1)) r.2) : V GM mX8_readsBasket ad Q 2 177 [some (.ref (ad 0)), some (.int l1), none, none, some (.int l4)] [] σ := by
  unfold fX8_readsBasket_177 at h
  refine V.aload_n dX8_readsBasket_177 rfl ?_
  refine V.get dX8_readsBasket_178 flX8_31 nM_0 gM_0 (by decide) (eM_0_9 _ _) ?_
  refine V.iload_n dX8_readsBasket_181 rfl ?_
  refine V.iload dX8_readsBasket_182 rfl ?_
  obtain ⟨hb, h⟩ := ckn h
  refine V.iast dX8_readsBasket_184 nM_8 gM_8 hb ?_
  exact V.forget (vX8_readsBasket_185 h hQ) ⟨rfl, trivial⟩
def fX8_readsBasket_171 (K126 : Int32 → Int32 → Int32 → vMem → Option (Int32 × vMem)) (l1 : Int32) (l2 : Int32) (l4 : Int32) (σ : vMem) : Option (Int32 × vMem) :=
  K126 l1 l2 (l4 + (1 : Int32)) σ
theorem vX8_readsBasket_171 {ad : Nat → Nat} {Q : Option Value → vMem → Prop} {r : (Int32 × vMem)} {K126 : Int32 → Int32 → Int32 → vMem → Option (Int32 × vMem)} (hK126 : ∀ (l1 : Int32) (l2 : Int32) (l4 : Int32) (σ : vMem), K126 l1 l2 l4 σ = some r → V GM mX8_readsBasket ad Q 2 126 [some (.ref (ad 0)), some (.int l1), some (.int l2), none, some (.int l4)] [] σ) {l1 : Int32} {l2 : Int32} {l4 : Int32} {σ : vMem} (h : fX8_readsBasket_171 K126 l1 l2 l4 σ = some r) (hQ : Q (some (.int r.1)) r.2) : V GM mX8_readsBasket ad Q 2 171 [some (.ref (ad 0)), some (.int l1), some (.int l2), none, some (.int l4)] [] σ := by
  unfold fX8_readsBasket_171 at h
  refine V.iinc dX8_readsBasket_171 rfl (ii_1 _) (by decide) rfl ?_
  refine V.goto (tgt := 126) dX8_readsBasket_174 (by decide) ?_
  exact V.forget (hK126 _ _ _ _ h) ⟨rfl, ⟨rfl, ⟨rfl, ⟨rfl, trivial⟩⟩⟩⟩
def fX8_readsBasket_126 (K126 : Int32 → Int32 → Int32 → vMem → Option (Int32 × vMem)) (l1 : Int32) (l2 : Int32) (l4 : Int32) (σ : vMem) : Option (Int32 × vMem) :=
  if (3 : Int32) ≤ l4 then (fX8_readsBasket_177 l1 l4 σ) else
  ((fX8_isLetter (1 : Int32) ((l2 + (4 : Int32)) + l4) σ).bind fun q1 => if q1.1 = 0 then (fX8_readsBasket_177 l1 l4 q1.2) else
  ((fX8_byteAt (1 : Int32) ((l2 + (4 : Int32)) + l4) q1.2).bind fun q2 => if (((3 : Int32) * l1) + l4) < 0 ∨ 27 ≤ (((3 : Int32) * l1) + l4).toNatClampNeg then none else fX8_readsBasket_171 K126 l1 l2 l4 (vup q2.2 9 (((3 : Int32) * l1) + l4).toNatClampNeg (q2.1 - (97 : Int32)))))
theorem vX8_readsBasket_126 {ad : Nat → Nat} {Q : Option Value → vMem → Prop} {r : (Int32 × vMem)} {K126 : Int32 → Int32 → Int32 → vMem → Option (Int32 × vMem)} (hK126 : ∀ (l1 : Int32) (l2 : Int32) (l4 : Int32) (σ : vMem), K126 l1 l2 l4 σ = some r → V GM mX8_readsBasket ad Q 2 126 [some (.ref (ad 0)), some (.int l1), some (.int l2), none, some (.int l4)] [] σ) {l1 : Int32} {l2 : Int32} {l4 : Int32} {σ : vMem} (h : fX8_readsBasket_126 K126 l1 l2 l4 σ = some r) (hQ : Q (some (.int r.1)) r.2) : V GM mX8_readsBasket ad Q 2 126 [some (.ref (ad 0)), some (.int l1), some (.int l2), none, some (.int l4)] [] σ := by
  unfold fX8_readsBasket_126 at h
  refine V.iload dX8_readsBasket_126 rfl ?_
  refine V.iconst ic_3 dX8_readsBasket_128 ?_
  rcases itc h with ⟨hc, h⟩ | ⟨hc, h⟩
  · refine V.icmp_ge (tgt := 177) dX8_readsBasket_129 (by decide) (fun _ => ?_) (fun hn => absurd hc hn)
    exact V.forget (vX8_readsBasket_177 h hQ) ⟨rfl, ⟨rfl, ⟨rfl, trivial⟩⟩⟩
  · refine V.icmp_ge (tgt := 177) dX8_readsBasket_129 (by decide) (fun hn => absurd hn hc) (fun _ => ?_)
    refine V.aload_n dX8_readsBasket_132 rfl ?_
    refine V.iconst ic_1 dX8_readsBasket_133 ?_
    refine V.iload_n dX8_readsBasket_134 rfl ?_
    refine V.iconst ic_4 dX8_readsBasket_135 ?_
    refine V.iadd dX8_readsBasket_136 ?_
    refine V.iload dX8_readsBasket_137 rfl ?_
    refine V.iadd dX8_readsBasket_139 ?_
    obtain ⟨q1, h1, h⟩ := bdc h
    refine V.callV2 (mc := mX8_isLetter) (d' := 1) dX8_readsBasket_140 lkX8_140 hfX8_isLetter nM_0 gM_0 rfl (by decide) (Nat.le_of_ble_eq_true rfl) (Nat.le_of_ble_eq_true rfl) (vX8_isLetter h1 ?_)
    rcases itc h with ⟨hc, h⟩ | ⟨hc, h⟩
    · refine V.if_eq (tgt := 177) dX8_readsBasket_143 (by decide) (fun _ => ?_) (fun hn => absurd hc hn)
      exact V.forget (vX8_readsBasket_177 h hQ) ⟨rfl, ⟨rfl, ⟨rfl, trivial⟩⟩⟩
    · refine V.if_eq (tgt := 177) dX8_readsBasket_143 (by decide) (fun hn => absurd hn hc) (fun _ => ?_)
      refine V.aload_n dX8_readsBasket_146 rfl ?_
      refine V.get dX8_readsBasket_147 flX8_34 nM_0 gM_0 (by decide) (eM_0_10 _ _) ?_
      refine V.iconst ic_3 dX8_readsBasket_150 ?_
      refine V.iload_n dX8_readsBasket_151 rfl ?_
      refine V.imul dX8_readsBasket_152 ?_
      refine V.iload dX8_readsBasket_153 rfl ?_
      refine V.iadd dX8_readsBasket_155 ?_
      refine V.aload_n dX8_readsBasket_156 rfl ?_
      refine V.iconst ic_1 dX8_readsBasket_157 ?_
      refine V.iload_n dX8_readsBasket_158 rfl ?_
      refine V.iconst ic_4 dX8_readsBasket_159 ?_
      refine V.iadd dX8_readsBasket_160 ?_
      refine V.iload dX8_readsBasket_161 rfl ?_
      refine V.iadd dX8_readsBasket_163 ?_
      obtain ⟨q2, h1, h⟩ := bdc h
      refine V.callV2 (mc := mX8_byteAt) (d' := 0) dX8_readsBasket_164 lkX8_133 hfX8_byteAt nM_0 gM_0 rfl (by decide) (Nat.le_of_ble_eq_true rfl) (Nat.le_of_ble_eq_true rfl) (vX8_byteAt h1 ?_)
      refine V.bipush bp_97 dX8_readsBasket_167 ?_
      refine V.isub dX8_readsBasket_169 ?_
      obtain ⟨hb, h⟩ := ckn h
      refine V.iast dX8_readsBasket_170 nM_9 gM_9 hb ?_
      exact V.forget (vX8_readsBasket_171 hK126 h hQ) ⟨rfl, ⟨rfl, ⟨rfl, ⟨rfl, trivial⟩⟩⟩⟩
def LfX8_readsBasket_126 : Nat → Int32 → Int32 → Int32 → vMem → Option (Int32 × vMem)
  | 0, _, _, _, _ => none
  | n + 1, l1, l2, l4, σ => fX8_readsBasket_126 (LfX8_readsBasket_126 n) l1 l2 l4 σ
theorem LvX8_readsBasket_126 {ad : Nat → Nat} {Q : Option Value → vMem → Prop} {r : (Int32 × vMem)} (hQ : Q (some (.int r.1)) r.2) : ∀ (n : Nat) (l1 : Int32) (l2 : Int32) (l4 : Int32) (σ : vMem), LfX8_readsBasket_126 n l1 l2 l4 σ = some r → V GM mX8_readsBasket ad Q 2 126 [some (.ref (ad 0)), some (.int l1), some (.int l2), none, some (.int l4)] [] σ := by
  intro n
  induction n with
  | zero => intro l1 l2 l4 σ h; cases h
  | succ n ih => intro l1 l2 l4 σ h; exact vX8_readsBasket_126 ih h hQ
def fX8_readsBasket_123 (l1 : Int32) (l2 : Int32) (σ : vMem) : Option (Int32 × vMem) :=
  LfX8_readsBasket_126 200 l1 l2 (0 : Int32) σ
theorem vX8_readsBasket_123 {ad : Nat → Nat} {Q : Option Value → vMem → Prop} {r : (Int32 × vMem)} {l1 : Int32} {l2 : Int32} {σ : vMem} (h : fX8_readsBasket_123 l1 l2 σ = some r) (hQ : Q (some (.int r.1)) r.2) : V GM mX8_readsBasket ad Q 2 123 [some (.ref (ad 0)), some (.int l1), some (.int l2), none, none] [] σ := by
  unfold fX8_readsBasket_123 at h
  refine V.iconst ic_0 dX8_readsBasket_123 ?_
  refine V.istore dX8_readsBasket_124 (by decide) rfl ?_
  exact V.forget (LvX8_readsBasket_126 hQ 200 _ _ _ _ h) ⟨rfl, ⟨rfl, ⟨rfl, ⟨rfl, trivial⟩⟩⟩⟩
def fX8_readsBasket_91 (l1 : Int32) (l2 : Int32) (σ : vMem) : Option (Int32 × vMem) :=
  (fX8_byteAt (1 : Int32) (l2 + (2 : Int32)) σ).bind fun q1 => (fX8_byteAt (1 : Int32) (l2 + (3 : Int32)) q1.2).bind fun q2 => if l1 < 0 ∨ 9 ≤ l1.toNatClampNeg then none else fX8_readsBasket_123 l1 l2 (vup q2.2 7 l1.toNatClampNeg ((((10 : Int32) * (q1.1 - (48 : Int32))) + q2.1) - (48 : Int32)))
theorem vX8_readsBasket_91 {ad : Nat → Nat} {Q : Option Value → vMem → Prop} {r : (Int32 × vMem)} {l1 : Int32} {l2 : Int32} {σ : vMem} (h : fX8_readsBasket_91 l1 l2 σ = some r) (hQ : Q (some (.int r.1)) r.2) : V GM mX8_readsBasket ad Q 2 91 [some (.ref (ad 0)), some (.int l1), some (.int l2), none, none] [] σ := by
  unfold fX8_readsBasket_91 at h
  refine V.aload_n dX8_readsBasket_91 rfl ?_
  refine V.get dX8_readsBasket_92 flX8_28 nM_0 gM_0 (by decide) (eM_0_8 _ _) ?_
  refine V.iload_n dX8_readsBasket_95 rfl ?_
  refine V.bipush bp_10 dX8_readsBasket_96 ?_
  refine V.aload_n dX8_readsBasket_98 rfl ?_
  refine V.iconst ic_1 dX8_readsBasket_99 ?_
  refine V.iload_n dX8_readsBasket_100 rfl ?_
  refine V.iconst ic_2 dX8_readsBasket_101 ?_
  refine V.iadd dX8_readsBasket_102 ?_
  obtain ⟨q1, h1, h⟩ := bdc h
  refine V.callV2 (mc := mX8_byteAt) (d' := 0) dX8_readsBasket_103 lkX8_133 hfX8_byteAt nM_0 gM_0 rfl (by decide) (Nat.le_of_ble_eq_true rfl) (Nat.le_of_ble_eq_true rfl) (vX8_byteAt h1 ?_)
  refine V.bipush bp_48 dX8_readsBasket_106 ?_
  refine V.isub dX8_readsBasket_108 ?_
  refine V.imul dX8_readsBasket_109 ?_
  refine V.aload_n dX8_readsBasket_110 rfl ?_
  refine V.iconst ic_1 dX8_readsBasket_111 ?_
  refine V.iload_n dX8_readsBasket_112 rfl ?_
  refine V.iconst ic_3 dX8_readsBasket_113 ?_
  refine V.iadd dX8_readsBasket_114 ?_
  obtain ⟨q2, h1, h⟩ := bdc h
  refine V.callV2 (mc := mX8_byteAt) (d' := 0) dX8_readsBasket_115 lkX8_133 hfX8_byteAt nM_0 gM_0 rfl (by decide) (Nat.le_of_ble_eq_true rfl) (Nat.le_of_ble_eq_true rfl) (vX8_byteAt h1 ?_)
  refine V.iadd dX8_readsBasket_118 ?_
  refine V.bipush bp_48 dX8_readsBasket_119 ?_
  refine V.isub dX8_readsBasket_121 ?_
  obtain ⟨hb, h⟩ := ckn h
  refine V.iast dX8_readsBasket_122 nM_7 gM_7 hb ?_
  exact V.forget (vX8_readsBasket_123 h hQ) ⟨rfl, ⟨rfl, ⟨rfl, trivial⟩⟩⟩
def fX8_readsBasket_40 (l1 : Int32) (l2 : Int32) (l3 : Int32) (σ : vMem) : Option (Int32 × vMem) :=
  if l3 < (4 : Int32) then (fX8_readsBasket_56 l3 σ) else
  ((fX8_isLetter (1 : Int32) (l2 + (4 : Int32)) σ).bind fun q1 => if q1.1 = 0 then (fX8_readsBasket_56 l3 q1.2) else
  ((fX8_byteAt (1 : Int32) l2 q1.2).bind fun q2 => (fX8_byteAt (1 : Int32) (l2 + (1 : Int32)) q2.2).bind fun q3 => if l1 < 0 ∨ 9 ≤ l1.toNatClampNeg then none else fX8_readsBasket_91 l1 l2 (vup q3.2 6 l1.toNatClampNeg ((((10 : Int32) * (q2.1 - (48 : Int32))) + q3.1) - (48 : Int32)))))
theorem vX8_readsBasket_40 {ad : Nat → Nat} {Q : Option Value → vMem → Prop} {r : (Int32 × vMem)} {l1 : Int32} {l2 : Int32} {l3 : Int32} {σ : vMem} (h : fX8_readsBasket_40 l1 l2 l3 σ = some r) (hQ : Q (some (.int r.1)) r.2) : V GM mX8_readsBasket ad Q 2 40 [some (.ref (ad 0)), some (.int l1), some (.int l2), some (.int l3), none] [] σ := by
  unfold fX8_readsBasket_40 at h
  refine V.iload_n dX8_readsBasket_40 rfl ?_
  refine V.iconst ic_4 dX8_readsBasket_41 ?_
  rcases itc h with ⟨hc, h⟩ | ⟨hc, h⟩
  · refine V.icmp_lt (tgt := 56) dX8_readsBasket_42 (by decide) (fun _ => ?_) (fun hn => absurd hc hn)
    exact V.forget (vX8_readsBasket_56 h hQ) ⟨rfl, trivial⟩
  · refine V.icmp_lt (tgt := 56) dX8_readsBasket_42 (by decide) (fun hn => absurd hn hc) (fun _ => ?_)
    refine V.aload_n dX8_readsBasket_45 rfl ?_
    refine V.iconst ic_1 dX8_readsBasket_46 ?_
    refine V.iload_n dX8_readsBasket_47 rfl ?_
    refine V.iconst ic_4 dX8_readsBasket_48 ?_
    refine V.iadd dX8_readsBasket_49 ?_
    obtain ⟨q1, h1, h⟩ := bdc h
    refine V.callV2 (mc := mX8_isLetter) (d' := 1) dX8_readsBasket_50 lkX8_140 hfX8_isLetter nM_0 gM_0 rfl (by decide) (Nat.le_of_ble_eq_true rfl) (Nat.le_of_ble_eq_true rfl) (vX8_isLetter h1 ?_)
    rcases itc h with ⟨hc, h⟩ | ⟨hc, h⟩
    · refine V.if_ne (tgt := 61) dX8_readsBasket_53 (by decide) (fun hn => absurd hc hn) (fun _ => ?_)
      exact V.forget (vX8_readsBasket_56 h hQ) ⟨rfl, trivial⟩
    · refine V.if_ne (tgt := 61) dX8_readsBasket_53 (by decide) (fun _ => ?_) (fun hn => absurd hn hc)
      refine V.aload_n dX8_readsBasket_61 rfl ?_
      refine V.get dX8_readsBasket_62 flX8_25 nM_0 gM_0 (by decide) (eM_0_7 _ _) ?_
      refine V.iload_n dX8_readsBasket_65 rfl ?_
      refine V.bipush bp_10 dX8_readsBasket_66 ?_
      refine V.aload_n dX8_readsBasket_68 rfl ?_
      refine V.iconst ic_1 dX8_readsBasket_69 ?_
      refine V.iload_n dX8_readsBasket_70 rfl ?_
      obtain ⟨q2, h1, h⟩ := bdc h
      refine V.callV2 (mc := mX8_byteAt) (d' := 0) dX8_readsBasket_71 lkX8_133 hfX8_byteAt nM_0 gM_0 rfl (by decide) (Nat.le_of_ble_eq_true rfl) (Nat.le_of_ble_eq_true rfl) (vX8_byteAt h1 ?_)
      refine V.bipush bp_48 dX8_readsBasket_74 ?_
      refine V.isub dX8_readsBasket_76 ?_
      refine V.imul dX8_readsBasket_77 ?_
      refine V.aload_n dX8_readsBasket_78 rfl ?_
      refine V.iconst ic_1 dX8_readsBasket_79 ?_
      refine V.iload_n dX8_readsBasket_80 rfl ?_
      refine V.iconst ic_1 dX8_readsBasket_81 ?_
      refine V.iadd dX8_readsBasket_82 ?_
      obtain ⟨q3, h1, h⟩ := bdc h
      refine V.callV2 (mc := mX8_byteAt) (d' := 0) dX8_readsBasket_83 lkX8_133 hfX8_byteAt nM_0 gM_0 rfl (by decide) (Nat.le_of_ble_eq_true rfl) (Nat.le_of_ble_eq_true rfl) (vX8_byteAt h1 ?_)
      refine V.iadd dX8_readsBasket_86 ?_
      refine V.bipush bp_48 dX8_readsBasket_87 ?_
      refine V.isub dX8_readsBasket_89 ?_
      obtain ⟨hb, h⟩ := ckn h
      refine V.iast dX8_readsBasket_90 nM_6 gM_6 hb ?_
      exact V.forget (vX8_readsBasket_91 h hQ) ⟨rfl, ⟨rfl, ⟨rfl, trivial⟩⟩⟩
def fX8_readsBasket_28 (K2 : Int32 → Int32 → Int32 → vMem → Option (Int32 × vMem)) (l1 : Int32) (l2 : Int32) (l3 : Int32) (s1 : Int32) (s2 : Int32) (s3 : Int32) (σ : vMem) : Option (Int32 × vMem) :=
  (fX8_isFigure s1 s2 s3 σ).bind fun q1 => if q1.1 = 0 then (fX8_readsBasket_40 l1 l2 l3 q1.2) else
  (K2 l1 l2 (l3 + (1 : Int32)) q1.2)
theorem vX8_readsBasket_28 {ad : Nat → Nat} {Q : Option Value → vMem → Prop} {r : (Int32 × vMem)} {K2 : Int32 → Int32 → Int32 → vMem → Option (Int32 × vMem)} (hK2 : ∀ (l1 : Int32) (l2 : Int32) (l3 : Int32) (σ : vMem), K2 l1 l2 l3 σ = some r → V GM mX8_readsBasket ad Q 2 2 [some (.ref (ad 0)), some (.int l1), some (.int l2), some (.int l3), none] [] σ) {l1 : Int32} {l2 : Int32} {l3 : Int32} {s1 : Int32} {s2 : Int32} {s3 : Int32} {σ : vMem} (h : fX8_readsBasket_28 K2 l1 l2 l3 s1 s2 s3 σ = some r) (hQ : Q (some (.int r.1)) r.2) : V GM mX8_readsBasket ad Q 2 28 [some (.ref (ad 0)), some (.int l1), some (.int l2), some (.int l3), none] [.int s3, .int s2, .int s1, .ref (ad 0)] σ := by
  unfold fX8_readsBasket_28 at h
  obtain ⟨q1, h1, h⟩ := bdc h
  refine V.callV3 (mc := mX8_isFigure) (d' := 1) dX8_readsBasket_28 lkX8_137 hfX8_isFigure nM_0 gM_0 rfl (by decide) (Nat.le_of_ble_eq_true rfl) (Nat.le_of_ble_eq_true rfl) (vX8_isFigure h1 ?_)
  rcases itc h with ⟨hc, h⟩ | ⟨hc, h⟩
  · refine V.if_eq (tgt := 40) dX8_readsBasket_31 (by decide) (fun _ => ?_) (fun hn => absurd hc hn)
    exact V.forget (vX8_readsBasket_40 h hQ) ⟨rfl, ⟨rfl, ⟨rfl, ⟨rfl, trivial⟩⟩⟩⟩
  · refine V.if_eq (tgt := 40) dX8_readsBasket_31 (by decide) (fun hn => absurd hn hc) (fun _ => ?_)
    refine V.iinc dX8_readsBasket_34 rfl (ii_1 _) (by decide) rfl ?_
    refine V.goto (tgt := 2) dX8_readsBasket_37 (by decide) ?_
    exact V.forget (hK2 _ _ _ _ h) ⟨rfl, ⟨rfl, ⟨rfl, ⟨rfl, trivial⟩⟩⟩⟩
def fX8_readsBasket_2 (K2 : Int32 → Int32 → Int32 → vMem → Option (Int32 × vMem)) (l1 : Int32) (l2 : Int32) (l3 : Int32) (σ : vMem) : Option (Int32 × vMem) :=
  if (8 : Int32) ≤ l1 then (fX8_readsBasket_40 l1 l2 l3 σ) else
  (if (4 : Int32) ≤ l3 then (fX8_readsBasket_40 l1 l2 l3 σ) else
  (if l3 = 0 then (fX8_readsBasket_28 K2 l1 l2 l3 (1 : Int32) (l2 + l3) (2 : Int32) σ) else
  (fX8_readsBasket_28 K2 l1 l2 l3 (1 : Int32) (l2 + l3) (9 : Int32) σ)))
theorem vX8_readsBasket_2 {ad : Nat → Nat} {Q : Option Value → vMem → Prop} {r : (Int32 × vMem)} {K2 : Int32 → Int32 → Int32 → vMem → Option (Int32 × vMem)} (hK2 : ∀ (l1 : Int32) (l2 : Int32) (l3 : Int32) (σ : vMem), K2 l1 l2 l3 σ = some r → V GM mX8_readsBasket ad Q 2 2 [some (.ref (ad 0)), some (.int l1), some (.int l2), some (.int l3), none] [] σ) {l1 : Int32} {l2 : Int32} {l3 : Int32} {σ : vMem} (h : fX8_readsBasket_2 K2 l1 l2 l3 σ = some r) (hQ : Q (some (.int r.1)) r.2) : V GM mX8_readsBasket ad Q 2 2 [some (.ref (ad 0)), some (.int l1), some (.int l2), some (.int l3), none] [] σ := by
  unfold fX8_readsBasket_2 at h
  refine V.iload_n dX8_readsBasket_2 rfl ?_
  refine V.bipush bp_8 dX8_readsBasket_3 ?_
  rcases itc h with ⟨hc, h⟩ | ⟨hc, h⟩
  · refine V.icmp_ge (tgt := 40) dX8_readsBasket_5 (by decide) (fun _ => ?_) (fun hn => absurd hc hn)
    exact V.forget (vX8_readsBasket_40 h hQ) ⟨rfl, ⟨rfl, ⟨rfl, ⟨rfl, trivial⟩⟩⟩⟩
  · refine V.icmp_ge (tgt := 40) dX8_readsBasket_5 (by decide) (fun hn => absurd hn hc) (fun _ => ?_)
    refine V.iload_n dX8_readsBasket_8 rfl ?_
    refine V.iconst ic_4 dX8_readsBasket_9 ?_
    rcases itc h with ⟨hc, h⟩ | ⟨hc, h⟩
    · refine V.icmp_ge (tgt := 40) dX8_readsBasket_10 (by decide) (fun _ => ?_) (fun hn => absurd hc hn)
      exact V.forget (vX8_readsBasket_40 h hQ) ⟨rfl, ⟨rfl, ⟨rfl, ⟨rfl, trivial⟩⟩⟩⟩
    · refine V.icmp_ge (tgt := 40) dX8_readsBasket_10 (by decide) (fun hn => absurd hn hc) (fun _ => ?_)
      refine V.aload_n dX8_readsBasket_13 rfl ?_
      refine V.iconst ic_1 dX8_readsBasket_14 ?_
      refine V.iload_n dX8_readsBasket_15 rfl ?_
      refine V.iload_n dX8_readsBasket_16 rfl ?_
      refine V.iadd dX8_readsBasket_17 ?_
      refine V.iload_n dX8_readsBasket_18 rfl ?_
      rcases itc h with ⟨hc, h⟩ | ⟨hc, h⟩
      · refine V.if_ne (tgt := 26) dX8_readsBasket_19 (by decide) (fun hn => absurd hc hn) (fun _ => ?_)
        refine V.iconst ic_2 dX8_readsBasket_22 ?_
        refine V.goto (tgt := 28) dX8_readsBasket_23 (by decide) ?_
        exact V.forget (vX8_readsBasket_28 hK2 h hQ) ⟨rfl, ⟨rfl, ⟨rfl, ⟨rfl, trivial⟩⟩⟩⟩
      · refine V.if_ne (tgt := 26) dX8_readsBasket_19 (by decide) (fun _ => ?_) (fun hn => absurd hn hc)
        refine V.bipush bp_9 dX8_readsBasket_26 ?_
        exact V.forget (vX8_readsBasket_28 hK2 h hQ) ⟨rfl, ⟨rfl, ⟨rfl, ⟨rfl, trivial⟩⟩⟩⟩
def LfX8_readsBasket_2 : Nat → Int32 → Int32 → Int32 → vMem → Option (Int32 × vMem)
  | 0, _, _, _, _ => none
  | n + 1, l1, l2, l3, σ => fX8_readsBasket_2 (LfX8_readsBasket_2 n) l1 l2 l3 σ
theorem LvX8_readsBasket_2 {ad : Nat → Nat} {Q : Option Value → vMem → Prop} {r : (Int32 × vMem)} (hQ : Q (some (.int r.1)) r.2) : ∀ (n : Nat) (l1 : Int32) (l2 : Int32) (l3 : Int32) (σ : vMem), LfX8_readsBasket_2 n l1 l2 l3 σ = some r → V GM mX8_readsBasket ad Q 2 2 [some (.ref (ad 0)), some (.int l1), some (.int l2), some (.int l3), none] [] σ := by
  intro n
  induction n with
  | zero => intro l1 l2 l3 σ h; cases h
  | succ n ih => intro l1 l2 l3 σ h; exact vX8_readsBasket_2 ih h hQ
def fX8_readsBasket (l1 : Int32) (l2 : Int32) (σ : vMem) : Option (Int32 × vMem) :=
  LfX8_readsBasket_2 200 l1 l2 (0 : Int32) σ
theorem vX8_readsBasket {ad : Nat → Nat} {Q : Option Value → vMem → Prop} {r : (Int32 × vMem)} {l1 : Int32} {l2 : Int32} {σ : vMem} (h : fX8_readsBasket l1 l2 σ = some r) (hQ : Q (some (.int r.1)) r.2) : V GM mX8_readsBasket ad Q 2 0 [some (.ref (ad 0)), some (.int l1), some (.int l2), none, none] [] σ := by
  unfold fX8_readsBasket at h
  refine V.iconst ic_0 dX8_readsBasket_0 ?_
  refine V.istore_n dX8_readsBasket_1 (by decide) rfl ?_
  exact V.forget (LvX8_readsBasket_2 hQ 200 _ _ _ _ h) ⟨rfl, ⟨rfl, ⟨rfl, ⟨rfl, trivial⟩⟩⟩⟩
def fX8_readsFloor_62 (σ : vMem) : Option (Int32 × vMem) :=
  some ((-1 : Int32), σ)
theorem vX8_readsFloor_62 {ad : Nat → Nat} {Q : Option Value → vMem → Prop} {r : (Int32 × vMem)} {σ : vMem} (h : fX8_readsFloor_62 σ = some r) (hQ : Q (some (.int r.1)) r.2) : V GM mX8_readsFloor ad Q 2 62 [none, none, none, none, none] [] σ := by
  unfold fX8_readsFloor_62 at h
  refine V.iconst ic_m1 dX8_readsFloor_62 ?_
  obtain rfl := Option.some.inj h
  exact V.iret dX8_readsFloor_63 rfl hQ
def fX8_readsFloor_136 (σ : vMem) : Option (Int32 × vMem) :=
  some ((3 : Int32), σ)
theorem vX8_readsFloor_136 {ad : Nat → Nat} {Q : Option Value → vMem → Prop} {r : (Int32 × vMem)} {σ : vMem} (h : fX8_readsFloor_136 σ = some r) (hQ : Q (some (.int r.1)) r.2) : V GM mX8_readsFloor ad Q 2 136 [none, none, none, none, none] [] σ := by
  unfold fX8_readsFloor_136 at h
  refine V.iconst ic_3 dX8_readsFloor_136 ?_
  obtain rfl := Option.some.inj h
  exact V.iret dX8_readsFloor_137 rfl hQ
def fX8_readsFloor_119 (l1 : Int32) (l2 : Int32) (σ : vMem) : Option (Int32 × vMem) :=
  (fX8_byteAt (0 : Int32) (l2 + (2 : Int32)) σ).bind fun q1 => if l1 < 0 ∨ 10 ≤ l1.toNatClampNeg then none else fX8_readsFloor_136 (vup q1.2 5 l1.toNatClampNeg (q1.1 - (97 : Int32)))
theorem vX8_readsFloor_119 {ad : Nat → Nat} {Q : Option Value → vMem → Prop} {r : (Int32 × vMem)} {l1 : Int32} {l2 : Int32} {σ : vMem} (h : fX8_readsFloor_119 l1 l2 σ = some r) (hQ : Q (some (.int r.1)) r.2) : V GM mX8_readsFloor ad Q 2 119 [some (.ref (ad 0)), some (.int l1), some (.int l2), none, none] [] σ := by
  unfold fX8_readsFloor_119 at h
  refine V.aload_n dX8_readsFloor_119 rfl ?_
  refine V.get dX8_readsFloor_120 flX8_22 nM_0 gM_0 (by decide) (eM_0_5 _ _) ?_
  refine V.iload_n dX8_readsFloor_123 rfl ?_
  refine V.aload_n dX8_readsFloor_124 rfl ?_
  refine V.iconst ic_0 dX8_readsFloor_125 ?_
  refine V.iload_n dX8_readsFloor_126 rfl ?_
  refine V.iconst ic_2 dX8_readsFloor_127 ?_
  refine V.iadd dX8_readsFloor_128 ?_
  obtain ⟨q1, h1, h⟩ := bdc h
  refine V.callV2 (mc := mX8_byteAt) (d' := 0) dX8_readsFloor_129 lkX8_133 hfX8_byteAt nM_0 gM_0 rfl (by decide) (Nat.le_of_ble_eq_true rfl) (Nat.le_of_ble_eq_true rfl) (vX8_byteAt h1 ?_)
  refine V.bipush bp_97 dX8_readsFloor_132 ?_
  refine V.isub dX8_readsFloor_134 ?_
  obtain ⟨hb, h⟩ := ckn h
  refine V.iast dX8_readsFloor_135 nM_5 gM_5 hb ?_
  exact V.forget (vX8_readsFloor_136 h hQ) trivial
def fX8_readsFloor_102 (l1 : Int32) (l2 : Int32) (σ : vMem) : Option (Int32 × vMem) :=
  (fX8_byteAt (0 : Int32) (l2 + (1 : Int32)) σ).bind fun q1 => if l1 < 0 ∨ 10 ≤ l1.toNatClampNeg then none else fX8_readsFloor_119 l1 l2 (vup q1.2 4 l1.toNatClampNeg (q1.1 - (48 : Int32)))
theorem vX8_readsFloor_102 {ad : Nat → Nat} {Q : Option Value → vMem → Prop} {r : (Int32 × vMem)} {l1 : Int32} {l2 : Int32} {σ : vMem} (h : fX8_readsFloor_102 l1 l2 σ = some r) (hQ : Q (some (.int r.1)) r.2) : V GM mX8_readsFloor ad Q 2 102 [some (.ref (ad 0)), some (.int l1), some (.int l2), none, none] [] σ := by
  unfold fX8_readsFloor_102 at h
  refine V.aload_n dX8_readsFloor_102 rfl ?_
  refine V.get dX8_readsFloor_103 flX8_19 nM_0 gM_0 (by decide) (eM_0_4 _ _) ?_
  refine V.iload_n dX8_readsFloor_106 rfl ?_
  refine V.aload_n dX8_readsFloor_107 rfl ?_
  refine V.iconst ic_0 dX8_readsFloor_108 ?_
  refine V.iload_n dX8_readsFloor_109 rfl ?_
  refine V.iconst ic_1 dX8_readsFloor_110 ?_
  refine V.iadd dX8_readsFloor_111 ?_
  obtain ⟨q1, h1, h⟩ := bdc h
  refine V.callV2 (mc := mX8_byteAt) (d' := 0) dX8_readsFloor_112 lkX8_133 hfX8_byteAt nM_0 gM_0 rfl (by decide) (Nat.le_of_ble_eq_true rfl) (Nat.le_of_ble_eq_true rfl) (vX8_byteAt h1 ?_)
  refine V.bipush bp_48 dX8_readsFloor_115 ?_
  refine V.isub dX8_readsFloor_117 ?_
  obtain ⟨hb, h⟩ := ckn h
  refine V.iast dX8_readsFloor_118 nM_4 gM_4 hb ?_
  exact V.forget (vX8_readsFloor_119 h hQ) ⟨rfl, ⟨rfl, ⟨rfl, trivial⟩⟩⟩
def fX8_readsFloor_48 (l1 : Int32) (l2 : Int32) (s0 : Int32) (σ : vMem) : Option (Int32 × vMem) :=
  if l1 = (9 : Int32) then (fX8_readsFloor_62 σ) else
  (if s0 = (-1 : Int32) then (fX8_readsFloor_62 σ) else
  ((fX8_isFigure (0 : Int32) (l2 + (1 : Int32)) (9 : Int32) σ).bind fun q1 => if q1.1 = 0 then (some ((-2 : Int32), q1.2)) else
  ((fX8_isLetter (0 : Int32) (l2 + (2 : Int32)) q1.2).bind fun q2 => if q2.1 = 0 then (some ((-3 : Int32), q2.2)) else
  (if l1 < 0 ∨ 10 ≤ l1.toNatClampNeg then none else fX8_readsFloor_102 l1 l2 (vup q2.2 3 l1.toNatClampNeg s0)))))
theorem vX8_readsFloor_48 {ad : Nat → Nat} {Q : Option Value → vMem → Prop} {r : (Int32 × vMem)} {l1 : Int32} {l2 : Int32} {s0 : Int32} {σ : vMem} (h : fX8_readsFloor_48 l1 l2 s0 σ = some r) (hQ : Q (some (.int r.1)) r.2) : V GM mX8_readsFloor ad Q 2 48 [some (.ref (ad 0)), some (.int l1), some (.int l2), none, none] [.int s0] σ := by
  unfold fX8_readsFloor_48 at h
  refine V.istore dX8_readsFloor_48 (by decide) rfl ?_
  refine V.iload_n dX8_readsFloor_50 rfl ?_
  refine V.bipush bp_9 dX8_readsFloor_51 ?_
  rcases itc h with ⟨hc, h⟩ | ⟨hc, h⟩
  · refine V.icmp_eq (tgt := 62) dX8_readsFloor_53 (by decide) (fun _ => ?_) (fun hn => absurd hc hn)
    exact V.forget (vX8_readsFloor_62 h hQ) trivial
  · refine V.icmp_eq (tgt := 62) dX8_readsFloor_53 (by decide) (fun hn => absurd hn hc) (fun _ => ?_)
    refine V.iload dX8_readsFloor_56 rfl ?_
    refine V.iconst ic_m1 dX8_readsFloor_58 ?_
    rcases itc h with ⟨hc, h⟩ | ⟨hc, h⟩
    · refine V.icmp_ne (tgt := 64) dX8_readsFloor_59 (by decide) (fun hn => absurd hc hn) (fun _ => ?_)
      exact V.forget (vX8_readsFloor_62 h hQ) trivial
    · refine V.icmp_ne (tgt := 64) dX8_readsFloor_59 (by decide) (fun _ => ?_) (fun hn => absurd hn hc)
      refine V.aload_n dX8_readsFloor_64 rfl ?_
      refine V.iconst ic_0 dX8_readsFloor_65 ?_
      refine V.iload_n dX8_readsFloor_66 rfl ?_
      refine V.iconst ic_1 dX8_readsFloor_67 ?_
      refine V.iadd dX8_readsFloor_68 ?_
      refine V.bipush bp_9 dX8_readsFloor_69 ?_
      obtain ⟨q1, h1, h⟩ := bdc h
      refine V.callV3 (mc := mX8_isFigure) (d' := 1) dX8_readsFloor_71 lkX8_137 hfX8_isFigure nM_0 gM_0 rfl (by decide) (Nat.le_of_ble_eq_true rfl) (Nat.le_of_ble_eq_true rfl) (vX8_isFigure h1 ?_)
      rcases itc h with ⟨hc, h⟩ | ⟨hc, h⟩
      · refine V.if_ne (tgt := 80) dX8_readsFloor_74 (by decide) (fun hn => absurd hc hn) (fun _ => ?_)
        refine V.bipush bp_m2 dX8_readsFloor_77 ?_
        obtain rfl := Option.some.inj h
        exact V.iret dX8_readsFloor_79 rfl hQ
      · refine V.if_ne (tgt := 80) dX8_readsFloor_74 (by decide) (fun _ => ?_) (fun hn => absurd hn hc)
        refine V.aload_n dX8_readsFloor_80 rfl ?_
        refine V.iconst ic_0 dX8_readsFloor_81 ?_
        refine V.iload_n dX8_readsFloor_82 rfl ?_
        refine V.iconst ic_2 dX8_readsFloor_83 ?_
        refine V.iadd dX8_readsFloor_84 ?_
        obtain ⟨q2, h1, h⟩ := bdc h
        refine V.callV2 (mc := mX8_isLetter) (d' := 1) dX8_readsFloor_85 lkX8_140 hfX8_isLetter nM_0 gM_0 rfl (by decide) (Nat.le_of_ble_eq_true rfl) (Nat.le_of_ble_eq_true rfl) (vX8_isLetter h1 ?_)
        rcases itc h with ⟨hc, h⟩ | ⟨hc, h⟩
        · refine V.if_ne (tgt := 94) dX8_readsFloor_88 (by decide) (fun hn => absurd hc hn) (fun _ => ?_)
          refine V.bipush bp_m3 dX8_readsFloor_91 ?_
          obtain rfl := Option.some.inj h
          exact V.iret dX8_readsFloor_93 rfl hQ
        · refine V.if_ne (tgt := 94) dX8_readsFloor_88 (by decide) (fun _ => ?_) (fun hn => absurd hn hc)
          refine V.aload_n dX8_readsFloor_94 rfl ?_
          refine V.get dX8_readsFloor_95 flX8_16 nM_0 gM_0 (by decide) (eM_0_3 _ _) ?_
          refine V.iload_n dX8_readsFloor_98 rfl ?_
          refine V.iload dX8_readsFloor_99 rfl ?_
          obtain ⟨hb, h⟩ := ckn h
          refine V.iast dX8_readsFloor_101 nM_3 gM_3 hb ?_
          exact V.forget (vX8_readsFloor_102 h hQ) ⟨rfl, ⟨rfl, ⟨rfl, trivial⟩⟩⟩
def fX8_readsFloor (l1 : Int32) (l2 : Int32) (σ : vMem) : Option (Int32 × vMem) :=
  (fX8_byteAt (0 : Int32) l2 σ).bind fun q1 => if q1.1 = (112 : Int32) then (fX8_readsFloor_48 l1 l2 (0 : Int32) q1.2) else
  (if q1.1 = (109 : Int32) then (fX8_readsFloor_48 l1 l2 (1 : Int32) q1.2) else
  (if q1.1 = (108 : Int32) then (fX8_readsFloor_48 l1 l2 (2 : Int32) q1.2) else
  (if q1.1 = (99 : Int32) then (fX8_readsFloor_48 l1 l2 (3 : Int32) q1.2) else
  (fX8_readsFloor_48 l1 l2 (-1 : Int32) q1.2))))
theorem vX8_readsFloor {ad : Nat → Nat} {Q : Option Value → vMem → Prop} {r : (Int32 × vMem)} {l1 : Int32} {l2 : Int32} {σ : vMem} (h : fX8_readsFloor l1 l2 σ = some r) (hQ : Q (some (.int r.1)) r.2) : V GM mX8_readsFloor ad Q 2 0 [some (.ref (ad 0)), some (.int l1), some (.int l2), none, none] [] σ := by
  unfold fX8_readsFloor at h
  refine V.aload_n dX8_readsFloor_0 rfl ?_
  refine V.iconst ic_0 dX8_readsFloor_1 ?_
  refine V.iload_n dX8_readsFloor_2 rfl ?_
  obtain ⟨q1, h1, h⟩ := bdc h
  refine V.callV2 (mc := mX8_byteAt) (d' := 0) dX8_readsFloor_3 lkX8_133 hfX8_byteAt nM_0 gM_0 rfl (by decide) (Nat.le_of_ble_eq_true rfl) (Nat.le_of_ble_eq_true rfl) (vX8_byteAt h1 ?_)
  refine V.istore_n dX8_readsFloor_6 (by decide) rfl ?_
  refine V.iload_n dX8_readsFloor_7 rfl ?_
  refine V.bipush bp_112 dX8_readsFloor_8 ?_
  rcases itc h with ⟨hc, h⟩ | ⟨hc, h⟩
  · refine V.icmp_ne (tgt := 17) dX8_readsFloor_10 (by decide) (fun hn => absurd hc hn) (fun _ => ?_)
    refine V.iconst ic_0 dX8_readsFloor_13 ?_
    refine V.goto (tgt := 48) dX8_readsFloor_14 (by decide) ?_
    exact V.forget (vX8_readsFloor_48 h hQ) ⟨rfl, ⟨rfl, ⟨rfl, trivial⟩⟩⟩
  · refine V.icmp_ne (tgt := 17) dX8_readsFloor_10 (by decide) (fun _ => ?_) (fun hn => absurd hn hc)
    refine V.iload_n dX8_readsFloor_17 rfl ?_
    refine V.bipush bp_109 dX8_readsFloor_18 ?_
    rcases itc h with ⟨hc, h⟩ | ⟨hc, h⟩
    · refine V.icmp_ne (tgt := 27) dX8_readsFloor_20 (by decide) (fun hn => absurd hc hn) (fun _ => ?_)
      refine V.iconst ic_1 dX8_readsFloor_23 ?_
      refine V.goto (tgt := 48) dX8_readsFloor_24 (by decide) ?_
      exact V.forget (vX8_readsFloor_48 h hQ) ⟨rfl, ⟨rfl, ⟨rfl, trivial⟩⟩⟩
    · refine V.icmp_ne (tgt := 27) dX8_readsFloor_20 (by decide) (fun _ => ?_) (fun hn => absurd hn hc)
      refine V.iload_n dX8_readsFloor_27 rfl ?_
      refine V.bipush bp_108 dX8_readsFloor_28 ?_
      rcases itc h with ⟨hc, h⟩ | ⟨hc, h⟩
      · refine V.icmp_ne (tgt := 37) dX8_readsFloor_30 (by decide) (fun hn => absurd hc hn) (fun _ => ?_)
        refine V.iconst ic_2 dX8_readsFloor_33 ?_
        refine V.goto (tgt := 48) dX8_readsFloor_34 (by decide) ?_
        exact V.forget (vX8_readsFloor_48 h hQ) ⟨rfl, ⟨rfl, ⟨rfl, trivial⟩⟩⟩
      · refine V.icmp_ne (tgt := 37) dX8_readsFloor_30 (by decide) (fun _ => ?_) (fun hn => absurd hn hc)
        refine V.iload_n dX8_readsFloor_37 rfl ?_
        refine V.bipush bp_99 dX8_readsFloor_38 ?_
        rcases itc h with ⟨hc, h⟩ | ⟨hc, h⟩
        · refine V.icmp_ne (tgt := 47) dX8_readsFloor_40 (by decide) (fun hn => absurd hc hn) (fun _ => ?_)
          refine V.iconst ic_3 dX8_readsFloor_43 ?_
          refine V.goto (tgt := 48) dX8_readsFloor_44 (by decide) ?_
          exact V.forget (vX8_readsFloor_48 h hQ) ⟨rfl, ⟨rfl, ⟨rfl, trivial⟩⟩⟩
        · refine V.icmp_ne (tgt := 47) dX8_readsFloor_40 (by decide) (fun _ => ?_) (fun hn => absurd hn hc)
          refine V.iconst ic_m1 dX8_readsFloor_47 ?_
          exact V.forget (vX8_readsFloor_48 h hQ) ⟨rfl, ⟨rfl, ⟨rfl, trivial⟩⟩⟩
def fX8_readsParts_135 (σ : vMem) : Option (Int32 × vMem) :=
  some ((-1 : Int32), σ)
theorem vX8_readsParts_135 {ad : Nat → Nat} {Q : Option Value → vMem → Prop} {r : (Int32 × vMem)} {σ : vMem} (h : fX8_readsParts_135 σ = some r) (hQ : Q (some (.int r.1)) r.2) : V GM mX8_readsParts ad Q 3 135 [none, none, none, none, none] [] σ := by
  unfold fX8_readsParts_135 at h
  refine V.iconst ic_m1 dX8_readsParts_135 ?_
  obtain rfl := Option.some.inj h
  exact V.iret dX8_readsParts_136 rfl hQ
def fX8_readsParts_132 (s1 : Int32) (σ : vMem) : Option (Int32 × vMem) :=
  fX8_readsParts_135 (vup σ 0 6 s1)
theorem vX8_readsParts_132 {ad : Nat → Nat} {Q : Option Value → vMem → Prop} {r : (Int32 × vMem)} {s1 : Int32} {σ : vMem} (h : fX8_readsParts_132 s1 σ = some r) (hQ : Q (some (.int r.1)) r.2) : V GM mX8_readsParts ad Q 3 132 [none, none, none, none, none] [.int s1, .ref (ad 0)] σ := by
  unfold fX8_readsParts_132 at h
  refine V.putI dX8_readsParts_132 fpX8_147 nM_0 gM_0 (by decide) rfl ?_
  exact V.forget (vX8_readsParts_135 h hQ) trivial
def fX8_readsParts_118 (l1 : Int32) (l2 : Int32) (σ : vMem) : Option (Int32 × vMem) :=
  if l1 = (1 : Int32) then (fX8_readsParts_132 l2 σ) else
  (fX8_readsParts_132 (σ.1 0 6) σ)
theorem vX8_readsParts_118 {ad : Nat → Nat} {Q : Option Value → vMem → Prop} {r : (Int32 × vMem)} {l1 : Int32} {l2 : Int32} {σ : vMem} (h : fX8_readsParts_118 l1 l2 σ = some r) (hQ : Q (some (.int r.1)) r.2) : V GM mX8_readsParts ad Q 3 118 [some (.ref (ad 0)), some (.int l1), some (.int l2), none, none] [] σ := by
  unfold fX8_readsParts_118 at h
  refine V.aload_n dX8_readsParts_118 rfl ?_
  refine V.iload_n dX8_readsParts_119 rfl ?_
  refine V.iconst ic_1 dX8_readsParts_120 ?_
  rcases itc h with ⟨hc, h⟩ | ⟨hc, h⟩
  · refine V.icmp_ne (tgt := 128) dX8_readsParts_121 (by decide) (fun hn => absurd hc hn) (fun _ => ?_)
    refine V.iload_n dX8_readsParts_124 rfl ?_
    refine V.goto (tgt := 132) dX8_readsParts_125 (by decide) ?_
    exact V.forget (vX8_readsParts_132 h hQ) trivial
  · refine V.icmp_ne (tgt := 128) dX8_readsParts_121 (by decide) (fun _ => ?_) (fun hn => absurd hn hc)
    refine V.aload_n dX8_readsParts_128 rfl ?_
    refine V.get dX8_readsParts_129 flX8_147 nM_0 gM_0 (by decide) (eM_0_6 _ _) ?_
    exact V.forget (vX8_readsParts_132 h hQ) trivial
def fX8_readsParts_115 (l1 : Int32) (l2 : Int32) (s1 : Int32) (σ : vMem) : Option (Int32 × vMem) :=
  fX8_readsParts_118 l1 l2 (vup σ 0 2 s1)
theorem vX8_readsParts_115 {ad : Nat → Nat} {Q : Option Value → vMem → Prop} {r : (Int32 × vMem)} {l1 : Int32} {l2 : Int32} {s1 : Int32} {σ : vMem} (h : fX8_readsParts_115 l1 l2 s1 σ = some r) (hQ : Q (some (.int r.1)) r.2) : V GM mX8_readsParts ad Q 3 115 [some (.ref (ad 0)), some (.int l1), some (.int l2), none, none] [.int s1, .ref (ad 0)] σ := by
  unfold fX8_readsParts_115 at h
  refine V.putI dX8_readsParts_115 fpX8_144 nM_0 gM_0 (by decide) rfl ?_
  exact V.forget (vX8_readsParts_118 h hQ) ⟨rfl, ⟨rfl, ⟨rfl, trivial⟩⟩⟩
def fX8_readsParts_70 (K37 : Int32 → Int32 → Int32 → vMem → Option (Int32 × vMem)) (l1 : Int32) (l2 : Int32) (l3 : Int32) (s0 : Int32) (σ : vMem) : Option (Int32 × vMem) :=
  if 0 ≤ s0 then (if l1 < 0 ∨ 2 ≤ l1.toNatClampNeg then none else if (l3 + s0) = (σ.1 1 l1.toNatClampNeg) then (if l1 = 0 then (fX8_readsParts_115 l1 (l2 + (1 : Int32)) (l2 + (1 : Int32)) σ) else
  (fX8_readsParts_115 l1 (l2 + (1 : Int32)) (σ.1 0 2) σ)) else
  ((fX8_byteAt l1 (l3 + s0) σ).bind fun q1 => if q1.1 = (59 : Int32) then (K37 l1 (l2 + (1 : Int32)) ((l3 + s0) + (1 : Int32)) q1.2) else
  (some ((l3 + s0), q1.2)))) else
  (some (((l3 - s0) - (1 : Int32)), σ))
theorem vX8_readsParts_70 {ad : Nat → Nat} {Q : Option Value → vMem → Prop} {r : (Int32 × vMem)} {K37 : Int32 → Int32 → Int32 → vMem → Option (Int32 × vMem)} (hK37 : ∀ (l1 : Int32) (l2 : Int32) (l3 : Int32) (σ : vMem), K37 l1 l2 l3 σ = some r → V GM mX8_readsParts ad Q 3 37 [some (.ref (ad 0)), some (.int l1), some (.int l2), some (.int l3), none] [] σ) {l1 : Int32} {l2 : Int32} {l3 : Int32} {s0 : Int32} {σ : vMem} (h : fX8_readsParts_70 K37 l1 l2 l3 s0 σ = some r) (hQ : Q (some (.int r.1)) r.2) : V GM mX8_readsParts ad Q 3 70 [some (.ref (ad 0)), some (.int l1), some (.int l2), some (.int l3), none] [.int s0] σ := by
  unfold fX8_readsParts_70 at h
  refine V.istore dX8_readsParts_70 (by decide) rfl ?_
  refine V.iload dX8_readsParts_72 rfl ?_
  rcases itc h with ⟨hc, h⟩ | ⟨hc, h⟩
  · refine V.if_ge (tgt := 84) dX8_readsParts_74 (by decide) (fun _ => ?_) (fun hn => absurd hc hn)
    refine V.iinc dX8_readsParts_84 rfl (ii_1 _) (by decide) rfl ?_
    refine V.iload_n dX8_readsParts_87 rfl ?_
    refine V.iload dX8_readsParts_88 rfl ?_
    refine V.iadd dX8_readsParts_90 ?_
    refine V.istore_n dX8_readsParts_91 (by decide) rfl ?_
    refine V.iload_n dX8_readsParts_92 rfl ?_
    refine V.aload_n dX8_readsParts_93 rfl ?_
    refine V.get dX8_readsParts_94 flX8_7 nM_0 gM_0 (by decide) (eM_0_0 _ _) ?_
    refine V.iload_n dX8_readsParts_97 rfl ?_
    obtain ⟨hb, h⟩ := ckn h
    refine V.iald dX8_readsParts_98 nM_1 gM_1 hb ?_
    rcases itc h with ⟨hc, h⟩ | ⟨hc, h⟩
    · refine V.icmp_ne (tgt := 137) dX8_readsParts_99 (by decide) (fun hn => absurd hc hn) (fun _ => ?_)
      refine V.aload_n dX8_readsParts_102 rfl ?_
      refine V.iload_n dX8_readsParts_103 rfl ?_
      rcases itc h with ⟨hc, h⟩ | ⟨hc, h⟩
      · refine V.if_ne (tgt := 111) dX8_readsParts_104 (by decide) (fun hn => absurd hc hn) (fun _ => ?_)
        refine V.iload_n dX8_readsParts_107 rfl ?_
        refine V.goto (tgt := 115) dX8_readsParts_108 (by decide) ?_
        exact V.forget (vX8_readsParts_115 h hQ) ⟨rfl, ⟨rfl, ⟨rfl, trivial⟩⟩⟩
      · refine V.if_ne (tgt := 111) dX8_readsParts_104 (by decide) (fun _ => ?_) (fun hn => absurd hn hc)
        refine V.aload_n dX8_readsParts_111 rfl ?_
        refine V.get dX8_readsParts_112 flX8_144 nM_0 gM_0 (by decide) (eM_0_2 _ _) ?_
        exact V.forget (vX8_readsParts_115 h hQ) ⟨rfl, ⟨rfl, ⟨rfl, trivial⟩⟩⟩
    · refine V.icmp_ne (tgt := 137) dX8_readsParts_99 (by decide) (fun _ => ?_) (fun hn => absurd hn hc)
      refine V.aload_n dX8_readsParts_137 rfl ?_
      refine V.iload_n dX8_readsParts_138 rfl ?_
      refine V.iload_n dX8_readsParts_139 rfl ?_
      obtain ⟨q1, h1, h⟩ := bdc h
      refine V.callV2 (mc := mX8_byteAt) (d' := 0) dX8_readsParts_140 lkX8_133 hfX8_byteAt nM_0 gM_0 rfl (by decide) (Nat.le_of_ble_eq_true rfl) (Nat.le_of_ble_eq_true rfl) (vX8_byteAt h1 ?_)
      refine V.bipush bp_59 dX8_readsParts_143 ?_
      rcases itc h with ⟨hc, h⟩ | ⟨hc, h⟩
      · refine V.icmp_eq (tgt := 150) dX8_readsParts_145 (by decide) (fun _ => ?_) (fun hn => absurd hc hn)
        refine V.iinc dX8_readsParts_150 rfl (ii_1 _) (by decide) rfl ?_
        refine V.goto (tgt := 37) dX8_readsParts_153 (by decide) ?_
        exact V.forget (hK37 _ _ _ _ h) ⟨rfl, ⟨rfl, ⟨rfl, ⟨rfl, trivial⟩⟩⟩⟩
      · refine V.icmp_eq (tgt := 150) dX8_readsParts_145 (by decide) (fun hn => absurd hn hc) (fun _ => ?_)
        refine V.iload_n dX8_readsParts_148 rfl ?_
        obtain rfl := Option.some.inj h
        exact V.iret dX8_readsParts_149 rfl hQ
  · refine V.if_ge (tgt := 84) dX8_readsParts_74 (by decide) (fun hn => absurd hn hc) (fun _ => ?_)
    refine V.iload_n dX8_readsParts_77 rfl ?_
    refine V.iload dX8_readsParts_78 rfl ?_
    refine V.isub dX8_readsParts_80 ?_
    refine V.iconst ic_1 dX8_readsParts_81 ?_
    refine V.isub dX8_readsParts_82 ?_
    obtain rfl := Option.some.inj h
    exact V.iret dX8_readsParts_83 rfl hQ
def fX8_readsParts_51 (K37 : Int32 → Int32 → Int32 → vMem → Option (Int32 × vMem)) (l1 : Int32) (l2 : Int32) (l3 : Int32) (σ : vMem) : Option (Int32 × vMem) :=
  if l1 = 0 then ((fX8_readsFloor l2 l3 σ).bind fun q2 => fX8_readsParts_70 K37 l1 l2 l3 q2.1 q2.2) else
  ((fX8_readsBasket l2 l3 σ).bind fun q1 => fX8_readsParts_70 K37 l1 l2 l3 q1.1 q1.2)
theorem vX8_readsParts_51 {ad : Nat → Nat} {Q : Option Value → vMem → Prop} {r : (Int32 × vMem)} {K37 : Int32 → Int32 → Int32 → vMem → Option (Int32 × vMem)} (hK37 : ∀ (l1 : Int32) (l2 : Int32) (l3 : Int32) (σ : vMem), K37 l1 l2 l3 σ = some r → V GM mX8_readsParts ad Q 3 37 [some (.ref (ad 0)), some (.int l1), some (.int l2), some (.int l3), none] [] σ) {l1 : Int32} {l2 : Int32} {l3 : Int32} {σ : vMem} (h : fX8_readsParts_51 K37 l1 l2 l3 σ = some r) (hQ : Q (some (.int r.1)) r.2) : V GM mX8_readsParts ad Q 3 51 [some (.ref (ad 0)), some (.int l1), some (.int l2), some (.int l3), none] [] σ := by
  unfold fX8_readsParts_51 at h
  refine V.iload_n dX8_readsParts_51 rfl ?_
  rcases itc h with ⟨hc, h⟩ | ⟨hc, h⟩
  · refine V.if_ne (tgt := 64) dX8_readsParts_52 (by decide) (fun hn => absurd hc hn) (fun _ => ?_)
    refine V.aload_n dX8_readsParts_55 rfl ?_
    refine V.iload_n dX8_readsParts_56 rfl ?_
    refine V.iload_n dX8_readsParts_57 rfl ?_
    obtain ⟨q2, h1, h⟩ := bdc h
    refine V.callV2 (mc := mX8_readsFloor) (d' := 2) dX8_readsParts_58 lkX8_150 hfX8_readsFloor nM_0 gM_0 rfl (by decide) (Nat.le_of_ble_eq_true rfl) (Nat.le_of_ble_eq_true rfl) (vX8_readsFloor h1 ?_)
    refine V.goto (tgt := 70) dX8_readsParts_61 (by decide) ?_
    exact V.forget (vX8_readsParts_70 hK37 h hQ) ⟨rfl, ⟨rfl, ⟨rfl, ⟨rfl, trivial⟩⟩⟩⟩
  · refine V.if_ne (tgt := 64) dX8_readsParts_52 (by decide) (fun _ => ?_) (fun hn => absurd hn hc)
    refine V.aload_n dX8_readsParts_64 rfl ?_
    refine V.iload_n dX8_readsParts_65 rfl ?_
    refine V.iload_n dX8_readsParts_66 rfl ?_
    obtain ⟨q1, h1, h⟩ := bdc h
    refine V.callV2 (mc := mX8_readsBasket) (d' := 2) dX8_readsParts_67 lkX8_153 hfX8_readsBasket nM_0 gM_0 rfl (by decide) (Nat.le_of_ble_eq_true rfl) (Nat.le_of_ble_eq_true rfl) (vX8_readsBasket h1 ?_)
    exact V.forget (vX8_readsParts_70 hK37 h hQ) ⟨rfl, ⟨rfl, ⟨rfl, ⟨rfl, trivial⟩⟩⟩⟩
def fX8_readsParts_37 (K37 : Int32 → Int32 → Int32 → vMem → Option (Int32 × vMem)) (l1 : Int32) (l2 : Int32) (l3 : Int32) (σ : vMem) : Option (Int32 × vMem) :=
  if l1 < 0 ∨ 2 ≤ l1.toNatClampNeg then none else if l3 < (σ.1 1 l1.toNatClampNeg) then (fX8_readsParts_51 K37 l1 l2 l3 σ) else
  (if l3 ≤ 0 then (some ((-1 : Int32), σ)) else
  (fX8_readsParts_51 K37 l1 l2 l3 σ))
theorem vX8_readsParts_37 {ad : Nat → Nat} {Q : Option Value → vMem → Prop} {r : (Int32 × vMem)} {K37 : Int32 → Int32 → Int32 → vMem → Option (Int32 × vMem)} (hK37 : ∀ (l1 : Int32) (l2 : Int32) (l3 : Int32) (σ : vMem), K37 l1 l2 l3 σ = some r → V GM mX8_readsParts ad Q 3 37 [some (.ref (ad 0)), some (.int l1), some (.int l2), some (.int l3), none] [] σ) {l1 : Int32} {l2 : Int32} {l3 : Int32} {σ : vMem} (h : fX8_readsParts_37 K37 l1 l2 l3 σ = some r) (hQ : Q (some (.int r.1)) r.2) : V GM mX8_readsParts ad Q 3 37 [some (.ref (ad 0)), some (.int l1), some (.int l2), some (.int l3), none] [] σ := by
  unfold fX8_readsParts_37 at h
  refine V.iload_n dX8_readsParts_37 rfl ?_
  refine V.aload_n dX8_readsParts_38 rfl ?_
  refine V.get dX8_readsParts_39 flX8_7 nM_0 gM_0 (by decide) (eM_0_0 _ _) ?_
  refine V.iload_n dX8_readsParts_42 rfl ?_
  obtain ⟨hb, h⟩ := ckn h
  refine V.iald dX8_readsParts_43 nM_1 gM_1 hb ?_
  rcases itc h with ⟨hc, h⟩ | ⟨hc, h⟩
  · refine V.icmp_lt (tgt := 51) dX8_readsParts_44 (by decide) (fun _ => ?_) (fun hn => absurd hc hn)
    exact V.forget (vX8_readsParts_51 hK37 h hQ) ⟨rfl, ⟨rfl, ⟨rfl, ⟨rfl, trivial⟩⟩⟩⟩
  · refine V.icmp_lt (tgt := 51) dX8_readsParts_44 (by decide) (fun hn => absurd hn hc) (fun _ => ?_)
    refine V.iload_n dX8_readsParts_47 rfl ?_
    rcases itc h with ⟨hc, h⟩ | ⟨hc, h⟩
    · refine V.if_le (tgt := 156) dX8_readsParts_48 (by decide) (fun _ => ?_) (fun hn => absurd hc hn)
      refine V.iconst ic_m1 dX8_readsParts_156 ?_
      obtain rfl := Option.some.inj h
      exact V.iret dX8_readsParts_157 rfl hQ
    · refine V.if_le (tgt := 156) dX8_readsParts_48 (by decide) (fun hn => absurd hn hc) (fun _ => ?_)
      exact V.forget (vX8_readsParts_51 hK37 h hQ) ⟨rfl, ⟨rfl, ⟨rfl, ⟨rfl, trivial⟩⟩⟩⟩
def LfX8_readsParts_37 : Nat → Int32 → Int32 → Int32 → vMem → Option (Int32 × vMem)
  | 0, _, _, _, _ => none
  | n + 1, l1, l2, l3, σ => fX8_readsParts_37 (LfX8_readsParts_37 n) l1 l2 l3 σ
theorem LvX8_readsParts_37 {ad : Nat → Nat} {Q : Option Value → vMem → Prop} {r : (Int32 × vMem)} (hQ : Q (some (.int r.1)) r.2) : ∀ (n : Nat) (l1 : Int32) (l2 : Int32) (l3 : Int32) (σ : vMem), LfX8_readsParts_37 n l1 l2 l3 σ = some r → V GM mX8_readsParts ad Q 3 37 [some (.ref (ad 0)), some (.int l1), some (.int l2), some (.int l3), none] [] σ := by
  intro n
  induction n with
  | zero => intro l1 l2 l3 σ h; cases h
  | succ n ih => intro l1 l2 l3 σ h; exact vX8_readsParts_37 ih h hQ
def fX8_readsParts_34 (l1 : Int32) (l2 : Int32) (l3 : Int32) (s1 : Int32) (σ : vMem) : Option (Int32 × vMem) :=
  LfX8_readsParts_37 200 l1 l2 l3 (vup σ 0 6 s1)
theorem vX8_readsParts_34 {ad : Nat → Nat} {Q : Option Value → vMem → Prop} {r : (Int32 × vMem)} {l1 : Int32} {l2 : Int32} {l3 : Int32} {s1 : Int32} {σ : vMem} (h : fX8_readsParts_34 l1 l2 l3 s1 σ = some r) (hQ : Q (some (.int r.1)) r.2) : V GM mX8_readsParts ad Q 3 34 [some (.ref (ad 0)), some (.int l1), some (.int l2), some (.int l3), none] [.int s1, .ref (ad 0)] σ := by
  unfold fX8_readsParts_34 at h
  refine V.putI dX8_readsParts_34 fpX8_147 nM_0 gM_0 (by decide) rfl ?_
  exact V.forget (LvX8_readsParts_37 hQ 200 _ _ _ _ h) ⟨rfl, ⟨rfl, ⟨rfl, ⟨rfl, trivial⟩⟩⟩⟩
def fX8_readsParts_20 (l1 : Int32) (l2 : Int32) (l3 : Int32) (σ : vMem) : Option (Int32 × vMem) :=
  if l1 = (1 : Int32) then (fX8_readsParts_34 l1 l2 l3 (0 : Int32) σ) else
  (fX8_readsParts_34 l1 l2 l3 (σ.1 0 6) σ)
theorem vX8_readsParts_20 {ad : Nat → Nat} {Q : Option Value → vMem → Prop} {r : (Int32 × vMem)} {l1 : Int32} {l2 : Int32} {l3 : Int32} {σ : vMem} (h : fX8_readsParts_20 l1 l2 l3 σ = some r) (hQ : Q (some (.int r.1)) r.2) : V GM mX8_readsParts ad Q 3 20 [some (.ref (ad 0)), some (.int l1), some (.int l2), some (.int l3), none] [] σ := by
  unfold fX8_readsParts_20 at h
  refine V.aload_n dX8_readsParts_20 rfl ?_
  refine V.iload_n dX8_readsParts_21 rfl ?_
  refine V.iconst ic_1 dX8_readsParts_22 ?_
  rcases itc h with ⟨hc, h⟩ | ⟨hc, h⟩
  · refine V.icmp_ne (tgt := 30) dX8_readsParts_23 (by decide) (fun hn => absurd hc hn) (fun _ => ?_)
    refine V.iconst ic_0 dX8_readsParts_26 ?_
    refine V.goto (tgt := 34) dX8_readsParts_27 (by decide) ?_
    exact V.forget (vX8_readsParts_34 h hQ) ⟨rfl, ⟨rfl, ⟨rfl, ⟨rfl, trivial⟩⟩⟩⟩
  · refine V.icmp_ne (tgt := 30) dX8_readsParts_23 (by decide) (fun _ => ?_) (fun hn => absurd hn hc)
    refine V.aload_n dX8_readsParts_30 rfl ?_
    refine V.get dX8_readsParts_31 flX8_147 nM_0 gM_0 (by decide) (eM_0_6 _ _) ?_
    exact V.forget (vX8_readsParts_34 h hQ) ⟨rfl, ⟨rfl, ⟨rfl, ⟨rfl, trivial⟩⟩⟩⟩
def fX8_readsParts_17 (l1 : Int32) (l2 : Int32) (l3 : Int32) (s1 : Int32) (σ : vMem) : Option (Int32 × vMem) :=
  fX8_readsParts_20 l1 l2 l3 (vup σ 0 2 s1)
theorem vX8_readsParts_17 {ad : Nat → Nat} {Q : Option Value → vMem → Prop} {r : (Int32 × vMem)} {l1 : Int32} {l2 : Int32} {l3 : Int32} {s1 : Int32} {σ : vMem} (h : fX8_readsParts_17 l1 l2 l3 s1 σ = some r) (hQ : Q (some (.int r.1)) r.2) : V GM mX8_readsParts ad Q 3 17 [some (.ref (ad 0)), some (.int l1), some (.int l2), some (.int l3), none] [.int s1, .ref (ad 0)] σ := by
  unfold fX8_readsParts_17 at h
  refine V.putI dX8_readsParts_17 fpX8_144 nM_0 gM_0 (by decide) rfl ?_
  exact V.forget (vX8_readsParts_20 h hQ) ⟨rfl, ⟨rfl, ⟨rfl, ⟨rfl, trivial⟩⟩⟩⟩
def fX8_readsParts (l1 : Int32) (σ : vMem) : Option (Int32 × vMem) :=
  if l1 = 0 then (fX8_readsParts_17 l1 (0 : Int32) (0 : Int32) (0 : Int32) σ) else
  (fX8_readsParts_17 l1 (0 : Int32) (0 : Int32) (σ.1 0 2) σ)
theorem vX8_readsParts {ad : Nat → Nat} {Q : Option Value → vMem → Prop} {r : (Int32 × vMem)} {l1 : Int32} {σ : vMem} (h : fX8_readsParts l1 σ = some r) (hQ : Q (some (.int r.1)) r.2) : V GM mX8_readsParts ad Q 3 0 [some (.ref (ad 0)), some (.int l1), none, none, none] [] σ := by
  unfold fX8_readsParts at h
  refine V.iconst ic_0 dX8_readsParts_0 ?_
  refine V.istore_n dX8_readsParts_1 (by decide) rfl ?_
  refine V.iconst ic_0 dX8_readsParts_2 ?_
  refine V.istore_n dX8_readsParts_3 (by decide) rfl ?_
  refine V.aload_n dX8_readsParts_4 rfl ?_
  refine V.iload_n dX8_readsParts_5 rfl ?_
  rcases itc h with ⟨hc, h⟩ | ⟨hc, h⟩
  · refine V.if_ne (tgt := 13) dX8_readsParts_6 (by decide) (fun hn => absurd hc hn) (fun _ => ?_)
    refine V.iconst ic_0 dX8_readsParts_9 ?_
    refine V.goto (tgt := 17) dX8_readsParts_10 (by decide) ?_
    exact V.forget (vX8_readsParts_17 h hQ) ⟨rfl, ⟨rfl, ⟨rfl, ⟨rfl, trivial⟩⟩⟩⟩
  · refine V.if_ne (tgt := 13) dX8_readsParts_6 (by decide) (fun _ => ?_) (fun hn => absurd hn hc)
    refine V.aload_n dX8_readsParts_13 rfl ?_
    refine V.get dX8_readsParts_14 flX8_144 nM_0 gM_0 (by decide) (eM_0_2 _ _) ?_
    exact V.forget (vX8_readsParts_17 h hQ) ⟨rfl, ⟨rfl, ⟨rfl, ⟨rfl, trivial⟩⟩⟩⟩
def fX8_faultOf_21 (s0 : Int32) (σ : vMem) : Option (Int32 × vMem) :=
  some (s0, σ)
theorem vX8_faultOf_21 {ad : Nat → Nat} {Q : Option Value → vMem → Prop} {r : (Int32 × vMem)} {s0 : Int32} {σ : vMem} (h : fX8_faultOf_21 s0 σ = some r) (hQ : Q (some (.int r.1)) r.2) : V GM mX8_faultOf ad Q 4 21 [none, none, none, none] [.int s0] σ := by
  unfold fX8_faultOf_21 at h
  obtain rfl := Option.some.inj h
  exact V.iret dX8_faultOf_21 rfl hQ
def fX8_faultOf (l1 : Int32) (σ : vMem) : Option (Int32 × vMem) :=
  (fX8_readsParts (0 : Int32) σ).bind fun q1 => (fX8_readsParts (1 : Int32) q1.2).bind fun q2 => if l1 = 0 then (fX8_faultOf_21 q1.1 q2.2) else
  (fX8_faultOf_21 q2.1 q2.2)
theorem vX8_faultOf {ad : Nat → Nat} {Q : Option Value → vMem → Prop} {r : (Int32 × vMem)} {l1 : Int32} {σ : vMem} (h : fX8_faultOf l1 σ = some r) (hQ : Q (some (.int r.1)) r.2) : V GM mX8_faultOf ad Q 4 0 [some (.ref (ad 0)), some (.int l1), none, none] [] σ := by
  unfold fX8_faultOf at h
  refine V.aload_n dX8_faultOf_0 rfl ?_
  refine V.iconst ic_0 dX8_faultOf_1 ?_
  obtain ⟨q1, h1, h⟩ := bdc h
  refine V.callV1 (mc := mX8_readsParts) (d' := 3) dX8_faultOf_2 lkX8_156 hfX8_readsParts nM_0 gM_0 rfl (by decide) (Nat.le_of_ble_eq_true rfl) (Nat.le_of_ble_eq_true rfl) (vX8_readsParts h1 ?_)
  refine V.istore_n dX8_faultOf_5 (by decide) rfl ?_
  refine V.aload_n dX8_faultOf_6 rfl ?_
  refine V.iconst ic_1 dX8_faultOf_7 ?_
  obtain ⟨q2, h1, h⟩ := bdc h
  refine V.callV1 (mc := mX8_readsParts) (d' := 3) dX8_faultOf_8 lkX8_156 hfX8_readsParts nM_0 gM_0 rfl (by decide) (Nat.le_of_ble_eq_true rfl) (Nat.le_of_ble_eq_true rfl) (vX8_readsParts h1 ?_)
  refine V.istore_n dX8_faultOf_11 (by decide) rfl ?_
  refine V.iload_n dX8_faultOf_12 rfl ?_
  rcases itc h with ⟨hc, h⟩ | ⟨hc, h⟩
  · refine V.if_ne (tgt := 20) dX8_faultOf_13 (by decide) (fun hn => absurd hc hn) (fun _ => ?_)
    refine V.iload_n dX8_faultOf_16 rfl ?_
    refine V.goto (tgt := 21) dX8_faultOf_17 (by decide) ?_
    exact V.forget (vX8_faultOf_21 h hQ) trivial
  · refine V.if_ne (tgt := 20) dX8_faultOf_13 (by decide) (fun _ => ?_) (fun hn => absurd hn hc)
    refine V.iload_n dX8_faultOf_20 rfl ?_
    exact V.forget (vX8_faultOf_21 h hQ) trivial
def fX8_fault_17 (s0 : Int32) (σ : vMem) : Option (Int32 × vMem) :=
  some (s0, σ)
theorem vX8_fault_17 {ad : Nat → Nat} {Q : Option Value → vMem → Prop} {r : (Int32 × vMem)} {s0 : Int32} {σ : vMem} (h : fX8_fault_17 s0 σ = some r) (hQ : Q (some (.int r.1)) r.2) : V GM mX8_fault ad Q 5 17 [none, none] [.int s0] σ := by
  unfold fX8_fault_17 at h
  obtain rfl := Option.some.inj h
  exact V.iret dX8_fault_17 rfl hQ
def fX8_fault (l1 : Int32) (σ : vMem) : Option (Int32 × vMem) :=
  (fX8_isText l1 σ).bind fun q1 => if q1.1 = 0 then (fX8_fault_17 (-2 : Int32) q1.2) else
  ((fX8_faultOf l1 q1.2).bind fun q2 => fX8_fault_17 q2.1 q2.2)
theorem vX8_fault {ad : Nat → Nat} {Q : Option Value → vMem → Prop} {r : (Int32 × vMem)} {l1 : Int32} {σ : vMem} (h : fX8_fault l1 σ = some r) (hQ : Q (some (.int r.1)) r.2) : V GM mX8_fault ad Q 5 0 [some (.ref (ad 0)), some (.int l1)] [] σ := by
  unfold fX8_fault at h
  refine V.iload_n dX8_fault_0 rfl ?_
  obtain ⟨q1, h1, h⟩ := bdc h
  refine V.callS1 (mc := mX8_isText) (d' := 1) dX8_fault_1 lkX8_129 hfX8_isText (by decide) (Nat.le_of_ble_eq_true rfl) (Nat.le_of_ble_eq_true rfl) (vX8_isText h1 ?_)
  rcases itc h with ⟨hc, h⟩ | ⟨hc, h⟩
  · refine V.if_eq (tgt := 15) dX8_fault_4 (by decide) (fun _ => ?_) (fun hn => absurd hc hn)
    refine V.bipush bp_m2 dX8_fault_15 ?_
    exact V.forget (vX8_fault_17 h hQ) trivial
  · refine V.if_eq (tgt := 15) dX8_fault_4 (by decide) (fun hn => absurd hn hc) (fun _ => ?_)
    refine V.aload_n dX8_fault_7 rfl ?_
    refine V.iload_n dX8_fault_8 rfl ?_
    obtain ⟨q2, h1, h⟩ := bdc h
    refine V.callV1 (mc := mX8_faultOf) (d' := 4) dX8_fault_9 lkX8_160 hfX8_faultOf nM_0 gM_0 rfl (by decide) (Nat.le_of_ble_eq_true rfl) (Nat.le_of_ble_eq_true rfl) (vX8_faultOf h1 ?_)
    refine V.goto (tgt := 17) dX8_fault_12 (by decide) ?_
    exact V.forget (vX8_fault_17 h hQ) trivial
def fX8_reads (σ : vMem) : Option vMem :=
  (fX8_faultOf (0 : Int32) σ).bind fun q1 => some q1.2
theorem vX8_reads {ad : Nat → Nat} {Q : Option Value → vMem → Prop} {r : vMem} {σ : vMem} (h : fX8_reads σ = some r) (hQ : Q none r) : V GM mX8_reads ad Q 5 0 [some (.ref (ad 0)), none] [] σ := by
  unfold fX8_reads at h
  refine V.aload_n dX8_reads_0 rfl ?_
  refine V.iconst ic_0 dX8_reads_1 ?_
  obtain ⟨q1, h1, h⟩ := bdc h
  refine V.callV1 (mc := mX8_faultOf) (d' := 4) dX8_reads_2 lkX8_160 hfX8_faultOf nM_0 gM_0 rfl (by decide) (Nat.le_of_ble_eq_true rfl) (Nat.le_of_ble_eq_true rfl) (vX8_faultOf h1 ?_)
  refine V.istore_n dX8_reads_5 (by decide) rfl ?_
  obtain rfl := Option.some.inj h
  exact V.vret dX8_reads_6 rfl hQ
def fX8_isFloor (l1 : Int32) (σ : vMem) : Option (Int32 × vMem) :=
  (fX8_reads σ).bind fun q1 => (fX8_in l1 (0 : Int32) ((q1.1 0 2) - (1 : Int32)) q1).bind fun q2 => if ¬ (q2.1 = 0 ∨ q2.1 = 1) then none else some (q2.1, q2.2)
theorem vX8_isFloor {ad : Nat → Nat} {Q : Option Value → vMem → Prop} {r : (Int32 × vMem)} {l1 : Int32} {σ : vMem} (h : fX8_isFloor l1 σ = some r) (hQ : Q (some (.int r.1)) r.2) : V GM mX8_isFloor ad Q 6 0 [some (.ref (ad 0)), some (.int l1)] [] σ := by
  unfold fX8_isFloor at h
  refine V.aload_n dX8_isFloor_0 rfl ?_
  obtain ⟨q1, h1, h⟩ := bdc h
  refine V.callV0 (mc := mX8_reads) (d' := 5) dX8_isFloor_1 lkX8_163 hfX8_reads nM_0 gM_0 rfl (by decide) (Nat.le_of_ble_eq_true rfl) (Nat.le_of_ble_eq_true rfl) (vX8_reads h1 ?_)
  refine V.iload_n dX8_isFloor_4 rfl ?_
  refine V.iconst ic_0 dX8_isFloor_5 ?_
  refine V.aload_n dX8_isFloor_6 rfl ?_
  refine V.get dX8_isFloor_7 flX8_144 nM_0 gM_0 (by decide) (eM_0_2 _ _) ?_
  refine V.iconst ic_1 dX8_isFloor_10 ?_
  refine V.isub dX8_isFloor_11 ?_
  obtain ⟨q2, h1, h⟩ := bdc h
  refine V.callS3 (mc := mX8_in) (d' := 0) dX8_isFloor_12 lkX8_125 hfX8_in (by decide) (Nat.le_of_ble_eq_true rfl) (Nat.le_of_ble_eq_true rfl) (vX8_in h1 ?_)
  obtain ⟨hb, h⟩ := ckn h
  obtain rfl := Option.some.inj h
  exact V.zret dX8_isFloor_15 rfl (Decidable.not_not.mp hb) hQ
def fX8_floorOf_33 (s0 : Int32) (σ : vMem) : Option (Int32 × vMem) :=
  some (s0, σ)
theorem vX8_floorOf_33 {ad : Nat → Nat} {Q : Option Value → vMem → Prop} {r : (Int32 × vMem)} {s0 : Int32} {σ : vMem} (h : fX8_floorOf_33 s0 σ = some r) (hQ : Q (some (.int r.1)) r.2) : V GM mX8_floorOf ad Q 0 33 [none, none, none] [.int s0] σ := by
  unfold fX8_floorOf_33 at h
  obtain rfl := Option.some.inj h
  exact V.iret dX8_floorOf_33 rfl hQ
def fX8_floorOf (l1 : Int32) (l2 : Int32) (σ : vMem) : Option (Int32 × vMem) :=
  if l2 = 0 then (if l1 < 0 ∨ 10 ≤ l1.toNatClampNeg then none else fX8_floorOf_33 (σ.1 3 l1.toNatClampNeg) σ) else
  (if l2 = (1 : Int32) then (if l1 < 0 ∨ 10 ≤ l1.toNatClampNeg then none else fX8_floorOf_33 (σ.1 4 l1.toNatClampNeg) σ) else
  (if l1 < 0 ∨ 10 ≤ l1.toNatClampNeg then none else fX8_floorOf_33 (σ.1 5 l1.toNatClampNeg) σ))
theorem vX8_floorOf {ad : Nat → Nat} {Q : Option Value → vMem → Prop} {r : (Int32 × vMem)} {l1 : Int32} {l2 : Int32} {σ : vMem} (h : fX8_floorOf l1 l2 σ = some r) (hQ : Q (some (.int r.1)) r.2) : V GM mX8_floorOf ad Q 0 0 [some (.ref (ad 0)), some (.int l1), some (.int l2)] [] σ := by
  unfold fX8_floorOf at h
  refine V.iload_n dX8_floorOf_0 rfl ?_
  rcases itc h with ⟨hc, h⟩ | ⟨hc, h⟩
  · refine V.if_ne (tgt := 13) dX8_floorOf_1 (by decide) (fun hn => absurd hc hn) (fun _ => ?_)
    refine V.aload_n dX8_floorOf_4 rfl ?_
    refine V.get dX8_floorOf_5 flX8_16 nM_0 gM_0 (by decide) (eM_0_3 _ _) ?_
    refine V.iload_n dX8_floorOf_8 rfl ?_
    obtain ⟨hb, h⟩ := ckn h
    refine V.iald dX8_floorOf_9 nM_3 gM_3 hb ?_
    refine V.goto (tgt := 33) dX8_floorOf_10 (by decide) ?_
    exact V.forget (vX8_floorOf_33 h hQ) trivial
  · refine V.if_ne (tgt := 13) dX8_floorOf_1 (by decide) (fun _ => ?_) (fun hn => absurd hn hc)
    refine V.iload_n dX8_floorOf_13 rfl ?_
    refine V.iconst ic_1 dX8_floorOf_14 ?_
    rcases itc h with ⟨hc, h⟩ | ⟨hc, h⟩
    · refine V.icmp_ne (tgt := 27) dX8_floorOf_15 (by decide) (fun hn => absurd hc hn) (fun _ => ?_)
      refine V.aload_n dX8_floorOf_18 rfl ?_
      refine V.get dX8_floorOf_19 flX8_19 nM_0 gM_0 (by decide) (eM_0_4 _ _) ?_
      refine V.iload_n dX8_floorOf_22 rfl ?_
      obtain ⟨hb, h⟩ := ckn h
      refine V.iald dX8_floorOf_23 nM_4 gM_4 hb ?_
      refine V.goto (tgt := 33) dX8_floorOf_24 (by decide) ?_
      exact V.forget (vX8_floorOf_33 h hQ) trivial
    · refine V.icmp_ne (tgt := 27) dX8_floorOf_15 (by decide) (fun _ => ?_) (fun hn => absurd hn hc)
      refine V.aload_n dX8_floorOf_27 rfl ?_
      refine V.get dX8_floorOf_28 flX8_22 nM_0 gM_0 (by decide) (eM_0_5 _ _) ?_
      refine V.iload_n dX8_floorOf_31 rfl ?_
      obtain ⟨hb, h⟩ := ckn h
      refine V.iald dX8_floorOf_32 nM_5 gM_5 hb ?_
      exact V.forget (vX8_floorOf_33 h hQ) trivial
def fX8_floor_28 (s0 : Int32) (σ : vMem) : Option (Int32 × vMem) :=
  some (s0, σ)
theorem vX8_floor_28 {ad : Nat → Nat} {Q : Option Value → vMem → Prop} {r : (Int32 × vMem)} {s0 : Int32} {σ : vMem} (h : fX8_floor_28 s0 σ = some r) (hQ : Q (some (.int r.1)) r.2) : V GM mX8_floor ad Q 7 28 [none, none, none] [.int s0] σ := by
  unfold fX8_floor_28 at h
  obtain rfl := Option.some.inj h
  exact V.iret dX8_floor_28 rfl hQ
def fX8_floor_26 (σ : vMem) : Option (Int32 × vMem) :=
  fX8_floor_28 (-2 : Int32) σ
theorem vX8_floor_26 {ad : Nat → Nat} {Q : Option Value → vMem → Prop} {r : (Int32 × vMem)} {σ : vMem} (h : fX8_floor_26 σ = some r) (hQ : Q (some (.int r.1)) r.2) : V GM mX8_floor ad Q 7 26 [none, none, none] [] σ := by
  unfold fX8_floor_26 at h
  refine V.bipush bp_m2 dX8_floor_26 ?_
  exact V.forget (vX8_floor_28 h hQ) trivial
def fX8_floor (l1 : Int32) (l2 : Int32) (σ : vMem) : Option (Int32 × vMem) :=
  (fX8_isFloor l1 σ).bind fun q1 => if q1.1 = 0 then (fX8_floor_26 q1.2) else
  ((fX8_in l2 (0 : Int32) (2 : Int32) q1.2).bind fun q2 => if q2.1 = 0 then (fX8_floor_26 q2.2) else
  ((fX8_floorOf l1 l2 q2.2).bind fun q3 => fX8_floor_28 q3.1 q3.2))
theorem vX8_floor {ad : Nat → Nat} {Q : Option Value → vMem → Prop} {r : (Int32 × vMem)} {l1 : Int32} {l2 : Int32} {σ : vMem} (h : fX8_floor l1 l2 σ = some r) (hQ : Q (some (.int r.1)) r.2) : V GM mX8_floor ad Q 7 0 [some (.ref (ad 0)), some (.int l1), some (.int l2)] [] σ := by
  unfold fX8_floor at h
  refine V.aload_n dX8_floor_0 rfl ?_
  refine V.iload_n dX8_floor_1 rfl ?_
  obtain ⟨q1, h1, h⟩ := bdc h
  refine V.callV1 (mc := mX8_isFloor) (d' := 6) dX8_floor_2 lkX8_166 hfX8_isFloor nM_0 gM_0 rfl (by decide) (Nat.le_of_ble_eq_true rfl) (Nat.le_of_ble_eq_true rfl) (vX8_isFloor h1 ?_)
  rcases itc h with ⟨hc, h⟩ | ⟨hc, h⟩
  · refine V.if_eq (tgt := 26) dX8_floor_5 (by decide) (fun _ => ?_) (fun hn => absurd hc hn)
    exact V.forget (vX8_floor_26 h hQ) trivial
  · refine V.if_eq (tgt := 26) dX8_floor_5 (by decide) (fun hn => absurd hn hc) (fun _ => ?_)
    refine V.iload_n dX8_floor_8 rfl ?_
    refine V.iconst ic_0 dX8_floor_9 ?_
    refine V.iconst ic_2 dX8_floor_10 ?_
    obtain ⟨q2, h1, h⟩ := bdc h
    refine V.callS3 (mc := mX8_in) (d' := 0) dX8_floor_11 lkX8_125 hfX8_in (by decide) (Nat.le_of_ble_eq_true rfl) (Nat.le_of_ble_eq_true rfl) (vX8_in h1 ?_)
    rcases itc h with ⟨hc, h⟩ | ⟨hc, h⟩
    · refine V.if_eq (tgt := 26) dX8_floor_14 (by decide) (fun _ => ?_) (fun hn => absurd hc hn)
      exact V.forget (vX8_floor_26 h hQ) trivial
    · refine V.if_eq (tgt := 26) dX8_floor_14 (by decide) (fun hn => absurd hn hc) (fun _ => ?_)
      refine V.aload_n dX8_floor_17 rfl ?_
      refine V.iload_n dX8_floor_18 rfl ?_
      refine V.iload_n dX8_floor_19 rfl ?_
      obtain ⟨q3, h1, h⟩ := bdc h
      refine V.callV2 (mc := mX8_floorOf) (d' := 0) dX8_floor_20 lkX8_169 hfX8_floorOf nM_0 gM_0 rfl (by decide) (Nat.le_of_ble_eq_true rfl) (Nat.le_of_ble_eq_true rfl) (vX8_floorOf h1 ?_)
      refine V.goto (tgt := 28) dX8_floor_23 (by decide) ?_
      exact V.forget (vX8_floor_28 h hQ) trivial
def fX8_isBasket (l1 : Int32) (σ : vMem) : Option (Int32 × vMem) :=
  (fX8_reads σ).bind fun q1 => (fX8_in l1 (0 : Int32) ((q1.1 0 6) - (1 : Int32)) q1).bind fun q2 => if ¬ (q2.1 = 0 ∨ q2.1 = 1) then none else some (q2.1, q2.2)
theorem vX8_isBasket {ad : Nat → Nat} {Q : Option Value → vMem → Prop} {r : (Int32 × vMem)} {l1 : Int32} {σ : vMem} (h : fX8_isBasket l1 σ = some r) (hQ : Q (some (.int r.1)) r.2) : V GM mX8_isBasket ad Q 6 0 [some (.ref (ad 0)), some (.int l1)] [] σ := by
  unfold fX8_isBasket at h
  refine V.aload_n dX8_isBasket_0 rfl ?_
  obtain ⟨q1, h1, h⟩ := bdc h
  refine V.callV0 (mc := mX8_reads) (d' := 5) dX8_isBasket_1 lkX8_163 hfX8_reads nM_0 gM_0 rfl (by decide) (Nat.le_of_ble_eq_true rfl) (Nat.le_of_ble_eq_true rfl) (vX8_reads h1 ?_)
  refine V.iload_n dX8_isBasket_4 rfl ?_
  refine V.iconst ic_0 dX8_isBasket_5 ?_
  refine V.aload_n dX8_isBasket_6 rfl ?_
  refine V.get dX8_isBasket_7 flX8_147 nM_0 gM_0 (by decide) (eM_0_6 _ _) ?_
  refine V.iconst ic_1 dX8_isBasket_10 ?_
  refine V.isub dX8_isBasket_11 ?_
  obtain ⟨q2, h1, h⟩ := bdc h
  refine V.callS3 (mc := mX8_in) (d' := 0) dX8_isBasket_12 lkX8_125 hfX8_in (by decide) (Nat.le_of_ble_eq_true rfl) (Nat.le_of_ble_eq_true rfl) (vX8_in h1 ?_)
  obtain ⟨hb, h⟩ := ckn h
  obtain rfl := Option.some.inj h
  exact V.zret dX8_isBasket_15 rfl (Decidable.not_not.mp hb) hQ
def fX8_basketOf_69 (s0 : Int32) (σ : vMem) : Option (Int32 × vMem) :=
  some (s0, σ)
theorem vX8_basketOf_69 {ad : Nat → Nat} {Q : Option Value → vMem → Prop} {r : (Int32 × vMem)} {s0 : Int32} {σ : vMem} (h : fX8_basketOf_69 s0 σ = some r) (hQ : Q (some (.int r.1)) r.2) : V GM mX8_basketOf ad Q 0 69 [none, none, none] [.int s0] σ := by
  unfold fX8_basketOf_69 at h
  obtain rfl := Option.some.inj h
  exact V.iret dX8_basketOf_69 rfl hQ
def fX8_basketOf (l1 : Int32) (l2 : Int32) (σ : vMem) : Option (Int32 × vMem) :=
  if l2 = 0 then (if l1 < 0 ∨ 9 ≤ l1.toNatClampNeg then none else fX8_basketOf_69 (σ.1 6 l1.toNatClampNeg) σ) else
  (if l2 = (1 : Int32) then (if l1 < 0 ∨ 9 ≤ l1.toNatClampNeg then none else fX8_basketOf_69 (σ.1 7 l1.toNatClampNeg) σ) else
  (if l2 = (2 : Int32) then (if l1 < 0 ∨ 9 ≤ l1.toNatClampNeg then none else fX8_basketOf_69 (σ.1 8 l1.toNatClampNeg) σ) else
  (if l1 < 0 ∨ 9 ≤ l1.toNatClampNeg then none else if (σ.1 8 l1.toNatClampNeg) ≤ (l2 - (3 : Int32)) then (fX8_basketOf_69 (-1 : Int32) σ) else
  (if ((((3 : Int32) * l1) + l2) - (3 : Int32)) < 0 ∨ 27 ≤ ((((3 : Int32) * l1) + l2) - (3 : Int32)).toNatClampNeg then none else fX8_basketOf_69 (σ.1 9 ((((3 : Int32) * l1) + l2) - (3 : Int32)).toNatClampNeg) σ))))
theorem vX8_basketOf {ad : Nat → Nat} {Q : Option Value → vMem → Prop} {r : (Int32 × vMem)} {l1 : Int32} {l2 : Int32} {σ : vMem} (h : fX8_basketOf l1 l2 σ = some r) (hQ : Q (some (.int r.1)) r.2) : V GM mX8_basketOf ad Q 0 0 [some (.ref (ad 0)), some (.int l1), some (.int l2)] [] σ := by
  unfold fX8_basketOf at h
  refine V.iload_n dX8_basketOf_0 rfl ?_
  rcases itc h with ⟨hc, h⟩ | ⟨hc, h⟩
  · refine V.if_ne (tgt := 13) dX8_basketOf_1 (by decide) (fun hn => absurd hc hn) (fun _ => ?_)
    refine V.aload_n dX8_basketOf_4 rfl ?_
    refine V.get dX8_basketOf_5 flX8_25 nM_0 gM_0 (by decide) (eM_0_7 _ _) ?_
    refine V.iload_n dX8_basketOf_8 rfl ?_
    obtain ⟨hb, h⟩ := ckn h
    refine V.iald dX8_basketOf_9 nM_6 gM_6 hb ?_
    refine V.goto (tgt := 69) dX8_basketOf_10 (by decide) ?_
    exact V.forget (vX8_basketOf_69 h hQ) trivial
  · refine V.if_ne (tgt := 13) dX8_basketOf_1 (by decide) (fun _ => ?_) (fun hn => absurd hn hc)
    refine V.iload_n dX8_basketOf_13 rfl ?_
    refine V.iconst ic_1 dX8_basketOf_14 ?_
    rcases itc h with ⟨hc, h⟩ | ⟨hc, h⟩
    · refine V.icmp_ne (tgt := 27) dX8_basketOf_15 (by decide) (fun hn => absurd hc hn) (fun _ => ?_)
      refine V.aload_n dX8_basketOf_18 rfl ?_
      refine V.get dX8_basketOf_19 flX8_28 nM_0 gM_0 (by decide) (eM_0_8 _ _) ?_
      refine V.iload_n dX8_basketOf_22 rfl ?_
      obtain ⟨hb, h⟩ := ckn h
      refine V.iald dX8_basketOf_23 nM_7 gM_7 hb ?_
      refine V.goto (tgt := 69) dX8_basketOf_24 (by decide) ?_
      exact V.forget (vX8_basketOf_69 h hQ) trivial
    · refine V.icmp_ne (tgt := 27) dX8_basketOf_15 (by decide) (fun _ => ?_) (fun hn => absurd hn hc)
      refine V.iload_n dX8_basketOf_27 rfl ?_
      refine V.iconst ic_2 dX8_basketOf_28 ?_
      rcases itc h with ⟨hc, h⟩ | ⟨hc, h⟩
      · refine V.icmp_ne (tgt := 41) dX8_basketOf_29 (by decide) (fun hn => absurd hc hn) (fun _ => ?_)
        refine V.aload_n dX8_basketOf_32 rfl ?_
        refine V.get dX8_basketOf_33 flX8_31 nM_0 gM_0 (by decide) (eM_0_9 _ _) ?_
        refine V.iload_n dX8_basketOf_36 rfl ?_
        obtain ⟨hb, h⟩ := ckn h
        refine V.iald dX8_basketOf_37 nM_8 gM_8 hb ?_
        refine V.goto (tgt := 69) dX8_basketOf_38 (by decide) ?_
        exact V.forget (vX8_basketOf_69 h hQ) trivial
      · refine V.icmp_ne (tgt := 41) dX8_basketOf_29 (by decide) (fun _ => ?_) (fun hn => absurd hn hc)
        refine V.iload_n dX8_basketOf_41 rfl ?_
        refine V.iconst ic_3 dX8_basketOf_42 ?_
        refine V.isub dX8_basketOf_43 ?_
        refine V.aload_n dX8_basketOf_44 rfl ?_
        refine V.get dX8_basketOf_45 flX8_31 nM_0 gM_0 (by decide) (eM_0_9 _ _) ?_
        refine V.iload_n dX8_basketOf_48 rfl ?_
        obtain ⟨hb, h⟩ := ckn h
        refine V.iald dX8_basketOf_49 nM_8 gM_8 hb ?_
        rcases itc h with ⟨hc, h⟩ | ⟨hc, h⟩
        · refine V.icmp_ge (tgt := 68) dX8_basketOf_50 (by decide) (fun _ => ?_) (fun hn => absurd hc hn)
          refine V.iconst ic_m1 dX8_basketOf_68 ?_
          exact V.forget (vX8_basketOf_69 h hQ) trivial
        · refine V.icmp_ge (tgt := 68) dX8_basketOf_50 (by decide) (fun hn => absurd hn hc) (fun _ => ?_)
          refine V.aload_n dX8_basketOf_53 rfl ?_
          refine V.get dX8_basketOf_54 flX8_34 nM_0 gM_0 (by decide) (eM_0_10 _ _) ?_
          refine V.iconst ic_3 dX8_basketOf_57 ?_
          refine V.iload_n dX8_basketOf_58 rfl ?_
          refine V.imul dX8_basketOf_59 ?_
          refine V.iload_n dX8_basketOf_60 rfl ?_
          refine V.iadd dX8_basketOf_61 ?_
          refine V.iconst ic_3 dX8_basketOf_62 ?_
          refine V.isub dX8_basketOf_63 ?_
          obtain ⟨hb, h⟩ := ckn h
          refine V.iald dX8_basketOf_64 nM_9 gM_9 hb ?_
          refine V.goto (tgt := 69) dX8_basketOf_65 (by decide) ?_
          exact V.forget (vX8_basketOf_69 h hQ) trivial
def fX8_basket_28 (s0 : Int32) (σ : vMem) : Option (Int32 × vMem) :=
  some (s0, σ)
theorem vX8_basket_28 {ad : Nat → Nat} {Q : Option Value → vMem → Prop} {r : (Int32 × vMem)} {s0 : Int32} {σ : vMem} (h : fX8_basket_28 s0 σ = some r) (hQ : Q (some (.int r.1)) r.2) : V GM mX8_basket ad Q 7 28 [none, none, none] [.int s0] σ := by
  unfold fX8_basket_28 at h
  obtain rfl := Option.some.inj h
  exact V.iret dX8_basket_28 rfl hQ
def fX8_basket_26 (σ : vMem) : Option (Int32 × vMem) :=
  fX8_basket_28 (-2 : Int32) σ
theorem vX8_basket_26 {ad : Nat → Nat} {Q : Option Value → vMem → Prop} {r : (Int32 × vMem)} {σ : vMem} (h : fX8_basket_26 σ = some r) (hQ : Q (some (.int r.1)) r.2) : V GM mX8_basket ad Q 7 26 [none, none, none] [] σ := by
  unfold fX8_basket_26 at h
  refine V.bipush bp_m2 dX8_basket_26 ?_
  exact V.forget (vX8_basket_28 h hQ) trivial
def fX8_basket (l1 : Int32) (l2 : Int32) (σ : vMem) : Option (Int32 × vMem) :=
  (fX8_isBasket l1 σ).bind fun q1 => if q1.1 = 0 then (fX8_basket_26 q1.2) else
  ((fX8_in l2 (0 : Int32) (5 : Int32) q1.2).bind fun q2 => if q2.1 = 0 then (fX8_basket_26 q2.2) else
  ((fX8_basketOf l1 l2 q2.2).bind fun q3 => fX8_basket_28 q3.1 q3.2))
theorem vX8_basket {ad : Nat → Nat} {Q : Option Value → vMem → Prop} {r : (Int32 × vMem)} {l1 : Int32} {l2 : Int32} {σ : vMem} (h : fX8_basket l1 l2 σ = some r) (hQ : Q (some (.int r.1)) r.2) : V GM mX8_basket ad Q 7 0 [some (.ref (ad 0)), some (.int l1), some (.int l2)] [] σ := by
  unfold fX8_basket at h
  refine V.aload_n dX8_basket_0 rfl ?_
  refine V.iload_n dX8_basket_1 rfl ?_
  obtain ⟨q1, h1, h⟩ := bdc h
  refine V.callV1 (mc := mX8_isBasket) (d' := 6) dX8_basket_2 lkX8_172 hfX8_isBasket nM_0 gM_0 rfl (by decide) (Nat.le_of_ble_eq_true rfl) (Nat.le_of_ble_eq_true rfl) (vX8_isBasket h1 ?_)
  rcases itc h with ⟨hc, h⟩ | ⟨hc, h⟩
  · refine V.if_eq (tgt := 26) dX8_basket_5 (by decide) (fun _ => ?_) (fun hn => absurd hc hn)
    exact V.forget (vX8_basket_26 h hQ) trivial
  · refine V.if_eq (tgt := 26) dX8_basket_5 (by decide) (fun hn => absurd hn hc) (fun _ => ?_)
    refine V.iload_n dX8_basket_8 rfl ?_
    refine V.iconst ic_0 dX8_basket_9 ?_
    refine V.iconst ic_5 dX8_basket_10 ?_
    obtain ⟨q2, h1, h⟩ := bdc h
    refine V.callS3 (mc := mX8_in) (d' := 0) dX8_basket_11 lkX8_125 hfX8_in (by decide) (Nat.le_of_ble_eq_true rfl) (Nat.le_of_ble_eq_true rfl) (vX8_in h1 ?_)
    rcases itc h with ⟨hc, h⟩ | ⟨hc, h⟩
    · refine V.if_eq (tgt := 26) dX8_basket_14 (by decide) (fun _ => ?_) (fun hn => absurd hc hn)
      exact V.forget (vX8_basket_26 h hQ) trivial
    · refine V.if_eq (tgt := 26) dX8_basket_14 (by decide) (fun hn => absurd hn hc) (fun _ => ?_)
      refine V.aload_n dX8_basket_17 rfl ?_
      refine V.iload_n dX8_basket_18 rfl ?_
      refine V.iload_n dX8_basket_19 rfl ?_
      obtain ⟨q3, h1, h⟩ := bdc h
      refine V.callV2 (mc := mX8_basketOf) (d' := 0) dX8_basket_20 lkX8_175 hfX8_basketOf nM_0 gM_0 rfl (by decide) (Nat.le_of_ble_eq_true rfl) (Nat.le_of_ble_eq_true rfl) (vX8_basketOf h1 ?_)
      refine V.goto (tgt := 28) dX8_basket_23 (by decide) ?_
      exact V.forget (vX8_basket_28 h hQ) trivial
def fX8_set_19 (σ : vMem) : Option (Int32 × vMem) :=
  some ((-2 : Int32), σ)
theorem vX8_set_19 {ad : Nat → Nat} {Q : Option Value → vMem → Prop} {r : (Int32 × vMem)} {σ : vMem} (h : fX8_set_19 σ = some r) (hQ : Q (some (.int r.1)) r.2) : V GM mX8_set ad Q 1 19 [none, none, none, none] [] σ := by
  unfold fX8_set_19 at h
  refine V.bipush bp_m2 dX8_set_19 ?_
  obtain rfl := Option.some.inj h
  exact V.iret dX8_set_21 rfl hQ
def fX8_set_71 (l3 : Int32) (σ : vMem) : Option (Int32 × vMem) :=
  some (l3, σ)
theorem vX8_set_71 {ad : Nat → Nat} {Q : Option Value → vMem → Prop} {r : (Int32 × vMem)} {l3 : Int32} {σ : vMem} (h : fX8_set_71 l3 σ = some r) (hQ : Q (some (.int r.1)) r.2) : V GM mX8_set ad Q 1 71 [none, none, none, some (.int l3)] [] σ := by
  unfold fX8_set_71 at h
  refine V.iload_n dX8_set_71 rfl ?_
  obtain rfl := Option.some.inj h
  exact V.iret dX8_set_72 rfl hQ
def fX8_set_68 (l3 : Int32) (s1 : Int32) (σ : vMem) : Option (Int32 × vMem) :=
  fX8_set_71 l3 (vup σ 0 12 s1)
theorem vX8_set_68 {ad : Nat → Nat} {Q : Option Value → vMem → Prop} {r : (Int32 × vMem)} {l3 : Int32} {s1 : Int32} {σ : vMem} (h : fX8_set_68 l3 s1 σ = some r) (hQ : Q (some (.int r.1)) r.2) : V GM mX8_set ad Q 1 68 [none, none, none, some (.int l3)] [.int s1, .ref (ad 0)] σ := by
  unfold fX8_set_68 at h
  refine V.putI dX8_set_68 fpX8_120 nM_0 gM_0 (by decide) rfl ?_
  exact V.forget (vX8_set_71 h hQ) ⟨rfl, trivial⟩
def fX8_set_54 (l1 : Int32) (l2 : Int32) (l3 : Int32) (σ : vMem) : Option (Int32 × vMem) :=
  if l1 = (1 : Int32) then (fX8_set_68 l3 l2 σ) else
  (fX8_set_68 l3 (σ.1 0 12) σ)
theorem vX8_set_54 {ad : Nat → Nat} {Q : Option Value → vMem → Prop} {r : (Int32 × vMem)} {l1 : Int32} {l2 : Int32} {l3 : Int32} {σ : vMem} (h : fX8_set_54 l1 l2 l3 σ = some r) (hQ : Q (some (.int r.1)) r.2) : V GM mX8_set ad Q 1 54 [some (.ref (ad 0)), some (.int l1), some (.int l2), some (.int l3)] [] σ := by
  unfold fX8_set_54 at h
  refine V.aload_n dX8_set_54 rfl ?_
  refine V.iload_n dX8_set_55 rfl ?_
  refine V.iconst ic_1 dX8_set_56 ?_
  rcases itc h with ⟨hc, h⟩ | ⟨hc, h⟩
  · refine V.icmp_ne (tgt := 64) dX8_set_57 (by decide) (fun hn => absurd hc hn) (fun _ => ?_)
    refine V.iload_n dX8_set_60 rfl ?_
    refine V.goto (tgt := 68) dX8_set_61 (by decide) ?_
    exact V.forget (vX8_set_68 h hQ) ⟨rfl, trivial⟩
  · refine V.icmp_ne (tgt := 64) dX8_set_57 (by decide) (fun _ => ?_) (fun hn => absurd hn hc)
    refine V.aload_n dX8_set_64 rfl ?_
    refine V.get dX8_set_65 flX8_120 nM_0 gM_0 (by decide) (eM_0_12 _ _) ?_
    exact V.forget (vX8_set_68 h hQ) ⟨rfl, trivial⟩
def fX8_set_51 (l1 : Int32) (l2 : Int32) (l3 : Int32) (s1 : Int32) (σ : vMem) : Option (Int32 × vMem) :=
  fX8_set_54 l1 l2 l3 (vup σ 0 11 s1)
theorem vX8_set_51 {ad : Nat → Nat} {Q : Option Value → vMem → Prop} {r : (Int32 × vMem)} {l1 : Int32} {l2 : Int32} {l3 : Int32} {s1 : Int32} {σ : vMem} (h : fX8_set_51 l1 l2 l3 s1 σ = some r) (hQ : Q (some (.int r.1)) r.2) : V GM mX8_set ad Q 1 51 [some (.ref (ad 0)), some (.int l1), some (.int l2), some (.int l3)] [.int s1, .ref (ad 0)] σ := by
  unfold fX8_set_51 at h
  refine V.putI dX8_set_51 fpX8_116 nM_0 gM_0 (by decide) rfl ?_
  exact V.forget (vX8_set_54 h hQ) ⟨rfl, ⟨rfl, ⟨rfl, ⟨rfl, trivial⟩⟩⟩⟩
def fX8_set_37 (l1 : Int32) (l2 : Int32) (s0 : Int32) (σ : vMem) : Option (Int32 × vMem) :=
  if l1 = 0 then (fX8_set_51 l1 l2 s0 l2 σ) else
  (fX8_set_51 l1 l2 s0 (σ.1 0 11) σ)
theorem vX8_set_37 {ad : Nat → Nat} {Q : Option Value → vMem → Prop} {r : (Int32 × vMem)} {l1 : Int32} {l2 : Int32} {s0 : Int32} {σ : vMem} (h : fX8_set_37 l1 l2 s0 σ = some r) (hQ : Q (some (.int r.1)) r.2) : V GM mX8_set ad Q 1 37 [some (.ref (ad 0)), some (.int l1), some (.int l2), none] [.int s0] σ := by
  unfold fX8_set_37 at h
  refine V.istore_n dX8_set_37 (by decide) rfl ?_
  refine V.aload_n dX8_set_38 rfl ?_
  refine V.iload_n dX8_set_39 rfl ?_
  rcases itc h with ⟨hc, h⟩ | ⟨hc, h⟩
  · refine V.if_ne (tgt := 47) dX8_set_40 (by decide) (fun hn => absurd hc hn) (fun _ => ?_)
    refine V.iload_n dX8_set_43 rfl ?_
    refine V.goto (tgt := 51) dX8_set_44 (by decide) ?_
    exact V.forget (vX8_set_51 h hQ) ⟨rfl, ⟨rfl, ⟨rfl, ⟨rfl, trivial⟩⟩⟩⟩
  · refine V.if_ne (tgt := 47) dX8_set_40 (by decide) (fun _ => ?_) (fun hn => absurd hn hc)
    refine V.aload_n dX8_set_47 rfl ?_
    refine V.get dX8_set_48 flX8_116 nM_0 gM_0 (by decide) (eM_0_11 _ _) ?_
    exact V.forget (vX8_set_51 h hQ) ⟨rfl, ⟨rfl, ⟨rfl, ⟨rfl, trivial⟩⟩⟩⟩
def fX8_set (l1 : Int32) (l2 : Int32) (σ : vMem) : Option (Int32 × vMem) :=
  (fX8_in l1 (0 : Int32) (1 : Int32) σ).bind fun q1 => if q1.1 = 0 then (fX8_set_19 q1.2) else
  ((fX8_in l2 l1 (9 : Int32) q1.2).bind fun q2 => if q2.1 = 0 then (fX8_set_19 q2.2) else
  (if l1 = 0 then (fX8_set_37 l1 l2 (q2.2.1 0 11) q2.2) else
  (fX8_set_37 l1 l2 (q2.2.1 0 12) q2.2)))
theorem vX8_set {ad : Nat → Nat} {Q : Option Value → vMem → Prop} {r : (Int32 × vMem)} {l1 : Int32} {l2 : Int32} {σ : vMem} (h : fX8_set l1 l2 σ = some r) (hQ : Q (some (.int r.1)) r.2) : V GM mX8_set ad Q 1 0 [some (.ref (ad 0)), some (.int l1), some (.int l2), none] [] σ := by
  unfold fX8_set at h
  refine V.iload_n dX8_set_0 rfl ?_
  refine V.iconst ic_0 dX8_set_1 ?_
  refine V.iconst ic_1 dX8_set_2 ?_
  obtain ⟨q1, h1, h⟩ := bdc h
  refine V.callS3 (mc := mX8_in) (d' := 0) dX8_set_3 lkX8_125 hfX8_in (by decide) (Nat.le_of_ble_eq_true rfl) (Nat.le_of_ble_eq_true rfl) (vX8_in h1 ?_)
  rcases itc h with ⟨hc, h⟩ | ⟨hc, h⟩
  · refine V.if_eq (tgt := 19) dX8_set_6 (by decide) (fun _ => ?_) (fun hn => absurd hc hn)
    exact V.forget (vX8_set_19 h hQ) trivial
  · refine V.if_eq (tgt := 19) dX8_set_6 (by decide) (fun hn => absurd hn hc) (fun _ => ?_)
    refine V.iload_n dX8_set_9 rfl ?_
    refine V.iload_n dX8_set_10 rfl ?_
    refine V.bipush bp_9 dX8_set_11 ?_
    obtain ⟨q2, h1, h⟩ := bdc h
    refine V.callS3 (mc := mX8_in) (d' := 0) dX8_set_13 lkX8_125 hfX8_in (by decide) (Nat.le_of_ble_eq_true rfl) (Nat.le_of_ble_eq_true rfl) (vX8_in h1 ?_)
    rcases itc h with ⟨hc, h⟩ | ⟨hc, h⟩
    · refine V.if_ne (tgt := 22) dX8_set_16 (by decide) (fun hn => absurd hc hn) (fun _ => ?_)
      exact V.forget (vX8_set_19 h hQ) trivial
    · refine V.if_ne (tgt := 22) dX8_set_16 (by decide) (fun _ => ?_) (fun hn => absurd hn hc)
      refine V.iload_n dX8_set_22 rfl ?_
      rcases itc h with ⟨hc, h⟩ | ⟨hc, h⟩
      · refine V.if_ne (tgt := 33) dX8_set_23 (by decide) (fun hn => absurd hc hn) (fun _ => ?_)
        refine V.aload_n dX8_set_26 rfl ?_
        refine V.get dX8_set_27 flX8_116 nM_0 gM_0 (by decide) (eM_0_11 _ _) ?_
        refine V.goto (tgt := 37) dX8_set_30 (by decide) ?_
        exact V.forget (vX8_set_37 h hQ) ⟨rfl, ⟨rfl, ⟨rfl, trivial⟩⟩⟩
      · refine V.if_ne (tgt := 33) dX8_set_23 (by decide) (fun _ => ?_) (fun hn => absurd hn hc)
        refine V.aload_n dX8_set_33 rfl ?_
        refine V.get dX8_set_34 flX8_120 nM_0 gM_0 (by decide) (eM_0_12 _ _) ?_
        exact V.forget (vX8_set_37 h hQ) ⟨rfl, ⟨rfl, ⟨rfl, trivial⟩⟩⟩
def fX8_isHour (l0 : Int32) (σ : vMem) : Option (Int32 × vMem) :=
  (fX8_in l0 (0 : Int32) (39 : Int32) σ).bind fun q1 => if ¬ (q1.1 = 0 ∨ q1.1 = 1) then none else some (q1.1, q1.2)
theorem vX8_isHour {ad : Nat → Nat} {Q : Option Value → vMem → Prop} {r : (Int32 × vMem)} {l0 : Int32} {σ : vMem} (h : fX8_isHour l0 σ = some r) (hQ : Q (some (.int r.1)) r.2) : V GM mX8_isHour ad Q 1 0 [some (.int l0)] [] σ := by
  unfold fX8_isHour at h
  refine V.iload_n dX8_isHour_0 rfl ?_
  refine V.iconst ic_0 dX8_isHour_1 ?_
  refine V.bipush bp_39 dX8_isHour_2 ?_
  obtain ⟨q1, h1, h⟩ := bdc h
  refine V.callS3 (mc := mX8_in) (d' := 0) dX8_isHour_4 lkX8_125 hfX8_in (by decide) (Nat.le_of_ble_eq_true rfl) (Nat.le_of_ble_eq_true rfl) (vX8_in h1 ?_)
  obtain ⟨hb, h⟩ := ckn h
  obtain rfl := Option.some.inj h
  exact V.zret dX8_isHour_7 rfl (Decidable.not_not.mp hb) hQ
def fX8_wind_42 (σ : vMem) : Option (Int32 × vMem) :=
  some ((σ.1 0 13), σ)
theorem vX8_wind_42 {ad : Nat → Nat} {Q : Option Value → vMem → Prop} {r : (Int32 × vMem)} {σ : vMem} (h : fX8_wind_42 σ = some r) (hQ : Q (some (.int r.1)) r.2) : V GM mX8_wind ad Q 2 42 [some (.ref (ad 0)), none] [] σ := by
  unfold fX8_wind_42 at h
  refine V.aload_n dX8_wind_42 rfl ?_
  refine V.get dX8_wind_43 flX8_181 nM_0 gM_0 (by decide) (eM_0_13 _ _) ?_
  obtain rfl := Option.some.inj h
  exact V.iret dX8_wind_46 rfl hQ
def fX8_wind_32 (σ : vMem) : Option (Int32 × vMem) :=
  fX8_wind_42 (vup σ 0 13 ((σ.1 0 13) + (1 : Int32)))
theorem vX8_wind_32 {ad : Nat → Nat} {Q : Option Value → vMem → Prop} {r : (Int32 × vMem)} {σ : vMem} (h : fX8_wind_32 σ = some r) (hQ : Q (some (.int r.1)) r.2) : V GM mX8_wind ad Q 2 32 [some (.ref (ad 0)), none] [] σ := by
  unfold fX8_wind_32 at h
  refine V.aload_n dX8_wind_32 rfl ?_
  refine V.dup rfl dX8_wind_33 ?_
  refine V.get dX8_wind_34 flX8_181 nM_0 gM_0 (by decide) (eM_0_13 _ _) ?_
  refine V.iconst ic_1 dX8_wind_37 ?_
  refine V.iadd dX8_wind_38 ?_
  refine V.putI dX8_wind_39 fpX8_181 nM_0 gM_0 (by decide) rfl ?_
  exact V.forget (vX8_wind_42 h hQ) ⟨rfl, trivial⟩
def fX8_wind (l1 : Int32) (σ : vMem) : Option (Int32 × vMem) :=
  (fX8_isHour l1 σ).bind fun q1 => if q1.1 = 0 then (some ((-2 : Int32), q1.2)) else
  (if (q1.2.1 0 13) = (6 : Int32) then (some ((-4 : Int32), q1.2)) else
  (if (q1.2.1 0 13) < 0 ∨ 6 ≤ (q1.2.1 0 13).toNatClampNeg then none else fX8_wind_32 (vup q1.2 10 (q1.2.1 0 13).toNatClampNeg l1)))
theorem vX8_wind {ad : Nat → Nat} {Q : Option Value → vMem → Prop} {r : (Int32 × vMem)} {l1 : Int32} {σ : vMem} (h : fX8_wind l1 σ = some r) (hQ : Q (some (.int r.1)) r.2) : V GM mX8_wind ad Q 2 0 [some (.ref (ad 0)), some (.int l1)] [] σ := by
  unfold fX8_wind at h
  refine V.iload_n dX8_wind_0 rfl ?_
  obtain ⟨q1, h1, h⟩ := bdc h
  refine V.callS1 (mc := mX8_isHour) (d' := 1) dX8_wind_1 lkX8_178 hfX8_isHour (by decide) (Nat.le_of_ble_eq_true rfl) (Nat.le_of_ble_eq_true rfl) (vX8_isHour h1 ?_)
  rcases itc h with ⟨hc, h⟩ | ⟨hc, h⟩
  · refine V.if_ne (tgt := 10) dX8_wind_4 (by decide) (fun hn => absurd hc hn) (fun _ => ?_)
    refine V.bipush bp_m2 dX8_wind_7 ?_
    obtain rfl := Option.some.inj h
    exact V.iret dX8_wind_9 rfl hQ
  · refine V.if_ne (tgt := 10) dX8_wind_4 (by decide) (fun _ => ?_) (fun hn => absurd hn hc)
    refine V.aload_n dX8_wind_10 rfl ?_
    refine V.get dX8_wind_11 flX8_181 nM_0 gM_0 (by decide) (eM_0_13 _ _) ?_
    refine V.bipush bp_6 dX8_wind_14 ?_
    rcases itc h with ⟨hc, h⟩ | ⟨hc, h⟩
    · refine V.icmp_ne (tgt := 22) dX8_wind_16 (by decide) (fun hn => absurd hc hn) (fun _ => ?_)
      refine V.bipush bp_m4 dX8_wind_19 ?_
      obtain rfl := Option.some.inj h
      exact V.iret dX8_wind_21 rfl hQ
    · refine V.icmp_ne (tgt := 22) dX8_wind_16 (by decide) (fun _ => ?_) (fun hn => absurd hn hc)
      refine V.aload_n dX8_wind_22 rfl ?_
      refine V.get dX8_wind_23 flX8_37 nM_0 gM_0 (by decide) (eM_0_14 _ _) ?_
      refine V.aload_n dX8_wind_26 rfl ?_
      refine V.get dX8_wind_27 flX8_181 nM_0 gM_0 (by decide) (eM_0_13 _ _) ?_
      refine V.iload_n dX8_wind_30 rfl ?_
      obtain ⟨hb, h⟩ := ckn h
      refine V.iast dX8_wind_31 nM_10 gM_10 hb ?_
      exact V.forget (vX8_wind_32 h hQ) ⟨rfl, trivial⟩
def fX8_sunday_42 (σ : vMem) : Option (Int32 × vMem) :=
  some ((σ.1 0 15), σ)
theorem vX8_sunday_42 {ad : Nat → Nat} {Q : Option Value → vMem → Prop} {r : (Int32 × vMem)} {σ : vMem} (h : fX8_sunday_42 σ = some r) (hQ : Q (some (.int r.1)) r.2) : V GM mX8_sunday ad Q 2 42 [some (.ref (ad 0)), none] [] σ := by
  unfold fX8_sunday_42 at h
  refine V.aload_n dX8_sunday_42 rfl ?_
  refine V.get dX8_sunday_43 flX8_184 nM_0 gM_0 (by decide) (eM_0_15 _ _) ?_
  obtain rfl := Option.some.inj h
  exact V.iret dX8_sunday_46 rfl hQ
def fX8_sunday_32 (σ : vMem) : Option (Int32 × vMem) :=
  fX8_sunday_42 (vup σ 0 15 ((σ.1 0 15) + (1 : Int32)))
theorem vX8_sunday_32 {ad : Nat → Nat} {Q : Option Value → vMem → Prop} {r : (Int32 × vMem)} {σ : vMem} (h : fX8_sunday_32 σ = some r) (hQ : Q (some (.int r.1)) r.2) : V GM mX8_sunday ad Q 2 32 [some (.ref (ad 0)), none] [] σ := by
  unfold fX8_sunday_32 at h
  refine V.aload_n dX8_sunday_32 rfl ?_
  refine V.dup rfl dX8_sunday_33 ?_
  refine V.get dX8_sunday_34 flX8_184 nM_0 gM_0 (by decide) (eM_0_15 _ _) ?_
  refine V.iconst ic_1 dX8_sunday_37 ?_
  refine V.iadd dX8_sunday_38 ?_
  refine V.putI dX8_sunday_39 fpX8_184 nM_0 gM_0 (by decide) rfl ?_
  exact V.forget (vX8_sunday_42 h hQ) ⟨rfl, trivial⟩
def fX8_sunday (l1 : Int32) (σ : vMem) : Option (Int32 × vMem) :=
  (fX8_isHour l1 σ).bind fun q1 => if q1.1 = 0 then (some ((-2 : Int32), q1.2)) else
  (if (q1.2.1 0 15) = (6 : Int32) then (some ((-4 : Int32), q1.2)) else
  (if (q1.2.1 0 15) < 0 ∨ 6 ≤ (q1.2.1 0 15).toNatClampNeg then none else fX8_sunday_32 (vup q1.2 11 (q1.2.1 0 15).toNatClampNeg l1)))
theorem vX8_sunday {ad : Nat → Nat} {Q : Option Value → vMem → Prop} {r : (Int32 × vMem)} {l1 : Int32} {σ : vMem} (h : fX8_sunday l1 σ = some r) (hQ : Q (some (.int r.1)) r.2) : V GM mX8_sunday ad Q 2 0 [some (.ref (ad 0)), some (.int l1)] [] σ := by
  unfold fX8_sunday at h
  refine V.iload_n dX8_sunday_0 rfl ?_
  obtain ⟨q1, h1, h⟩ := bdc h
  refine V.callS1 (mc := mX8_isHour) (d' := 1) dX8_sunday_1 lkX8_178 hfX8_isHour (by decide) (Nat.le_of_ble_eq_true rfl) (Nat.le_of_ble_eq_true rfl) (vX8_isHour h1 ?_)
  rcases itc h with ⟨hc, h⟩ | ⟨hc, h⟩
  · refine V.if_ne (tgt := 10) dX8_sunday_4 (by decide) (fun hn => absurd hc hn) (fun _ => ?_)
    refine V.bipush bp_m2 dX8_sunday_7 ?_
    obtain rfl := Option.some.inj h
    exact V.iret dX8_sunday_9 rfl hQ
  · refine V.if_ne (tgt := 10) dX8_sunday_4 (by decide) (fun _ => ?_) (fun hn => absurd hn hc)
    refine V.aload_n dX8_sunday_10 rfl ?_
    refine V.get dX8_sunday_11 flX8_184 nM_0 gM_0 (by decide) (eM_0_15 _ _) ?_
    refine V.bipush bp_6 dX8_sunday_14 ?_
    rcases itc h with ⟨hc, h⟩ | ⟨hc, h⟩
    · refine V.icmp_ne (tgt := 22) dX8_sunday_16 (by decide) (fun hn => absurd hc hn) (fun _ => ?_)
      refine V.bipush bp_m4 dX8_sunday_19 ?_
      obtain rfl := Option.some.inj h
      exact V.iret dX8_sunday_21 rfl hQ
    · refine V.icmp_ne (tgt := 22) dX8_sunday_16 (by decide) (fun _ => ?_) (fun hn => absurd hn hc)
      refine V.aload_n dX8_sunday_22 rfl ?_
      refine V.get dX8_sunday_23 flX8_40 nM_0 gM_0 (by decide) (eM_0_16 _ _) ?_
      refine V.aload_n dX8_sunday_26 rfl ?_
      refine V.get dX8_sunday_27 flX8_184 nM_0 gM_0 (by decide) (eM_0_15 _ _) ?_
      refine V.iload_n dX8_sunday_30 rfl ?_
      obtain ⟨hb, h⟩ := ckn h
      refine V.iast dX8_sunday_31 nM_11 gM_11 hb ?_
      exact V.forget (vX8_sunday_32 h hQ) ⟨rfl, trivial⟩
def fX8_back_72 (l2 : Int32) (σ : vMem) : Option (Int32 × vMem) :=
  some ((l2 - (1 : Int32)), σ)
theorem vX8_back_72 {ad : Nat → Nat} {Q : Option Value → vMem → Prop} {r : (Int32 × vMem)} {l2 : Int32} {σ : vMem} (h : fX8_back_72 l2 σ = some r) (hQ : Q (some (.int r.1)) r.2) : V GM mX8_back ad Q 1 72 [none, none, some (.int l2)] [] σ := by
  unfold fX8_back_72 at h
  refine V.iload_n dX8_back_72 rfl ?_
  refine V.iconst ic_1 dX8_back_73 ?_
  refine V.isub dX8_back_74 ?_
  obtain rfl := Option.some.inj h
  exact V.iret dX8_back_75 rfl hQ
def fX8_back_68 (l2 : Int32) (s1 : Int32) (s2 : Int32) (σ : vMem) : Option (Int32 × vMem) :=
  fX8_back_72 l2 (vup σ 0 15 (s1 - s2))
theorem vX8_back_68 {ad : Nat → Nat} {Q : Option Value → vMem → Prop} {r : (Int32 × vMem)} {l2 : Int32} {s1 : Int32} {s2 : Int32} {σ : vMem} (h : fX8_back_68 l2 s1 s2 σ = some r) (hQ : Q (some (.int r.1)) r.2) : V GM mX8_back ad Q 1 68 [none, none, some (.int l2)] [.int s2, .int s1, .ref (ad 0)] σ := by
  unfold fX8_back_68 at h
  refine V.isub dX8_back_68 ?_
  refine V.putI dX8_back_69 fpX8_184 nM_0 gM_0 (by decide) rfl ?_
  exact V.forget (vX8_back_72 h hQ) ⟨rfl, trivial⟩
def fX8_back_53 (l1 : Int32) (l2 : Int32) (σ : vMem) : Option (Int32 × vMem) :=
  if l1 = (1 : Int32) then (fX8_back_68 l2 (σ.1 0 15) (1 : Int32) σ) else
  (fX8_back_68 l2 (σ.1 0 15) (0 : Int32) σ)
theorem vX8_back_53 {ad : Nat → Nat} {Q : Option Value → vMem → Prop} {r : (Int32 × vMem)} {l1 : Int32} {l2 : Int32} {σ : vMem} (h : fX8_back_53 l1 l2 σ = some r) (hQ : Q (some (.int r.1)) r.2) : V GM mX8_back ad Q 1 53 [some (.ref (ad 0)), some (.int l1), some (.int l2)] [] σ := by
  unfold fX8_back_53 at h
  refine V.aload_n dX8_back_53 rfl ?_
  refine V.dup rfl dX8_back_54 ?_
  refine V.get dX8_back_55 flX8_184 nM_0 gM_0 (by decide) (eM_0_15 _ _) ?_
  refine V.iload_n dX8_back_58 rfl ?_
  refine V.iconst ic_1 dX8_back_59 ?_
  rcases itc h with ⟨hc, h⟩ | ⟨hc, h⟩
  · refine V.icmp_ne (tgt := 67) dX8_back_60 (by decide) (fun hn => absurd hc hn) (fun _ => ?_)
    refine V.iconst ic_1 dX8_back_63 ?_
    refine V.goto (tgt := 68) dX8_back_64 (by decide) ?_
    exact V.forget (vX8_back_68 h hQ) ⟨rfl, trivial⟩
  · refine V.icmp_ne (tgt := 67) dX8_back_60 (by decide) (fun _ => ?_) (fun hn => absurd hn hc)
    refine V.iconst ic_0 dX8_back_67 ?_
    exact V.forget (vX8_back_68 h hQ) ⟨rfl, trivial⟩
def fX8_back_49 (l1 : Int32) (l2 : Int32) (s1 : Int32) (s2 : Int32) (σ : vMem) : Option (Int32 × vMem) :=
  fX8_back_53 l1 l2 (vup σ 0 13 (s1 - s2))
theorem vX8_back_49 {ad : Nat → Nat} {Q : Option Value → vMem → Prop} {r : (Int32 × vMem)} {l1 : Int32} {l2 : Int32} {s1 : Int32} {s2 : Int32} {σ : vMem} (h : fX8_back_49 l1 l2 s1 s2 σ = some r) (hQ : Q (some (.int r.1)) r.2) : V GM mX8_back ad Q 1 49 [some (.ref (ad 0)), some (.int l1), some (.int l2)] [.int s2, .int s1, .ref (ad 0)] σ := by
  unfold fX8_back_49 at h
  refine V.isub dX8_back_49 ?_
  refine V.putI dX8_back_50 fpX8_181 nM_0 gM_0 (by decide) rfl ?_
  exact V.forget (vX8_back_53 h hQ) ⟨rfl, ⟨rfl, ⟨rfl, trivial⟩⟩⟩
def fX8_back_27 (l1 : Int32) (s0 : Int32) (σ : vMem) : Option (Int32 × vMem) :=
  if s0 = 0 then (some ((-3 : Int32), σ)) else
  (if l1 = 0 then (fX8_back_49 l1 s0 (σ.1 0 13) (1 : Int32) σ) else
  (fX8_back_49 l1 s0 (σ.1 0 13) (0 : Int32) σ))
theorem vX8_back_27 {ad : Nat → Nat} {Q : Option Value → vMem → Prop} {r : (Int32 × vMem)} {l1 : Int32} {s0 : Int32} {σ : vMem} (h : fX8_back_27 l1 s0 σ = some r) (hQ : Q (some (.int r.1)) r.2) : V GM mX8_back ad Q 1 27 [some (.ref (ad 0)), some (.int l1), none] [.int s0] σ := by
  unfold fX8_back_27 at h
  refine V.istore_n dX8_back_27 (by decide) rfl ?_
  refine V.iload_n dX8_back_28 rfl ?_
  rcases itc h with ⟨hc, h⟩ | ⟨hc, h⟩
  · refine V.if_ne (tgt := 35) dX8_back_29 (by decide) (fun hn => absurd hc hn) (fun _ => ?_)
    refine V.bipush bp_m3 dX8_back_32 ?_
    obtain rfl := Option.some.inj h
    exact V.iret dX8_back_34 rfl hQ
  · refine V.if_ne (tgt := 35) dX8_back_29 (by decide) (fun _ => ?_) (fun hn => absurd hn hc)
    refine V.aload_n dX8_back_35 rfl ?_
    refine V.dup rfl dX8_back_36 ?_
    refine V.get dX8_back_37 flX8_181 nM_0 gM_0 (by decide) (eM_0_13 _ _) ?_
    refine V.iload_n dX8_back_40 rfl ?_
    rcases itc h with ⟨hc, h⟩ | ⟨hc, h⟩
    · refine V.if_ne (tgt := 48) dX8_back_41 (by decide) (fun hn => absurd hc hn) (fun _ => ?_)
      refine V.iconst ic_1 dX8_back_44 ?_
      refine V.goto (tgt := 49) dX8_back_45 (by decide) ?_
      exact V.forget (vX8_back_49 h hQ) ⟨rfl, ⟨rfl, ⟨rfl, trivial⟩⟩⟩
    · refine V.if_ne (tgt := 48) dX8_back_41 (by decide) (fun _ => ?_) (fun hn => absurd hn hc)
      refine V.iconst ic_0 dX8_back_48 ?_
      exact V.forget (vX8_back_49 h hQ) ⟨rfl, ⟨rfl, ⟨rfl, trivial⟩⟩⟩
def fX8_back (l1 : Int32) (σ : vMem) : Option (Int32 × vMem) :=
  (fX8_in l1 (0 : Int32) (1 : Int32) σ).bind fun q1 => if q1.1 = 0 then (some ((-2 : Int32), q1.2)) else
  (if l1 = 0 then (fX8_back_27 l1 (q1.2.1 0 13) q1.2) else
  (fX8_back_27 l1 (q1.2.1 0 15) q1.2))
theorem vX8_back {ad : Nat → Nat} {Q : Option Value → vMem → Prop} {r : (Int32 × vMem)} {l1 : Int32} {σ : vMem} (h : fX8_back l1 σ = some r) (hQ : Q (some (.int r.1)) r.2) : V GM mX8_back ad Q 1 0 [some (.ref (ad 0)), some (.int l1), none] [] σ := by
  unfold fX8_back at h
  refine V.iload_n dX8_back_0 rfl ?_
  refine V.iconst ic_0 dX8_back_1 ?_
  refine V.iconst ic_1 dX8_back_2 ?_
  obtain ⟨q1, h1, h⟩ := bdc h
  refine V.callS3 (mc := mX8_in) (d' := 0) dX8_back_3 lkX8_125 hfX8_in (by decide) (Nat.le_of_ble_eq_true rfl) (Nat.le_of_ble_eq_true rfl) (vX8_in h1 ?_)
  rcases itc h with ⟨hc, h⟩ | ⟨hc, h⟩
  · refine V.if_ne (tgt := 12) dX8_back_6 (by decide) (fun hn => absurd hc hn) (fun _ => ?_)
    refine V.bipush bp_m2 dX8_back_9 ?_
    obtain rfl := Option.some.inj h
    exact V.iret dX8_back_11 rfl hQ
  · refine V.if_ne (tgt := 12) dX8_back_6 (by decide) (fun _ => ?_) (fun hn => absurd hn hc)
    refine V.iload_n dX8_back_12 rfl ?_
    rcases itc h with ⟨hc, h⟩ | ⟨hc, h⟩
    · refine V.if_ne (tgt := 23) dX8_back_13 (by decide) (fun hn => absurd hc hn) (fun _ => ?_)
      refine V.aload_n dX8_back_16 rfl ?_
      refine V.get dX8_back_17 flX8_181 nM_0 gM_0 (by decide) (eM_0_13 _ _) ?_
      refine V.goto (tgt := 27) dX8_back_20 (by decide) ?_
      exact V.forget (vX8_back_27 h hQ) ⟨rfl, ⟨rfl, trivial⟩⟩
    · refine V.if_ne (tgt := 23) dX8_back_13 (by decide) (fun _ => ?_) (fun hn => absurd hn hc)
      refine V.aload_n dX8_back_23 rfl ?_
      refine V.get dX8_back_24 flX8_184 nM_0 gM_0 (by decide) (eM_0_15 _ _) ?_
      exact V.forget (vX8_back_27 h hQ) ⟨rfl, ⟨rfl, trivial⟩⟩
def fX8_isSheet (l0 : Int32) (σ : vMem) : Option (Int32 × vMem) :=
  (fX8_in l0 (0 : Int32) (3 : Int32) σ).bind fun q1 => if ¬ (q1.1 = 0 ∨ q1.1 = 1) then none else some (q1.1, q1.2)
theorem vX8_isSheet {ad : Nat → Nat} {Q : Option Value → vMem → Prop} {r : (Int32 × vMem)} {l0 : Int32} {σ : vMem} (h : fX8_isSheet l0 σ = some r) (hQ : Q (some (.int r.1)) r.2) : V GM mX8_isSheet ad Q 1 0 [some (.int l0)] [] σ := by
  unfold fX8_isSheet at h
  refine V.iload_n dX8_isSheet_0 rfl ?_
  refine V.iconst ic_0 dX8_isSheet_1 ?_
  refine V.iconst ic_3 dX8_isSheet_2 ?_
  obtain ⟨q1, h1, h⟩ := bdc h
  refine V.callS3 (mc := mX8_in) (d' := 0) dX8_isSheet_3 lkX8_125 hfX8_in (by decide) (Nat.le_of_ble_eq_true rfl) (Nat.le_of_ble_eq_true rfl) (vX8_in h1 ?_)
  obtain ⟨hb, h⟩ := ckn h
  obtain rfl := Option.some.inj h
  exact V.zret dX8_isSheet_6 rfl (Decidable.not_not.mp hb) hQ
