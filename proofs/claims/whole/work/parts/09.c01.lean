def fX7_isHour_15 (s0 : Int32) (σ : vMem) : Option (Int32 × vMem) :=
  if ¬ (s0 = 0 ∨ s0 = 1) then none else some (s0, σ)
theorem vX7_isHour_15 {ad : Nat → Nat} {Q : Option Value → vMem → Prop} {r : (Int32 × vMem)} {s0 : Int32} {σ : vMem} (h : fX7_isHour_15 s0 σ = some r) (hQ : Q (some (.int r.1)) r.2) : V GC mX7_isHour ad Q 0 15 [none] [.int s0] σ := by
  unfold fX7_isHour_15 at h
  obtain ⟨hb, h⟩ := ckn h
  obtain rfl := Option.some.inj h
  exact V.zret dX7_isHour_15 rfl (Decidable.not_not.mp hb) hQ
def fX7_isHour_14 (σ : vMem) : Option (Int32 × vMem) :=
  fX7_isHour_15 (0 : Int32) σ
theorem vX7_isHour_14 {ad : Nat → Nat} {Q : Option Value → vMem → Prop} {r : (Int32 × vMem)} {σ : vMem} (h : fX7_isHour_14 σ = some r) (hQ : Q (some (.int r.1)) r.2) : V GC mX7_isHour ad Q 0 14 [none] [] σ := by
  unfold fX7_isHour_14 at h
  refine V.iconst ic_0 dX7_isHour_14 ?_
  exact V.forget (vX7_isHour_15 h hQ) trivial
def fX7_isHour (l0 : Int32) (σ : vMem) : Option (Int32 × vMem) :=
  if l0 < 0 then (fX7_isHour_14 σ) else
  (if (40 : Int32) ≤ l0 then (fX7_isHour_14 σ) else
  (fX7_isHour_15 (1 : Int32) σ))
theorem vX7_isHour {ad : Nat → Nat} {Q : Option Value → vMem → Prop} {r : (Int32 × vMem)} {l0 : Int32} {σ : vMem} (h : fX7_isHour l0 σ = some r) (hQ : Q (some (.int r.1)) r.2) : V GC mX7_isHour ad Q 0 0 [some (.int l0)] [] σ := by
  unfold fX7_isHour at h
  refine V.iload_n dX7_isHour_0 rfl ?_
  rcases itc h with ⟨hc, h⟩ | ⟨hc, h⟩
  · refine V.if_lt (tgt := 14) dX7_isHour_1 (by decide) (fun _ => ?_) (fun hn => absurd hc hn)
    exact V.forget (vX7_isHour_14 h hQ) trivial
  · refine V.if_lt (tgt := 14) dX7_isHour_1 (by decide) (fun hn => absurd hn hc) (fun _ => ?_)
    refine V.iload_n dX7_isHour_4 rfl ?_
    refine V.bipush bp_40 dX7_isHour_5 ?_
    rcases itc h with ⟨hc, h⟩ | ⟨hc, h⟩
    · refine V.icmp_ge (tgt := 14) dX7_isHour_7 (by decide) (fun _ => ?_) (fun hn => absurd hc hn)
      exact V.forget (vX7_isHour_14 h hQ) trivial
    · refine V.icmp_ge (tgt := 14) dX7_isHour_7 (by decide) (fun hn => absurd hn hc) (fun _ => ?_)
      refine V.iconst ic_1 dX7_isHour_10 ?_
      refine V.goto (tgt := 15) dX7_isHour_11 (by decide) ?_
      exact V.forget (vX7_isHour_15 h hQ) trivial
def fX1_add_25_16 (σ : vMem) : Option (Int32 × vMem) :=
  some ((0 : Int32), σ)
theorem vX1_add_25_16 {ad : Nat → Nat} {Q : Option Value → vMem → Prop} {r : (Int32 × vMem)} {σ : vMem} (h : fX1_add_25_16 σ = some r) (hQ : Q (some (.int r.1)) r.2) : V GC mX1_add ad Q 0 16 [none, none] [] σ := by
  unfold fX1_add_25_16 at h
  refine V.iconst ic_0 dX1_add_16 ?_
  obtain rfl := Option.some.inj h
  exact V.zret dX1_add_17 rfl (Or.inl rfl) hQ
def fX1_add_25_38 (σ : vMem) : Option (Int32 × vMem) :=
  some ((1 : Int32), σ)
theorem vX1_add_25_38 {ad : Nat → Nat} {Q : Option Value → vMem → Prop} {r : (Int32 × vMem)} {σ : vMem} (h : fX1_add_25_38 σ = some r) (hQ : Q (some (.int r.1)) r.2) : V GC mX1_add ad Q 0 38 [none, none] [] σ := by
  unfold fX1_add_25_38 at h
  refine V.iconst ic_1 dX1_add_38 ?_
  obtain rfl := Option.some.inj h
  exact V.zret dX1_add_39 rfl (Or.inr rfl) hQ
def fX1_add_25_28 (σ : vMem) : Option (Int32 × vMem) :=
  fX1_add_25_38 (vup σ 25 1 ((σ.1 25 1) + (1 : Int32)))
theorem vX1_add_25_28 {ad : Nat → Nat} {Q : Option Value → vMem → Prop} {r : (Int32 × vMem)} {σ : vMem} (h : fX1_add_25_28 σ = some r) (hQ : Q (some (.int r.1)) r.2) : V GC mX1_add ad Q 0 28 [some (.ref (ad 25)), none] [] σ := by
  unfold fX1_add_25_28 at h
  refine V.aload_n dX1_add_28 rfl ?_
  refine V.dup rfl dX1_add_29 ?_
  refine V.get dX1_add_30 flX1_15 nC_25 gC_25 (by decide) (eC_25_1 _ _) ?_
  refine V.iconst ic_1 dX1_add_33 ?_
  refine V.iadd dX1_add_34 ?_
  refine V.putI dX1_add_35 fpX1_15 nC_25 gC_25 (by decide) rfl ?_
  exact V.forget (vX1_add_25_38 h hQ) trivial
def fX1_add_25 (l1 : Int32) (σ : vMem) : Option (Int32 × vMem) :=
  if (σ.1 25 1) < 0 then (fX1_add_25_16 σ) else
  (if (σ.1 25 1) < (6 : Int32) then (if (σ.1 25 1) < 0 ∨ 6 ≤ (σ.1 25 1).toNatClampNeg then none else fX1_add_25_28 (vup σ 26 (σ.1 25 1).toNatClampNeg l1)) else
  (fX1_add_25_16 σ))
theorem vX1_add_25 {ad : Nat → Nat} {Q : Option Value → vMem → Prop} {r : (Int32 × vMem)} {l1 : Int32} {σ : vMem} (h : fX1_add_25 l1 σ = some r) (hQ : Q (some (.int r.1)) r.2) : V GC mX1_add ad Q 0 0 [some (.ref (ad 25)), some (.int l1)] [] σ := by
  unfold fX1_add_25 at h
  refine V.aload_n dX1_add_0 rfl ?_
  refine V.get dX1_add_1 flX1_15 nC_25 gC_25 (by decide) (eC_25_1 _ _) ?_
  rcases itc h with ⟨hc, h⟩ | ⟨hc, h⟩
  · refine V.if_lt (tgt := 16) dX1_add_4 (by decide) (fun _ => ?_) (fun hn => absurd hc hn)
    exact V.forget (vX1_add_25_16 h hQ) trivial
  · refine V.if_lt (tgt := 16) dX1_add_4 (by decide) (fun hn => absurd hn hc) (fun _ => ?_)
    refine V.aload_n dX1_add_7 rfl ?_
    refine V.get dX1_add_8 flX1_15 nC_25 gC_25 (by decide) (eC_25_1 _ _) ?_
    refine V.bipush bp_6 dX1_add_11 ?_
    rcases itc h with ⟨hc, h⟩ | ⟨hc, h⟩
    · refine V.icmp_lt (tgt := 18) dX1_add_13 (by decide) (fun _ => ?_) (fun hn => absurd hc hn)
      refine V.aload_n dX1_add_18 rfl ?_
      refine V.get dX1_add_19 flX1_9 nC_25 gC_25 (by decide) (eC_25_0 _ _) ?_
      refine V.aload_n dX1_add_22 rfl ?_
      refine V.get dX1_add_23 flX1_15 nC_25 gC_25 (by decide) (eC_25_1 _ _) ?_
      refine V.iload_n dX1_add_26 rfl ?_
      obtain ⟨hb, h⟩ := ckn h
      refine V.iast dX1_add_27 nC_26 gC_26 hb ?_
      exact V.forget (vX1_add_25_28 h hQ) ⟨rfl, trivial⟩
    · refine V.icmp_lt (tgt := 18) dX1_add_13 (by decide) (fun hn => absurd hn hc) (fun _ => ?_)
      exact V.forget (vX1_add_25_16 h hQ) trivial
def fX7_oneMore_25_27 (s0 : Int32) (σ : vMem) : Option (Int32 × vMem) :=
  some (s0, σ)
theorem vX7_oneMore_25_27 {ad : Nat → Nat} {Q : Option Value → vMem → Prop} {r : (Int32 × vMem)} {s0 : Int32} {σ : vMem} (h : fX7_oneMore_25_27 s0 σ = some r) (hQ : Q (some (.int r.1)) r.2) : V GC mX7_oneMore ad Q 1 27 [none, none] [.int s0] σ := by
  unfold fX7_oneMore_25_27 at h
  obtain rfl := Option.some.inj h
  exact V.iret dX7_oneMore_27 rfl hQ
def fX7_oneMore_25 (l1 : Int32) (σ : vMem) : Option (Int32 × vMem) :=
  (fX7_isHour l1 σ).bind fun q1 => if q1.1 = 0 then (some ((-2 : Int32), q1.2)) else
  ((fX1_add_25 l1 q1.2).bind fun q2 => if q2.1 = 0 then (fX7_oneMore_25_27 (-4 : Int32) q2.2) else
  (fX7_oneMore_25_27 (q2.2.1 25 1) q2.2))
theorem vX7_oneMore_25 {ad : Nat → Nat} {Q : Option Value → vMem → Prop} {r : (Int32 × vMem)} {l1 : Int32} {σ : vMem} (h : fX7_oneMore_25 l1 σ = some r) (hQ : Q (some (.int r.1)) r.2) : V GC mX7_oneMore ad Q 1 0 [some (.ref (ad 25)), some (.int l1)] [] σ := by
  unfold fX7_oneMore_25 at h
  refine V.iload_n dX7_oneMore_0 rfl ?_
  obtain ⟨q1, h1, h⟩ := bdc h
  refine V.callS1 (mc := mX7_isHour) (d' := 0) dX7_oneMore_1 lkX7_166 hfX7_isHour (by decide) (Nat.le_of_ble_eq_true rfl) (Nat.le_of_ble_eq_true rfl) (vX7_isHour h1 ?_)
  rcases itc h with ⟨hc, h⟩ | ⟨hc, h⟩
  · refine V.if_ne (tgt := 10) dX7_oneMore_4 (by decide) (fun hn => absurd hc hn) (fun _ => ?_)
    refine V.bipush bp_m2 dX7_oneMore_7 ?_
    obtain rfl := Option.some.inj h
    exact V.iret dX7_oneMore_9 rfl hQ
  · refine V.if_ne (tgt := 10) dX7_oneMore_4 (by decide) (fun _ => ?_) (fun hn => absurd hn hc)
    refine V.aload_n dX7_oneMore_10 rfl ?_
    refine V.iload_n dX7_oneMore_11 rfl ?_
    obtain ⟨q2, h1, h⟩ := bdc h
    refine V.callV1 (mc := mX1_add) (d' := 0) dX7_oneMore_12 lkX7_365 hfX1_add nC_25 gC_25 rfl (by decide) (Nat.le_of_ble_eq_true rfl) (Nat.le_of_ble_eq_true rfl) (vX1_add_25 h1 ?_)
    rcases itc h with ⟨hc, h⟩ | ⟨hc, h⟩
    · refine V.if_eq (tgt := 25) dX7_oneMore_15 (by decide) (fun _ => ?_) (fun hn => absurd hc hn)
      refine V.bipush bp_m4 dX7_oneMore_25 ?_
      exact V.forget (vX7_oneMore_25_27 h hQ) trivial
    · refine V.if_eq (tgt := 25) dX7_oneMore_15 (by decide) (fun hn => absurd hn hc) (fun _ => ?_)
      refine V.aload_n dX7_oneMore_18 rfl ?_
      refine V.get dX7_oneMore_19 flX7_151 nC_25 gC_25 (by decide) (eC_25_1 _ _) ?_
      refine V.goto (tgt := 27) dX7_oneMore_22 (by decide) ?_
      exact V.forget (vX7_oneMore_25_27 h hQ) trivial
def fX7_wind (l1 : Int32) (σ : vMem) : Option (Int32 × vMem) :=
  (fX7_oneMore_25 l1 σ).bind fun q1 => some (q1.1, q1.2)
theorem vX7_wind {ad : Nat → Nat} {Q : Option Value → vMem → Prop} {r : (Int32 × vMem)} {l1 : Int32} {σ : vMem} (h : fX7_wind l1 σ = some r) (hQ : Q (some (.int r.1)) r.2) : V GC mX7_wind ad Q 2 0 [some (.ref (ad 0)), some (.int l1)] [] σ := by
  unfold fX7_wind at h
  refine V.aload_n dX7_wind_0 rfl ?_
  refine V.get dX7_wind_1 flX7_40 nC_0 gC_0 (by decide) (eC_0_4 _ _) ?_
  refine V.iload_n dX7_wind_4 rfl ?_
  obtain ⟨q1, h1, h⟩ := bdc h
  refine V.callS2 (mc := mX7_oneMore) (d' := 1) dX7_wind_5 lkX7_147 hfX7_oneMore (by decide) (Nat.le_of_ble_eq_true rfl) (Nat.le_of_ble_eq_true rfl) (vX7_oneMore_25 h1 ?_)
  obtain rfl := Option.some.inj h
  exact V.iret dX7_wind_8 rfl hQ
def fX1_add_27_16 (σ : vMem) : Option (Int32 × vMem) :=
  some ((0 : Int32), σ)
theorem vX1_add_27_16 {ad : Nat → Nat} {Q : Option Value → vMem → Prop} {r : (Int32 × vMem)} {σ : vMem} (h : fX1_add_27_16 σ = some r) (hQ : Q (some (.int r.1)) r.2) : V GC mX1_add ad Q 0 16 [none, none] [] σ := by
  unfold fX1_add_27_16 at h
  refine V.iconst ic_0 dX1_add_16 ?_
  obtain rfl := Option.some.inj h
  exact V.zret dX1_add_17 rfl (Or.inl rfl) hQ
def fX1_add_27_38 (σ : vMem) : Option (Int32 × vMem) :=
  some ((1 : Int32), σ)
theorem vX1_add_27_38 {ad : Nat → Nat} {Q : Option Value → vMem → Prop} {r : (Int32 × vMem)} {σ : vMem} (h : fX1_add_27_38 σ = some r) (hQ : Q (some (.int r.1)) r.2) : V GC mX1_add ad Q 0 38 [none, none] [] σ := by
  unfold fX1_add_27_38 at h
  refine V.iconst ic_1 dX1_add_38 ?_
  obtain rfl := Option.some.inj h
  exact V.zret dX1_add_39 rfl (Or.inr rfl) hQ
def fX1_add_27_28 (σ : vMem) : Option (Int32 × vMem) :=
  fX1_add_27_38 (vup σ 27 1 ((σ.1 27 1) + (1 : Int32)))
theorem vX1_add_27_28 {ad : Nat → Nat} {Q : Option Value → vMem → Prop} {r : (Int32 × vMem)} {σ : vMem} (h : fX1_add_27_28 σ = some r) (hQ : Q (some (.int r.1)) r.2) : V GC mX1_add ad Q 0 28 [some (.ref (ad 27)), none] [] σ := by
  unfold fX1_add_27_28 at h
  refine V.aload_n dX1_add_28 rfl ?_
  refine V.dup rfl dX1_add_29 ?_
  refine V.get dX1_add_30 flX1_15 nC_27 gC_27 (by decide) (eC_27_1 _ _) ?_
  refine V.iconst ic_1 dX1_add_33 ?_
  refine V.iadd dX1_add_34 ?_
  refine V.putI dX1_add_35 fpX1_15 nC_27 gC_27 (by decide) rfl ?_
  exact V.forget (vX1_add_27_38 h hQ) trivial
def fX1_add_27 (l1 : Int32) (σ : vMem) : Option (Int32 × vMem) :=
  if (σ.1 27 1) < 0 then (fX1_add_27_16 σ) else
  (if (σ.1 27 1) < (6 : Int32) then (if (σ.1 27 1) < 0 ∨ 6 ≤ (σ.1 27 1).toNatClampNeg then none else fX1_add_27_28 (vup σ 28 (σ.1 27 1).toNatClampNeg l1)) else
  (fX1_add_27_16 σ))
theorem vX1_add_27 {ad : Nat → Nat} {Q : Option Value → vMem → Prop} {r : (Int32 × vMem)} {l1 : Int32} {σ : vMem} (h : fX1_add_27 l1 σ = some r) (hQ : Q (some (.int r.1)) r.2) : V GC mX1_add ad Q 0 0 [some (.ref (ad 27)), some (.int l1)] [] σ := by
  unfold fX1_add_27 at h
  refine V.aload_n dX1_add_0 rfl ?_
  refine V.get dX1_add_1 flX1_15 nC_27 gC_27 (by decide) (eC_27_1 _ _) ?_
  rcases itc h with ⟨hc, h⟩ | ⟨hc, h⟩
  · refine V.if_lt (tgt := 16) dX1_add_4 (by decide) (fun _ => ?_) (fun hn => absurd hc hn)
    exact V.forget (vX1_add_27_16 h hQ) trivial
  · refine V.if_lt (tgt := 16) dX1_add_4 (by decide) (fun hn => absurd hn hc) (fun _ => ?_)
    refine V.aload_n dX1_add_7 rfl ?_
    refine V.get dX1_add_8 flX1_15 nC_27 gC_27 (by decide) (eC_27_1 _ _) ?_
    refine V.bipush bp_6 dX1_add_11 ?_
    rcases itc h with ⟨hc, h⟩ | ⟨hc, h⟩
    · refine V.icmp_lt (tgt := 18) dX1_add_13 (by decide) (fun _ => ?_) (fun hn => absurd hc hn)
      refine V.aload_n dX1_add_18 rfl ?_
      refine V.get dX1_add_19 flX1_9 nC_27 gC_27 (by decide) (eC_27_0 _ _) ?_
      refine V.aload_n dX1_add_22 rfl ?_
      refine V.get dX1_add_23 flX1_15 nC_27 gC_27 (by decide) (eC_27_1 _ _) ?_
      refine V.iload_n dX1_add_26 rfl ?_
      obtain ⟨hb, h⟩ := ckn h
      refine V.iast dX1_add_27 nC_28 gC_28 hb ?_
      exact V.forget (vX1_add_27_28 h hQ) ⟨rfl, trivial⟩
    · refine V.icmp_lt (tgt := 18) dX1_add_13 (by decide) (fun hn => absurd hn hc) (fun _ => ?_)
      exact V.forget (vX1_add_27_16 h hQ) trivial
def fX7_oneMore_27_27 (s0 : Int32) (σ : vMem) : Option (Int32 × vMem) :=
  some (s0, σ)
theorem vX7_oneMore_27_27 {ad : Nat → Nat} {Q : Option Value → vMem → Prop} {r : (Int32 × vMem)} {s0 : Int32} {σ : vMem} (h : fX7_oneMore_27_27 s0 σ = some r) (hQ : Q (some (.int r.1)) r.2) : V GC mX7_oneMore ad Q 1 27 [none, none] [.int s0] σ := by
  unfold fX7_oneMore_27_27 at h
  obtain rfl := Option.some.inj h
  exact V.iret dX7_oneMore_27 rfl hQ
def fX7_oneMore_27 (l1 : Int32) (σ : vMem) : Option (Int32 × vMem) :=
  (fX7_isHour l1 σ).bind fun q1 => if q1.1 = 0 then (some ((-2 : Int32), q1.2)) else
  ((fX1_add_27 l1 q1.2).bind fun q2 => if q2.1 = 0 then (fX7_oneMore_27_27 (-4 : Int32) q2.2) else
  (fX7_oneMore_27_27 (q2.2.1 27 1) q2.2))
theorem vX7_oneMore_27 {ad : Nat → Nat} {Q : Option Value → vMem → Prop} {r : (Int32 × vMem)} {l1 : Int32} {σ : vMem} (h : fX7_oneMore_27 l1 σ = some r) (hQ : Q (some (.int r.1)) r.2) : V GC mX7_oneMore ad Q 1 0 [some (.ref (ad 27)), some (.int l1)] [] σ := by
  unfold fX7_oneMore_27 at h
  refine V.iload_n dX7_oneMore_0 rfl ?_
  obtain ⟨q1, h1, h⟩ := bdc h
  refine V.callS1 (mc := mX7_isHour) (d' := 0) dX7_oneMore_1 lkX7_166 hfX7_isHour (by decide) (Nat.le_of_ble_eq_true rfl) (Nat.le_of_ble_eq_true rfl) (vX7_isHour h1 ?_)
  rcases itc h with ⟨hc, h⟩ | ⟨hc, h⟩
  · refine V.if_ne (tgt := 10) dX7_oneMore_4 (by decide) (fun hn => absurd hc hn) (fun _ => ?_)
    refine V.bipush bp_m2 dX7_oneMore_7 ?_
    obtain rfl := Option.some.inj h
    exact V.iret dX7_oneMore_9 rfl hQ
  · refine V.if_ne (tgt := 10) dX7_oneMore_4 (by decide) (fun _ => ?_) (fun hn => absurd hn hc)
    refine V.aload_n dX7_oneMore_10 rfl ?_
    refine V.iload_n dX7_oneMore_11 rfl ?_
    obtain ⟨q2, h1, h⟩ := bdc h
    refine V.callV1 (mc := mX1_add) (d' := 0) dX7_oneMore_12 lkX7_365 hfX1_add nC_27 gC_27 rfl (by decide) (Nat.le_of_ble_eq_true rfl) (Nat.le_of_ble_eq_true rfl) (vX1_add_27 h1 ?_)
    rcases itc h with ⟨hc, h⟩ | ⟨hc, h⟩
    · refine V.if_eq (tgt := 25) dX7_oneMore_15 (by decide) (fun _ => ?_) (fun hn => absurd hc hn)
      refine V.bipush bp_m4 dX7_oneMore_25 ?_
      exact V.forget (vX7_oneMore_27_27 h hQ) trivial
    · refine V.if_eq (tgt := 25) dX7_oneMore_15 (by decide) (fun hn => absurd hn hc) (fun _ => ?_)
      refine V.aload_n dX7_oneMore_18 rfl ?_
      refine V.get dX7_oneMore_19 flX7_151 nC_27 gC_27 (by decide) (eC_27_1 _ _) ?_
      refine V.goto (tgt := 27) dX7_oneMore_22 (by decide) ?_
      exact V.forget (vX7_oneMore_27_27 h hQ) trivial
def fX7_sunday (l1 : Int32) (σ : vMem) : Option (Int32 × vMem) :=
  (fX7_oneMore_27 l1 σ).bind fun q1 => some (q1.1, q1.2)
theorem vX7_sunday {ad : Nat → Nat} {Q : Option Value → vMem → Prop} {r : (Int32 × vMem)} {l1 : Int32} {σ : vMem} (h : fX7_sunday l1 σ = some r) (hQ : Q (some (.int r.1)) r.2) : V GC mX7_sunday ad Q 2 0 [some (.ref (ad 0)), some (.int l1)] [] σ := by
  unfold fX7_sunday at h
  refine V.aload_n dX7_sunday_0 rfl ?_
  refine V.get dX7_sunday_1 flX7_44 nC_0 gC_0 (by decide) (eC_0_5 _ _) ?_
  refine V.iload_n dX7_sunday_4 rfl ?_
  obtain ⟨q1, h1, h⟩ := bdc h
  refine V.callS2 (mc := mX7_oneMore) (d' := 1) dX7_sunday_5 lkX7_147 hfX7_oneMore (by decide) (Nat.le_of_ble_eq_true rfl) (Nat.le_of_ble_eq_true rfl) (vX7_oneMore_27 h1 ?_)
  obtain rfl := Option.some.inj h
  exact V.iret dX7_sunday_8 rfl hQ
def fX7_back_48 (σ : vMem) : Option (Int32 × vMem) :=
  some ((σ.1 27 1), σ)
theorem vX7_back_48 {ad : Nat → Nat} {Q : Option Value → vMem → Prop} {r : (Int32 × vMem)} {σ : vMem} (h : fX7_back_48 σ = some r) (hQ : Q (some (.int r.1)) r.2) : V GC mX7_back ad Q 0 48 [none, none, some (.ref (ad 27))] [] σ := by
  unfold fX7_back_48 at h
  refine V.aload_n dX7_back_48 rfl ?_
  refine V.get dX7_back_49 flX7_151 nC_27 gC_27 (by decide) (eC_27_1 _ _) ?_
  obtain rfl := Option.some.inj h
  exact V.iret dX7_back_52 rfl hQ
def fX7_back_27 (σ : vMem) : Option (Int32 × vMem) :=
  if (σ.1 27 1) = 0 then (some ((-3 : Int32), σ)) else
  (fX7_back_48 (vup σ 27 1 ((σ.1 27 1) - (1 : Int32))))
theorem vX7_back_27 {ad : Nat → Nat} {Q : Option Value → vMem → Prop} {r : (Int32 × vMem)} {σ : vMem} (h : fX7_back_27 σ = some r) (hQ : Q (some (.int r.1)) r.2) : V GC mX7_back ad Q 0 27 [none, none, none] [.ref (ad 27)] σ := by
  unfold fX7_back_27 at h
  refine V.astore_n dX7_back_27 (by decide) rfl ?_
  refine V.aload_n dX7_back_28 rfl ?_
  refine V.get dX7_back_29 flX7_151 nC_27 gC_27 (by decide) (eC_27_1 _ _) ?_
  rcases itc h with ⟨hc, h⟩ | ⟨hc, h⟩
  · refine V.if_ne (tgt := 38) dX7_back_32 (by decide) (fun hn => absurd hc hn) (fun _ => ?_)
    refine V.bipush bp_m3 dX7_back_35 ?_
    obtain rfl := Option.some.inj h
    exact V.iret dX7_back_37 rfl hQ
  · refine V.if_ne (tgt := 38) dX7_back_32 (by decide) (fun _ => ?_) (fun hn => absurd hn hc)
    refine V.aload_n dX7_back_38 rfl ?_
    refine V.dup rfl dX7_back_39 ?_
    refine V.get dX7_back_40 flX7_151 nC_27 gC_27 (by decide) (eC_27_1 _ _) ?_
    refine V.iconst ic_1 dX7_back_43 ?_
    refine V.isub dX7_back_44 ?_
    refine V.putI dX7_back_45 fpX7_151 nC_27 gC_27 (by decide) rfl ?_
    exact V.forget (vX7_back_48 h hQ) ⟨rfl, trivial⟩
def fX7_back_48_v1 (σ : vMem) : Option (Int32 × vMem) :=
  some ((σ.1 25 1), σ)
theorem vX7_back_48_v1 {ad : Nat → Nat} {Q : Option Value → vMem → Prop} {r : (Int32 × vMem)} {σ : vMem} (h : fX7_back_48_v1 σ = some r) (hQ : Q (some (.int r.1)) r.2) : V GC mX7_back ad Q 0 48 [none, none, some (.ref (ad 25))] [] σ := by
  unfold fX7_back_48_v1 at h
  refine V.aload_n dX7_back_48 rfl ?_
  refine V.get dX7_back_49 flX7_151 nC_25 gC_25 (by decide) (eC_25_1 _ _) ?_
  obtain rfl := Option.some.inj h
  exact V.iret dX7_back_52 rfl hQ
def fX7_back_27_v1 (σ : vMem) : Option (Int32 × vMem) :=
  if (σ.1 25 1) = 0 then (some ((-3 : Int32), σ)) else
  (fX7_back_48_v1 (vup σ 25 1 ((σ.1 25 1) - (1 : Int32))))
theorem vX7_back_27_v1 {ad : Nat → Nat} {Q : Option Value → vMem → Prop} {r : (Int32 × vMem)} {σ : vMem} (h : fX7_back_27_v1 σ = some r) (hQ : Q (some (.int r.1)) r.2) : V GC mX7_back ad Q 0 27 [none, none, none] [.ref (ad 25)] σ := by
  unfold fX7_back_27_v1 at h
  refine V.astore_n dX7_back_27 (by decide) rfl ?_
  refine V.aload_n dX7_back_28 rfl ?_
  refine V.get dX7_back_29 flX7_151 nC_25 gC_25 (by decide) (eC_25_1 _ _) ?_
  rcases itc h with ⟨hc, h⟩ | ⟨hc, h⟩
  · refine V.if_ne (tgt := 38) dX7_back_32 (by decide) (fun hn => absurd hc hn) (fun _ => ?_)
    refine V.bipush bp_m3 dX7_back_35 ?_
    obtain rfl := Option.some.inj h
    exact V.iret dX7_back_37 rfl hQ
  · refine V.if_ne (tgt := 38) dX7_back_32 (by decide) (fun _ => ?_) (fun hn => absurd hn hc)
    refine V.aload_n dX7_back_38 rfl ?_
    refine V.dup rfl dX7_back_39 ?_
    refine V.get dX7_back_40 flX7_151 nC_25 gC_25 (by decide) (eC_25_1 _ _) ?_
    refine V.iconst ic_1 dX7_back_43 ?_
    refine V.isub dX7_back_44 ?_
    refine V.putI dX7_back_45 fpX7_151 nC_25 gC_25 (by decide) rfl ?_
    exact V.forget (vX7_back_48_v1 h hQ) ⟨rfl, trivial⟩
def fX7_back_12 (l1 : Int32) (σ : vMem) : Option (Int32 × vMem) :=
  if l1 = 0 then (fX7_back_27_v1 σ) else
  (fX7_back_27 σ)
theorem vX7_back_12 {ad : Nat → Nat} {Q : Option Value → vMem → Prop} {r : (Int32 × vMem)} {l1 : Int32} {σ : vMem} (h : fX7_back_12 l1 σ = some r) (hQ : Q (some (.int r.1)) r.2) : V GC mX7_back ad Q 0 12 [some (.ref (ad 0)), some (.int l1), none] [] σ := by
  unfold fX7_back_12 at h
  refine V.iload_n dX7_back_12 rfl ?_
  rcases itc h with ⟨hc, h⟩ | ⟨hc, h⟩
  · refine V.if_ne (tgt := 23) dX7_back_13 (by decide) (fun hn => absurd hc hn) (fun _ => ?_)
    refine V.aload_n dX7_back_16 rfl ?_
    refine V.get dX7_back_17 flX7_40 nC_0 gC_0 (by decide) (eC_0_4 _ _) ?_
    refine V.goto (tgt := 27) dX7_back_20 (by decide) ?_
    exact V.forget (vX7_back_27_v1 h hQ) trivial
  · refine V.if_ne (tgt := 23) dX7_back_13 (by decide) (fun _ => ?_) (fun hn => absurd hn hc)
    refine V.aload_n dX7_back_23 rfl ?_
    refine V.get dX7_back_24 flX7_44 nC_0 gC_0 (by decide) (eC_0_5 _ _) ?_
    exact V.forget (vX7_back_27 h hQ) trivial
def fX7_back (l1 : Int32) (σ : vMem) : Option (Int32 × vMem) :=
  if l1 = 0 then (fX7_back_12 l1 σ) else
  (if l1 = (1 : Int32) then (fX7_back_12 l1 σ) else
  (some ((-2 : Int32), σ)))
theorem vX7_back {ad : Nat → Nat} {Q : Option Value → vMem → Prop} {r : (Int32 × vMem)} {l1 : Int32} {σ : vMem} (h : fX7_back l1 σ = some r) (hQ : Q (some (.int r.1)) r.2) : V GC mX7_back ad Q 0 0 [some (.ref (ad 0)), some (.int l1), none] [] σ := by
  unfold fX7_back at h
  refine V.iload_n dX7_back_0 rfl ?_
  rcases itc h with ⟨hc, h⟩ | ⟨hc, h⟩
  · refine V.if_eq (tgt := 12) dX7_back_1 (by decide) (fun _ => ?_) (fun hn => absurd hc hn)
    exact V.forget (vX7_back_12 h hQ) ⟨rfl, ⟨rfl, trivial⟩⟩
  · refine V.if_eq (tgt := 12) dX7_back_1 (by decide) (fun hn => absurd hn hc) (fun _ => ?_)
    refine V.iload_n dX7_back_4 rfl ?_
    refine V.iconst ic_1 dX7_back_5 ?_
    rcases itc h with ⟨hc, h⟩ | ⟨hc, h⟩
    · refine V.icmp_eq (tgt := 12) dX7_back_6 (by decide) (fun _ => ?_) (fun hn => absurd hc hn)
      exact V.forget (vX7_back_12 h hQ) ⟨rfl, ⟨rfl, trivial⟩⟩
    · refine V.icmp_eq (tgt := 12) dX7_back_6 (by decide) (fun hn => absurd hn hc) (fun _ => ?_)
      refine V.bipush bp_m2 dX7_back_9 ?_
      obtain rfl := Option.some.inj h
      exact V.iret dX7_back_11 rfl hQ
def fX7_isSheet_14 (s0 : Int32) (σ : vMem) : Option (Int32 × vMem) :=
  if ¬ (s0 = 0 ∨ s0 = 1) then none else some (s0, σ)
theorem vX7_isSheet_14 {ad : Nat → Nat} {Q : Option Value → vMem → Prop} {r : (Int32 × vMem)} {s0 : Int32} {σ : vMem} (h : fX7_isSheet_14 s0 σ = some r) (hQ : Q (some (.int r.1)) r.2) : V GC mX7_isSheet ad Q 0 14 [none] [.int s0] σ := by
  unfold fX7_isSheet_14 at h
  obtain ⟨hb, h⟩ := ckn h
  obtain rfl := Option.some.inj h
  exact V.zret dX7_isSheet_14 rfl (Decidable.not_not.mp hb) hQ
def fX7_isSheet_13 (σ : vMem) : Option (Int32 × vMem) :=
  fX7_isSheet_14 (0 : Int32) σ
theorem vX7_isSheet_13 {ad : Nat → Nat} {Q : Option Value → vMem → Prop} {r : (Int32 × vMem)} {σ : vMem} (h : fX7_isSheet_13 σ = some r) (hQ : Q (some (.int r.1)) r.2) : V GC mX7_isSheet ad Q 0 13 [none] [] σ := by
  unfold fX7_isSheet_13 at h
  refine V.iconst ic_0 dX7_isSheet_13 ?_
  exact V.forget (vX7_isSheet_14 h hQ) trivial
def fX7_isSheet (l0 : Int32) (σ : vMem) : Option (Int32 × vMem) :=
  if l0 < 0 then (fX7_isSheet_13 σ) else
  (if (4 : Int32) ≤ l0 then (fX7_isSheet_13 σ) else
  (fX7_isSheet_14 (1 : Int32) σ))
theorem vX7_isSheet {ad : Nat → Nat} {Q : Option Value → vMem → Prop} {r : (Int32 × vMem)} {l0 : Int32} {σ : vMem} (h : fX7_isSheet l0 σ = some r) (hQ : Q (some (.int r.1)) r.2) : V GC mX7_isSheet ad Q 0 0 [some (.int l0)] [] σ := by
  unfold fX7_isSheet at h
  refine V.iload_n dX7_isSheet_0 rfl ?_
  rcases itc h with ⟨hc, h⟩ | ⟨hc, h⟩
  · refine V.if_lt (tgt := 13) dX7_isSheet_1 (by decide) (fun _ => ?_) (fun hn => absurd hc hn)
    exact V.forget (vX7_isSheet_13 h hQ) trivial
  · refine V.if_lt (tgt := 13) dX7_isSheet_1 (by decide) (fun hn => absurd hn hc) (fun _ => ?_)
    refine V.iload_n dX7_isSheet_4 rfl ?_
    refine V.iconst ic_4 dX7_isSheet_5 ?_
    rcases itc h with ⟨hc, h⟩ | ⟨hc, h⟩
    · refine V.icmp_ge (tgt := 13) dX7_isSheet_6 (by decide) (fun _ => ?_) (fun hn => absurd hc hn)
      exact V.forget (vX7_isSheet_13 h hQ) trivial
    · refine V.icmp_ge (tgt := 13) dX7_isSheet_6 (by decide) (fun hn => absurd hn hc) (fun _ => ?_)
      refine V.iconst ic_1 dX7_isSheet_9 ?_
      refine V.goto (tgt := 14) dX7_isSheet_10 (by decide) ?_
      exact V.forget (vX7_isSheet_14 h hQ) trivial
def fX2_isLost_15 (s0 : Int32) (σ : vMem) : Option (Int32 × vMem) :=
  if ¬ (s0 = 0 ∨ s0 = 1) then none else some (s0, σ)
theorem vX2_isLost_15 {ad : Nat → Nat} {Q : Option Value → vMem → Prop} {r : (Int32 × vMem)} {s0 : Int32} {σ : vMem} (h : fX2_isLost_15 s0 σ = some r) (hQ : Q (some (.int r.1)) r.2) : V GC mX2_isLost ad Q 0 15 [none, none] [.int s0] σ := by
  unfold fX2_isLost_15 at h
  obtain ⟨hb, h⟩ := ckn h
  obtain rfl := Option.some.inj h
  exact V.zret dX2_isLost_15 rfl (Decidable.not_not.mp hb) hQ
def fX2_isLost (l1 : Int32) (σ : vMem) : Option (Int32 × vMem) :=
  if l1 < 0 ∨ 4 ≤ l1.toNatClampNeg then none else if (σ.1 35 l1.toNatClampNeg) = (-1 : Int32) then (fX2_isLost_15 (1 : Int32) σ) else
  (fX2_isLost_15 (0 : Int32) σ)
theorem vX2_isLost {ad : Nat → Nat} {Q : Option Value → vMem → Prop} {r : (Int32 × vMem)} {l1 : Int32} {σ : vMem} (h : fX2_isLost l1 σ = some r) (hQ : Q (some (.int r.1)) r.2) : V GC mX2_isLost ad Q 0 0 [some (.ref (ad 33)), some (.int l1)] [] σ := by
  unfold fX2_isLost at h
  refine V.aload_n dX2_isLost_0 rfl ?_
  refine V.get dX2_isLost_1 flX2_15 nC_33 gC_33 (by decide) (eC_33_1 _ _) ?_
  refine V.iload_n dX2_isLost_4 rfl ?_
  obtain ⟨hb, h⟩ := ckn h
  refine V.iald dX2_isLost_5 nC_35 gC_35 hb ?_
  refine V.iconst ic_m1 dX2_isLost_6 ?_
  rcases itc h with ⟨hc, h⟩ | ⟨hc, h⟩
  · refine V.icmp_ne (tgt := 14) dX2_isLost_7 (by decide) (fun hn => absurd hc hn) (fun _ => ?_)
    refine V.iconst ic_1 dX2_isLost_10 ?_
    refine V.goto (tgt := 15) dX2_isLost_11 (by decide) ?_
    exact V.forget (vX2_isLost_15 h hQ) trivial
  · refine V.icmp_ne (tgt := 14) dX2_isLost_7 (by decide) (fun _ => ?_) (fun hn => absurd hn hc)
    refine V.iconst ic_0 dX2_isLost_14 ?_
    exact V.forget (vX2_isLost_15 h hQ) trivial
def fX2_item (l1 : Int32) (l2 : Int32) (σ : vMem) : Option (Int32 × vMem) :=
  if ((l1 * (60 : Int32)) + l2) < 0 ∨ 240 ≤ ((l1 * (60 : Int32)) + l2).toNatClampNeg then none else some ((σ.1 36 ((l1 * (60 : Int32)) + l2).toNatClampNeg), σ)
theorem vX2_item {ad : Nat → Nat} {Q : Option Value → vMem → Prop} {r : (Int32 × vMem)} {l1 : Int32} {l2 : Int32} {σ : vMem} (h : fX2_item l1 l2 σ = some r) (hQ : Q (some (.int r.1)) r.2) : V GC mX2_item ad Q 0 0 [some (.ref (ad 33)), some (.int l1), some (.int l2)] [] σ := by
  unfold fX2_item at h
  refine V.aload_n dX2_item_0 rfl ?_
  refine V.get dX2_item_1 flX2_18 nC_33 gC_33 (by decide) (eC_33_2 _ _) ?_
  refine V.iload_n dX2_item_4 rfl ?_
  refine V.bipush bp_60 dX2_item_5 ?_
  refine V.imul dX2_item_7 ?_
  refine V.iload_n dX2_item_8 rfl ?_
  refine V.iadd dX2_item_9 ?_
  obtain ⟨hb, h⟩ := ckn h
  refine V.iald dX2_item_10 nC_36 gC_36 hb ?_
  obtain rfl := Option.some.inj h
  exact V.iret dX2_item_11 rfl hQ
def fX7_found_5 (l1 : Int32) (σ : vMem) : Option (Int32 × vMem) :=
  some (((-10 : Int32) - l1), σ)
theorem vX7_found_5 {ad : Nat → Nat} {Q : Option Value → vMem → Prop} {r : (Int32 × vMem)} {l1 : Int32} {σ : vMem} (h : fX7_found_5 l1 σ = some r) (hQ : Q (some (.int r.1)) r.2) : V GC mX7_found ad Q 0 5 [none, some (.int l1)] [] σ := by
  unfold fX7_found_5 at h
  refine V.bipush bp_m10 dX7_found_5 ?_
  refine V.iload_n dX7_found_7 rfl ?_
  refine V.isub dX7_found_8 ?_
  obtain rfl := Option.some.inj h
  exact V.iret dX7_found_9 rfl hQ
def fX7_found (l1 : Int32) (σ : vMem) : Option (Int32 × vMem) :=
  fX7_found_5 l1 (vup σ 0 14 l1)
theorem vX7_found {ad : Nat → Nat} {Q : Option Value → vMem → Prop} {r : (Int32 × vMem)} {l1 : Int32} {σ : vMem} (h : fX7_found l1 σ = some r) (hQ : Q (some (.int r.1)) r.2) : V GC mX7_found ad Q 0 0 [some (.ref (ad 0)), some (.int l1)] [] σ := by
  unfold fX7_found at h
  refine V.aload_n dX7_found_0 rfl ?_
  refine V.iload_n dX7_found_1 rfl ?_
  refine V.putI dX7_found_2 fpX7_86 nC_0 gC_0 (by decide) rfl ?_
  exact V.forget (vX7_found_5 h hQ) ⟨rfl, trivial⟩
def fX7_read_67 (l2 : Int32) (σ : vMem) : Option (Int32 × vMem) :=
  some (l2, σ)
theorem vX7_read_67 {ad : Nat → Nat} {Q : Option Value → vMem → Prop} {r : (Int32 × vMem)} {l2 : Int32} {σ : vMem} (h : fX7_read_67 l2 σ = some r) (hQ : Q (some (.int r.1)) r.2) : V GC mX7_read ad Q 2 67 [none, none, some (.int l2)] [] σ := by
  unfold fX7_read_67 at h
  refine V.iload_n dX7_read_67 rfl ?_
  obtain rfl := Option.some.inj h
  exact V.iret dX7_read_68 rfl hQ
def fX7_read_29 (K29 : Int32 → Int32 → vMem → Option (Int32 × vMem)) (l1 : Int32) (l2 : Int32) (σ : vMem) : Option (Int32 × vMem) :=
  if l1 < 0 ∨ 4 ≤ l1.toNatClampNeg then none else if (σ.1 35 l1.toNatClampNeg) ≤ l2 then (fX7_read_67 l2 σ) else
  ((fX2_item l1 l2 σ).bind fun q1 => (fX7_oneMore_25 q1.1 q1.2).bind fun q2 => if q2.1 < 0 then (fX7_read_67 l2 q2.2) else
  (K29 l1 (l2 + (1 : Int32)) q2.2))
theorem vX7_read_29 {ad : Nat → Nat} {Q : Option Value → vMem → Prop} {r : (Int32 × vMem)} {K29 : Int32 → Int32 → vMem → Option (Int32 × vMem)} (hK29 : ∀ (l1 : Int32) (l2 : Int32) (σ : vMem), K29 l1 l2 σ = some r → V GC mX7_read ad Q 2 29 [some (.ref (ad 0)), some (.int l1), some (.int l2)] [] σ) {l1 : Int32} {l2 : Int32} {σ : vMem} (h : fX7_read_29 K29 l1 l2 σ = some r) (hQ : Q (some (.int r.1)) r.2) : V GC mX7_read ad Q 2 29 [some (.ref (ad 0)), some (.int l1), some (.int l2)] [] σ := by
  unfold fX7_read_29 at h
  refine V.iload_n dX7_read_29 rfl ?_
  refine V.aload_n dX7_read_30 rfl ?_
  refine V.get dX7_read_31 flX7_57 nC_0 gC_0 (by decide) (eC_0_7 _ _) ?_
  refine V.get dX7_read_34 flX7_161 nC_33 gC_33 (by decide) (eC_33_1 _ _) ?_
  refine V.iload_n dX7_read_37 rfl ?_
  obtain ⟨hb, h⟩ := ckn h
  refine V.iald dX7_read_38 nC_35 gC_35 hb ?_
  rcases itc h with ⟨hc, h⟩ | ⟨hc, h⟩
  · refine V.icmp_ge (tgt := 67) dX7_read_39 (by decide) (fun _ => ?_) (fun hn => absurd hc hn)
    exact V.forget (vX7_read_67 h hQ) ⟨rfl, trivial⟩
  · refine V.icmp_ge (tgt := 67) dX7_read_39 (by decide) (fun hn => absurd hn hc) (fun _ => ?_)
    refine V.aload_n dX7_read_42 rfl ?_
    refine V.get dX7_read_43 flX7_40 nC_0 gC_0 (by decide) (eC_0_4 _ _) ?_
    refine V.aload_n dX7_read_46 rfl ?_
    refine V.get dX7_read_47 flX7_57 nC_0 gC_0 (by decide) (eC_0_7 _ _) ?_
    refine V.iload_n dX7_read_50 rfl ?_
    refine V.iload_n dX7_read_51 rfl ?_
    obtain ⟨q1, h1, h⟩ := bdc h
    refine V.callV2 (mc := mX2_item) (d' := 0) dX7_read_52 lkX7_163 hfX2_item nC_33 gC_33 rfl (by decide) (Nat.le_of_ble_eq_true rfl) (Nat.le_of_ble_eq_true rfl) (vX2_item h1 ?_)
    obtain ⟨q2, h1, h⟩ := bdc h
    refine V.callS2 (mc := mX7_oneMore) (d' := 1) dX7_read_55 lkX7_147 hfX7_oneMore (by decide) (Nat.le_of_ble_eq_true rfl) (Nat.le_of_ble_eq_true rfl) (vX7_oneMore_25 h1 ?_)
    rcases itc h with ⟨hc, h⟩ | ⟨hc, h⟩
    · refine V.if_lt (tgt := 67) dX7_read_58 (by decide) (fun _ => ?_) (fun hn => absurd hc hn)
      exact V.forget (vX7_read_67 h hQ) ⟨rfl, trivial⟩
    · refine V.if_lt (tgt := 67) dX7_read_58 (by decide) (fun hn => absurd hn hc) (fun _ => ?_)
      refine V.iinc dX7_read_61 rfl (ii_1 _) (by decide) rfl ?_
      refine V.goto (tgt := 29) dX7_read_64 (by decide) ?_
      exact V.forget (hK29 _ _ _ h) ⟨rfl, ⟨rfl, ⟨rfl, trivial⟩⟩⟩
def LfX7_read_29 : Nat → Int32 → Int32 → vMem → Option (Int32 × vMem)
  | 0, _, _, _ => none
  | n + 1, l1, l2, σ => fX7_read_29 (LfX7_read_29 n) l1 l2 σ
theorem LvX7_read_29 {ad : Nat → Nat} {Q : Option Value → vMem → Prop} {r : (Int32 × vMem)} (hQ : Q (some (.int r.1)) r.2) : ∀ (n : Nat) (l1 : Int32) (l2 : Int32) (σ : vMem), LfX7_read_29 n l1 l2 σ = some r → V GC mX7_read ad Q 2 29 [some (.ref (ad 0)), some (.int l1), some (.int l2)] [] σ := by
  intro n
  induction n with
  | zero => intro l1 l2 σ h; cases h
  | succ n ih => intro l1 l2 σ h; exact vX7_read_29 ih h hQ
def fX7_read (l1 : Int32) (σ : vMem) : Option (Int32 × vMem) :=
  (fX7_isSheet l1 σ).bind fun q1 => if q1.1 = 0 then (some ((-2 : Int32), q1.2)) else
  ((fX2_isLost l1 q1.2).bind fun q2 => if q2.1 = 0 then (LfX7_read_29 200 l1 (0 : Int32) q2.2) else
  ((fX7_found (1 : Int32) q2.2).bind fun q3 => some (q3.1, q3.2)))
theorem vX7_read {ad : Nat → Nat} {Q : Option Value → vMem → Prop} {r : (Int32 × vMem)} {l1 : Int32} {σ : vMem} (h : fX7_read l1 σ = some r) (hQ : Q (some (.int r.1)) r.2) : V GC mX7_read ad Q 2 0 [some (.ref (ad 0)), some (.int l1), none] [] σ := by
  unfold fX7_read at h
  refine V.iload_n dX7_read_0 rfl ?_
  obtain ⟨q1, h1, h⟩ := bdc h
  refine V.callS1 (mc := mX7_isSheet) (d' := 0) dX7_read_1 lkX7_152 hfX7_isSheet (by decide) (Nat.le_of_ble_eq_true rfl) (Nat.le_of_ble_eq_true rfl) (vX7_isSheet h1 ?_)
  rcases itc h with ⟨hc, h⟩ | ⟨hc, h⟩
  · refine V.if_ne (tgt := 10) dX7_read_4 (by decide) (fun hn => absurd hc hn) (fun _ => ?_)
    refine V.bipush bp_m2 dX7_read_7 ?_
    obtain rfl := Option.some.inj h
    exact V.iret dX7_read_9 rfl hQ
  · refine V.if_ne (tgt := 10) dX7_read_4 (by decide) (fun _ => ?_) (fun hn => absurd hn hc)
    refine V.aload_n dX7_read_10 rfl ?_
    refine V.get dX7_read_11 flX7_57 nC_0 gC_0 (by decide) (eC_0_7 _ _) ?_
    refine V.iload_n dX7_read_14 rfl ?_
    obtain ⟨q2, h1, h⟩ := bdc h
    refine V.callV1 (mc := mX2_isLost) (d' := 0) dX7_read_15 lkX7_155 hfX2_isLost nC_33 gC_33 rfl (by decide) (Nat.le_of_ble_eq_true rfl) (Nat.le_of_ble_eq_true rfl) (vX2_isLost h1 ?_)
    rcases itc h with ⟨hc, h⟩ | ⟨hc, h⟩
    · refine V.if_eq (tgt := 27) dX7_read_18 (by decide) (fun _ => ?_) (fun hn => absurd hc hn)
      refine V.iconst ic_0 dX7_read_27 ?_
      refine V.istore_n dX7_read_28 (by decide) rfl ?_
      exact V.forget (LvX7_read_29 hQ 200 _ _ _ h) ⟨rfl, ⟨rfl, ⟨rfl, trivial⟩⟩⟩
    · refine V.if_eq (tgt := 27) dX7_read_18 (by decide) (fun hn => absurd hn hc) (fun _ => ?_)
      refine V.aload_n dX7_read_21 rfl ?_
      refine V.iconst ic_1 dX7_read_22 ?_
      obtain ⟨q3, h1, h⟩ := bdc h
      refine V.callV1 (mc := mX7_found) (d' := 0) dX7_read_23 lkX7_158 hfX7_found nC_0 gC_0 rfl (by decide) (Nat.le_of_ble_eq_true rfl) (Nat.le_of_ble_eq_true rfl) (vX7_found h1 ?_)
      obtain rfl := Option.some.inj h
      exact V.iret dX7_read_26 rfl hQ
def fX1_chosen_25_36 (K5 : Int32 → Int64 → Int32 → vMem → Option (Int64 × vMem)) (l1 : Int32) (l2 : Int64) (l4 : Int32) (σ : vMem) : Option (Int64 × vMem) :=
  K5 l1 l2 (l4 + (1 : Int32)) σ
theorem vX1_chosen_25_36 {ad : Nat → Nat} {Q : Option Value → vMem → Prop} {r : (Int64 × vMem)} {K5 : Int32 → Int64 → Int32 → vMem → Option (Int64 × vMem)} (hK5 : ∀ (l1 : Int32) (l2 : Int64) (l4 : Int32) (σ : vMem), K5 l1 l2 l4 σ = some r → V GC mX1_chosen ad Q 0 5 [some (.ref (ad 25)), some (.int l1), some (.long l2), none, some (.int l4)] [] σ) {l1 : Int32} {l2 : Int64} {l4 : Int32} {σ : vMem} (h : fX1_chosen_25_36 K5 l1 l2 l4 σ = some r) (hQ : Q (some (.long r.1)) r.2) : V GC mX1_chosen ad Q 0 36 [some (.ref (ad 25)), some (.int l1), some (.long l2), none, some (.int l4)] [] σ := by
  unfold fX1_chosen_25_36 at h
  refine V.iinc dX1_chosen_36 rfl (ii_1 _) (by decide) rfl ?_
  refine V.goto (tgt := 5) dX1_chosen_39 (by decide) ?_
  exact V.forget (hK5 _ _ _ _ h) ⟨rfl, ⟨rfl, ⟨rfl, ⟨rfl, trivial⟩⟩⟩⟩
def fX1_chosen_25_5 (K5 : Int32 → Int64 → Int32 → vMem → Option (Int64 × vMem)) (l1 : Int32) (l2 : Int64) (l4 : Int32) (σ : vMem) : Option (Int64 × vMem) :=
  if (σ.1 25 1) ≤ l4 then (some (l2, σ)) else
  (if ((l1 >>> (l4 &&& 31)) &&& (1 : Int32)) = (1 : Int32) then (if l4 < 0 ∨ 6 ≤ l4.toNatClampNeg then none else fX1_chosen_25_36 K5 l1 (l2 ||| ((1 : Int64) <<< ((σ.1 26 l4.toNatClampNeg).toInt64 &&& 63))) l4 σ) else
  (fX1_chosen_25_36 K5 l1 l2 l4 σ))
theorem vX1_chosen_25_5 {ad : Nat → Nat} {Q : Option Value → vMem → Prop} {r : (Int64 × vMem)} {K5 : Int32 → Int64 → Int32 → vMem → Option (Int64 × vMem)} (hK5 : ∀ (l1 : Int32) (l2 : Int64) (l4 : Int32) (σ : vMem), K5 l1 l2 l4 σ = some r → V GC mX1_chosen ad Q 0 5 [some (.ref (ad 25)), some (.int l1), some (.long l2), none, some (.int l4)] [] σ) {l1 : Int32} {l2 : Int64} {l4 : Int32} {σ : vMem} (h : fX1_chosen_25_5 K5 l1 l2 l4 σ = some r) (hQ : Q (some (.long r.1)) r.2) : V GC mX1_chosen ad Q 0 5 [some (.ref (ad 25)), some (.int l1), some (.long l2), none, some (.int l4)] [] σ := by
  unfold fX1_chosen_25_5 at h
  refine V.iload dX1_chosen_5 rfl ?_
  refine V.aload_n dX1_chosen_7 rfl ?_
  refine V.get dX1_chosen_8 flX1_15 nC_25 gC_25 (by decide) (eC_25_1 _ _) ?_
  rcases itc h with ⟨hc, h⟩ | ⟨hc, h⟩
  · refine V.icmp_ge (tgt := 42) dX1_chosen_11 (by decide) (fun _ => ?_) (fun hn => absurd hc hn)
    refine V.lload_n dX1_chosen_42 rfl ?_
    obtain rfl := Option.some.inj h
    exact V.lret dX1_chosen_43 rfl hQ
  · refine V.icmp_ge (tgt := 42) dX1_chosen_11 (by decide) (fun hn => absurd hn hc) (fun _ => ?_)
    refine V.iload_n dX1_chosen_14 rfl ?_
    refine V.iload dX1_chosen_15 rfl ?_
    refine V.ishr dX1_chosen_17 ?_
    refine V.iconst ic_1 dX1_chosen_18 ?_
    refine V.iand dX1_chosen_19 ?_
    refine V.iconst ic_1 dX1_chosen_20 ?_
    rcases itc h with ⟨hc, h⟩ | ⟨hc, h⟩
    · refine V.icmp_ne (tgt := 36) dX1_chosen_21 (by decide) (fun hn => absurd hc hn) (fun _ => ?_)
      refine V.lload_n dX1_chosen_24 rfl ?_
      refine V.lconst lc_1 dX1_chosen_25 ?_
      refine V.aload_n dX1_chosen_26 rfl ?_
      refine V.get dX1_chosen_27 flX1_9 nC_25 gC_25 (by decide) (eC_25_0 _ _) ?_
      refine V.iload dX1_chosen_30 rfl ?_
      obtain ⟨hb, h⟩ := ckn h
      refine V.iald dX1_chosen_32 nC_26 gC_26 hb ?_
      refine V.lshl dX1_chosen_33 ?_
      refine V.lor dX1_chosen_34 ?_
      refine V.lstore_n dX1_chosen_35 (by decide) rfl ?_
      exact V.forget (vX1_chosen_25_36 hK5 h hQ) ⟨rfl, ⟨rfl, ⟨rfl, ⟨rfl, trivial⟩⟩⟩⟩
    · refine V.icmp_ne (tgt := 36) dX1_chosen_21 (by decide) (fun _ => ?_) (fun hn => absurd hn hc)
      exact V.forget (vX1_chosen_25_36 hK5 h hQ) ⟨rfl, ⟨rfl, ⟨rfl, ⟨rfl, trivial⟩⟩⟩⟩
def LfX1_chosen_25_5 : Nat → Int32 → Int64 → Int32 → vMem → Option (Int64 × vMem)
  | 0, _, _, _, _ => none
  | n + 1, l1, l2, l4, σ => fX1_chosen_25_5 (LfX1_chosen_25_5 n) l1 l2 l4 σ
theorem LvX1_chosen_25_5 {ad : Nat → Nat} {Q : Option Value → vMem → Prop} {r : (Int64 × vMem)} (hQ : Q (some (.long r.1)) r.2) : ∀ (n : Nat) (l1 : Int32) (l2 : Int64) (l4 : Int32) (σ : vMem), LfX1_chosen_25_5 n l1 l2 l4 σ = some r → V GC mX1_chosen ad Q 0 5 [some (.ref (ad 25)), some (.int l1), some (.long l2), none, some (.int l4)] [] σ := by
  intro n
  induction n with
  | zero => intro l1 l2 l4 σ h; cases h
  | succ n ih => intro l1 l2 l4 σ h; exact vX1_chosen_25_5 ih h hQ
def fX1_chosen_25 (l1 : Int32) (σ : vMem) : Option (Int64 × vMem) :=
  LfX1_chosen_25_5 200 l1 (0 : Int64) (0 : Int32) σ
theorem vX1_chosen_25 {ad : Nat → Nat} {Q : Option Value → vMem → Prop} {r : (Int64 × vMem)} {l1 : Int32} {σ : vMem} (h : fX1_chosen_25 l1 σ = some r) (hQ : Q (some (.long r.1)) r.2) : V GC mX1_chosen ad Q 0 0 [some (.ref (ad 25)), some (.int l1), none, none, none] [] σ := by
  unfold fX1_chosen_25 at h
  refine V.lconst lc_0 dX1_chosen_0 ?_
  refine V.lstore_n dX1_chosen_1 (by decide) rfl ?_
  refine V.iconst ic_0 dX1_chosen_2 ?_
  refine V.istore dX1_chosen_3 (by decide) rfl ?_
  exact V.forget (LvX1_chosen_25_5 hQ 200 _ _ _ _ h) ⟨rfl, ⟨rfl, ⟨rfl, ⟨rfl, trivial⟩⟩⟩⟩
def fX1_all_25 (σ : vMem) : Option (Int64 × vMem) :=
  (fX1_chosen_25 (-1 : Int32) σ).bind fun q1 => some (q1.1, q1.2)
theorem vX1_all_25 {ad : Nat → Nat} {Q : Option Value → vMem → Prop} {r : (Int64 × vMem)} {σ : vMem} (h : fX1_all_25 σ = some r) (hQ : Q (some (.long r.1)) r.2) : V GC mX1_all ad Q 1 0 [some (.ref (ad 25))] [] σ := by
  unfold fX1_all_25 at h
  refine V.aload_n dX1_all_0 rfl ?_
  refine V.iconst ic_m1 dX1_all_1 ?_
  obtain ⟨q1, h1, h⟩ := bdc h
  refine V.callV1 (mc := mX1_chosen) (d' := 0) dX1_all_2 lkX1_19 hfX1_chosen nC_25 gC_25 rfl (by decide) (Nat.le_of_ble_eq_true rfl) (Nat.le_of_ble_eq_true rfl) (vX1_chosen_25 h1 ?_)
  obtain rfl := Option.some.inj h
  exact V.lret dX1_all_5 rfl hQ
def fX1_chosen_27_36 (K5 : Int32 → Int64 → Int32 → vMem → Option (Int64 × vMem)) (l1 : Int32) (l2 : Int64) (l4 : Int32) (σ : vMem) : Option (Int64 × vMem) :=
  K5 l1 l2 (l4 + (1 : Int32)) σ
theorem vX1_chosen_27_36 {ad : Nat → Nat} {Q : Option Value → vMem → Prop} {r : (Int64 × vMem)} {K5 : Int32 → Int64 → Int32 → vMem → Option (Int64 × vMem)} (hK5 : ∀ (l1 : Int32) (l2 : Int64) (l4 : Int32) (σ : vMem), K5 l1 l2 l4 σ = some r → V GC mX1_chosen ad Q 0 5 [some (.ref (ad 27)), some (.int l1), some (.long l2), none, some (.int l4)] [] σ) {l1 : Int32} {l2 : Int64} {l4 : Int32} {σ : vMem} (h : fX1_chosen_27_36 K5 l1 l2 l4 σ = some r) (hQ : Q (some (.long r.1)) r.2) : V GC mX1_chosen ad Q 0 36 [some (.ref (ad 27)), some (.int l1), some (.long l2), none, some (.int l4)] [] σ := by
  unfold fX1_chosen_27_36 at h
  refine V.iinc dX1_chosen_36 rfl (ii_1 _) (by decide) rfl ?_
  refine V.goto (tgt := 5) dX1_chosen_39 (by decide) ?_
  exact V.forget (hK5 _ _ _ _ h) ⟨rfl, ⟨rfl, ⟨rfl, ⟨rfl, trivial⟩⟩⟩⟩
def fX1_chosen_27_5 (K5 : Int32 → Int64 → Int32 → vMem → Option (Int64 × vMem)) (l1 : Int32) (l2 : Int64) (l4 : Int32) (σ : vMem) : Option (Int64 × vMem) :=
  if (σ.1 27 1) ≤ l4 then (some (l2, σ)) else
  (if ((l1 >>> (l4 &&& 31)) &&& (1 : Int32)) = (1 : Int32) then (if l4 < 0 ∨ 6 ≤ l4.toNatClampNeg then none else fX1_chosen_27_36 K5 l1 (l2 ||| ((1 : Int64) <<< ((σ.1 28 l4.toNatClampNeg).toInt64 &&& 63))) l4 σ) else
  (fX1_chosen_27_36 K5 l1 l2 l4 σ))
theorem vX1_chosen_27_5 {ad : Nat → Nat} {Q : Option Value → vMem → Prop} {r : (Int64 × vMem)} {K5 : Int32 → Int64 → Int32 → vMem → Option (Int64 × vMem)} (hK5 : ∀ (l1 : Int32) (l2 : Int64) (l4 : Int32) (σ : vMem), K5 l1 l2 l4 σ = some r → V GC mX1_chosen ad Q 0 5 [some (.ref (ad 27)), some (.int l1), some (.long l2), none, some (.int l4)] [] σ) {l1 : Int32} {l2 : Int64} {l4 : Int32} {σ : vMem} (h : fX1_chosen_27_5 K5 l1 l2 l4 σ = some r) (hQ : Q (some (.long r.1)) r.2) : V GC mX1_chosen ad Q 0 5 [some (.ref (ad 27)), some (.int l1), some (.long l2), none, some (.int l4)] [] σ := by
  unfold fX1_chosen_27_5 at h
  refine V.iload dX1_chosen_5 rfl ?_
  refine V.aload_n dX1_chosen_7 rfl ?_
  refine V.get dX1_chosen_8 flX1_15 nC_27 gC_27 (by decide) (eC_27_1 _ _) ?_
  rcases itc h with ⟨hc, h⟩ | ⟨hc, h⟩
  · refine V.icmp_ge (tgt := 42) dX1_chosen_11 (by decide) (fun _ => ?_) (fun hn => absurd hc hn)
    refine V.lload_n dX1_chosen_42 rfl ?_
    obtain rfl := Option.some.inj h
    exact V.lret dX1_chosen_43 rfl hQ
  · refine V.icmp_ge (tgt := 42) dX1_chosen_11 (by decide) (fun hn => absurd hn hc) (fun _ => ?_)
    refine V.iload_n dX1_chosen_14 rfl ?_
    refine V.iload dX1_chosen_15 rfl ?_
    refine V.ishr dX1_chosen_17 ?_
    refine V.iconst ic_1 dX1_chosen_18 ?_
    refine V.iand dX1_chosen_19 ?_
    refine V.iconst ic_1 dX1_chosen_20 ?_
    rcases itc h with ⟨hc, h⟩ | ⟨hc, h⟩
    · refine V.icmp_ne (tgt := 36) dX1_chosen_21 (by decide) (fun hn => absurd hc hn) (fun _ => ?_)
      refine V.lload_n dX1_chosen_24 rfl ?_
      refine V.lconst lc_1 dX1_chosen_25 ?_
      refine V.aload_n dX1_chosen_26 rfl ?_
      refine V.get dX1_chosen_27 flX1_9 nC_27 gC_27 (by decide) (eC_27_0 _ _) ?_
      refine V.iload dX1_chosen_30 rfl ?_
      obtain ⟨hb, h⟩ := ckn h
      refine V.iald dX1_chosen_32 nC_28 gC_28 hb ?_
      refine V.lshl dX1_chosen_33 ?_
      refine V.lor dX1_chosen_34 ?_
      refine V.lstore_n dX1_chosen_35 (by decide) rfl ?_
      exact V.forget (vX1_chosen_27_36 hK5 h hQ) ⟨rfl, ⟨rfl, ⟨rfl, ⟨rfl, trivial⟩⟩⟩⟩
    · refine V.icmp_ne (tgt := 36) dX1_chosen_21 (by decide) (fun _ => ?_) (fun hn => absurd hn hc)
      exact V.forget (vX1_chosen_27_36 hK5 h hQ) ⟨rfl, ⟨rfl, ⟨rfl, ⟨rfl, trivial⟩⟩⟩⟩
def LfX1_chosen_27_5 : Nat → Int32 → Int64 → Int32 → vMem → Option (Int64 × vMem)
  | 0, _, _, _, _ => none
  | n + 1, l1, l2, l4, σ => fX1_chosen_27_5 (LfX1_chosen_27_5 n) l1 l2 l4 σ
theorem LvX1_chosen_27_5 {ad : Nat → Nat} {Q : Option Value → vMem → Prop} {r : (Int64 × vMem)} (hQ : Q (some (.long r.1)) r.2) : ∀ (n : Nat) (l1 : Int32) (l2 : Int64) (l4 : Int32) (σ : vMem), LfX1_chosen_27_5 n l1 l2 l4 σ = some r → V GC mX1_chosen ad Q 0 5 [some (.ref (ad 27)), some (.int l1), some (.long l2), none, some (.int l4)] [] σ := by
  intro n
  induction n with
  | zero => intro l1 l2 l4 σ h; cases h
  | succ n ih => intro l1 l2 l4 σ h; exact vX1_chosen_27_5 ih h hQ
def fX1_chosen_27 (l1 : Int32) (σ : vMem) : Option (Int64 × vMem) :=
  LfX1_chosen_27_5 200 l1 (0 : Int64) (0 : Int32) σ
theorem vX1_chosen_27 {ad : Nat → Nat} {Q : Option Value → vMem → Prop} {r : (Int64 × vMem)} {l1 : Int32} {σ : vMem} (h : fX1_chosen_27 l1 σ = some r) (hQ : Q (some (.long r.1)) r.2) : V GC mX1_chosen ad Q 0 0 [some (.ref (ad 27)), some (.int l1), none, none, none] [] σ := by
  unfold fX1_chosen_27 at h
  refine V.lconst lc_0 dX1_chosen_0 ?_
  refine V.lstore_n dX1_chosen_1 (by decide) rfl ?_
  refine V.iconst ic_0 dX1_chosen_2 ?_
  refine V.istore dX1_chosen_3 (by decide) rfl ?_
  exact V.forget (LvX1_chosen_27_5 hQ 200 _ _ _ _ h) ⟨rfl, ⟨rfl, ⟨rfl, ⟨rfl, trivial⟩⟩⟩⟩
def fX1_all_27 (σ : vMem) : Option (Int64 × vMem) :=
  (fX1_chosen_27 (-1 : Int32) σ).bind fun q1 => some (q1.1, q1.2)
theorem vX1_all_27 {ad : Nat → Nat} {Q : Option Value → vMem → Prop} {r : (Int64 × vMem)} {σ : vMem} (h : fX1_all_27 σ = some r) (hQ : Q (some (.long r.1)) r.2) : V GC mX1_all ad Q 1 0 [some (.ref (ad 27))] [] σ := by
  unfold fX1_all_27 at h
  refine V.aload_n dX1_all_0 rfl ?_
  refine V.iconst ic_m1 dX1_all_1 ?_
  obtain ⟨q1, h1, h⟩ := bdc h
  refine V.callV1 (mc := mX1_chosen) (d' := 0) dX1_all_2 lkX1_19 hfX1_chosen nC_27 gC_27 rfl (by decide) (Nat.le_of_ble_eq_true rfl) (Nat.le_of_ble_eq_true rfl) (vX1_chosen_27 h1 ?_)
  obtain rfl := Option.some.inj h
  exact V.lret dX1_all_5 rfl hQ
def fX6_begin_167 (σ : vMem) : Option vMem :=
  some (vup σ 13 17 (-1 : Int32))
theorem vX6_begin_167 {ad : Nat → Nat} {Q : Option Value → vMem → Prop} {r : vMem} {σ : vMem} (h : fX6_begin_167 σ = some r) (hQ : Q none r) : V GC mX6_begin ad Q 2 167 [some (.ref (ad 13)), none] [] σ := by
  unfold fX6_begin_167 at h
  refine V.aload_n dX6_begin_167 rfl ?_
  refine V.iconst ic_m1 dX6_begin_168 ?_
  refine V.putI dX6_begin_169 fpX6_62 nC_13 gC_13 (by decide) rfl ?_
  obtain rfl := Option.some.inj h
  exact V.vret dX6_begin_172 rfl hQ
def fX6_begin_162 (σ : vMem) : Option vMem :=
  fX6_begin_167 (vup σ 13 16 (-1 : Int32))
theorem vX6_begin_162 {ad : Nat → Nat} {Q : Option Value → vMem → Prop} {r : vMem} {σ : vMem} (h : fX6_begin_162 σ = some r) (hQ : Q none r) : V GC mX6_begin ad Q 2 162 [some (.ref (ad 13)), none] [] σ := by
  unfold fX6_begin_162 at h
  refine V.aload_n dX6_begin_162 rfl ?_
  refine V.iconst ic_m1 dX6_begin_163 ?_
  refine V.putI dX6_begin_164 fpX6_59 nC_13 gC_13 (by decide) rfl ?_
  exact V.forget (vX6_begin_167 h hQ) ⟨rfl, trivial⟩
def fX6_begin_151 (K119 : Int32 → vMem → Option vMem) (l1 : Int32) (σ : vMem) : Option vMem :=
  K119 (l1 + (1 : Int32)) σ
theorem vX6_begin_151 {ad : Nat → Nat} {Q : Option Value → vMem → Prop} {r : vMem} {K119 : Int32 → vMem → Option vMem} (hK119 : ∀ (l1 : Int32) (σ : vMem), K119 l1 σ = some r → V GC mX6_begin ad Q 2 119 [some (.ref (ad 13)), some (.int l1)] [] σ) {l1 : Int32} {σ : vMem} (h : fX6_begin_151 K119 l1 σ = some r) (hQ : Q none r) : V GC mX6_begin ad Q 2 151 [some (.ref (ad 13)), some (.int l1)] [] σ := by
  unfold fX6_begin_151 at h
  refine V.iinc dX6_begin_151 rfl (ii_1 _) (by decide) rfl ?_
  refine V.goto (tgt := 119) dX6_begin_154 (by decide) ?_
  exact V.forget (hK119 _ _ h) ⟨rfl, ⟨rfl, trivial⟩⟩
def fX6_begin_144 (K119 : Int32 → vMem → Option vMem) (l1 : Int32) (σ : vMem) : Option vMem :=
  if l1 < 0 ∨ 9 ≤ l1.toNatClampNeg then none else fX6_begin_151 K119 l1 (vup σ 24 l1.toNatClampNeg (0 : Int32))
theorem vX6_begin_144 {ad : Nat → Nat} {Q : Option Value → vMem → Prop} {r : vMem} {K119 : Int32 → vMem → Option vMem} (hK119 : ∀ (l1 : Int32) (σ : vMem), K119 l1 σ = some r → V GC mX6_begin ad Q 2 119 [some (.ref (ad 13)), some (.int l1)] [] σ) {l1 : Int32} {σ : vMem} (h : fX6_begin_144 K119 l1 σ = some r) (hQ : Q none r) : V GC mX6_begin ad Q 2 144 [some (.ref (ad 13)), some (.int l1)] [] σ := by
  unfold fX6_begin_144 at h
  refine V.aload_n dX6_begin_144 rfl ?_
  refine V.get dX6_begin_145 flX6_49 nC_13 gC_13 (by decide) (eC_13_13 _ _) ?_
  refine V.iload_n dX6_begin_148 rfl ?_
  refine V.iconst ic_0 dX6_begin_149 ?_
  obtain ⟨hb, h⟩ := ckn h
  refine V.iast dX6_begin_150 nC_24 gC_24 hb ?_
  exact V.forget (vX6_begin_151 hK119 h hQ) ⟨rfl, ⟨rfl, trivial⟩⟩
def fX6_begin_137 (K119 : Int32 → vMem → Option vMem) (l1 : Int32) (σ : vMem) : Option vMem :=
  if l1 < 0 ∨ 9 ≤ l1.toNatClampNeg then none else fX6_begin_144 K119 l1 (vup σ 23 l1.toNatClampNeg (0 : Int32))
theorem vX6_begin_137 {ad : Nat → Nat} {Q : Option Value → vMem → Prop} {r : vMem} {K119 : Int32 → vMem → Option vMem} (hK119 : ∀ (l1 : Int32) (σ : vMem), K119 l1 σ = some r → V GC mX6_begin ad Q 2 119 [some (.ref (ad 13)), some (.int l1)] [] σ) {l1 : Int32} {σ : vMem} (h : fX6_begin_137 K119 l1 σ = some r) (hQ : Q none r) : V GC mX6_begin ad Q 2 137 [some (.ref (ad 13)), some (.int l1)] [] σ := by
  unfold fX6_begin_137 at h
  refine V.aload_n dX6_begin_137 rfl ?_
  refine V.get dX6_begin_138 flX6_46 nC_13 gC_13 (by decide) (eC_13_12 _ _) ?_
  refine V.iload_n dX6_begin_141 rfl ?_
  refine V.iconst ic_0 dX6_begin_142 ?_
  obtain ⟨hb, h⟩ := ckn h
  refine V.iast dX6_begin_143 nC_23 gC_23 hb ?_
  exact V.forget (vX6_begin_144 hK119 h hQ) ⟨rfl, ⟨rfl, trivial⟩⟩
def fX6_begin_119 (K119 : Int32 → vMem → Option vMem) (l1 : Int32) (σ : vMem) : Option vMem :=
  if (σ.1 5 0) ≤ l1 then (fX6_begin_162 (vup σ 13 15 (0 : Int32))) else
  (if l1 < 0 ∨ 9 ≤ l1.toNatClampNeg then none else fX6_begin_137 K119 l1 (vup σ 22 l1.toNatClampNeg (-1 : Int32)))
theorem vX6_begin_119 {ad : Nat → Nat} {Q : Option Value → vMem → Prop} {r : vMem} {K119 : Int32 → vMem → Option vMem} (hK119 : ∀ (l1 : Int32) (σ : vMem), K119 l1 σ = some r → V GC mX6_begin ad Q 2 119 [some (.ref (ad 13)), some (.int l1)] [] σ) {l1 : Int32} {σ : vMem} (h : fX6_begin_119 K119 l1 σ = some r) (hQ : Q none r) : V GC mX6_begin ad Q 2 119 [some (.ref (ad 13)), some (.int l1)] [] σ := by
  unfold fX6_begin_119 at h
  refine V.iload_n dX6_begin_119 rfl ?_
  refine V.aload_n dX6_begin_120 rfl ?_
  refine V.get dX6_begin_121 flX6_65 nC_13 gC_13 (by decide) (eC_13_0 _ _) ?_
  refine V.get dX6_begin_124 flX6_100 nC_5 gC_5 (by decide) (eC_5_0 _ _) ?_
  rcases itc h with ⟨hc, h⟩ | ⟨hc, h⟩
  · refine V.icmp_ge (tgt := 157) dX6_begin_127 (by decide) (fun _ => ?_) (fun hn => absurd hc hn)
    refine V.aload_n dX6_begin_157 rfl ?_
    refine V.iconst ic_0 dX6_begin_158 ?_
    refine V.putI dX6_begin_159 fpX6_56 nC_13 gC_13 (by decide) rfl ?_
    exact V.forget (vX6_begin_162 h hQ) ⟨rfl, trivial⟩
  · refine V.icmp_ge (tgt := 157) dX6_begin_127 (by decide) (fun hn => absurd hn hc) (fun _ => ?_)
    refine V.aload_n dX6_begin_130 rfl ?_
    refine V.get dX6_begin_131 flX6_43 nC_13 gC_13 (by decide) (eC_13_11 _ _) ?_
    refine V.iload_n dX6_begin_134 rfl ?_
    refine V.iconst ic_m1 dX6_begin_135 ?_
    obtain ⟨hb, h⟩ := ckn h
    refine V.iast dX6_begin_136 nC_22 gC_22 hb ?_
    exact V.forget (vX6_begin_137 hK119 h hQ) ⟨rfl, ⟨rfl, trivial⟩⟩
def LfX6_begin_119 : Nat → Int32 → vMem → Option vMem
  | 0, _, _ => none
  | n + 1, l1, σ => fX6_begin_119 (LfX6_begin_119 n) l1 σ
theorem LvX6_begin_119 {ad : Nat → Nat} {Q : Option Value → vMem → Prop} {r : vMem} (hQ : Q none r) : ∀ (n : Nat) (l1 : Int32) (σ : vMem), LfX6_begin_119 n l1 σ = some r → V GC mX6_begin ad Q 2 119 [some (.ref (ad 13)), some (.int l1)] [] σ := by
  intro n
  induction n with
  | zero => intro l1 σ h; cases h
  | succ n ih => intro l1 σ h; exact vX6_begin_119 ih h hQ
def fX6_begin_117 (σ : vMem) : Option vMem :=
  LfX6_begin_119 200 (0 : Int32) σ
theorem vX6_begin_117 {ad : Nat → Nat} {Q : Option Value → vMem → Prop} {r : vMem} {σ : vMem} (h : fX6_begin_117 σ = some r) (hQ : Q none r) : V GC mX6_begin ad Q 2 117 [some (.ref (ad 13)), none] [] σ := by
  unfold fX6_begin_117 at h
  refine V.iconst ic_0 dX6_begin_117 ?_
  refine V.istore_n dX6_begin_118 (by decide) rfl ?_
  exact V.forget (LvX6_begin_119 hQ 200 _ _ h) ⟨rfl, ⟨rfl, trivial⟩⟩
def fX6_begin_100 (K2 : Int32 → vMem → Option vMem) (l1 : Int32) (σ : vMem) : Option vMem :=
  K2 (l1 + (1 : Int32)) σ
theorem vX6_begin_100 {ad : Nat → Nat} {Q : Option Value → vMem → Prop} {r : vMem} {K2 : Int32 → vMem → Option vMem} (hK2 : ∀ (l1 : Int32) (σ : vMem), K2 l1 σ = some r → V GC mX6_begin ad Q 2 2 [some (.ref (ad 13)), some (.int l1)] [] σ) {l1 : Int32} {σ : vMem} (h : fX6_begin_100 K2 l1 σ = some r) (hQ : Q none r) : V GC mX6_begin ad Q 2 100 [some (.ref (ad 13)), some (.int l1)] [] σ := by
  unfold fX6_begin_100 at h
  refine V.iinc dX6_begin_100 rfl (ii_1 _) (by decide) rfl ?_
  refine V.goto (tgt := 2) dX6_begin_103 (by decide) ?_
  exact V.forget (hK2 _ _ h) ⟨rfl, ⟨rfl, trivial⟩⟩
def fX6_begin_78 (K2 : Int32 → vMem → Option vMem) (l1 : Int32) (σ : vMem) : Option vMem :=
  if (l1 * (3 : Int32)) < 0 ∨ (l1 * (21 : Int32)) < 0 ∨ (3 : Int32) < 0 ∨ 24 < (l1 * (3 : Int32)).toNatClampNeg + (3 : Int32).toNatClampNeg ∨ 168 < (l1 * (21 : Int32)).toNatClampNeg + (3 : Int32).toNatClampNeg then none else fX6_begin_100 K2 l1 (vcp σ 12 19 (l1 * (3 : Int32)).toNatClampNeg (l1 * (21 : Int32)).toNatClampNeg (3 : Int32).toNatClampNeg)
theorem vX6_begin_78 {ad : Nat → Nat} {Q : Option Value → vMem → Prop} {r : vMem} {K2 : Int32 → vMem → Option vMem} (hK2 : ∀ (l1 : Int32) (σ : vMem), K2 l1 σ = some r → V GC mX6_begin ad Q 2 2 [some (.ref (ad 13)), some (.int l1)] [] σ) {l1 : Int32} {σ : vMem} (h : fX6_begin_78 K2 l1 σ = some r) (hQ : Q none r) : V GC mX6_begin ad Q 2 78 [some (.ref (ad 13)), some (.int l1)] [] σ := by
  unfold fX6_begin_78 at h
  refine V.aload_n dX6_begin_78 rfl ?_
  refine V.get dX6_begin_79 flX6_65 nC_13 gC_13 (by decide) (eC_13_0 _ _) ?_
  refine V.get dX6_begin_82 flX6_91 nC_5 gC_5 (by decide) (eC_5_10 _ _) ?_
  refine V.iload_n dX6_begin_85 rfl ?_
  refine V.iconst ic_3 dX6_begin_86 ?_
  refine V.imul dX6_begin_87 ?_
  refine V.aload_n dX6_begin_88 rfl ?_
  refine V.get dX6_begin_89 flX6_34 nC_13 gC_13 (by decide) (eC_13_8 _ _) ?_
  refine V.iload_n dX6_begin_92 rfl ?_
  refine V.bipush bp_21 dX6_begin_93 ?_
  refine V.imul dX6_begin_95 ?_
  refine V.iconst ic_3 dX6_begin_96 ?_
  obtain ⟨hb, h⟩ := ckn h
  obtain ⟨hb1, hb2, hb3, hb4, hb5⟩ := ck5 hb
  refine V.copy dX6_begin_97 lkacX6_94 ac_nat ac_sta ac_ini nC_12 gC_12 nC_19 gC_19 hb1 hb2 hb3 hb4 hb5 (by decide) (Nat.le_of_ble_eq_true rfl) ?_
  exact V.forget (vX6_begin_100 hK2 h hQ) ⟨rfl, ⟨rfl, trivial⟩⟩
def fX6_begin_63 (K2 : Int32 → vMem → Option vMem) (l1 : Int32) (σ : vMem) : Option vMem :=
  if l1 < 0 ∨ 8 ≤ l1.toNatClampNeg then none else if l1 < 0 ∨ 8 ≤ l1.toNatClampNeg then none else fX6_begin_78 K2 l1 (vup σ 21 l1.toNatClampNeg (σ.1 11 l1.toNatClampNeg))
theorem vX6_begin_63 {ad : Nat → Nat} {Q : Option Value → vMem → Prop} {r : vMem} {K2 : Int32 → vMem → Option vMem} (hK2 : ∀ (l1 : Int32) (σ : vMem), K2 l1 σ = some r → V GC mX6_begin ad Q 2 2 [some (.ref (ad 13)), some (.int l1)] [] σ) {l1 : Int32} {σ : vMem} (h : fX6_begin_63 K2 l1 σ = some r) (hQ : Q none r) : V GC mX6_begin ad Q 2 63 [some (.ref (ad 13)), some (.int l1)] [] σ := by
  unfold fX6_begin_63 at h
  refine V.aload_n dX6_begin_63 rfl ?_
  refine V.get dX6_begin_64 flX6_40 nC_13 gC_13 (by decide) (eC_13_10 _ _) ?_
  refine V.iload_n dX6_begin_67 rfl ?_
  refine V.aload_n dX6_begin_68 rfl ?_
  refine V.get dX6_begin_69 flX6_65 nC_13 gC_13 (by decide) (eC_13_0 _ _) ?_
  refine V.get dX6_begin_72 flX6_88 nC_5 gC_5 (by decide) (eC_5_9 _ _) ?_
  refine V.iload_n dX6_begin_75 rfl ?_
  obtain ⟨hb, h⟩ := ckn h
  refine V.iald dX6_begin_76 nC_11 gC_11 hb ?_
  obtain ⟨hb, h⟩ := ckn h
  refine V.iast dX6_begin_77 nC_21 gC_21 hb ?_
  exact V.forget (vX6_begin_78 hK2 h hQ) ⟨rfl, ⟨rfl, trivial⟩⟩
def fX6_begin_56 (K2 : Int32 → vMem → Option vMem) (l1 : Int32) (σ : vMem) : Option vMem :=
  if l1 < 0 ∨ 8 ≤ l1.toNatClampNeg then none else fX6_begin_63 K2 l1 (vup σ 20 l1.toNatClampNeg (0 : Int32))
theorem vX6_begin_56 {ad : Nat → Nat} {Q : Option Value → vMem → Prop} {r : vMem} {K2 : Int32 → vMem → Option vMem} (hK2 : ∀ (l1 : Int32) (σ : vMem), K2 l1 σ = some r → V GC mX6_begin ad Q 2 2 [some (.ref (ad 13)), some (.int l1)] [] σ) {l1 : Int32} {σ : vMem} (h : fX6_begin_56 K2 l1 σ = some r) (hQ : Q none r) : V GC mX6_begin ad Q 2 56 [some (.ref (ad 13)), some (.int l1)] [] σ := by
  unfold fX6_begin_56 at h
  refine V.aload_n dX6_begin_56 rfl ?_
  refine V.get dX6_begin_57 flX6_37 nC_13 gC_13 (by decide) (eC_13_9 _ _) ?_
  refine V.iload_n dX6_begin_60 rfl ?_
  refine V.iconst ic_0 dX6_begin_61 ?_
  obtain ⟨hb, h⟩ := ckn h
  refine V.iast dX6_begin_62 nC_20 gC_20 hb ?_
  exact V.forget (vX6_begin_63 hK2 h hQ) ⟨rfl, ⟨rfl, trivial⟩⟩
def fX6_begin_49 (K2 : Int32 → vMem → Option vMem) (l1 : Int32) (σ : vMem) : Option vMem :=
  if l1 < 0 ∨ 8 ≤ l1.toNatClampNeg then none else fX6_begin_56 K2 l1 (vup σ 18 l1.toNatClampNeg (0 : Int32))
theorem vX6_begin_49 {ad : Nat → Nat} {Q : Option Value → vMem → Prop} {r : vMem} {K2 : Int32 → vMem → Option vMem} (hK2 : ∀ (l1 : Int32) (σ : vMem), K2 l1 σ = some r → V GC mX6_begin ad Q 2 2 [some (.ref (ad 13)), some (.int l1)] [] σ) {l1 : Int32} {σ : vMem} (h : fX6_begin_49 K2 l1 σ = some r) (hQ : Q none r) : V GC mX6_begin ad Q 2 49 [some (.ref (ad 13)), some (.int l1)] [] σ := by
  unfold fX6_begin_49 at h
  refine V.aload_n dX6_begin_49 rfl ?_
  refine V.get dX6_begin_50 flX6_31 nC_13 gC_13 (by decide) (eC_13_7 _ _) ?_
  refine V.iload_n dX6_begin_53 rfl ?_
  refine V.iconst ic_0 dX6_begin_54 ?_
  obtain ⟨hb, h⟩ := ckn h
  refine V.iast dX6_begin_55 nC_18 gC_18 hb ?_
  exact V.forget (vX6_begin_56 hK2 h hQ) ⟨rfl, ⟨rfl, trivial⟩⟩
def fX6_begin_42 (K2 : Int32 → vMem → Option vMem) (l1 : Int32) (σ : vMem) : Option vMem :=
  if l1 < 0 ∨ 8 ≤ l1.toNatClampNeg then none else fX6_begin_49 K2 l1 (vup σ 17 l1.toNatClampNeg (-1 : Int32))
theorem vX6_begin_42 {ad : Nat → Nat} {Q : Option Value → vMem → Prop} {r : vMem} {K2 : Int32 → vMem → Option vMem} (hK2 : ∀ (l1 : Int32) (σ : vMem), K2 l1 σ = some r → V GC mX6_begin ad Q 2 2 [some (.ref (ad 13)), some (.int l1)] [] σ) {l1 : Int32} {σ : vMem} (h : fX6_begin_42 K2 l1 σ = some r) (hQ : Q none r) : V GC mX6_begin ad Q 2 42 [some (.ref (ad 13)), some (.int l1)] [] σ := by
  unfold fX6_begin_42 at h
  refine V.aload_n dX6_begin_42 rfl ?_
  refine V.get dX6_begin_43 flX6_28 nC_13 gC_13 (by decide) (eC_13_6 _ _) ?_
  refine V.iload_n dX6_begin_46 rfl ?_
  refine V.iconst ic_m1 dX6_begin_47 ?_
  obtain ⟨hb, h⟩ := ckn h
  refine V.iast dX6_begin_48 nC_17 gC_17 hb ?_
  exact V.forget (vX6_begin_49 hK2 h hQ) ⟨rfl, ⟨rfl, trivial⟩⟩
def fX6_begin_35 (K2 : Int32 → vMem → Option vMem) (l1 : Int32) (σ : vMem) : Option vMem :=
  if l1 < 0 ∨ 8 ≤ l1.toNatClampNeg then none else fX6_begin_42 K2 l1 (vup σ 16 l1.toNatClampNeg (0 : Int32))
theorem vX6_begin_35 {ad : Nat → Nat} {Q : Option Value → vMem → Prop} {r : vMem} {K2 : Int32 → vMem → Option vMem} (hK2 : ∀ (l1 : Int32) (σ : vMem), K2 l1 σ = some r → V GC mX6_begin ad Q 2 2 [some (.ref (ad 13)), some (.int l1)] [] σ) {l1 : Int32} {σ : vMem} (h : fX6_begin_35 K2 l1 σ = some r) (hQ : Q none r) : V GC mX6_begin ad Q 2 35 [some (.ref (ad 13)), some (.int l1)] [] σ := by
  unfold fX6_begin_35 at h
  refine V.aload_n dX6_begin_35 rfl ?_
  refine V.get dX6_begin_36 flX6_25 nC_13 gC_13 (by decide) (eC_13_5 _ _) ?_
  refine V.iload_n dX6_begin_39 rfl ?_
  refine V.iconst ic_0 dX6_begin_40 ?_
  obtain ⟨hb, h⟩ := ckn h
  refine V.iast dX6_begin_41 nC_16 gC_16 hb ?_
  exact V.forget (vX6_begin_42 hK2 h hQ) ⟨rfl, ⟨rfl, trivial⟩⟩
def fX6_begin_20 (K2 : Int32 → vMem → Option vMem) (l1 : Int32) (σ : vMem) : Option vMem :=
  if l1 < 0 ∨ 8 ≤ l1.toNatClampNeg then none else if l1 < 0 ∨ 8 ≤ l1.toNatClampNeg then none else fX6_begin_35 K2 l1 (vup σ 15 l1.toNatClampNeg (σ.1 10 l1.toNatClampNeg))
theorem vX6_begin_20 {ad : Nat → Nat} {Q : Option Value → vMem → Prop} {r : vMem} {K2 : Int32 → vMem → Option vMem} (hK2 : ∀ (l1 : Int32) (σ : vMem), K2 l1 σ = some r → V GC mX6_begin ad Q 2 2 [some (.ref (ad 13)), some (.int l1)] [] σ) {l1 : Int32} {σ : vMem} (h : fX6_begin_20 K2 l1 σ = some r) (hQ : Q none r) : V GC mX6_begin ad Q 2 20 [some (.ref (ad 13)), some (.int l1)] [] σ := by
  unfold fX6_begin_20 at h
  refine V.aload_n dX6_begin_20 rfl ?_
  refine V.get dX6_begin_21 flX6_22 nC_13 gC_13 (by decide) (eC_13_4 _ _) ?_
  refine V.iload_n dX6_begin_24 rfl ?_
  refine V.aload_n dX6_begin_25 rfl ?_
  refine V.get dX6_begin_26 flX6_65 nC_13 gC_13 (by decide) (eC_13_0 _ _) ?_
  refine V.get dX6_begin_29 flX6_87 nC_5 gC_5 (by decide) (eC_5_8 _ _) ?_
  refine V.iload_n dX6_begin_32 rfl ?_
  obtain ⟨hb, h⟩ := ckn h
  refine V.iald dX6_begin_33 nC_10 gC_10 hb ?_
  obtain ⟨hb, h⟩ := ckn h
  refine V.iast dX6_begin_34 nC_15 gC_15 hb ?_
  exact V.forget (vX6_begin_35 hK2 h hQ) ⟨rfl, ⟨rfl, trivial⟩⟩
def fX6_begin_2 (K2 : Int32 → vMem → Option vMem) (l1 : Int32) (σ : vMem) : Option vMem :=
  if (σ.1 5 5) ≤ l1 then (fX6_begin_117 (vup σ 13 14 (σ.1 5 5))) else
  (if l1 < 0 ∨ 8 ≤ l1.toNatClampNeg then none else fX6_begin_20 K2 l1 (vup σ 14 l1.toNatClampNeg (-1 : Int32)))
theorem vX6_begin_2 {ad : Nat → Nat} {Q : Option Value → vMem → Prop} {r : vMem} {K2 : Int32 → vMem → Option vMem} (hK2 : ∀ (l1 : Int32) (σ : vMem), K2 l1 σ = some r → V GC mX6_begin ad Q 2 2 [some (.ref (ad 13)), some (.int l1)] [] σ) {l1 : Int32} {σ : vMem} (h : fX6_begin_2 K2 l1 σ = some r) (hQ : Q none r) : V GC mX6_begin ad Q 2 2 [some (.ref (ad 13)), some (.int l1)] [] σ := by
  unfold fX6_begin_2 at h
  refine V.iload_n dX6_begin_2 rfl ?_
  refine V.aload_n dX6_begin_3 rfl ?_
  refine V.get dX6_begin_4 flX6_65 nC_13 gC_13 (by decide) (eC_13_0 _ _) ?_
  refine V.get dX6_begin_7 flX6_82 nC_5 gC_5 (by decide) (eC_5_5 _ _) ?_
  rcases itc h with ⟨hc, h⟩ | ⟨hc, h⟩
  · refine V.icmp_ge (tgt := 106) dX6_begin_10 (by decide) (fun _ => ?_) (fun hn => absurd hc hn)
    refine V.aload_n dX6_begin_106 rfl ?_
    refine V.aload_n dX6_begin_107 rfl ?_
    refine V.get dX6_begin_108 flX6_65 nC_13 gC_13 (by decide) (eC_13_0 _ _) ?_
    refine V.get dX6_begin_111 flX6_82 nC_5 gC_5 (by decide) (eC_5_5 _ _) ?_
    refine V.putI dX6_begin_114 fpX6_52 nC_13 gC_13 (by decide) rfl ?_
    exact V.forget (vX6_begin_117 h hQ) ⟨rfl, trivial⟩
  · refine V.icmp_ge (tgt := 106) dX6_begin_10 (by decide) (fun hn => absurd hn hc) (fun _ => ?_)
    refine V.aload_n dX6_begin_13 rfl ?_
    refine V.get dX6_begin_14 flX6_18 nC_13 gC_13 (by decide) (eC_13_3 _ _) ?_
    refine V.iload_n dX6_begin_17 rfl ?_
    refine V.iconst ic_m1 dX6_begin_18 ?_
    obtain ⟨hb, h⟩ := ckn h
    refine V.iast dX6_begin_19 nC_14 gC_14 hb ?_
    exact V.forget (vX6_begin_20 hK2 h hQ) ⟨rfl, ⟨rfl, trivial⟩⟩
def LfX6_begin_2 : Nat → Int32 → vMem → Option vMem
  | 0, _, _ => none
  | n + 1, l1, σ => fX6_begin_2 (LfX6_begin_2 n) l1 σ
theorem LvX6_begin_2 {ad : Nat → Nat} {Q : Option Value → vMem → Prop} {r : vMem} (hQ : Q none r) : ∀ (n : Nat) (l1 : Int32) (σ : vMem), LfX6_begin_2 n l1 σ = some r → V GC mX6_begin ad Q 2 2 [some (.ref (ad 13)), some (.int l1)] [] σ := by
  intro n
  induction n with
  | zero => intro l1 σ h; cases h
  | succ n ih => intro l1 σ h; exact vX6_begin_2 ih h hQ
def fX6_begin (σ : vMem) : Option vMem :=
  LfX6_begin_2 200 (0 : Int32) σ
theorem vX6_begin {ad : Nat → Nat} {Q : Option Value → vMem → Prop} {r : vMem} {σ : vMem} (h : fX6_begin σ = some r) (hQ : Q none r) : V GC mX6_begin ad Q 2 0 [some (.ref (ad 13)), none] [] σ := by
  unfold fX6_begin at h
  refine V.iconst ic_0 dX6_begin_0 ?_
  refine V.istore_n dX6_begin_1 (by decide) rfl ?_
  exact V.forget (LvX6_begin_2 hQ 200 _ _ h) ⟨rfl, ⟨rfl, trivial⟩⟩
def fX6_arrive_60 (K2 : Int32 → Int32 → vMem → Option vMem) (l1 : Int32) (l2 : Int32) (σ : vMem) : Option vMem :=
  K2 l1 (l2 + (1 : Int32)) σ
theorem vX6_arrive_60 {ad : Nat → Nat} {Q : Option Value → vMem → Prop} {r : vMem} {K2 : Int32 → Int32 → vMem → Option vMem} (hK2 : ∀ (l1 : Int32) (l2 : Int32) (σ : vMem), K2 l1 l2 σ = some r → V GC mX6_arrive ad Q 0 2 [some (.ref (ad 13)), some (.int l1), some (.int l2)] [] σ) {l1 : Int32} {l2 : Int32} {σ : vMem} (h : fX6_arrive_60 K2 l1 l2 σ = some r) (hQ : Q none r) : V GC mX6_arrive ad Q 0 60 [some (.ref (ad 13)), some (.int l1), some (.int l2)] [] σ := by
  unfold fX6_arrive_60 at h
  refine V.iinc dX6_arrive_60 rfl (ii_1 _) (by decide) rfl ?_
  refine V.goto (tgt := 2) dX6_arrive_63 (by decide) ?_
  exact V.forget (hK2 _ _ _ h) ⟨rfl, ⟨rfl, ⟨rfl, trivial⟩⟩⟩
def fX6_arrive_50 (K2 : Int32 → Int32 → vMem → Option vMem) (l1 : Int32) (l2 : Int32) (σ : vMem) : Option vMem :=
  fX6_arrive_60 K2 l1 l2 (vup σ 13 14 ((σ.1 13 14) - (1 : Int32)))
theorem vX6_arrive_50 {ad : Nat → Nat} {Q : Option Value → vMem → Prop} {r : vMem} {K2 : Int32 → Int32 → vMem → Option vMem} (hK2 : ∀ (l1 : Int32) (l2 : Int32) (σ : vMem), K2 l1 l2 σ = some r → V GC mX6_arrive ad Q 0 2 [some (.ref (ad 13)), some (.int l1), some (.int l2)] [] σ) {l1 : Int32} {l2 : Int32} {σ : vMem} (h : fX6_arrive_50 K2 l1 l2 σ = some r) (hQ : Q none r) : V GC mX6_arrive ad Q 0 50 [some (.ref (ad 13)), some (.int l1), some (.int l2)] [] σ := by
  unfold fX6_arrive_50 at h
  refine V.aload_n dX6_arrive_50 rfl ?_
  refine V.dup rfl dX6_arrive_51 ?_
  refine V.get dX6_arrive_52 flX6_52 nC_13 gC_13 (by decide) (eC_13_14 _ _) ?_
  refine V.iconst ic_1 dX6_arrive_55 ?_
  refine V.isub dX6_arrive_56 ?_
  refine V.putI dX6_arrive_57 fpX6_52 nC_13 gC_13 (by decide) rfl ?_
  exact V.forget (vX6_arrive_60 hK2 h hQ) ⟨rfl, ⟨rfl, ⟨rfl, trivial⟩⟩⟩
def fX6_arrive_33 (K2 : Int32 → Int32 → vMem → Option vMem) (l1 : Int32) (l2 : Int32) (σ : vMem) : Option vMem :=
  if (σ.1 5 0) = 0 then (if l2 < 0 ∨ 8 ≤ l2.toNatClampNeg then none else fX6_arrive_50 K2 l1 l2 (vup σ 17 l2.toNatClampNeg l1)) else
  (fX6_arrive_60 K2 l1 l2 σ)
theorem vX6_arrive_33 {ad : Nat → Nat} {Q : Option Value → vMem → Prop} {r : vMem} {K2 : Int32 → Int32 → vMem → Option vMem} (hK2 : ∀ (l1 : Int32) (l2 : Int32) (σ : vMem), K2 l1 l2 σ = some r → V GC mX6_arrive ad Q 0 2 [some (.ref (ad 13)), some (.int l1), some (.int l2)] [] σ) {l1 : Int32} {l2 : Int32} {σ : vMem} (h : fX6_arrive_33 K2 l1 l2 σ = some r) (hQ : Q none r) : V GC mX6_arrive ad Q 0 33 [some (.ref (ad 13)), some (.int l1), some (.int l2)] [] σ := by
  unfold fX6_arrive_33 at h
  refine V.aload_n dX6_arrive_33 rfl ?_
  refine V.get dX6_arrive_34 flX6_65 nC_13 gC_13 (by decide) (eC_13_0 _ _) ?_
  refine V.get dX6_arrive_37 flX6_100 nC_5 gC_5 (by decide) (eC_5_0 _ _) ?_
  rcases itc h with ⟨hc, h⟩ | ⟨hc, h⟩
  · refine V.if_ne (tgt := 60) dX6_arrive_40 (by decide) (fun hn => absurd hc hn) (fun _ => ?_)
    refine V.aload_n dX6_arrive_43 rfl ?_
    refine V.get dX6_arrive_44 flX6_28 nC_13 gC_13 (by decide) (eC_13_6 _ _) ?_
    refine V.iload_n dX6_arrive_47 rfl ?_
    refine V.iload_n dX6_arrive_48 rfl ?_
    obtain ⟨hb, h⟩ := ckn h
    refine V.iast dX6_arrive_49 nC_17 gC_17 hb ?_
    exact V.forget (vX6_arrive_50 hK2 h hQ) ⟨rfl, ⟨rfl, ⟨rfl, trivial⟩⟩⟩
  · refine V.if_ne (tgt := 60) dX6_arrive_40 (by decide) (fun _ => ?_) (fun hn => absurd hn hc)
    exact V.forget (vX6_arrive_60 hK2 h hQ) ⟨rfl, ⟨rfl, ⟨rfl, trivial⟩⟩⟩
def fX6_arrive_2 (K2 : Int32 → Int32 → vMem → Option vMem) (l1 : Int32) (l2 : Int32) (σ : vMem) : Option vMem :=
  if (σ.1 5 5) ≤ l2 then (some σ) else
  (if l2 < 0 ∨ 8 ≤ l2.toNatClampNeg then none else if (σ.1 9 l2.toNatClampNeg) = l1 then (if l2 < 0 ∨ 8 ≤ l2.toNatClampNeg then none else fX6_arrive_33 K2 l1 l2 (vup σ 14 l2.toNatClampNeg (0 : Int32))) else
  (fX6_arrive_60 K2 l1 l2 σ))
theorem vX6_arrive_2 {ad : Nat → Nat} {Q : Option Value → vMem → Prop} {r : vMem} {K2 : Int32 → Int32 → vMem → Option vMem} (hK2 : ∀ (l1 : Int32) (l2 : Int32) (σ : vMem), K2 l1 l2 σ = some r → V GC mX6_arrive ad Q 0 2 [some (.ref (ad 13)), some (.int l1), some (.int l2)] [] σ) {l1 : Int32} {l2 : Int32} {σ : vMem} (h : fX6_arrive_2 K2 l1 l2 σ = some r) (hQ : Q none r) : V GC mX6_arrive ad Q 0 2 [some (.ref (ad 13)), some (.int l1), some (.int l2)] [] σ := by
  unfold fX6_arrive_2 at h
  refine V.iload_n dX6_arrive_2 rfl ?_
  refine V.aload_n dX6_arrive_3 rfl ?_
  refine V.get dX6_arrive_4 flX6_65 nC_13 gC_13 (by decide) (eC_13_0 _ _) ?_
  refine V.get dX6_arrive_7 flX6_82 nC_5 gC_5 (by decide) (eC_5_5 _ _) ?_
  rcases itc h with ⟨hc, h⟩ | ⟨hc, h⟩
  · refine V.icmp_ge (tgt := 66) dX6_arrive_10 (by decide) (fun _ => ?_) (fun hn => absurd hc hn)
    obtain rfl := Option.some.inj h
    exact V.vret dX6_arrive_66 rfl hQ
  · refine V.icmp_ge (tgt := 66) dX6_arrive_10 (by decide) (fun hn => absurd hn hc) (fun _ => ?_)
    refine V.aload_n dX6_arrive_13 rfl ?_
    refine V.get dX6_arrive_14 flX6_65 nC_13 gC_13 (by decide) (eC_13_0 _ _) ?_
    refine V.get dX6_arrive_17 flX6_103 nC_5 gC_5 (by decide) (eC_5_7 _ _) ?_
    refine V.iload_n dX6_arrive_20 rfl ?_
    obtain ⟨hb, h⟩ := ckn h
    refine V.iald dX6_arrive_21 nC_9 gC_9 hb ?_
    refine V.iload_n dX6_arrive_22 rfl ?_
    rcases itc h with ⟨hc, h⟩ | ⟨hc, h⟩
    · refine V.icmp_ne (tgt := 60) dX6_arrive_23 (by decide) (fun hn => absurd hc hn) (fun _ => ?_)
      refine V.aload_n dX6_arrive_26 rfl ?_
      refine V.get dX6_arrive_27 flX6_18 nC_13 gC_13 (by decide) (eC_13_3 _ _) ?_
      refine V.iload_n dX6_arrive_30 rfl ?_
      refine V.iconst ic_0 dX6_arrive_31 ?_
      obtain ⟨hb, h⟩ := ckn h
      refine V.iast dX6_arrive_32 nC_14 gC_14 hb ?_
      exact V.forget (vX6_arrive_33 hK2 h hQ) ⟨rfl, ⟨rfl, ⟨rfl, trivial⟩⟩⟩
    · refine V.icmp_ne (tgt := 60) dX6_arrive_23 (by decide) (fun _ => ?_) (fun hn => absurd hn hc)
      exact V.forget (vX6_arrive_60 hK2 h hQ) ⟨rfl, ⟨rfl, ⟨rfl, trivial⟩⟩⟩
def LfX6_arrive_2 : Nat → Int32 → Int32 → vMem → Option vMem
  | 0, _, _, _ => none
  | n + 1, l1, l2, σ => fX6_arrive_2 (LfX6_arrive_2 n) l1 l2 σ
theorem LvX6_arrive_2 {ad : Nat → Nat} {Q : Option Value → vMem → Prop} {r : vMem} (hQ : Q none r) : ∀ (n : Nat) (l1 : Int32) (l2 : Int32) (σ : vMem), LfX6_arrive_2 n l1 l2 σ = some r → V GC mX6_arrive ad Q 0 2 [some (.ref (ad 13)), some (.int l1), some (.int l2)] [] σ := by
  intro n
  induction n with
  | zero => intro l1 l2 σ h; cases h
  | succ n ih => intro l1 l2 σ h; exact vX6_arrive_2 ih h hQ
def fX6_arrive (l1 : Int32) (σ : vMem) : Option vMem :=
  LfX6_arrive_2 200 l1 (0 : Int32) σ
theorem vX6_arrive {ad : Nat → Nat} {Q : Option Value → vMem → Prop} {r : vMem} {l1 : Int32} {σ : vMem} (h : fX6_arrive l1 σ = some r) (hQ : Q none r) : V GC mX6_arrive ad Q 0 0 [some (.ref (ad 13)), some (.int l1), none] [] σ := by
  unfold fX6_arrive at h
  refine V.iconst ic_0 dX6_arrive_0 ?_
  refine V.istore_n dX6_arrive_1 (by decide) rfl ?_
  exact V.forget (LvX6_arrive_2 hQ 200 _ _ _ h) ⟨rfl, ⟨rfl, ⟨rfl, trivial⟩⟩⟩
def fX6_wantsBite_62 (s0 : Int32) (σ : vMem) : Option (Int32 × vMem) :=
  if ¬ (s0 = 0 ∨ s0 = 1) then none else some (s0, σ)
theorem vX6_wantsBite_62 {ad : Nat → Nat} {Q : Option Value → vMem → Prop} {r : (Int32 × vMem)} {s0 : Int32} {σ : vMem} (h : fX6_wantsBite_62 s0 σ = some r) (hQ : Q (some (.int r.1)) r.2) : V GC mX6_wantsBite ad Q 0 62 [none, none, none, none] [.int s0] σ := by
  unfold fX6_wantsBite_62 at h
  obtain ⟨hb, h⟩ := ckn h
  obtain rfl := Option.some.inj h
  exact V.zret dX6_wantsBite_62 rfl (Decidable.not_not.mp hb) hQ
def fX6_wantsBite_61 (σ : vMem) : Option (Int32 × vMem) :=
  fX6_wantsBite_62 (0 : Int32) σ
theorem vX6_wantsBite_61 {ad : Nat → Nat} {Q : Option Value → vMem → Prop} {r : (Int32 × vMem)} {σ : vMem} (h : fX6_wantsBite_61 σ = some r) (hQ : Q (some (.int r.1)) r.2) : V GC mX6_wantsBite ad Q 0 61 [none, none, none, none] [] σ := by
  unfold fX6_wantsBite_61 at h
  refine V.iconst ic_0 dX6_wantsBite_61 ?_
  exact V.forget (vX6_wantsBite_62 h hQ) trivial
def fX6_wantsBite_33 (l1 : Int32) (s0 : Int32) (σ : vMem) : Option (Int32 × vMem) :=
  if s0 = 0 then (fX6_wantsBite_61 σ) else
  (if l1 < 0 ∨ 9 ≤ l1.toNatClampNeg then none else if (σ.1 7 l1.toNatClampNeg) ≤ 0 then (fX6_wantsBite_61 σ) else
  (if (σ.1 13 2) = 0 then (fX6_wantsBite_62 (1 : Int32) σ) else
  (fX6_wantsBite_61 σ)))
theorem vX6_wantsBite_33 {ad : Nat → Nat} {Q : Option Value → vMem → Prop} {r : (Int32 × vMem)} {l1 : Int32} {s0 : Int32} {σ : vMem} (h : fX6_wantsBite_33 l1 s0 σ = some r) (hQ : Q (some (.int r.1)) r.2) : V GC mX6_wantsBite ad Q 0 33 [some (.ref (ad 13)), some (.int l1), none, none] [.int s0] σ := by
  unfold fX6_wantsBite_33 at h
  refine V.istore_n dX6_wantsBite_33 (by decide) rfl ?_
  refine V.iload_n dX6_wantsBite_34 rfl ?_
  rcases itc h with ⟨hc, h⟩ | ⟨hc, h⟩
  · refine V.if_eq (tgt := 61) dX6_wantsBite_35 (by decide) (fun _ => ?_) (fun hn => absurd hc hn)
    exact V.forget (vX6_wantsBite_61 h hQ) trivial
  · refine V.if_eq (tgt := 61) dX6_wantsBite_35 (by decide) (fun hn => absurd hn hc) (fun _ => ?_)
    refine V.aload_n dX6_wantsBite_38 rfl ?_
    refine V.get dX6_wantsBite_39 flX6_65 nC_13 gC_13 (by decide) (eC_13_0 _ _) ?_
    refine V.get dX6_wantsBite_42 flX6_120 nC_5 gC_5 (by decide) (eC_5_3 _ _) ?_
    refine V.iload_n dX6_wantsBite_45 rfl ?_
    obtain ⟨hb, h⟩ := ckn h
    refine V.iald dX6_wantsBite_46 nC_7 gC_7 hb ?_
    rcases itc h with ⟨hc, h⟩ | ⟨hc, h⟩
    · refine V.if_le (tgt := 61) dX6_wantsBite_47 (by decide) (fun _ => ?_) (fun hn => absurd hc hn)
      exact V.forget (vX6_wantsBite_61 h hQ) trivial
    · refine V.if_le (tgt := 61) dX6_wantsBite_47 (by decide) (fun hn => absurd hn hc) (fun _ => ?_)
      refine V.aload_n dX6_wantsBite_50 rfl ?_
      refine V.get dX6_wantsBite_51 flX6_15 nC_13 gC_13 (by decide) (eC_13_2 _ _) ?_
      rcases itc h with ⟨hc, h⟩ | ⟨hc, h⟩
      · refine V.if_ne (tgt := 61) dX6_wantsBite_54 (by decide) (fun hn => absurd hc hn) (fun _ => ?_)
        refine V.iconst ic_1 dX6_wantsBite_57 ?_
        refine V.goto (tgt := 62) dX6_wantsBite_58 (by decide) ?_
        exact V.forget (vX6_wantsBite_62 h hQ) trivial
      · refine V.if_ne (tgt := 61) dX6_wantsBite_54 (by decide) (fun _ => ?_) (fun hn => absurd hn hc)
        exact V.forget (vX6_wantsBite_61 h hQ) trivial
def fX6_wantsBite_28 (l1 : Int32) (σ : vMem) : Option (Int32 × vMem) :=
  fX6_wantsBite_33 l1 (1 : Int32) σ
theorem vX6_wantsBite_28 {ad : Nat → Nat} {Q : Option Value → vMem → Prop} {r : (Int32 × vMem)} {l1 : Int32} {σ : vMem} (h : fX6_wantsBite_28 l1 σ = some r) (hQ : Q (some (.int r.1)) r.2) : V GC mX6_wantsBite ad Q 0 28 [some (.ref (ad 13)), some (.int l1), none, none] [] σ := by
  unfold fX6_wantsBite_28 at h
  refine V.iconst ic_1 dX6_wantsBite_28 ?_
  refine V.goto (tgt := 33) dX6_wantsBite_29 (by decide) ?_
  exact V.forget (vX6_wantsBite_33 h hQ) ⟨rfl, ⟨rfl, trivial⟩⟩
def fX6_wantsBite (l1 : Int32) (l2 : Int32) (σ : vMem) : Option (Int32 × vMem) :=
  if l1 < 0 ∨ 9 ≤ l1.toNatClampNeg then none else if (σ.1 22 l1.toNatClampNeg) = (-1 : Int32) then (fX6_wantsBite_28 l1 σ) else
  (if l1 < 0 ∨ 9 ≤ l1.toNatClampNeg then none else if (l2 - (σ.1 22 l1.toNatClampNeg)) ≤ (σ.1 5 11) then (fX6_wantsBite_33 l1 (0 : Int32) σ) else
  (fX6_wantsBite_28 l1 σ))
theorem vX6_wantsBite {ad : Nat → Nat} {Q : Option Value → vMem → Prop} {r : (Int32 × vMem)} {l1 : Int32} {l2 : Int32} {σ : vMem} (h : fX6_wantsBite l1 l2 σ = some r) (hQ : Q (some (.int r.1)) r.2) : V GC mX6_wantsBite ad Q 0 0 [some (.ref (ad 13)), some (.int l1), some (.int l2), none] [] σ := by
  unfold fX6_wantsBite at h
  refine V.aload_n dX6_wantsBite_0 rfl ?_
  refine V.get dX6_wantsBite_1 flX6_43 nC_13 gC_13 (by decide) (eC_13_11 _ _) ?_
  refine V.iload_n dX6_wantsBite_4 rfl ?_
  obtain ⟨hb, h⟩ := ckn h
  refine V.iald dX6_wantsBite_5 nC_22 gC_22 hb ?_
  refine V.iconst ic_m1 dX6_wantsBite_6 ?_
  rcases itc h with ⟨hc, h⟩ | ⟨hc, h⟩
  · refine V.icmp_eq (tgt := 28) dX6_wantsBite_7 (by decide) (fun _ => ?_) (fun hn => absurd hc hn)
    exact V.forget (vX6_wantsBite_28 h hQ) ⟨rfl, ⟨rfl, trivial⟩⟩
  · refine V.icmp_eq (tgt := 28) dX6_wantsBite_7 (by decide) (fun hn => absurd hn hc) (fun _ => ?_)
    refine V.iload_n dX6_wantsBite_10 rfl ?_
    refine V.aload_n dX6_wantsBite_11 rfl ?_
    refine V.get dX6_wantsBite_12 flX6_43 nC_13 gC_13 (by decide) (eC_13_11 _ _) ?_
    refine V.iload_n dX6_wantsBite_15 rfl ?_
    obtain ⟨hb, h⟩ := ckn h
    refine V.iald dX6_wantsBite_16 nC_22 gC_22 hb ?_
    refine V.isub dX6_wantsBite_17 ?_
    refine V.aload_n dX6_wantsBite_18 rfl ?_
    refine V.get dX6_wantsBite_19 flX6_65 nC_13 gC_13 (by decide) (eC_13_0 _ _) ?_
    refine V.get dX6_wantsBite_22 flX6_117 nC_5 gC_5 (by decide) (eC_5_11 _ _) ?_
    rcases itc h with ⟨hc, h⟩ | ⟨hc, h⟩
    · refine V.icmp_le (tgt := 32) dX6_wantsBite_25 (by decide) (fun _ => ?_) (fun hn => absurd hc hn)
      refine V.iconst ic_0 dX6_wantsBite_32 ?_
      exact V.forget (vX6_wantsBite_33 h hQ) ⟨rfl, ⟨rfl, trivial⟩⟩
    · refine V.icmp_le (tgt := 32) dX6_wantsBite_25 (by decide) (fun hn => absurd hn hc) (fun _ => ?_)
      exact V.forget (vX6_wantsBite_28 h hQ) ⟨rfl, ⟨rfl, trivial⟩⟩
def fX6_bite_192 (σ : vMem) : Option vMem :=
  some σ
theorem vX6_bite_192 {ad : Nat → Nat} {Q : Option Value → vMem → Prop} {r : vMem} {σ : vMem} (h : fX6_bite_192 σ = some r) (hQ : Q none r) : V GC mX6_bite ad Q 0 192 [none, none, none, none, none] [] σ := by
  unfold fX6_bite_192 at h
  obtain rfl := Option.some.inj h
  exact V.vret dX6_bite_192 rfl hQ
def fX6_bite_182 (l1 : Int32) (σ : vMem) : Option vMem :=
  if l1 < 0 ∨ 8 ≤ l1.toNatClampNeg then none else if l1 < 0 ∨ 8 ≤ l1.toNatClampNeg then none else fX6_bite_192 (vup σ 21 l1.toNatClampNeg ((σ.1 21 l1.toNatClampNeg) + (1 : Int32)))
theorem vX6_bite_182 {ad : Nat → Nat} {Q : Option Value → vMem → Prop} {r : vMem} {l1 : Int32} {σ : vMem} (h : fX6_bite_182 l1 σ = some r) (hQ : Q none r) : V GC mX6_bite ad Q 0 182 [some (.ref (ad 13)), some (.int l1), none, none, none] [] σ := by
  unfold fX6_bite_182 at h
  refine V.aload_n dX6_bite_182 rfl ?_
  refine V.get dX6_bite_183 flX6_40 nC_13 gC_13 (by decide) (eC_13_10 _ _) ?_
  refine V.iload_n dX6_bite_186 rfl ?_
  refine V.dup2 rfl rfl dX6_bite_187 ?_
  obtain ⟨hb, h⟩ := ckn h
  refine V.iald dX6_bite_188 nC_21 gC_21 hb ?_
  refine V.iconst ic_1 dX6_bite_189 ?_
  refine V.iadd dX6_bite_190 ?_
  obtain ⟨hb, h⟩ := ckn h
  refine V.iast dX6_bite_191 nC_21 gC_21 hb ?_
  exact V.forget (vX6_bite_192 h hQ) trivial
def fX6_bite_105 (l1 : Int32) (l2 : Int32) (σ : vMem) : Option vMem :=
  if l2 < 0 ∨ 9 ≤ l2.toNatClampNeg then none else if (σ.1 6 l2.toNatClampNeg) = (1 : Int32) then (if l1 < 0 ∨ 8 ≤ l1.toNatClampNeg then none else if l2 < 0 ∨ 9 ≤ l2.toNatClampNeg then none else if ((l1 * (21 : Int32)) + (σ.1 20 l1.toNatClampNeg)) < 0 ∨ 168 ≤ ((l1 * (21 : Int32)) + (σ.1 20 l1.toNatClampNeg)).toNatClampNeg then none else fX6_bite_192 (vup σ 19 ((l1 * (21 : Int32)) + (σ.1 20 l1.toNatClampNeg)).toNatClampNeg (σ.1 8 l2.toNatClampNeg))) else
  (if l1 < 0 ∨ 8 ≤ l1.toNatClampNeg then none else if (21 : Int32) ≤ (σ.1 21 l1.toNatClampNeg) then (fX6_bite_192 σ) else
  (if l1 < 0 ∨ 8 ≤ l1.toNatClampNeg then none else if l2 < 0 ∨ 9 ≤ l2.toNatClampNeg then none else if ((l1 * (21 : Int32)) + (σ.1 21 l1.toNatClampNeg)) < 0 ∨ 168 ≤ ((l1 * (21 : Int32)) + (σ.1 21 l1.toNatClampNeg)).toNatClampNeg then none else fX6_bite_182 l1 (vup σ 19 ((l1 * (21 : Int32)) + (σ.1 21 l1.toNatClampNeg)).toNatClampNeg (σ.1 8 l2.toNatClampNeg))))
theorem vX6_bite_105 {ad : Nat → Nat} {Q : Option Value → vMem → Prop} {r : vMem} {l1 : Int32} {l2 : Int32} {σ : vMem} (h : fX6_bite_105 l1 l2 σ = some r) (hQ : Q none r) : V GC mX6_bite ad Q 0 105 [some (.ref (ad 13)), some (.int l1), some (.int l2), none, none] [] σ := by
  unfold fX6_bite_105 at h
  refine V.aload_n dX6_bite_105 rfl ?_
  refine V.get dX6_bite_106 flX6_65 nC_13 gC_13 (by decide) (eC_13_0 _ _) ?_
  refine V.get dX6_bite_109 flX6_106 nC_5 gC_5 (by decide) (eC_5_2 _ _) ?_
  refine V.iload_n dX6_bite_112 rfl ?_
  obtain ⟨hb, h⟩ := ckn h
  refine V.iald dX6_bite_113 nC_6 gC_6 hb ?_
  refine V.iconst ic_1 dX6_bite_114 ?_
  rcases itc h with ⟨hc, h⟩ | ⟨hc, h⟩
  · refine V.icmp_ne (tgt := 146) dX6_bite_115 (by decide) (fun hn => absurd hc hn) (fun _ => ?_)
    refine V.aload_n dX6_bite_118 rfl ?_
    refine V.get dX6_bite_119 flX6_34 nC_13 gC_13 (by decide) (eC_13_8 _ _) ?_
    refine V.iload_n dX6_bite_122 rfl ?_
    refine V.bipush bp_21 dX6_bite_123 ?_
    refine V.imul dX6_bite_125 ?_
    refine V.aload_n dX6_bite_126 rfl ?_
    refine V.get dX6_bite_127 flX6_37 nC_13 gC_13 (by decide) (eC_13_9 _ _) ?_
    refine V.iload_n dX6_bite_130 rfl ?_
    obtain ⟨hb, h⟩ := ckn h
    refine V.iald dX6_bite_131 nC_20 gC_20 hb ?_
    refine V.iadd dX6_bite_132 ?_
    refine V.aload_n dX6_bite_133 rfl ?_
    refine V.get dX6_bite_134 flX6_65 nC_13 gC_13 (by decide) (eC_13_0 _ _) ?_
    refine V.get dX6_bite_137 flX6_122 nC_5 gC_5 (by decide) (eC_5_4 _ _) ?_
    refine V.iload_n dX6_bite_140 rfl ?_
    obtain ⟨hb, h⟩ := ckn h
    refine V.iald dX6_bite_141 nC_8 gC_8 hb ?_
    obtain ⟨hb, h⟩ := ckn h
    refine V.iast dX6_bite_142 nC_19 gC_19 hb ?_
    refine V.goto (tgt := 192) dX6_bite_143 (by decide) ?_
    exact V.forget (vX6_bite_192 h hQ) trivial
  · refine V.icmp_ne (tgt := 146) dX6_bite_115 (by decide) (fun _ => ?_) (fun hn => absurd hn hc)
    refine V.aload_n dX6_bite_146 rfl ?_
    refine V.get dX6_bite_147 flX6_40 nC_13 gC_13 (by decide) (eC_13_10 _ _) ?_
    refine V.iload_n dX6_bite_150 rfl ?_
    obtain ⟨hb, h⟩ := ckn h
    refine V.iald dX6_bite_151 nC_21 gC_21 hb ?_
    refine V.bipush bp_21 dX6_bite_152 ?_
    rcases itc h with ⟨hc, h⟩ | ⟨hc, h⟩
    · refine V.icmp_ge (tgt := 192) dX6_bite_154 (by decide) (fun _ => ?_) (fun hn => absurd hc hn)
      exact V.forget (vX6_bite_192 h hQ) trivial
    · refine V.icmp_ge (tgt := 192) dX6_bite_154 (by decide) (fun hn => absurd hn hc) (fun _ => ?_)
      refine V.aload_n dX6_bite_157 rfl ?_
      refine V.get dX6_bite_158 flX6_34 nC_13 gC_13 (by decide) (eC_13_8 _ _) ?_
      refine V.iload_n dX6_bite_161 rfl ?_
      refine V.bipush bp_21 dX6_bite_162 ?_
      refine V.imul dX6_bite_164 ?_
      refine V.aload_n dX6_bite_165 rfl ?_
      refine V.get dX6_bite_166 flX6_40 nC_13 gC_13 (by decide) (eC_13_10 _ _) ?_
      refine V.iload_n dX6_bite_169 rfl ?_
      obtain ⟨hb, h⟩ := ckn h
      refine V.iald dX6_bite_170 nC_21 gC_21 hb ?_
      refine V.iadd dX6_bite_171 ?_
      refine V.aload_n dX6_bite_172 rfl ?_
      refine V.get dX6_bite_173 flX6_65 nC_13 gC_13 (by decide) (eC_13_0 _ _) ?_
      refine V.get dX6_bite_176 flX6_122 nC_5 gC_5 (by decide) (eC_5_4 _ _) ?_
      refine V.iload_n dX6_bite_179 rfl ?_
      obtain ⟨hb, h⟩ := ckn h
      refine V.iald dX6_bite_180 nC_8 gC_8 hb ?_
      obtain ⟨hb, h⟩ := ckn h
      refine V.iast dX6_bite_181 nC_19 gC_19 hb ?_
      exact V.forget (vX6_bite_182 h hQ) ⟨rfl, ⟨rfl, trivial⟩⟩
def fX6_bite_100 (l1 : Int32) (l2 : Int32) (σ : vMem) : Option vMem :=
  fX6_bite_105 l1 l2 (vup σ 13 17 l2)
theorem vX6_bite_100 {ad : Nat → Nat} {Q : Option Value → vMem → Prop} {r : vMem} {l1 : Int32} {l2 : Int32} {σ : vMem} (h : fX6_bite_100 l1 l2 σ = some r) (hQ : Q none r) : V GC mX6_bite ad Q 0 100 [some (.ref (ad 13)), some (.int l1), some (.int l2), none, none] [] σ := by
  unfold fX6_bite_100 at h
  refine V.aload_n dX6_bite_100 rfl ?_
  refine V.iload_n dX6_bite_101 rfl ?_
  refine V.putI dX6_bite_102 fpX6_62 nC_13 gC_13 (by decide) rfl ?_
  exact V.forget (vX6_bite_105 h hQ) ⟨rfl, ⟨rfl, ⟨rfl, trivial⟩⟩⟩
def fX6_bite_87 (l1 : Int32) (l2 : Int32) (l3 : Int32) (σ : vMem) : Option vMem :=
  if (σ.1 13 16) = (-1 : Int32) then (fX6_bite_100 l1 l2 (vup σ 13 16 l3)) else
  (fX6_bite_105 l1 l2 σ)
theorem vX6_bite_87 {ad : Nat → Nat} {Q : Option Value → vMem → Prop} {r : vMem} {l1 : Int32} {l2 : Int32} {l3 : Int32} {σ : vMem} (h : fX6_bite_87 l1 l2 l3 σ = some r) (hQ : Q none r) : V GC mX6_bite ad Q 0 87 [some (.ref (ad 13)), some (.int l1), some (.int l2), some (.int l3), none] [] σ := by
  unfold fX6_bite_87 at h
  refine V.aload_n dX6_bite_87 rfl ?_
  refine V.get dX6_bite_88 flX6_59 nC_13 gC_13 (by decide) (eC_13_16 _ _) ?_
  refine V.iconst ic_m1 dX6_bite_91 ?_
  rcases itc h with ⟨hc, h⟩ | ⟨hc, h⟩
  · refine V.icmp_ne (tgt := 105) dX6_bite_92 (by decide) (fun hn => absurd hc hn) (fun _ => ?_)
    refine V.aload_n dX6_bite_95 rfl ?_
    refine V.iload_n dX6_bite_96 rfl ?_
    refine V.putI dX6_bite_97 fpX6_59 nC_13 gC_13 (by decide) rfl ?_
    exact V.forget (vX6_bite_100 h hQ) ⟨rfl, ⟨rfl, ⟨rfl, trivial⟩⟩⟩
  · refine V.icmp_ne (tgt := 105) dX6_bite_92 (by decide) (fun _ => ?_) (fun hn => absurd hn hc)
    exact V.forget (vX6_bite_105 h hQ) ⟨rfl, ⟨rfl, ⟨rfl, trivial⟩⟩⟩
def fX6_bite_77 (l1 : Int32) (l2 : Int32) (l3 : Int32) (σ : vMem) : Option vMem :=
  fX6_bite_87 l1 l2 l3 (vup σ 13 15 ((σ.1 13 15) + (1 : Int32)))
theorem vX6_bite_77 {ad : Nat → Nat} {Q : Option Value → vMem → Prop} {r : vMem} {l1 : Int32} {l2 : Int32} {l3 : Int32} {σ : vMem} (h : fX6_bite_77 l1 l2 l3 σ = some r) (hQ : Q none r) : V GC mX6_bite ad Q 0 77 [some (.ref (ad 13)), some (.int l1), some (.int l2), some (.int l3), none] [] σ := by
  unfold fX6_bite_77 at h
  refine V.aload_n dX6_bite_77 rfl ?_
  refine V.dup rfl dX6_bite_78 ?_
  refine V.get dX6_bite_79 flX6_56 nC_13 gC_13 (by decide) (eC_13_15 _ _) ?_
  refine V.iconst ic_1 dX6_bite_82 ?_
  refine V.iadd dX6_bite_83 ?_
  refine V.putI dX6_bite_84 fpX6_56 nC_13 gC_13 (by decide) rfl ?_
  exact V.forget (vX6_bite_87 h hQ) ⟨rfl, ⟨rfl, ⟨rfl, ⟨rfl, trivial⟩⟩⟩⟩
def fX6_bite_66 (l1 : Int32) (l2 : Int32) (l3 : Int32) (l4 : Int32) (σ : vMem) : Option vMem :=
  if l2 < 0 ∨ 9 ≤ l2.toNatClampNeg then none else if l2 < 0 ∨ 9 ≤ l2.toNatClampNeg then none else fX6_bite_77 l1 l2 l3 (vup σ 24 l2.toNatClampNeg ((σ.1 24 l2.toNatClampNeg) + l4))
theorem vX6_bite_66 {ad : Nat → Nat} {Q : Option Value → vMem → Prop} {r : vMem} {l1 : Int32} {l2 : Int32} {l3 : Int32} {l4 : Int32} {σ : vMem} (h : fX6_bite_66 l1 l2 l3 l4 σ = some r) (hQ : Q none r) : V GC mX6_bite ad Q 0 66 [some (.ref (ad 13)), some (.int l1), some (.int l2), some (.int l3), some (.int l4)] [] σ := by
  unfold fX6_bite_66 at h
  refine V.aload_n dX6_bite_66 rfl ?_
  refine V.get dX6_bite_67 flX6_49 nC_13 gC_13 (by decide) (eC_13_13 _ _) ?_
  refine V.iload_n dX6_bite_70 rfl ?_
  refine V.dup2 rfl rfl dX6_bite_71 ?_
  obtain ⟨hb, h⟩ := ckn h
  refine V.iald dX6_bite_72 nC_24 gC_24 hb ?_
  refine V.iload dX6_bite_73 rfl ?_
  refine V.iadd dX6_bite_75 ?_
  obtain ⟨hb, h⟩ := ckn h
  refine V.iast dX6_bite_76 nC_24 gC_24 hb ?_
  exact V.forget (vX6_bite_77 h hQ) ⟨rfl, ⟨rfl, ⟨rfl, ⟨rfl, trivial⟩⟩⟩⟩
def fX6_bite_56 (l1 : Int32) (l2 : Int32) (l3 : Int32) (l4 : Int32) (σ : vMem) : Option vMem :=
  if l2 < 0 ∨ 9 ≤ l2.toNatClampNeg then none else if l2 < 0 ∨ 9 ≤ l2.toNatClampNeg then none else fX6_bite_66 l1 l2 l3 l4 (vup σ 23 l2.toNatClampNeg ((σ.1 23 l2.toNatClampNeg) + (1 : Int32)))
theorem vX6_bite_56 {ad : Nat → Nat} {Q : Option Value → vMem → Prop} {r : vMem} {l1 : Int32} {l2 : Int32} {l3 : Int32} {l4 : Int32} {σ : vMem} (h : fX6_bite_56 l1 l2 l3 l4 σ = some r) (hQ : Q none r) : V GC mX6_bite ad Q 0 56 [some (.ref (ad 13)), some (.int l1), some (.int l2), some (.int l3), some (.int l4)] [] σ := by
  unfold fX6_bite_56 at h
  refine V.aload_n dX6_bite_56 rfl ?_
  refine V.get dX6_bite_57 flX6_46 nC_13 gC_13 (by decide) (eC_13_12 _ _) ?_
  refine V.iload_n dX6_bite_60 rfl ?_
  refine V.dup2 rfl rfl dX6_bite_61 ?_
  obtain ⟨hb, h⟩ := ckn h
  refine V.iald dX6_bite_62 nC_23 gC_23 hb ?_
  refine V.iconst ic_1 dX6_bite_63 ?_
  refine V.iadd dX6_bite_64 ?_
  obtain ⟨hb, h⟩ := ckn h
  refine V.iast dX6_bite_65 nC_23 gC_23 hb ?_
  exact V.forget (vX6_bite_66 h hQ) ⟨rfl, ⟨rfl, ⟨rfl, ⟨rfl, ⟨rfl, trivial⟩⟩⟩⟩⟩
def fX6_bite_49 (l1 : Int32) (l2 : Int32) (l3 : Int32) (l4 : Int32) (σ : vMem) : Option vMem :=
  if l2 < 0 ∨ 9 ≤ l2.toNatClampNeg then none else fX6_bite_56 l1 l2 l3 l4 (vup σ 22 l2.toNatClampNeg l3)
theorem vX6_bite_49 {ad : Nat → Nat} {Q : Option Value → vMem → Prop} {r : vMem} {l1 : Int32} {l2 : Int32} {l3 : Int32} {l4 : Int32} {σ : vMem} (h : fX6_bite_49 l1 l2 l3 l4 σ = some r) (hQ : Q none r) : V GC mX6_bite ad Q 0 49 [some (.ref (ad 13)), some (.int l1), some (.int l2), some (.int l3), some (.int l4)] [] σ := by
  unfold fX6_bite_49 at h
  refine V.aload_n dX6_bite_49 rfl ?_
  refine V.get dX6_bite_50 flX6_43 nC_13 gC_13 (by decide) (eC_13_11 _ _) ?_
  refine V.iload_n dX6_bite_53 rfl ?_
  refine V.iload_n dX6_bite_54 rfl ?_
  obtain ⟨hb, h⟩ := ckn h
  refine V.iast dX6_bite_55 nC_22 gC_22 hb ?_
  exact V.forget (vX6_bite_56 h hQ) ⟨rfl, ⟨rfl, ⟨rfl, ⟨rfl, ⟨rfl, trivial⟩⟩⟩⟩⟩
def fX6_bite_36 (l1 : Int32) (l2 : Int32) (l3 : Int32) (s0 : Int32) (σ : vMem) : Option vMem :=
  if l1 < 0 ∨ 8 ≤ l1.toNatClampNeg then none else if l1 < 0 ∨ 8 ≤ l1.toNatClampNeg then none else fX6_bite_49 l1 l2 l3 s0 (vup σ 15 l1.toNatClampNeg ((σ.1 15 l1.toNatClampNeg) - s0))
theorem vX6_bite_36 {ad : Nat → Nat} {Q : Option Value → vMem → Prop} {r : vMem} {l1 : Int32} {l2 : Int32} {l3 : Int32} {s0 : Int32} {σ : vMem} (h : fX6_bite_36 l1 l2 l3 s0 σ = some r) (hQ : Q none r) : V GC mX6_bite ad Q 0 36 [some (.ref (ad 13)), some (.int l1), some (.int l2), some (.int l3), none] [.int s0] σ := by
  unfold fX6_bite_36 at h
  refine V.istore dX6_bite_36 (by decide) rfl ?_
  refine V.aload_n dX6_bite_38 rfl ?_
  refine V.get dX6_bite_39 flX6_22 nC_13 gC_13 (by decide) (eC_13_4 _ _) ?_
  refine V.iload_n dX6_bite_42 rfl ?_
  refine V.dup2 rfl rfl dX6_bite_43 ?_
  obtain ⟨hb, h⟩ := ckn h
  refine V.iald dX6_bite_44 nC_15 gC_15 hb ?_
  refine V.iload dX6_bite_45 rfl ?_
  refine V.isub dX6_bite_47 ?_
  obtain ⟨hb, h⟩ := ckn h
  refine V.iast dX6_bite_48 nC_15 gC_15 hb ?_
  exact V.forget (vX6_bite_49 h hQ) ⟨rfl, ⟨rfl, ⟨rfl, ⟨rfl, ⟨rfl, trivial⟩⟩⟩⟩⟩
def fX6_bite (l1 : Int32) (l2 : Int32) (l3 : Int32) (σ : vMem) : Option vMem :=
  if l2 < 0 ∨ 9 ≤ l2.toNatClampNeg then none else if l1 < 0 ∨ 8 ≤ l1.toNatClampNeg then none else if (σ.1 15 l1.toNatClampNeg) ≤ (σ.1 7 l2.toNatClampNeg) then (if l1 < 0 ∨ 8 ≤ l1.toNatClampNeg then none else fX6_bite_36 l1 l2 l3 (σ.1 15 l1.toNatClampNeg) σ) else
  (if l2 < 0 ∨ 9 ≤ l2.toNatClampNeg then none else fX6_bite_36 l1 l2 l3 (σ.1 7 l2.toNatClampNeg) σ)
theorem vX6_bite {ad : Nat → Nat} {Q : Option Value → vMem → Prop} {r : vMem} {l1 : Int32} {l2 : Int32} {l3 : Int32} {σ : vMem} (h : fX6_bite l1 l2 l3 σ = some r) (hQ : Q none r) : V GC mX6_bite ad Q 0 0 [some (.ref (ad 13)), some (.int l1), some (.int l2), some (.int l3), none] [] σ := by
  unfold fX6_bite at h
  refine V.aload_n dX6_bite_0 rfl ?_
  refine V.get dX6_bite_1 flX6_65 nC_13 gC_13 (by decide) (eC_13_0 _ _) ?_
  refine V.get dX6_bite_4 flX6_120 nC_5 gC_5 (by decide) (eC_5_3 _ _) ?_
  refine V.iload_n dX6_bite_7 rfl ?_
  obtain ⟨hb, h⟩ := ckn h
  refine V.iald dX6_bite_8 nC_7 gC_7 hb ?_
  refine V.aload_n dX6_bite_9 rfl ?_
  refine V.get dX6_bite_10 flX6_22 nC_13 gC_13 (by decide) (eC_13_4 _ _) ?_
  refine V.iload_n dX6_bite_13 rfl ?_
  obtain ⟨hb, h⟩ := ckn h
  refine V.iald dX6_bite_14 nC_15 gC_15 hb ?_
  rcases itc h with ⟨hc, h⟩ | ⟨hc, h⟩
  · refine V.icmp_ge (tgt := 30) dX6_bite_15 (by decide) (fun _ => ?_) (fun hn => absurd hc hn)
    refine V.aload_n dX6_bite_30 rfl ?_
    refine V.get dX6_bite_31 flX6_22 nC_13 gC_13 (by decide) (eC_13_4 _ _) ?_
    refine V.iload_n dX6_bite_34 rfl ?_
    obtain ⟨hb, h⟩ := ckn h
    refine V.iald dX6_bite_35 nC_15 gC_15 hb ?_
    exact V.forget (vX6_bite_36 h hQ) ⟨rfl, ⟨rfl, ⟨rfl, ⟨rfl, trivial⟩⟩⟩⟩
  · refine V.icmp_ge (tgt := 30) dX6_bite_15 (by decide) (fun hn => absurd hn hc) (fun _ => ?_)
    refine V.aload_n dX6_bite_18 rfl ?_
    refine V.get dX6_bite_19 flX6_65 nC_13 gC_13 (by decide) (eC_13_0 _ _) ?_
    refine V.get dX6_bite_22 flX6_120 nC_5 gC_5 (by decide) (eC_5_3 _ _) ?_
    refine V.iload_n dX6_bite_25 rfl ?_
    obtain ⟨hb, h⟩ := ckn h
    refine V.iald dX6_bite_26 nC_7 gC_7 hb ?_
    refine V.goto (tgt := 36) dX6_bite_27 (by decide) ?_
    exact V.forget (vX6_bite_36 h hQ) ⟨rfl, ⟨rfl, ⟨rfl, ⟨rfl, trivial⟩⟩⟩⟩
def fX6_serve_133 (K4 : Int32 → Int32 → Int32 → vMem → Option vMem) (l1 : Int32) (l2 : Int32) (l3 : Int32) (σ : vMem) : Option vMem :=
  K4 l1 l2 (l3 + (1 : Int32)) σ
theorem vX6_serve_133 {ad : Nat → Nat} {Q : Option Value → vMem → Prop} {r : vMem} {K4 : Int32 → Int32 → Int32 → vMem → Option vMem} (hK4 : ∀ (l1 : Int32) (l2 : Int32) (l3 : Int32) (σ : vMem), K4 l1 l2 l3 σ = some r → V GC mX6_serve ad Q 1 4 [some (.ref (ad 13)), some (.int l1), some (.int l2), some (.int l3), none] [] σ) {l1 : Int32} {l2 : Int32} {l3 : Int32} {σ : vMem} (h : fX6_serve_133 K4 l1 l2 l3 σ = some r) (hQ : Q none r) : V GC mX6_serve ad Q 1 133 [some (.ref (ad 13)), some (.int l1), some (.int l2), some (.int l3), none] [] σ := by
  unfold fX6_serve_133 at h
  refine V.iinc dX6_serve_133 rfl (ii_1 _) (by decide) rfl ?_
  refine V.goto (tgt := 4) dX6_serve_136 (by decide) ?_
  exact V.forget (hK4 _ _ _ _ h) ⟨rfl, ⟨rfl, ⟨rfl, ⟨rfl, trivial⟩⟩⟩⟩
def fX6_serve_106 (K4 : Int32 → Int32 → Int32 → vMem → Option vMem) (l1 : Int32) (l2 : Int32) (l3 : Int32) (l4 : Int32) (σ : vMem) : Option vMem :=
  if l3 < 0 ∨ 8 ≤ l3.toNatClampNeg then none else if (σ.1 15 l3.toNatClampNeg) ≤ 0 then (fX6_serve_133 K4 l1 l2 l3 σ) else
  ((fX6_wantsBite l4 l1 σ).bind fun q1 => if q1.1 = 0 then (fX6_serve_133 K4 l1 l2 l3 q1.2) else
  ((fX6_bite l3 l4 l1 q1.2).bind fun q2 => fX6_serve_133 K4 l1 l2 l3 q2))
theorem vX6_serve_106 {ad : Nat → Nat} {Q : Option Value → vMem → Prop} {r : vMem} {K4 : Int32 → Int32 → Int32 → vMem → Option vMem} (hK4 : ∀ (l1 : Int32) (l2 : Int32) (l3 : Int32) (σ : vMem), K4 l1 l2 l3 σ = some r → V GC mX6_serve ad Q 1 4 [some (.ref (ad 13)), some (.int l1), some (.int l2), some (.int l3), none] [] σ) {l1 : Int32} {l2 : Int32} {l3 : Int32} {l4 : Int32} {σ : vMem} (h : fX6_serve_106 K4 l1 l2 l3 l4 σ = some r) (hQ : Q none r) : V GC mX6_serve ad Q 1 106 [some (.ref (ad 13)), some (.int l1), some (.int l2), some (.int l3), some (.int l4)] [] σ := by
  unfold fX6_serve_106 at h
  refine V.aload_n dX6_serve_106 rfl ?_
  refine V.get dX6_serve_107 flX6_22 nC_13 gC_13 (by decide) (eC_13_4 _ _) ?_
  refine V.iload_n dX6_serve_110 rfl ?_
  obtain ⟨hb, h⟩ := ckn h
  refine V.iald dX6_serve_111 nC_15 gC_15 hb ?_
  rcases itc h with ⟨hc, h⟩ | ⟨hc, h⟩
  · refine V.if_le (tgt := 133) dX6_serve_112 (by decide) (fun _ => ?_) (fun hn => absurd hc hn)
    exact V.forget (vX6_serve_133 hK4 h hQ) ⟨rfl, ⟨rfl, ⟨rfl, ⟨rfl, trivial⟩⟩⟩⟩
  · refine V.if_le (tgt := 133) dX6_serve_112 (by decide) (fun hn => absurd hn hc) (fun _ => ?_)
    refine V.aload_n dX6_serve_115 rfl ?_
    refine V.iload dX6_serve_116 rfl ?_
    refine V.iload_n dX6_serve_118 rfl ?_
    obtain ⟨q1, h1, h⟩ := bdc h
    refine V.callV2 (mc := mX6_wantsBite) (d' := 0) dX6_serve_119 lkX6_109 hfX6_wantsBite nC_13 gC_13 rfl (by decide) (Nat.le_of_ble_eq_true rfl) (Nat.le_of_ble_eq_true rfl) (vX6_wantsBite h1 ?_)
    rcases itc h with ⟨hc, h⟩ | ⟨hc, h⟩
    · refine V.if_eq (tgt := 133) dX6_serve_122 (by decide) (fun _ => ?_) (fun hn => absurd hc hn)
      exact V.forget (vX6_serve_133 hK4 h hQ) ⟨rfl, ⟨rfl, ⟨rfl, ⟨rfl, trivial⟩⟩⟩⟩
    · refine V.if_eq (tgt := 133) dX6_serve_122 (by decide) (fun hn => absurd hn hc) (fun _ => ?_)
      refine V.aload_n dX6_serve_125 rfl ?_
      refine V.iload_n dX6_serve_126 rfl ?_
      refine V.iload dX6_serve_127 rfl ?_
      refine V.iload_n dX6_serve_129 rfl ?_
      obtain ⟨q2, h1, h⟩ := bdc h
      refine V.callV3 (mc := mX6_bite) (d' := 0) dX6_serve_130 lkX6_113 hfX6_bite nC_13 gC_13 rfl (by decide) (Nat.le_of_ble_eq_true rfl) (Nat.le_of_ble_eq_true rfl) (vX6_bite h1 ?_)
      exact V.forget (vX6_serve_133 hK4 h hQ) ⟨rfl, ⟨rfl, ⟨rfl, ⟨rfl, trivial⟩⟩⟩⟩
def fX6_serve_55 (K4 : Int32 → Int32 → Int32 → vMem → Option vMem) (l1 : Int32) (l2 : Int32) (l3 : Int32) (l4 : Int32) (σ : vMem) : Option vMem :=
  if l3 < 0 ∨ 8 ≤ l3.toNatClampNeg then none else if (σ.1 16 l3.toNatClampNeg) = (1 : Int32) then (fX6_serve_133 K4 l1 (l2 ||| ((1 : Int32) <<< (l4 &&& 31))) l3 σ) else
  (if l4 < 0 ∨ 9 ≤ l4.toNatClampNeg then none else if (σ.1 6 l4.toNatClampNeg) = (3 : Int32) then (if (σ.1 13 1) = 0 then (fX6_serve_106 K4 l1 (l2 ||| ((1 : Int32) <<< (l4 &&& 31))) l3 l4 σ) else
  (if l3 < 0 ∨ 8 ≤ l3.toNatClampNeg then none else if l3 < 0 ∨ 8 ≤ l3.toNatClampNeg then none else fX6_serve_106 K4 l1 (l2 ||| ((1 : Int32) <<< (l4 &&& 31))) l3 l4 (vup σ 15 l3.toNatClampNeg ((σ.1 15 l3.toNatClampNeg) / (2 : Int32))))) else
  (fX6_serve_106 K4 l1 (l2 ||| ((1 : Int32) <<< (l4 &&& 31))) l3 l4 σ))
theorem vX6_serve_55 {ad : Nat → Nat} {Q : Option Value → vMem → Prop} {r : vMem} {K4 : Int32 → Int32 → Int32 → vMem → Option vMem} (hK4 : ∀ (l1 : Int32) (l2 : Int32) (l3 : Int32) (σ : vMem), K4 l1 l2 l3 σ = some r → V GC mX6_serve ad Q 1 4 [some (.ref (ad 13)), some (.int l1), some (.int l2), some (.int l3), none] [] σ) {l1 : Int32} {l2 : Int32} {l3 : Int32} {l4 : Int32} {σ : vMem} (h : fX6_serve_55 K4 l1 l2 l3 l4 σ = some r) (hQ : Q none r) : V GC mX6_serve ad Q 1 55 [some (.ref (ad 13)), some (.int l1), some (.int l2), some (.int l3), some (.int l4)] [] σ := by
  unfold fX6_serve_55 at h
  refine V.iload_n dX6_serve_55 rfl ?_
  refine V.iconst ic_1 dX6_serve_56 ?_
  refine V.iload dX6_serve_57 rfl ?_
  refine V.ishl dX6_serve_59 ?_
  refine V.ior dX6_serve_60 ?_
  refine V.istore_n dX6_serve_61 (by decide) rfl ?_
  refine V.aload_n dX6_serve_62 rfl ?_
  refine V.get dX6_serve_63 flX6_25 nC_13 gC_13 (by decide) (eC_13_5 _ _) ?_
  refine V.iload_n dX6_serve_66 rfl ?_
  obtain ⟨hb, h⟩ := ckn h
  refine V.iald dX6_serve_67 nC_16 gC_16 hb ?_
  refine V.iconst ic_1 dX6_serve_68 ?_
  rcases itc h with ⟨hc, h⟩ | ⟨hc, h⟩
  · refine V.icmp_ne (tgt := 75) dX6_serve_69 (by decide) (fun hn => absurd hc hn) (fun _ => ?_)
    refine V.goto (tgt := 133) dX6_serve_72 (by decide) ?_
    exact V.forget (vX6_serve_133 hK4 h hQ) ⟨rfl, ⟨rfl, ⟨rfl, ⟨rfl, trivial⟩⟩⟩⟩
  · refine V.icmp_ne (tgt := 75) dX6_serve_69 (by decide) (fun _ => ?_) (fun hn => absurd hn hc)
    refine V.aload_n dX6_serve_75 rfl ?_
    refine V.get dX6_serve_76 flX6_65 nC_13 gC_13 (by decide) (eC_13_0 _ _) ?_
    refine V.get dX6_serve_79 flX6_106 nC_5 gC_5 (by decide) (eC_5_2 _ _) ?_
    refine V.iload dX6_serve_82 rfl ?_
    obtain ⟨hb, h⟩ := ckn h
    refine V.iald dX6_serve_84 nC_6 gC_6 hb ?_
    refine V.iconst ic_3 dX6_serve_85 ?_
    rcases itc h with ⟨hc, h⟩ | ⟨hc, h⟩
    · refine V.icmp_ne (tgt := 106) dX6_serve_86 (by decide) (fun hn => absurd hc hn) (fun _ => ?_)
      refine V.aload_n dX6_serve_89 rfl ?_
      refine V.get dX6_serve_90 flX6_9 nC_13 gC_13 (by decide) (eC_13_1 _ _) ?_
      rcases itc h with ⟨hc, h⟩ | ⟨hc, h⟩
      · refine V.if_eq (tgt := 106) dX6_serve_93 (by decide) (fun _ => ?_) (fun hn => absurd hc hn)
        exact V.forget (vX6_serve_106 hK4 h hQ) ⟨rfl, ⟨rfl, ⟨rfl, ⟨rfl, ⟨rfl, trivial⟩⟩⟩⟩⟩
      · refine V.if_eq (tgt := 106) dX6_serve_93 (by decide) (fun hn => absurd hn hc) (fun _ => ?_)
        refine V.aload_n dX6_serve_96 rfl ?_
        refine V.get dX6_serve_97 flX6_22 nC_13 gC_13 (by decide) (eC_13_4 _ _) ?_
        refine V.iload_n dX6_serve_100 rfl ?_
        refine V.dup2 rfl rfl dX6_serve_101 ?_
        obtain ⟨hb, h⟩ := ckn h
        refine V.iald dX6_serve_102 nC_15 gC_15 hb ?_
        refine V.iconst ic_2 dX6_serve_103 ?_
        refine V.idiv (by decide) dX6_serve_104 ?_
        obtain ⟨hb, h⟩ := ckn h
        refine V.iast dX6_serve_105 nC_15 gC_15 hb ?_
        exact V.forget (vX6_serve_106 hK4 h hQ) ⟨rfl, ⟨rfl, ⟨rfl, ⟨rfl, ⟨rfl, trivial⟩⟩⟩⟩⟩
    · refine V.icmp_ne (tgt := 106) dX6_serve_86 (by decide) (fun _ => ?_) (fun hn => absurd hn hc)
      exact V.forget (vX6_serve_106 hK4 h hQ) ⟨rfl, ⟨rfl, ⟨rfl, ⟨rfl, ⟨rfl, trivial⟩⟩⟩⟩⟩
def fX6_serve_4 (K4 : Int32 → Int32 → Int32 → vMem → Option vMem) (l1 : Int32) (l2 : Int32) (l3 : Int32) (σ : vMem) : Option vMem :=
  if (σ.1 5 5) ≤ l3 then (some σ) else
  (if l3 < 0 ∨ 8 ≤ l3.toNatClampNeg then none else if (σ.1 14 l3.toNatClampNeg) < 0 then (fX6_serve_133 K4 l1 l2 l3 σ) else
  (if (σ.1 14 l3.toNatClampNeg) < (σ.1 5 0) then (if l3 < 0 ∨ 8 ≤ l3.toNatClampNeg then none else fX6_serve_55 K4 l1 l2 l3 (σ.1 14 l3.toNatClampNeg) (vup σ 16 l3.toNatClampNeg ((l2 >>> ((σ.1 14 l3.toNatClampNeg) &&& 31)) &&& (1 : Int32)))) else
  (fX6_serve_133 K4 l1 l2 l3 σ)))
theorem vX6_serve_4 {ad : Nat → Nat} {Q : Option Value → vMem → Prop} {r : vMem} {K4 : Int32 → Int32 → Int32 → vMem → Option vMem} (hK4 : ∀ (l1 : Int32) (l2 : Int32) (l3 : Int32) (σ : vMem), K4 l1 l2 l3 σ = some r → V GC mX6_serve ad Q 1 4 [some (.ref (ad 13)), some (.int l1), some (.int l2), some (.int l3), none] [] σ) {l1 : Int32} {l2 : Int32} {l3 : Int32} {σ : vMem} (h : fX6_serve_4 K4 l1 l2 l3 σ = some r) (hQ : Q none r) : V GC mX6_serve ad Q 1 4 [some (.ref (ad 13)), some (.int l1), some (.int l2), some (.int l3), none] [] σ := by
  unfold fX6_serve_4 at h
  refine V.iload_n dX6_serve_4 rfl ?_
  refine V.aload_n dX6_serve_5 rfl ?_
  refine V.get dX6_serve_6 flX6_65 nC_13 gC_13 (by decide) (eC_13_0 _ _) ?_
  refine V.get dX6_serve_9 flX6_82 nC_5 gC_5 (by decide) (eC_5_5 _ _) ?_
  rcases itc h with ⟨hc, h⟩ | ⟨hc, h⟩
  · refine V.icmp_ge (tgt := 139) dX6_serve_12 (by decide) (fun _ => ?_) (fun hn => absurd hc hn)
    obtain rfl := Option.some.inj h
    exact V.vret dX6_serve_139 rfl hQ
  · refine V.icmp_ge (tgt := 139) dX6_serve_12 (by decide) (fun hn => absurd hn hc) (fun _ => ?_)
    refine V.aload_n dX6_serve_15 rfl ?_
    refine V.get dX6_serve_16 flX6_18 nC_13 gC_13 (by decide) (eC_13_3 _ _) ?_
    refine V.iload_n dX6_serve_19 rfl ?_
    obtain ⟨hb, h⟩ := ckn h
    refine V.iald dX6_serve_20 nC_14 gC_14 hb ?_
    refine V.istore dX6_serve_21 (by decide) rfl ?_
    refine V.iload dX6_serve_23 rfl ?_
    rcases itc h with ⟨hc, h⟩ | ⟨hc, h⟩
    · refine V.if_lt (tgt := 133) dX6_serve_25 (by decide) (fun _ => ?_) (fun hn => absurd hc hn)
      exact V.forget (vX6_serve_133 hK4 h hQ) ⟨rfl, ⟨rfl, ⟨rfl, ⟨rfl, trivial⟩⟩⟩⟩
    · refine V.if_lt (tgt := 133) dX6_serve_25 (by decide) (fun hn => absurd hn hc) (fun _ => ?_)
      refine V.iload dX6_serve_28 rfl ?_
      refine V.aload_n dX6_serve_30 rfl ?_
      refine V.get dX6_serve_31 flX6_65 nC_13 gC_13 (by decide) (eC_13_0 _ _) ?_
      refine V.get dX6_serve_34 flX6_100 nC_5 gC_5 (by decide) (eC_5_0 _ _) ?_
      rcases itc h with ⟨hc, h⟩ | ⟨hc, h⟩
      · refine V.icmp_lt (tgt := 43) dX6_serve_37 (by decide) (fun _ => ?_) (fun hn => absurd hc hn)
        refine V.aload_n dX6_serve_43 rfl ?_
        refine V.get dX6_serve_44 flX6_25 nC_13 gC_13 (by decide) (eC_13_5 _ _) ?_
        refine V.iload_n dX6_serve_47 rfl ?_
        refine V.iload_n dX6_serve_48 rfl ?_
        refine V.iload dX6_serve_49 rfl ?_
        refine V.ishr dX6_serve_51 ?_
        refine V.iconst ic_1 dX6_serve_52 ?_
        refine V.iand dX6_serve_53 ?_
        obtain ⟨hb, h⟩ := ckn h
        refine V.iast dX6_serve_54 nC_16 gC_16 hb ?_
        exact V.forget (vX6_serve_55 hK4 h hQ) ⟨rfl, ⟨rfl, ⟨rfl, ⟨rfl, ⟨rfl, trivial⟩⟩⟩⟩⟩
      · refine V.icmp_lt (tgt := 43) dX6_serve_37 (by decide) (fun hn => absurd hn hc) (fun _ => ?_)
        refine V.goto (tgt := 133) dX6_serve_40 (by decide) ?_
        exact V.forget (vX6_serve_133 hK4 h hQ) ⟨rfl, ⟨rfl, ⟨rfl, ⟨rfl, trivial⟩⟩⟩⟩
def LfX6_serve_4 : Nat → Int32 → Int32 → Int32 → vMem → Option vMem
  | 0, _, _, _, _ => none
  | n + 1, l1, l2, l3, σ => fX6_serve_4 (LfX6_serve_4 n) l1 l2 l3 σ
theorem LvX6_serve_4 {ad : Nat → Nat} {Q : Option Value → vMem → Prop} {r : vMem} (hQ : Q none r) : ∀ (n : Nat) (l1 : Int32) (l2 : Int32) (l3 : Int32) (σ : vMem), LfX6_serve_4 n l1 l2 l3 σ = some r → V GC mX6_serve ad Q 1 4 [some (.ref (ad 13)), some (.int l1), some (.int l2), some (.int l3), none] [] σ := by
  intro n
  induction n with
  | zero => intro l1 l2 l3 σ h; cases h
  | succ n ih => intro l1 l2 l3 σ h; exact vX6_serve_4 ih h hQ
def fX6_serve (l1 : Int32) (σ : vMem) : Option vMem :=
  LfX6_serve_4 200 l1 (0 : Int32) (0 : Int32) σ
theorem vX6_serve {ad : Nat → Nat} {Q : Option Value → vMem → Prop} {r : vMem} {l1 : Int32} {σ : vMem} (h : fX6_serve l1 σ = some r) (hQ : Q none r) : V GC mX6_serve ad Q 1 0 [some (.ref (ad 13)), some (.int l1), none, none, none] [] σ := by
  unfold fX6_serve at h
  refine V.iconst ic_0 dX6_serve_0 ?_
  refine V.istore_n dX6_serve_1 (by decide) rfl ?_
  refine V.iconst ic_0 dX6_serve_2 ?_
  refine V.istore_n dX6_serve_3 (by decide) rfl ?_
  exact V.forget (LvX6_serve_4 hQ 200 _ _ _ _ h) ⟨rfl, ⟨rfl, ⟨rfl, ⟨rfl, trivial⟩⟩⟩⟩
def fX6_leave_106 (σ : vMem) : Option vMem :=
  some σ
theorem vX6_leave_106 {ad : Nat → Nat} {Q : Option Value → vMem → Prop} {r : vMem} {σ : vMem} (h : fX6_leave_106 σ = some r) (hQ : Q none r) : V GC mX6_leave ad Q 0 106 [none, none, none] [] σ := by
  unfold fX6_leave_106 at h
  obtain rfl := Option.some.inj h
  exact V.vret dX6_leave_106 rfl hQ
def fX6_leave_96 (σ : vMem) : Option vMem :=
  fX6_leave_106 (vup σ 13 14 ((σ.1 13 14) - (1 : Int32)))
theorem vX6_leave_96 {ad : Nat → Nat} {Q : Option Value → vMem → Prop} {r : vMem} {σ : vMem} (h : fX6_leave_96 σ = some r) (hQ : Q none r) : V GC mX6_leave ad Q 0 96 [some (.ref (ad 13)), none, none] [] σ := by
  unfold fX6_leave_96 at h
  refine V.aload_n dX6_leave_96 rfl ?_
  refine V.dup rfl dX6_leave_97 ?_
  refine V.get dX6_leave_98 flX6_52 nC_13 gC_13 (by decide) (eC_13_14 _ _) ?_
  refine V.iconst ic_1 dX6_leave_101 ?_
  refine V.isub dX6_leave_102 ?_
  refine V.putI dX6_leave_103 fpX6_52 nC_13 gC_13 (by decide) rfl ?_
  exact V.forget (vX6_leave_106 h hQ) trivial
def fX6_leave_71 (l1 : Int32) (l2 : Int32) (σ : vMem) : Option vMem :=
  if l1 < 0 ∨ 8 ≤ l1.toNatClampNeg then none else if (σ.1 14 l1.toNatClampNeg) = (σ.1 5 0) then (if l1 < 0 ∨ 8 ≤ l1.toNatClampNeg then none else fX6_leave_96 (vup σ 17 l1.toNatClampNeg (l2 + (1 : Int32)))) else
  (fX6_leave_106 σ)
theorem vX6_leave_71 {ad : Nat → Nat} {Q : Option Value → vMem → Prop} {r : vMem} {l1 : Int32} {l2 : Int32} {σ : vMem} (h : fX6_leave_71 l1 l2 σ = some r) (hQ : Q none r) : V GC mX6_leave ad Q 0 71 [some (.ref (ad 13)), some (.int l1), some (.int l2)] [] σ := by
  unfold fX6_leave_71 at h
  refine V.aload_n dX6_leave_71 rfl ?_
  refine V.get dX6_leave_72 flX6_18 nC_13 gC_13 (by decide) (eC_13_3 _ _) ?_
  refine V.iload_n dX6_leave_75 rfl ?_
  obtain ⟨hb, h⟩ := ckn h
  refine V.iald dX6_leave_76 nC_14 gC_14 hb ?_
  refine V.aload_n dX6_leave_77 rfl ?_
  refine V.get dX6_leave_78 flX6_65 nC_13 gC_13 (by decide) (eC_13_0 _ _) ?_
  refine V.get dX6_leave_81 flX6_100 nC_5 gC_5 (by decide) (eC_5_0 _ _) ?_
  rcases itc h with ⟨hc, h⟩ | ⟨hc, h⟩
  · refine V.icmp_ne (tgt := 106) dX6_leave_84 (by decide) (fun hn => absurd hc hn) (fun _ => ?_)
    refine V.aload_n dX6_leave_87 rfl ?_
    refine V.get dX6_leave_88 flX6_28 nC_13 gC_13 (by decide) (eC_13_6 _ _) ?_
    refine V.iload_n dX6_leave_91 rfl ?_
    refine V.iload_n dX6_leave_92 rfl ?_
    refine V.iconst ic_1 dX6_leave_93 ?_
    refine V.iadd dX6_leave_94 ?_
    obtain ⟨hb, h⟩ := ckn h
    refine V.iast dX6_leave_95 nC_17 gC_17 hb ?_
    exact V.forget (vX6_leave_96 h hQ) ⟨rfl, trivial⟩
  · refine V.icmp_ne (tgt := 106) dX6_leave_84 (by decide) (fun _ => ?_) (fun hn => absurd hn hc)
    exact V.forget (vX6_leave_106 h hQ) trivial
def fX6_leave_17 (l1 : Int32) (l2 : Int32) (σ : vMem) : Option vMem :=
  if (σ.1 5 12) ≤ 0 then (fX6_leave_71 l1 l2 σ) else
  (if l1 < 0 ∨ 8 ≤ l1.toNatClampNeg then none else if (σ.1 5 12) = 0 then none else if ((σ.1 14 l1.toNatClampNeg) - (σ.1 14 l1.toNatClampNeg) / (σ.1 5 12) * (σ.1 5 12)) = 0 then (if l1 < 0 ∨ 8 ≤ l1.toNatClampNeg then none else if l1 < 0 ∨ 8 ≤ l1.toNatClampNeg then none else if ((σ.1 21 l1.toNatClampNeg) - (σ.1 20 l1.toNatClampNeg)) < (2 : Int32) then (fX6_leave_71 l1 l2 σ) else
  (if l1 < 0 ∨ 8 ≤ l1.toNatClampNeg then none else if l1 < 0 ∨ 8 ≤ l1.toNatClampNeg then none else fX6_leave_71 l1 l2 (vup σ 20 l1.toNatClampNeg ((σ.1 20 l1.toNatClampNeg) + (1 : Int32))))) else
  (fX6_leave_71 l1 l2 σ))
theorem vX6_leave_17 {ad : Nat → Nat} {Q : Option Value → vMem → Prop} {r : vMem} {l1 : Int32} {l2 : Int32} {σ : vMem} (h : fX6_leave_17 l1 l2 σ = some r) (hQ : Q none r) : V GC mX6_leave ad Q 0 17 [some (.ref (ad 13)), some (.int l1), some (.int l2)] [] σ := by
  unfold fX6_leave_17 at h
  refine V.aload_n dX6_leave_17 rfl ?_
  refine V.get dX6_leave_18 flX6_65 nC_13 gC_13 (by decide) (eC_13_0 _ _) ?_
  refine V.get dX6_leave_21 flX6_129 nC_5 gC_5 (by decide) (eC_5_12 _ _) ?_
  rcases itc h with ⟨hc, h⟩ | ⟨hc, h⟩
  · refine V.if_le (tgt := 71) dX6_leave_24 (by decide) (fun _ => ?_) (fun hn => absurd hc hn)
    exact V.forget (vX6_leave_71 h hQ) ⟨rfl, ⟨rfl, ⟨rfl, trivial⟩⟩⟩
  · refine V.if_le (tgt := 71) dX6_leave_24 (by decide) (fun hn => absurd hn hc) (fun _ => ?_)
    refine V.aload_n dX6_leave_27 rfl ?_
    refine V.get dX6_leave_28 flX6_18 nC_13 gC_13 (by decide) (eC_13_3 _ _) ?_
    refine V.iload_n dX6_leave_31 rfl ?_
    obtain ⟨hb, h⟩ := ckn h
    refine V.iald dX6_leave_32 nC_14 gC_14 hb ?_
    refine V.aload_n dX6_leave_33 rfl ?_
    refine V.get dX6_leave_34 flX6_65 nC_13 gC_13 (by decide) (eC_13_0 _ _) ?_
    refine V.get dX6_leave_37 flX6_129 nC_5 gC_5 (by decide) (eC_5_12 _ _) ?_
    obtain ⟨hb, h⟩ := ckn h
    refine V.irem hb dX6_leave_40 ?_
    rcases itc h with ⟨hc, h⟩ | ⟨hc, h⟩
    · refine V.if_ne (tgt := 71) dX6_leave_41 (by decide) (fun hn => absurd hc hn) (fun _ => ?_)
      refine V.aload_n dX6_leave_44 rfl ?_
      refine V.get dX6_leave_45 flX6_40 nC_13 gC_13 (by decide) (eC_13_10 _ _) ?_
      refine V.iload_n dX6_leave_48 rfl ?_
      obtain ⟨hb, h⟩ := ckn h
      refine V.iald dX6_leave_49 nC_21 gC_21 hb ?_
      refine V.aload_n dX6_leave_50 rfl ?_
      refine V.get dX6_leave_51 flX6_37 nC_13 gC_13 (by decide) (eC_13_9 _ _) ?_
      refine V.iload_n dX6_leave_54 rfl ?_
      obtain ⟨hb, h⟩ := ckn h
      refine V.iald dX6_leave_55 nC_20 gC_20 hb ?_
      refine V.isub dX6_leave_56 ?_
      refine V.iconst ic_2 dX6_leave_57 ?_
      rcases itc h with ⟨hc, h⟩ | ⟨hc, h⟩
      · refine V.icmp_lt (tgt := 71) dX6_leave_58 (by decide) (fun _ => ?_) (fun hn => absurd hc hn)
        exact V.forget (vX6_leave_71 h hQ) ⟨rfl, ⟨rfl, ⟨rfl, trivial⟩⟩⟩
      · refine V.icmp_lt (tgt := 71) dX6_leave_58 (by decide) (fun hn => absurd hn hc) (fun _ => ?_)
        refine V.aload_n dX6_leave_61 rfl ?_
        refine V.get dX6_leave_62 flX6_37 nC_13 gC_13 (by decide) (eC_13_9 _ _) ?_
        refine V.iload_n dX6_leave_65 rfl ?_
        refine V.dup2 rfl rfl dX6_leave_66 ?_
        obtain ⟨hb, h⟩ := ckn h
        refine V.iald dX6_leave_67 nC_20 gC_20 hb ?_
        refine V.iconst ic_1 dX6_leave_68 ?_
        refine V.iadd dX6_leave_69 ?_
        obtain ⟨hb, h⟩ := ckn h
        refine V.iast dX6_leave_70 nC_20 gC_20 hb ?_
        exact V.forget (vX6_leave_71 h hQ) ⟨rfl, ⟨rfl, ⟨rfl, trivial⟩⟩⟩
    · refine V.if_ne (tgt := 71) dX6_leave_41 (by decide) (fun _ => ?_) (fun hn => absurd hn hc)
      exact V.forget (vX6_leave_71 h hQ) ⟨rfl, ⟨rfl, ⟨rfl, trivial⟩⟩⟩
def fX6_leave_7 (l1 : Int32) (l2 : Int32) (σ : vMem) : Option vMem :=
  if l1 < 0 ∨ 8 ≤ l1.toNatClampNeg then none else if l1 < 0 ∨ 8 ≤ l1.toNatClampNeg then none else fX6_leave_17 l1 l2 (vup σ 14 l1.toNatClampNeg ((σ.1 14 l1.toNatClampNeg) + (1 : Int32)))
theorem vX6_leave_7 {ad : Nat → Nat} {Q : Option Value → vMem → Prop} {r : vMem} {l1 : Int32} {l2 : Int32} {σ : vMem} (h : fX6_leave_7 l1 l2 σ = some r) (hQ : Q none r) : V GC mX6_leave ad Q 0 7 [some (.ref (ad 13)), some (.int l1), some (.int l2)] [] σ := by
  unfold fX6_leave_7 at h
  refine V.aload_n dX6_leave_7 rfl ?_
  refine V.get dX6_leave_8 flX6_18 nC_13 gC_13 (by decide) (eC_13_3 _ _) ?_
  refine V.iload_n dX6_leave_11 rfl ?_
  refine V.dup2 rfl rfl dX6_leave_12 ?_
  obtain ⟨hb, h⟩ := ckn h
  refine V.iald dX6_leave_13 nC_14 gC_14 hb ?_
  refine V.iconst ic_1 dX6_leave_14 ?_
  refine V.iadd dX6_leave_15 ?_
  obtain ⟨hb, h⟩ := ckn h
  refine V.iast dX6_leave_16 nC_14 gC_14 hb ?_
  exact V.forget (vX6_leave_17 h hQ) ⟨rfl, ⟨rfl, ⟨rfl, trivial⟩⟩⟩
def fX6_leave (l1 : Int32) (l2 : Int32) (σ : vMem) : Option vMem :=
  if l1 < 0 ∨ 8 ≤ l1.toNatClampNeg then none else fX6_leave_7 l1 l2 (vup σ 18 l1.toNatClampNeg (0 : Int32))
theorem vX6_leave {ad : Nat → Nat} {Q : Option Value → vMem → Prop} {r : vMem} {l1 : Int32} {l2 : Int32} {σ : vMem} (h : fX6_leave l1 l2 σ = some r) (hQ : Q none r) : V GC mX6_leave ad Q 0 0 [some (.ref (ad 13)), some (.int l1), some (.int l2)] [] σ := by
  unfold fX6_leave at h
  refine V.aload_n dX6_leave_0 rfl ?_
  refine V.get dX6_leave_1 flX6_31 nC_13 gC_13 (by decide) (eC_13_7 _ _) ?_
  refine V.iload_n dX6_leave_4 rfl ?_
  refine V.iconst ic_0 dX6_leave_5 ?_
  obtain ⟨hb, h⟩ := ckn h
  refine V.iast dX6_leave_6 nC_18 gC_18 hb ?_
  exact V.forget (vX6_leave_7 h hQ) ⟨rfl, ⟨rfl, ⟨rfl, trivial⟩⟩⟩
