def fX7_isText_14 (s0 : Int32) (σ : vMem) : Option (Int32 × vMem) :=
  if ¬ (s0 = 0 ∨ s0 = 1) then none else some (s0, σ)
theorem vX7_isText_14 {ad : Nat → Nat} {Q : Option Value → vMem → Prop} {r : (Int32 × vMem)} {s0 : Int32} {σ : vMem} (h : fX7_isText_14 s0 σ = some r) (hQ : Q (some (.int r.1)) r.2) : V GC mX7_isText ad Q 0 14 [none] [.int s0] σ := by
  unfold fX7_isText_14 at h
  obtain ⟨hb, h⟩ := ckn h
  obtain rfl := Option.some.inj h
  exact V.zret dX7_isText_14 rfl (Decidable.not_not.mp hb) hQ
def fX7_isText_9 (σ : vMem) : Option (Int32 × vMem) :=
  fX7_isText_14 (1 : Int32) σ
theorem vX7_isText_9 {ad : Nat → Nat} {Q : Option Value → vMem → Prop} {r : (Int32 × vMem)} {σ : vMem} (h : fX7_isText_9 σ = some r) (hQ : Q (some (.int r.1)) r.2) : V GC mX7_isText ad Q 0 9 [none] [] σ := by
  unfold fX7_isText_9 at h
  refine V.iconst ic_1 dX7_isText_9 ?_
  refine V.goto (tgt := 14) dX7_isText_10 (by decide) ?_
  exact V.forget (vX7_isText_14 h hQ) trivial
def fX7_isText (l0 : Int32) (σ : vMem) : Option (Int32 × vMem) :=
  if l0 = 0 then (fX7_isText_9 σ) else
  (if l0 = (1 : Int32) then (fX7_isText_9 σ) else
  (fX7_isText_14 (0 : Int32) σ))
theorem vX7_isText {ad : Nat → Nat} {Q : Option Value → vMem → Prop} {r : (Int32 × vMem)} {l0 : Int32} {σ : vMem} (h : fX7_isText l0 σ = some r) (hQ : Q (some (.int r.1)) r.2) : V GC mX7_isText ad Q 0 0 [some (.int l0)] [] σ := by
  unfold fX7_isText at h
  refine V.iload_n dX7_isText_0 rfl ?_
  rcases itc h with ⟨hc, h⟩ | ⟨hc, h⟩
  · refine V.if_eq (tgt := 9) dX7_isText_1 (by decide) (fun _ => ?_) (fun hn => absurd hc hn)
    exact V.forget (vX7_isText_9 h hQ) trivial
  · refine V.if_eq (tgt := 9) dX7_isText_1 (by decide) (fun hn => absurd hn hc) (fun _ => ?_)
    refine V.iload_n dX7_isText_4 rfl ?_
    refine V.iconst ic_1 dX7_isText_5 ?_
    rcases itc h with ⟨hc, h⟩ | ⟨hc, h⟩
    · refine V.icmp_ne (tgt := 13) dX7_isText_6 (by decide) (fun hn => absurd hc hn) (fun _ => ?_)
      exact V.forget (vX7_isText_9 h hQ) trivial
    · refine V.icmp_ne (tgt := 13) dX7_isText_6 (by decide) (fun _ => ?_) (fun hn => absurd hn hc)
      refine V.iconst ic_0 dX7_isText_13 ?_
      exact V.forget (vX7_isText_14 h hQ) trivial
def fX7_textOf_15 (σ : vMem) : Option (Nat × vMem) :=
  some (3, σ)
theorem vX7_textOf_15 {ad : Nat → Nat} {Q : Option Value → vMem → Prop} {r : (Nat × vMem)} {σ : vMem} (h : fX7_textOf_15 σ = some r) (hQ : Q (some (.ref (ad r.1))) r.2) : V GC mX7_textOf ad Q 0 15 [none, none] [.ref (ad 3)] σ := by
  unfold fX7_textOf_15 at h
  obtain rfl := Option.some.inj h
  exact V.aret dX7_textOf_15 rfl hQ
def fX7_textOf_15_v1 (σ : vMem) : Option (Nat × vMem) :=
  some (1, σ)
theorem vX7_textOf_15_v1 {ad : Nat → Nat} {Q : Option Value → vMem → Prop} {r : (Nat × vMem)} {σ : vMem} (h : fX7_textOf_15_v1 σ = some r) (hQ : Q (some (.ref (ad r.1))) r.2) : V GC mX7_textOf ad Q 0 15 [none, none] [.ref (ad 1)] σ := by
  unfold fX7_textOf_15_v1 at h
  obtain rfl := Option.some.inj h
  exact V.aret dX7_textOf_15 rfl hQ
def fX7_textOf (l1 : Int32) (σ : vMem) : Option (Nat × vMem) :=
  if l1 = 0 then (fX7_textOf_15_v1 σ) else
  (fX7_textOf_15 σ)
theorem vX7_textOf {ad : Nat → Nat} {Q : Option Value → vMem → Prop} {r : (Nat × vMem)} {l1 : Int32} {σ : vMem} (h : fX7_textOf l1 σ = some r) (hQ : Q (some (.ref (ad r.1))) r.2) : V GC mX7_textOf ad Q 0 0 [some (.ref (ad 0)), some (.int l1)] [] σ := by
  unfold fX7_textOf at h
  refine V.iload_n dX7_textOf_0 rfl ?_
  rcases itc h with ⟨hc, h⟩ | ⟨hc, h⟩
  · refine V.if_ne (tgt := 11) dX7_textOf_1 (by decide) (fun hn => absurd hc hn) (fun _ => ?_)
    refine V.aload_n dX7_textOf_4 rfl ?_
    refine V.get dX7_textOf_5 flX7_14 nC_0 gC_0 (by decide) (eC_0_0 _ _) ?_
    refine V.goto (tgt := 15) dX7_textOf_8 (by decide) ?_
    exact V.forget (vX7_textOf_15_v1 h hQ) trivial
  · refine V.if_ne (tgt := 11) dX7_textOf_1 (by decide) (fun _ => ?_) (fun hn => absurd hn hc)
    refine V.aload_n dX7_textOf_11 rfl ?_
    refine V.get dX7_textOf_12 flX7_18 nC_0 gC_0 (by decide) (eC_0_1 _ _) ?_
    exact V.forget (vX7_textOf_15 h hQ) trivial
def fX4_append_1_19 (σ : vMem) : Option (Int32 × vMem) :=
  some ((0 : Int32), σ)
theorem vX4_append_1_19 {ad : Nat → Nat} {Q : Option Value → vMem → Prop} {r : (Int32 × vMem)} {σ : vMem} (h : fX4_append_1_19 σ = some r) (hQ : Q (some (.int r.1)) r.2) : V GC mX4_append ad Q 0 19 [none, none] [] σ := by
  unfold fX4_append_1_19 at h
  refine V.iconst ic_0 dX4_append_19 ?_
  obtain rfl := Option.some.inj h
  exact V.zret dX4_append_20 rfl (Or.inl rfl) hQ
def fX4_append_1_41 (σ : vMem) : Option (Int32 × vMem) :=
  some ((1 : Int32), σ)
theorem vX4_append_1_41 {ad : Nat → Nat} {Q : Option Value → vMem → Prop} {r : (Int32 × vMem)} {σ : vMem} (h : fX4_append_1_41 σ = some r) (hQ : Q (some (.int r.1)) r.2) : V GC mX4_append ad Q 0 41 [none, none] [] σ := by
  unfold fX4_append_1_41 at h
  refine V.iconst ic_1 dX4_append_41 ?_
  obtain rfl := Option.some.inj h
  exact V.zret dX4_append_42 rfl (Or.inr rfl) hQ
def fX4_append_1_31 (σ : vMem) : Option (Int32 × vMem) :=
  fX4_append_1_41 (vup σ 1 1 ((σ.1 1 1) + (1 : Int32)))
theorem vX4_append_1_31 {ad : Nat → Nat} {Q : Option Value → vMem → Prop} {r : (Int32 × vMem)} {σ : vMem} (h : fX4_append_1_31 σ = some r) (hQ : Q (some (.int r.1)) r.2) : V GC mX4_append ad Q 0 31 [some (.ref (ad 1)), none] [] σ := by
  unfold fX4_append_1_31 at h
  refine V.aload_n dX4_append_31 rfl ?_
  refine V.dup rfl dX4_append_32 ?_
  refine V.get dX4_append_33 flX4_7 nC_1 gC_1 (by decide) (eC_1_1 _ _) ?_
  refine V.iconst ic_1 dX4_append_36 ?_
  refine V.iadd dX4_append_37 ?_
  refine V.putI dX4_append_38 fpX4_7 nC_1 gC_1 (by decide) rfl ?_
  exact V.forget (vX4_append_1_41 h hQ) trivial
def fX4_append_1 (l1 : Int32) (σ : vMem) : Option (Int32 × vMem) :=
  if (σ.1 1 1) < 0 then (fX4_append_1_19 σ) else
  (if (σ.1 1 1) < (35 : Int32) then (if (σ.1 1 1) < 0 ∨ 35 ≤ (σ.1 1 1).toNatClampNeg then none else fX4_append_1_31 (vup σ 2 (σ.1 1 1).toNatClampNeg l1)) else
  (fX4_append_1_19 σ))
theorem vX4_append_1 {ad : Nat → Nat} {Q : Option Value → vMem → Prop} {r : (Int32 × vMem)} {l1 : Int32} {σ : vMem} (h : fX4_append_1 l1 σ = some r) (hQ : Q (some (.int r.1)) r.2) : V GC mX4_append ad Q 0 0 [some (.ref (ad 1)), some (.int l1)] [] σ := by
  unfold fX4_append_1 at h
  refine V.aload_n dX4_append_0 rfl ?_
  refine V.get dX4_append_1 flX4_7 nC_1 gC_1 (by decide) (eC_1_1 _ _) ?_
  rcases itc h with ⟨hc, h⟩ | ⟨hc, h⟩
  · refine V.if_lt (tgt := 19) dX4_append_4 (by decide) (fun _ => ?_) (fun hn => absurd hc hn)
    exact V.forget (vX4_append_1_19 h hQ) trivial
  · refine V.if_lt (tgt := 19) dX4_append_4 (by decide) (fun hn => absurd hn hc) (fun _ => ?_)
    refine V.aload_n dX4_append_7 rfl ?_
    refine V.get dX4_append_8 flX4_7 nC_1 gC_1 (by decide) (eC_1_1 _ _) ?_
    refine V.aload_n dX4_append_11 rfl ?_
    refine V.get dX4_append_12 flX4_13 nC_1 gC_1 (by decide) (eC_1_0 _ _) ?_
    refine V.alen (v := 35) dX4_append_15 nC_2 gC_2 (by decide) ?_
    rcases itc h with ⟨hc, h⟩ | ⟨hc, h⟩
    · refine V.icmp_lt (tgt := 21) dX4_append_16 (by decide) (fun _ => ?_) (fun hn => absurd hc hn)
      refine V.aload_n dX4_append_21 rfl ?_
      refine V.get dX4_append_22 flX4_13 nC_1 gC_1 (by decide) (eC_1_0 _ _) ?_
      refine V.aload_n dX4_append_25 rfl ?_
      refine V.get dX4_append_26 flX4_7 nC_1 gC_1 (by decide) (eC_1_1 _ _) ?_
      refine V.iload_n dX4_append_29 rfl ?_
      obtain ⟨hb, h⟩ := ckn h
      refine V.iast dX4_append_30 nC_2 gC_2 hb ?_
      exact V.forget (vX4_append_1_31 h hQ) ⟨rfl, trivial⟩
    · refine V.icmp_lt (tgt := 21) dX4_append_16 (by decide) (fun hn => absurd hn hc) (fun _ => ?_)
      exact V.forget (vX4_append_1_19 h hQ) trivial
def fX5_isLetter_17 (s0 : Int32) (σ : vMem) : Option (Int32 × vMem) :=
  if ¬ (s0 = 0 ∨ s0 = 1) then none else some (s0, σ)
theorem vX5_isLetter_17 {ad : Nat → Nat} {Q : Option Value → vMem → Prop} {r : (Int32 × vMem)} {s0 : Int32} {σ : vMem} (h : fX5_isLetter_17 s0 σ = some r) (hQ : Q (some (.int r.1)) r.2) : V GC mX5_isLetter ad Q 0 17 [none] [.int s0] σ := by
  unfold fX5_isLetter_17 at h
  obtain ⟨hb, h⟩ := ckn h
  obtain rfl := Option.some.inj h
  exact V.zret dX5_isLetter_17 rfl (Decidable.not_not.mp hb) hQ
def fX5_isLetter_16 (σ : vMem) : Option (Int32 × vMem) :=
  fX5_isLetter_17 (0 : Int32) σ
theorem vX5_isLetter_16 {ad : Nat → Nat} {Q : Option Value → vMem → Prop} {r : (Int32 × vMem)} {σ : vMem} (h : fX5_isLetter_16 σ = some r) (hQ : Q (some (.int r.1)) r.2) : V GC mX5_isLetter ad Q 0 16 [none] [] σ := by
  unfold fX5_isLetter_16 at h
  refine V.iconst ic_0 dX5_isLetter_16 ?_
  exact V.forget (vX5_isLetter_17 h hQ) trivial
def fX5_isLetter (l0 : Int32) (σ : vMem) : Option (Int32 × vMem) :=
  if l0 < (97 : Int32) then (fX5_isLetter_16 σ) else
  (if (104 : Int32) < l0 then (fX5_isLetter_16 σ) else
  (fX5_isLetter_17 (1 : Int32) σ))
theorem vX5_isLetter {ad : Nat → Nat} {Q : Option Value → vMem → Prop} {r : (Int32 × vMem)} {l0 : Int32} {σ : vMem} (h : fX5_isLetter l0 σ = some r) (hQ : Q (some (.int r.1)) r.2) : V GC mX5_isLetter ad Q 0 0 [some (.int l0)] [] σ := by
  unfold fX5_isLetter at h
  refine V.iload_n dX5_isLetter_0 rfl ?_
  refine V.bipush bp_97 dX5_isLetter_1 ?_
  rcases itc h with ⟨hc, h⟩ | ⟨hc, h⟩
  · refine V.icmp_lt (tgt := 16) dX5_isLetter_3 (by decide) (fun _ => ?_) (fun hn => absurd hc hn)
    exact V.forget (vX5_isLetter_16 h hQ) trivial
  · refine V.icmp_lt (tgt := 16) dX5_isLetter_3 (by decide) (fun hn => absurd hn hc) (fun _ => ?_)
    refine V.iload_n dX5_isLetter_6 rfl ?_
    refine V.bipush bp_104 dX5_isLetter_7 ?_
    rcases itc h with ⟨hc, h⟩ | ⟨hc, h⟩
    · refine V.icmp_gt (tgt := 16) dX5_isLetter_9 (by decide) (fun _ => ?_) (fun hn => absurd hc hn)
      exact V.forget (vX5_isLetter_16 h hQ) trivial
    · refine V.icmp_gt (tgt := 16) dX5_isLetter_9 (by decide) (fun hn => absurd hn hc) (fun _ => ?_)
      refine V.iconst ic_1 dX5_isLetter_12 ?_
      refine V.goto (tgt := 17) dX5_isLetter_13 (by decide) ?_
      exact V.forget (vX5_isLetter_17 h hQ) trivial
def fX5_isFigure_17 (s0 : Int32) (σ : vMem) : Option (Int32 × vMem) :=
  if ¬ (s0 = 0 ∨ s0 = 1) then none else some (s0, σ)
theorem vX5_isFigure_17 {ad : Nat → Nat} {Q : Option Value → vMem → Prop} {r : (Int32 × vMem)} {s0 : Int32} {σ : vMem} (h : fX5_isFigure_17 s0 σ = some r) (hQ : Q (some (.int r.1)) r.2) : V GC mX5_isFigure ad Q 0 17 [none] [.int s0] σ := by
  unfold fX5_isFigure_17 at h
  obtain ⟨hb, h⟩ := ckn h
  obtain rfl := Option.some.inj h
  exact V.zret dX5_isFigure_17 rfl (Decidable.not_not.mp hb) hQ
def fX5_isFigure_16 (σ : vMem) : Option (Int32 × vMem) :=
  fX5_isFigure_17 (0 : Int32) σ
theorem vX5_isFigure_16 {ad : Nat → Nat} {Q : Option Value → vMem → Prop} {r : (Int32 × vMem)} {σ : vMem} (h : fX5_isFigure_16 σ = some r) (hQ : Q (some (.int r.1)) r.2) : V GC mX5_isFigure ad Q 0 16 [none] [] σ := by
  unfold fX5_isFigure_16 at h
  refine V.iconst ic_0 dX5_isFigure_16 ?_
  exact V.forget (vX5_isFigure_17 h hQ) trivial
def fX5_isFigure (l0 : Int32) (σ : vMem) : Option (Int32 × vMem) :=
  if l0 < (48 : Int32) then (fX5_isFigure_16 σ) else
  (if (57 : Int32) < l0 then (fX5_isFigure_16 σ) else
  (fX5_isFigure_17 (1 : Int32) σ))
theorem vX5_isFigure {ad : Nat → Nat} {Q : Option Value → vMem → Prop} {r : (Int32 × vMem)} {l0 : Int32} {σ : vMem} (h : fX5_isFigure l0 σ = some r) (hQ : Q (some (.int r.1)) r.2) : V GC mX5_isFigure ad Q 0 0 [some (.int l0)] [] σ := by
  unfold fX5_isFigure at h
  refine V.iload_n dX5_isFigure_0 rfl ?_
  refine V.bipush bp_48 dX5_isFigure_1 ?_
  rcases itc h with ⟨hc, h⟩ | ⟨hc, h⟩
  · refine V.icmp_lt (tgt := 16) dX5_isFigure_3 (by decide) (fun _ => ?_) (fun hn => absurd hc hn)
    exact V.forget (vX5_isFigure_16 h hQ) trivial
  · refine V.icmp_lt (tgt := 16) dX5_isFigure_3 (by decide) (fun hn => absurd hn hc) (fun _ => ?_)
    refine V.iload_n dX5_isFigure_6 rfl ?_
    refine V.bipush bp_57 dX5_isFigure_7 ?_
    rcases itc h with ⟨hc, h⟩ | ⟨hc, h⟩
    · refine V.icmp_gt (tgt := 16) dX5_isFigure_9 (by decide) (fun _ => ?_) (fun hn => absurd hc hn)
      exact V.forget (vX5_isFigure_16 h hQ) trivial
    · refine V.icmp_gt (tgt := 16) dX5_isFigure_9 (by decide) (fun hn => absurd hn hc) (fun _ => ?_)
      refine V.iconst ic_1 dX5_isFigure_12 ?_
      refine V.goto (tgt := 17) dX5_isFigure_13 (by decide) ?_
      exact V.forget (vX5_isFigure_17 h hQ) trivial
def fX5_basketTakes_61 (s0 : Int32) (σ : vMem) : Option (Int32 × vMem) :=
  if ¬ (s0 = 0 ∨ s0 = 1) then none else some (s0, σ)
theorem vX5_basketTakes_61 {ad : Nat → Nat} {Q : Option Value → vMem → Prop} {r : (Int32 × vMem)} {s0 : Int32} {σ : vMem} (h : fX5_basketTakes_61 s0 σ = some r) (hQ : Q (some (.int r.1)) r.2) : V GC mX5_basketTakes ad Q 1 61 [none, none, none] [.int s0] σ := by
  unfold fX5_basketTakes_61 at h
  obtain ⟨hb, h⟩ := ckn h
  obtain rfl := Option.some.inj h
  exact V.zret dX5_basketTakes_61 rfl (Decidable.not_not.mp hb) hQ
def fX5_basketTakes_60 (σ : vMem) : Option (Int32 × vMem) :=
  fX5_basketTakes_61 (0 : Int32) σ
theorem vX5_basketTakes_60 {ad : Nat → Nat} {Q : Option Value → vMem → Prop} {r : (Int32 × vMem)} {σ : vMem} (h : fX5_basketTakes_60 σ = some r) (hQ : Q (some (.int r.1)) r.2) : V GC mX5_basketTakes ad Q 1 60 [none, none, none] [] σ := by
  unfold fX5_basketTakes_60 at h
  refine V.iconst ic_0 dX5_basketTakes_60 ?_
  exact V.forget (vX5_basketTakes_61 h hQ) trivial
def fX5_basketTakes_30 (s0 : Int32) (σ : vMem) : Option (Int32 × vMem) :=
  if ¬ (s0 = 0 ∨ s0 = 1) then none else some (s0, σ)
theorem vX5_basketTakes_30 {ad : Nat → Nat} {Q : Option Value → vMem → Prop} {r : (Int32 × vMem)} {s0 : Int32} {σ : vMem} (h : fX5_basketTakes_30 s0 σ = some r) (hQ : Q (some (.int r.1)) r.2) : V GC mX5_basketTakes ad Q 1 30 [none, none, none] [.int s0] σ := by
  unfold fX5_basketTakes_30 at h
  obtain ⟨hb, h⟩ := ckn h
  obtain rfl := Option.some.inj h
  exact V.zret dX5_basketTakes_30 rfl (Decidable.not_not.mp hb) hQ
def fX5_basketTakes_29 (σ : vMem) : Option (Int32 × vMem) :=
  fX5_basketTakes_30 (0 : Int32) σ
theorem vX5_basketTakes_29 {ad : Nat → Nat} {Q : Option Value → vMem → Prop} {r : (Int32 × vMem)} {σ : vMem} (h : fX5_basketTakes_29 σ = some r) (hQ : Q (some (.int r.1)) r.2) : V GC mX5_basketTakes ad Q 1 29 [none, none, none] [] σ := by
  unfold fX5_basketTakes_29 at h
  refine V.iconst ic_0 dX5_basketTakes_29 ?_
  exact V.forget (vX5_basketTakes_30 h hQ) trivial
def fX5_basketTakes (l1 : Int32) (l2 : Int32) (σ : vMem) : Option (Int32 × vMem) :=
  if l1 = 0 then (if (8 : Int32) ≤ (σ.1 5 5) then (fX5_basketTakes_29 σ) else
  (if l2 < (48 : Int32) then (fX5_basketTakes_29 σ) else
  (if (50 : Int32) < l2 then (fX5_basketTakes_29 σ) else
  (fX5_basketTakes_30 (1 : Int32) σ)))) else
  (if (4 : Int32) ≤ l1 then (if (7 : Int32) ≤ l1 then (fX5_basketTakes_60 σ) else
  ((fX5_isLetter l2 σ).bind fun q1 => if q1.1 = 0 then (fX5_basketTakes_60 q1.2) else
  (fX5_basketTakes_61 (1 : Int32) q1.2))) else
  ((fX5_isFigure l2 σ).bind fun q2 => fX5_basketTakes_61 q2.1 q2.2))
theorem vX5_basketTakes {ad : Nat → Nat} {Q : Option Value → vMem → Prop} {r : (Int32 × vMem)} {l1 : Int32} {l2 : Int32} {σ : vMem} (h : fX5_basketTakes l1 l2 σ = some r) (hQ : Q (some (.int r.1)) r.2) : V GC mX5_basketTakes ad Q 1 0 [some (.ref (ad 5)), some (.int l1), some (.int l2)] [] σ := by
  unfold fX5_basketTakes at h
  refine V.iload_n dX5_basketTakes_0 rfl ?_
  rcases itc h with ⟨hc, h⟩ | ⟨hc, h⟩
  · refine V.if_ne (tgt := 31) dX5_basketTakes_1 (by decide) (fun hn => absurd hc hn) (fun _ => ?_)
    refine V.aload_n dX5_basketTakes_4 rfl ?_
    refine V.get dX5_basketTakes_5 flX5_28 nC_5 gC_5 (by decide) (eC_5_5 _ _) ?_
    refine V.bipush bp_8 dX5_basketTakes_8 ?_
    rcases itc h with ⟨hc, h⟩ | ⟨hc, h⟩
    · refine V.icmp_ge (tgt := 29) dX5_basketTakes_10 (by decide) (fun _ => ?_) (fun hn => absurd hc hn)
      exact V.forget (vX5_basketTakes_29 h hQ) trivial
    · refine V.icmp_ge (tgt := 29) dX5_basketTakes_10 (by decide) (fun hn => absurd hn hc) (fun _ => ?_)
      refine V.iload_n dX5_basketTakes_13 rfl ?_
      refine V.bipush bp_48 dX5_basketTakes_14 ?_
      rcases itc h with ⟨hc, h⟩ | ⟨hc, h⟩
      · refine V.icmp_lt (tgt := 29) dX5_basketTakes_16 (by decide) (fun _ => ?_) (fun hn => absurd hc hn)
        exact V.forget (vX5_basketTakes_29 h hQ) trivial
      · refine V.icmp_lt (tgt := 29) dX5_basketTakes_16 (by decide) (fun hn => absurd hn hc) (fun _ => ?_)
        refine V.iload_n dX5_basketTakes_19 rfl ?_
        refine V.bipush bp_50 dX5_basketTakes_20 ?_
        rcases itc h with ⟨hc, h⟩ | ⟨hc, h⟩
        · refine V.icmp_gt (tgt := 29) dX5_basketTakes_22 (by decide) (fun _ => ?_) (fun hn => absurd hc hn)
          exact V.forget (vX5_basketTakes_29 h hQ) trivial
        · refine V.icmp_gt (tgt := 29) dX5_basketTakes_22 (by decide) (fun hn => absurd hn hc) (fun _ => ?_)
          refine V.iconst ic_1 dX5_basketTakes_25 ?_
          refine V.goto (tgt := 30) dX5_basketTakes_26 (by decide) ?_
          exact V.forget (vX5_basketTakes_30 h hQ) trivial
  · refine V.if_ne (tgt := 31) dX5_basketTakes_1 (by decide) (fun _ => ?_) (fun hn => absurd hn hc)
    refine V.iload_n dX5_basketTakes_31 rfl ?_
    refine V.iconst ic_4 dX5_basketTakes_32 ?_
    rcases itc h with ⟨hc, h⟩ | ⟨hc, h⟩
    · refine V.icmp_ge (tgt := 43) dX5_basketTakes_33 (by decide) (fun _ => ?_) (fun hn => absurd hc hn)
      refine V.iload_n dX5_basketTakes_43 rfl ?_
      refine V.bipush bp_7 dX5_basketTakes_44 ?_
      rcases itc h with ⟨hc, h⟩ | ⟨hc, h⟩
      · refine V.icmp_ge (tgt := 60) dX5_basketTakes_46 (by decide) (fun _ => ?_) (fun hn => absurd hc hn)
        exact V.forget (vX5_basketTakes_60 h hQ) trivial
      · refine V.icmp_ge (tgt := 60) dX5_basketTakes_46 (by decide) (fun hn => absurd hn hc) (fun _ => ?_)
        refine V.iload_n dX5_basketTakes_49 rfl ?_
        obtain ⟨q1, h1, h⟩ := bdc h
        refine V.callS1 (mc := mX5_isLetter) (d' := 0) dX5_basketTakes_50 lkX5_72 hfX5_isLetter (by decide) (Nat.le_of_ble_eq_true rfl) (Nat.le_of_ble_eq_true rfl) (vX5_isLetter h1 ?_)
        rcases itc h with ⟨hc, h⟩ | ⟨hc, h⟩
        · refine V.if_eq (tgt := 60) dX5_basketTakes_53 (by decide) (fun _ => ?_) (fun hn => absurd hc hn)
          exact V.forget (vX5_basketTakes_60 h hQ) trivial
        · refine V.if_eq (tgt := 60) dX5_basketTakes_53 (by decide) (fun hn => absurd hn hc) (fun _ => ?_)
          refine V.iconst ic_1 dX5_basketTakes_56 ?_
          refine V.goto (tgt := 61) dX5_basketTakes_57 (by decide) ?_
          exact V.forget (vX5_basketTakes_61 h hQ) trivial
    · refine V.icmp_ge (tgt := 43) dX5_basketTakes_33 (by decide) (fun hn => absurd hn hc) (fun _ => ?_)
      refine V.iload_n dX5_basketTakes_36 rfl ?_
      obtain ⟨q2, h1, h⟩ := bdc h
      refine V.callS1 (mc := mX5_isFigure) (d' := 0) dX5_basketTakes_37 lkX5_68 hfX5_isFigure (by decide) (Nat.le_of_ble_eq_true rfl) (Nat.le_of_ble_eq_true rfl) (vX5_isFigure h1 ?_)
      refine V.goto (tgt := 61) dX5_basketTakes_40 (by decide) ?_
      exact V.forget (vX5_basketTakes_61 h hQ) trivial
def fX5_keepBasketByte_31 (σ : vMem) : Option vMem :=
  some σ
theorem vX5_keepBasketByte_31 {ad : Nat → Nat} {Q : Option Value → vMem → Prop} {r : vMem} {σ : vMem} (h : fX5_keepBasketByte_31 σ = some r) (hQ : Q none r) : V GC mX5_keepBasketByte ad Q 0 31 [none, none, none, none] [] σ := by
  unfold fX5_keepBasketByte_31 at h
  obtain rfl := Option.some.inj h
  exact V.vret dX5_keepBasketByte_31 rfl hQ
def fX5_keepBasketByte_153 (σ : vMem) : Option vMem :=
  some σ
theorem vX5_keepBasketByte_153 {ad : Nat → Nat} {Q : Option Value → vMem → Prop} {r : vMem} {σ : vMem} (h : fX5_keepBasketByte_153 σ = some r) (hQ : Q none r) : V GC mX5_keepBasketByte ad Q 0 153 [none, none, none, none] [] σ := by
  unfold fX5_keepBasketByte_153 at h
  obtain rfl := Option.some.inj h
  exact V.vret dX5_keepBasketByte_153 rfl hQ
def fX5_keepBasketByte_137 (l1 : Int32) (l2 : Int32) (l3 : Int32) (σ : vMem) : Option vMem :=
  if (((l3 * (3 : Int32)) + l1) - (4 : Int32)) < 0 ∨ 24 ≤ (((l3 * (3 : Int32)) + l1) - (4 : Int32)).toNatClampNeg then none else fX5_keepBasketByte_153 (vup σ 12 (((l3 * (3 : Int32)) + l1) - (4 : Int32)).toNatClampNeg (l2 - (97 : Int32)))
theorem vX5_keepBasketByte_137 {ad : Nat → Nat} {Q : Option Value → vMem → Prop} {r : vMem} {l1 : Int32} {l2 : Int32} {l3 : Int32} {σ : vMem} (h : fX5_keepBasketByte_137 l1 l2 l3 σ = some r) (hQ : Q none r) : V GC mX5_keepBasketByte ad Q 0 137 [some (.ref (ad 5)), some (.int l1), some (.int l2), some (.int l3)] [] σ := by
  unfold fX5_keepBasketByte_137 at h
  refine V.aload_n dX5_keepBasketByte_137 rfl ?_
  refine V.get dX5_keepBasketByte_138 flX5_43 nC_5 gC_5 (by decide) (eC_5_10 _ _) ?_
  refine V.iload_n dX5_keepBasketByte_141 rfl ?_
  refine V.iconst ic_3 dX5_keepBasketByte_142 ?_
  refine V.imul dX5_keepBasketByte_143 ?_
  refine V.iload_n dX5_keepBasketByte_144 rfl ?_
  refine V.iadd dX5_keepBasketByte_145 ?_
  refine V.iconst ic_4 dX5_keepBasketByte_146 ?_
  refine V.isub dX5_keepBasketByte_147 ?_
  refine V.iload_n dX5_keepBasketByte_148 rfl ?_
  refine V.bipush bp_97 dX5_keepBasketByte_149 ?_
  refine V.isub dX5_keepBasketByte_151 ?_
  obtain ⟨hb, h⟩ := ckn h
  refine V.iast dX5_keepBasketByte_152 nC_12 gC_12 hb ?_
  exact V.forget (vX5_keepBasketByte_153 h hQ) trivial
def fX5_keepBasketByte_14 (l1 : Int32) (l2 : Int32) (σ : vMem) : Option vMem :=
  if ((σ.1 5 5) - (1 : Int32)) < 0 then (fX5_keepBasketByte_31 σ) else
  (if ((σ.1 5 5) - (1 : Int32)) < (8 : Int32) then (if l1 = 0 then (if ((σ.1 5 5) - (1 : Int32)) < 0 ∨ 8 ≤ ((σ.1 5 5) - (1 : Int32)).toNatClampNeg then none else fX5_keepBasketByte_153 (vup σ 9 ((σ.1 5 5) - (1 : Int32)).toNatClampNeg ((10 : Int32) * (l2 - (48 : Int32))))) else
  (if l1 = 1 then (if ((σ.1 5 5) - (1 : Int32)) < 0 ∨ 8 ≤ ((σ.1 5 5) - (1 : Int32)).toNatClampNeg then none else if ((σ.1 5 5) - (1 : Int32)) < 0 ∨ 8 ≤ ((σ.1 5 5) - (1 : Int32)).toNatClampNeg then none else fX5_keepBasketByte_153 (vup σ 9 ((σ.1 5 5) - (1 : Int32)).toNatClampNeg ((σ.1 9 ((σ.1 5 5) - (1 : Int32)).toNatClampNeg) + (l2 - (48 : Int32))))) else
  (if l1 = 2 then (if ((σ.1 5 5) - (1 : Int32)) < 0 ∨ 8 ≤ ((σ.1 5 5) - (1 : Int32)).toNatClampNeg then none else fX5_keepBasketByte_153 (vup σ 10 ((σ.1 5 5) - (1 : Int32)).toNatClampNeg ((10 : Int32) * (l2 - (48 : Int32))))) else
  (if l1 = 3 then (if ((σ.1 5 5) - (1 : Int32)) < 0 ∨ 8 ≤ ((σ.1 5 5) - (1 : Int32)).toNatClampNeg then none else if ((σ.1 5 5) - (1 : Int32)) < 0 ∨ 8 ≤ ((σ.1 5 5) - (1 : Int32)).toNatClampNeg then none else fX5_keepBasketByte_153 (vup σ 10 ((σ.1 5 5) - (1 : Int32)).toNatClampNeg ((σ.1 10 ((σ.1 5 5) - (1 : Int32)).toNatClampNeg) + (l2 - (48 : Int32))))) else
  (if ((σ.1 5 5) - (1 : Int32)) < 0 ∨ 8 ≤ ((σ.1 5 5) - (1 : Int32)).toNatClampNeg then none else fX5_keepBasketByte_137 l1 l2 ((σ.1 5 5) - (1 : Int32)) (vup σ 11 ((σ.1 5 5) - (1 : Int32)).toNatClampNeg (l1 - (3 : Int32)))))))) else
  (fX5_keepBasketByte_31 σ))
theorem vX5_keepBasketByte_14 {ad : Nat → Nat} {Q : Option Value → vMem → Prop} {r : vMem} {l1 : Int32} {l2 : Int32} {σ : vMem} (h : fX5_keepBasketByte_14 l1 l2 σ = some r) (hQ : Q none r) : V GC mX5_keepBasketByte ad Q 0 14 [some (.ref (ad 5)), some (.int l1), some (.int l2), none] [] σ := by
  unfold fX5_keepBasketByte_14 at h
  refine V.aload_n dX5_keepBasketByte_14 rfl ?_
  refine V.get dX5_keepBasketByte_15 flX5_28 nC_5 gC_5 (by decide) (eC_5_5 _ _) ?_
  refine V.iconst ic_1 dX5_keepBasketByte_18 ?_
  refine V.isub dX5_keepBasketByte_19 ?_
  refine V.istore_n dX5_keepBasketByte_20 (by decide) rfl ?_
  refine V.iload_n dX5_keepBasketByte_21 rfl ?_
  rcases itc h with ⟨hc, h⟩ | ⟨hc, h⟩
  · refine V.if_lt (tgt := 31) dX5_keepBasketByte_22 (by decide) (fun _ => ?_) (fun hn => absurd hc hn)
    exact V.forget (vX5_keepBasketByte_31 h hQ) trivial
  · refine V.if_lt (tgt := 31) dX5_keepBasketByte_22 (by decide) (fun hn => absurd hn hc) (fun _ => ?_)
    refine V.iload_n dX5_keepBasketByte_25 rfl ?_
    refine V.bipush bp_8 dX5_keepBasketByte_26 ?_
    rcases itc h with ⟨hc, h⟩ | ⟨hc, h⟩
    · refine V.icmp_lt (tgt := 32) dX5_keepBasketByte_28 (by decide) (fun _ => ?_) (fun hn => absurd hc hn)
      refine V.iload_n dX5_keepBasketByte_32 rfl ?_
      rcases itc h with ⟨hc, h⟩ | ⟨hs0, h⟩
      · refine V.tableIn (off := 31) (tgt := 64) dX5_keepBasketByte_33 (by rw [hc]; decide) (by rw [hc]; decide) (by rw [hc]; rfl) (by decide) ?_
        refine V.aload_n dX5_keepBasketByte_64 rfl ?_
        refine V.get dX5_keepBasketByte_65 flX5_34 nC_5 gC_5 (by decide) (eC_5_7 _ _) ?_
        refine V.iload_n dX5_keepBasketByte_68 rfl ?_
        refine V.bipush bp_10 dX5_keepBasketByte_69 ?_
        refine V.iload_n dX5_keepBasketByte_71 rfl ?_
        refine V.bipush bp_48 dX5_keepBasketByte_72 ?_
        refine V.isub dX5_keepBasketByte_74 ?_
        refine V.imul dX5_keepBasketByte_75 ?_
        obtain ⟨hb, h⟩ := ckn h
        refine V.iast dX5_keepBasketByte_76 nC_9 gC_9 hb ?_
        refine V.goto (tgt := 153) dX5_keepBasketByte_77 (by decide) ?_
        exact V.forget (vX5_keepBasketByte_153 h hQ) trivial
      · rcases itc h with ⟨hc, h⟩ | ⟨hs1, h⟩
        · refine V.tableIn (off := 47) (tgt := 80) dX5_keepBasketByte_33 (by rw [hc]; decide) (by rw [hc]; decide) (by rw [hc]; rfl) (by decide) ?_
          refine V.aload_n dX5_keepBasketByte_80 rfl ?_
          refine V.get dX5_keepBasketByte_81 flX5_34 nC_5 gC_5 (by decide) (eC_5_7 _ _) ?_
          refine V.iload_n dX5_keepBasketByte_84 rfl ?_
          refine V.dup2 rfl rfl dX5_keepBasketByte_85 ?_
          obtain ⟨hb, h⟩ := ckn h
          refine V.iald dX5_keepBasketByte_86 nC_9 gC_9 hb ?_
          refine V.iload_n dX5_keepBasketByte_87 rfl ?_
          refine V.bipush bp_48 dX5_keepBasketByte_88 ?_
          refine V.isub dX5_keepBasketByte_90 ?_
          refine V.iadd dX5_keepBasketByte_91 ?_
          obtain ⟨hb, h⟩ := ckn h
          refine V.iast dX5_keepBasketByte_92 nC_9 gC_9 hb ?_
          refine V.goto (tgt := 153) dX5_keepBasketByte_93 (by decide) ?_
          exact V.forget (vX5_keepBasketByte_153 h hQ) trivial
        · rcases itc h with ⟨hc, h⟩ | ⟨hs2, h⟩
          · refine V.tableIn (off := 63) (tgt := 96) dX5_keepBasketByte_33 (by rw [hc]; decide) (by rw [hc]; decide) (by rw [hc]; rfl) (by decide) ?_
            refine V.aload_n dX5_keepBasketByte_96 rfl ?_
            refine V.get dX5_keepBasketByte_97 flX5_37 nC_5 gC_5 (by decide) (eC_5_8 _ _) ?_
            refine V.iload_n dX5_keepBasketByte_100 rfl ?_
            refine V.bipush bp_10 dX5_keepBasketByte_101 ?_
            refine V.iload_n dX5_keepBasketByte_103 rfl ?_
            refine V.bipush bp_48 dX5_keepBasketByte_104 ?_
            refine V.isub dX5_keepBasketByte_106 ?_
            refine V.imul dX5_keepBasketByte_107 ?_
            obtain ⟨hb, h⟩ := ckn h
            refine V.iast dX5_keepBasketByte_108 nC_10 gC_10 hb ?_
            refine V.goto (tgt := 153) dX5_keepBasketByte_109 (by decide) ?_
            exact V.forget (vX5_keepBasketByte_153 h hQ) trivial
          · rcases itc h with ⟨hc, h⟩ | ⟨hs3, h⟩
            · refine V.tableIn (off := 79) (tgt := 112) dX5_keepBasketByte_33 (by rw [hc]; decide) (by rw [hc]; decide) (by rw [hc]; rfl) (by decide) ?_
              refine V.aload_n dX5_keepBasketByte_112 rfl ?_
              refine V.get dX5_keepBasketByte_113 flX5_37 nC_5 gC_5 (by decide) (eC_5_8 _ _) ?_
              refine V.iload_n dX5_keepBasketByte_116 rfl ?_
              refine V.dup2 rfl rfl dX5_keepBasketByte_117 ?_
              obtain ⟨hb, h⟩ := ckn h
              refine V.iald dX5_keepBasketByte_118 nC_10 gC_10 hb ?_
              refine V.iload_n dX5_keepBasketByte_119 rfl ?_
              refine V.bipush bp_48 dX5_keepBasketByte_120 ?_
              refine V.isub dX5_keepBasketByte_122 ?_
              refine V.iadd dX5_keepBasketByte_123 ?_
              obtain ⟨hb, h⟩ := ckn h
              refine V.iast dX5_keepBasketByte_124 nC_10 gC_10 hb ?_
              refine V.goto (tgt := 153) dX5_keepBasketByte_125 (by decide) ?_
              exact V.forget (vX5_keepBasketByte_153 h hQ) trivial
            · refine V.tableOut (tgt := 128) dX5_keepBasketByte_33 (by have hs0t : ¬ l1.toInt = 0 := lv_neT hs0 rfl; have hs1t : ¬ l1.toInt = 1 := lv_neT hs1 rfl; have hs2t : ¬ l1.toInt = 2 := lv_neT hs2 rfl; have hs3t : ¬ l1.toInt = 3 := lv_neT hs3 rfl; omega) (by decide) ?_
              refine V.aload_n dX5_keepBasketByte_128 rfl ?_
              refine V.get dX5_keepBasketByte_129 flX5_40 nC_5 gC_5 (by decide) (eC_5_9 _ _) ?_
              refine V.iload_n dX5_keepBasketByte_132 rfl ?_
              refine V.iload_n dX5_keepBasketByte_133 rfl ?_
              refine V.iconst ic_3 dX5_keepBasketByte_134 ?_
              refine V.isub dX5_keepBasketByte_135 ?_
              obtain ⟨hb, h⟩ := ckn h
              refine V.iast dX5_keepBasketByte_136 nC_11 gC_11 hb ?_
              exact V.forget (vX5_keepBasketByte_137 h hQ) ⟨rfl, ⟨rfl, ⟨rfl, ⟨rfl, trivial⟩⟩⟩⟩
    · refine V.icmp_lt (tgt := 32) dX5_keepBasketByte_28 (by decide) (fun hn => absurd hn hc) (fun _ => ?_)
      exact V.forget (vX5_keepBasketByte_31 h hQ) trivial
def fX5_keepBasketByte (l1 : Int32) (l2 : Int32) (σ : vMem) : Option vMem :=
  if l1 = 0 then (fX5_keepBasketByte_14 l1 l2 (vup σ 5 5 ((σ.1 5 5) + (1 : Int32)))) else
  (fX5_keepBasketByte_14 l1 l2 σ)
theorem vX5_keepBasketByte {ad : Nat → Nat} {Q : Option Value → vMem → Prop} {r : vMem} {l1 : Int32} {l2 : Int32} {σ : vMem} (h : fX5_keepBasketByte l1 l2 σ = some r) (hQ : Q none r) : V GC mX5_keepBasketByte ad Q 0 0 [some (.ref (ad 5)), some (.int l1), some (.int l2), none] [] σ := by
  unfold fX5_keepBasketByte at h
  refine V.iload_n dX5_keepBasketByte_0 rfl ?_
  rcases itc h with ⟨hc, h⟩ | ⟨hc, h⟩
  · refine V.if_ne (tgt := 14) dX5_keepBasketByte_1 (by decide) (fun hn => absurd hc hn) (fun _ => ?_)
    refine V.aload_n dX5_keepBasketByte_4 rfl ?_
    refine V.dup rfl dX5_keepBasketByte_5 ?_
    refine V.get dX5_keepBasketByte_6 flX5_28 nC_5 gC_5 (by decide) (eC_5_5 _ _) ?_
    refine V.iconst ic_1 dX5_keepBasketByte_9 ?_
    refine V.iadd dX5_keepBasketByte_10 ?_
    refine V.putI dX5_keepBasketByte_11 fpX5_28 nC_5 gC_5 (by decide) rfl ?_
    exact V.forget (vX5_keepBasketByte_14 h hQ) ⟨rfl, ⟨rfl, ⟨rfl, trivial⟩⟩⟩
  · refine V.if_ne (tgt := 14) dX5_keepBasketByte_1 (by decide) (fun _ => ?_) (fun hn => absurd hn hc)
    exact V.forget (vX5_keepBasketByte_14 h hQ) ⟨rfl, ⟨rfl, ⟨rfl, trivial⟩⟩⟩
def fX5_takeBaskets_88 (s0 : Int32) (σ : vMem) : Option (Int32 × vMem) :=
  some (s0, σ)
theorem vX5_takeBaskets_88 {ad : Nat → Nat} {Q : Option Value → vMem → Prop} {r : (Int32 × vMem)} {s0 : Int32} {σ : vMem} (h : fX5_takeBaskets_88 s0 σ = some r) (hQ : Q (some (.int r.1)) r.2) : V GC mX5_takeBaskets ad Q 2 88 [none, none, none, none, none] [.int s0] σ := by
  unfold fX5_takeBaskets_88 at h
  obtain rfl := Option.some.inj h
  exact V.iret dX5_takeBaskets_88 rfl hQ
def fX5_takeBaskets_80 (σ : vMem) : Option (Int32 × vMem) :=
  fX5_takeBaskets_88 (-1 : Int32) σ
theorem vX5_takeBaskets_80 {ad : Nat → Nat} {Q : Option Value → vMem → Prop} {r : (Int32 × vMem)} {σ : vMem} (h : fX5_takeBaskets_80 σ = some r) (hQ : Q (some (.int r.1)) r.2) : V GC mX5_takeBaskets ad Q 2 80 [none, none, none, none, none] [] σ := by
  unfold fX5_takeBaskets_80 at h
  refine V.iconst ic_m1 dX5_takeBaskets_80 ?_
  refine V.goto (tgt := 88) dX5_takeBaskets_81 (by decide) ?_
  exact V.forget (vX5_takeBaskets_88 h hQ) trivial
def fX5_takeBaskets_62 (K4 : Int32 → Int32 → vMem → Option (Int32 × vMem)) (l2 : Int32) (l3 : Int32) (σ : vMem) : Option (Int32 × vMem) :=
  K4 l2 (l3 + (1 : Int32)) σ
theorem vX5_takeBaskets_62 {ad : Nat → Nat} {Q : Option Value → vMem → Prop} {r : (Int32 × vMem)} {K4 : Int32 → Int32 → vMem → Option (Int32 × vMem)} (hK4 : ∀ (l2 : Int32) (l3 : Int32) (σ : vMem), K4 l2 l3 σ = some r → V GC mX5_takeBaskets ad Q 2 4 [some (.ref (ad 5)), some (.ref (ad 3)), some (.int l2), some (.int l3), none] [] σ) {l2 : Int32} {l3 : Int32} {σ : vMem} (h : fX5_takeBaskets_62 K4 l2 l3 σ = some r) (hQ : Q (some (.int r.1)) r.2) : V GC mX5_takeBaskets ad Q 2 62 [some (.ref (ad 5)), some (.ref (ad 3)), some (.int l2), some (.int l3), none] [] σ := by
  unfold fX5_takeBaskets_62 at h
  refine V.iinc dX5_takeBaskets_62 rfl (ii_1 _) (by decide) rfl ?_
  refine V.goto (tgt := 4) dX5_takeBaskets_65 (by decide) ?_
  exact V.forget (hK4 _ _ _ h) ⟨rfl, ⟨rfl, ⟨rfl, ⟨rfl, trivial⟩⟩⟩⟩
def fX5_takeBaskets_37 (K4 : Int32 → Int32 → vMem → Option (Int32 × vMem)) (l2 : Int32) (l3 : Int32) (l4 : Int32) (σ : vMem) : Option (Int32 × vMem) :=
  (fX5_basketTakes l2 l4 σ).bind fun q1 => if q1.1 = 0 then (some (l3, q1.2)) else
  ((fX5_keepBasketByte l2 l4 q1.2).bind fun q2 => fX5_takeBaskets_62 K4 (l2 + (1 : Int32)) l3 q2)
theorem vX5_takeBaskets_37 {ad : Nat → Nat} {Q : Option Value → vMem → Prop} {r : (Int32 × vMem)} {K4 : Int32 → Int32 → vMem → Option (Int32 × vMem)} (hK4 : ∀ (l2 : Int32) (l3 : Int32) (σ : vMem), K4 l2 l3 σ = some r → V GC mX5_takeBaskets ad Q 2 4 [some (.ref (ad 5)), some (.ref (ad 3)), some (.int l2), some (.int l3), none] [] σ) {l2 : Int32} {l3 : Int32} {l4 : Int32} {σ : vMem} (h : fX5_takeBaskets_37 K4 l2 l3 l4 σ = some r) (hQ : Q (some (.int r.1)) r.2) : V GC mX5_takeBaskets ad Q 2 37 [some (.ref (ad 5)), some (.ref (ad 3)), some (.int l2), some (.int l3), some (.int l4)] [] σ := by
  unfold fX5_takeBaskets_37 at h
  refine V.aload_n dX5_takeBaskets_37 rfl ?_
  refine V.iload_n dX5_takeBaskets_38 rfl ?_
  refine V.iload dX5_takeBaskets_39 rfl ?_
  obtain ⟨q1, h1, h⟩ := bdc h
  refine V.callV2 (mc := mX5_basketTakes) (d' := 1) dX5_takeBaskets_41 lkX5_78 hfX5_basketTakes nC_5 gC_5 rfl (by decide) (Nat.le_of_ble_eq_true rfl) (Nat.le_of_ble_eq_true rfl) (vX5_basketTakes h1 ?_)
  rcases itc h with ⟨hc, h⟩ | ⟨hc, h⟩
  · refine V.if_eq (tgt := 60) dX5_takeBaskets_44 (by decide) (fun _ => ?_) (fun hn => absurd hc hn)
    refine V.iload_n dX5_takeBaskets_60 rfl ?_
    obtain rfl := Option.some.inj h
    exact V.iret dX5_takeBaskets_61 rfl hQ
  · refine V.if_eq (tgt := 60) dX5_takeBaskets_44 (by decide) (fun hn => absurd hn hc) (fun _ => ?_)
    refine V.aload_n dX5_takeBaskets_47 rfl ?_
    refine V.iload_n dX5_takeBaskets_48 rfl ?_
    refine V.iload dX5_takeBaskets_49 rfl ?_
    obtain ⟨q2, h1, h⟩ := bdc h
    refine V.callV2 (mc := mX5_keepBasketByte) (d' := 0) dX5_takeBaskets_51 lkX5_82 hfX5_keepBasketByte nC_5 gC_5 rfl (by decide) (Nat.le_of_ble_eq_true rfl) (Nat.le_of_ble_eq_true rfl) (vX5_keepBasketByte h1 ?_)
    refine V.iinc dX5_takeBaskets_54 rfl (ii_1 _) (by decide) rfl ?_
    refine V.goto (tgt := 62) dX5_takeBaskets_57 (by decide) ?_
    exact V.forget (vX5_takeBaskets_62 hK4 h hQ) ⟨rfl, ⟨rfl, ⟨rfl, ⟨rfl, trivial⟩⟩⟩⟩
def fX5_takeBaskets_4 (K4 : Int32 → Int32 → vMem → Option (Int32 × vMem)) (l2 : Int32) (l3 : Int32) (σ : vMem) : Option (Int32 × vMem) :=
  if (σ.1 3 1) ≤ l3 then (if (σ.1 3 1) = 0 then (fX5_takeBaskets_80 σ) else
  (if l2 ≤ (4 : Int32) then (fX5_takeBaskets_88 (σ.1 3 1) σ) else
  (fX5_takeBaskets_80 σ))) else
  (if l3 < 0 ∨ 63 ≤ l3.toNatClampNeg then none else if l2 ≤ (4 : Int32) then (fX5_takeBaskets_37 K4 l2 l3 (σ.1 4 l3.toNatClampNeg) σ) else
  (if (σ.1 4 l3.toNatClampNeg) = (59 : Int32) then (fX5_takeBaskets_62 K4 (0 : Int32) l3 σ) else
  (fX5_takeBaskets_37 K4 l2 l3 (σ.1 4 l3.toNatClampNeg) σ)))
theorem vX5_takeBaskets_4 {ad : Nat → Nat} {Q : Option Value → vMem → Prop} {r : (Int32 × vMem)} {K4 : Int32 → Int32 → vMem → Option (Int32 × vMem)} (hK4 : ∀ (l2 : Int32) (l3 : Int32) (σ : vMem), K4 l2 l3 σ = some r → V GC mX5_takeBaskets ad Q 2 4 [some (.ref (ad 5)), some (.ref (ad 3)), some (.int l2), some (.int l3), none] [] σ) {l2 : Int32} {l3 : Int32} {σ : vMem} (h : fX5_takeBaskets_4 K4 l2 l3 σ = some r) (hQ : Q (some (.int r.1)) r.2) : V GC mX5_takeBaskets ad Q 2 4 [some (.ref (ad 5)), some (.ref (ad 3)), some (.int l2), some (.int l3), none] [] σ := by
  unfold fX5_takeBaskets_4 at h
  refine V.iload_n dX5_takeBaskets_4 rfl ?_
  refine V.aload_n dX5_takeBaskets_5 rfl ?_
  refine V.get dX5_takeBaskets_6 flX5_56 nC_3 gC_3 (by decide) (eC_3_1 _ _) ?_
  rcases itc h with ⟨hc, h⟩ | ⟨hc, h⟩
  · refine V.icmp_ge (tgt := 68) dX5_takeBaskets_9 (by decide) (fun _ => ?_) (fun hn => absurd hc hn)
    refine V.aload_n dX5_takeBaskets_68 rfl ?_
    refine V.get dX5_takeBaskets_69 flX5_56 nC_3 gC_3 (by decide) (eC_3_1 _ _) ?_
    rcases itc h with ⟨hc, h⟩ | ⟨hc, h⟩
    · refine V.if_eq (tgt := 80) dX5_takeBaskets_72 (by decide) (fun _ => ?_) (fun hn => absurd hc hn)
      exact V.forget (vX5_takeBaskets_80 h hQ) trivial
    · refine V.if_eq (tgt := 80) dX5_takeBaskets_72 (by decide) (fun hn => absurd hn hc) (fun _ => ?_)
      refine V.iload_n dX5_takeBaskets_75 rfl ?_
      refine V.iconst ic_4 dX5_takeBaskets_76 ?_
      rcases itc h with ⟨hc, h⟩ | ⟨hc, h⟩
      · refine V.icmp_le (tgt := 84) dX5_takeBaskets_77 (by decide) (fun _ => ?_) (fun hn => absurd hc hn)
        refine V.aload_n dX5_takeBaskets_84 rfl ?_
        refine V.get dX5_takeBaskets_85 flX5_56 nC_3 gC_3 (by decide) (eC_3_1 _ _) ?_
        exact V.forget (vX5_takeBaskets_88 h hQ) trivial
      · refine V.icmp_le (tgt := 84) dX5_takeBaskets_77 (by decide) (fun hn => absurd hn hc) (fun _ => ?_)
        exact V.forget (vX5_takeBaskets_80 h hQ) trivial
  · refine V.icmp_ge (tgt := 68) dX5_takeBaskets_9 (by decide) (fun hn => absurd hn hc) (fun _ => ?_)
    refine V.aload_n dX5_takeBaskets_12 rfl ?_
    refine V.get dX5_takeBaskets_13 flX5_61 nC_3 gC_3 (by decide) (eC_3_0 _ _) ?_
    refine V.iload_n dX5_takeBaskets_16 rfl ?_
    obtain ⟨hb, h⟩ := ckn h
    refine V.iald dX5_takeBaskets_17 nC_4 gC_4 hb ?_
    refine V.istore dX5_takeBaskets_18 (by decide) rfl ?_
    refine V.iload_n dX5_takeBaskets_20 rfl ?_
    refine V.iconst ic_4 dX5_takeBaskets_21 ?_
    rcases itc h with ⟨hc, h⟩ | ⟨hc, h⟩
    · refine V.icmp_le (tgt := 37) dX5_takeBaskets_22 (by decide) (fun _ => ?_) (fun hn => absurd hc hn)
      exact V.forget (vX5_takeBaskets_37 hK4 h hQ) ⟨rfl, ⟨rfl, ⟨rfl, ⟨rfl, ⟨rfl, trivial⟩⟩⟩⟩⟩
    · refine V.icmp_le (tgt := 37) dX5_takeBaskets_22 (by decide) (fun hn => absurd hn hc) (fun _ => ?_)
      refine V.iload dX5_takeBaskets_25 rfl ?_
      refine V.bipush bp_59 dX5_takeBaskets_27 ?_
      rcases itc h with ⟨hc, h⟩ | ⟨hc, h⟩
      · refine V.icmp_ne (tgt := 37) dX5_takeBaskets_29 (by decide) (fun hn => absurd hc hn) (fun _ => ?_)
        refine V.iconst ic_0 dX5_takeBaskets_32 ?_
        refine V.istore_n dX5_takeBaskets_33 (by decide) rfl ?_
        refine V.goto (tgt := 62) dX5_takeBaskets_34 (by decide) ?_
        exact V.forget (vX5_takeBaskets_62 hK4 h hQ) ⟨rfl, ⟨rfl, ⟨rfl, ⟨rfl, trivial⟩⟩⟩⟩
      · refine V.icmp_ne (tgt := 37) dX5_takeBaskets_29 (by decide) (fun _ => ?_) (fun hn => absurd hn hc)
        exact V.forget (vX5_takeBaskets_37 hK4 h hQ) ⟨rfl, ⟨rfl, ⟨rfl, ⟨rfl, ⟨rfl, trivial⟩⟩⟩⟩⟩
def LfX5_takeBaskets_4 : Nat → Int32 → Int32 → vMem → Option (Int32 × vMem)
  | 0, _, _, _ => none
  | n + 1, l2, l3, σ => fX5_takeBaskets_4 (LfX5_takeBaskets_4 n) l2 l3 σ
theorem LvX5_takeBaskets_4 {ad : Nat → Nat} {Q : Option Value → vMem → Prop} {r : (Int32 × vMem)} (hQ : Q (some (.int r.1)) r.2) : ∀ (n : Nat) (l2 : Int32) (l3 : Int32) (σ : vMem), LfX5_takeBaskets_4 n l2 l3 σ = some r → V GC mX5_takeBaskets ad Q 2 4 [some (.ref (ad 5)), some (.ref (ad 3)), some (.int l2), some (.int l3), none] [] σ := by
  intro n
  induction n with
  | zero => intro l2 l3 σ h; cases h
  | succ n ih => intro l2 l3 σ h; exact vX5_takeBaskets_4 ih h hQ
def fX5_takeBaskets (σ : vMem) : Option (Int32 × vMem) :=
  LfX5_takeBaskets_4 200 (0 : Int32) (0 : Int32) σ
theorem vX5_takeBaskets {ad : Nat → Nat} {Q : Option Value → vMem → Prop} {r : (Int32 × vMem)} {σ : vMem} (h : fX5_takeBaskets σ = some r) (hQ : Q (some (.int r.1)) r.2) : V GC mX5_takeBaskets ad Q 2 0 [some (.ref (ad 5)), some (.ref (ad 3)), none, none, none] [] σ := by
  unfold fX5_takeBaskets at h
  refine V.iconst ic_0 dX5_takeBaskets_0 ?_
  refine V.istore_n dX5_takeBaskets_1 (by decide) rfl ?_
  refine V.iconst ic_0 dX5_takeBaskets_2 ?_
  refine V.istore_n dX5_takeBaskets_3 (by decide) rfl ?_
  exact V.forget (LvX5_takeBaskets_4 hQ 200 _ _ _ h) ⟨rfl, ⟨rfl, ⟨rfl, ⟨rfl, trivial⟩⟩⟩⟩
def fX5_readBaskets_27 (σ : vMem) : Option vMem :=
  some σ
theorem vX5_readBaskets_27 {ad : Nat → Nat} {Q : Option Value → vMem → Prop} {r : vMem} {σ : vMem} (h : fX5_readBaskets_27 σ = some r) (hQ : Q none r) : V GC mX5_readBaskets ad Q 3 27 [none, none] [] σ := by
  unfold fX5_readBaskets_27 at h
  obtain rfl := Option.some.inj h
  exact V.vret dX5_readBaskets_27 rfl hQ
def fX5_readBaskets_14 (σ : vMem) : Option vMem :=
  if (σ.1 5 6) = (-1 : Int32) then (fX5_readBaskets_27 σ) else
  (fX5_readBaskets_27 (vup σ 5 5 (0 : Int32)))
theorem vX5_readBaskets_14 {ad : Nat → Nat} {Q : Option Value → vMem → Prop} {r : vMem} {σ : vMem} (h : fX5_readBaskets_14 σ = some r) (hQ : Q none r) : V GC mX5_readBaskets ad Q 3 14 [some (.ref (ad 5)), none] [] σ := by
  unfold fX5_readBaskets_14 at h
  refine V.aload_n dX5_readBaskets_14 rfl ?_
  refine V.get dX5_readBaskets_15 flX5_31 nC_5 gC_5 (by decide) (eC_5_6 _ _) ?_
  refine V.iconst ic_m1 dX5_readBaskets_18 ?_
  rcases itc h with ⟨hc, h⟩ | ⟨hc, h⟩
  · refine V.icmp_eq (tgt := 27) dX5_readBaskets_19 (by decide) (fun _ => ?_) (fun hn => absurd hc hn)
    exact V.forget (vX5_readBaskets_27 h hQ) trivial
  · refine V.icmp_eq (tgt := 27) dX5_readBaskets_19 (by decide) (fun hn => absurd hn hc) (fun _ => ?_)
    refine V.aload_n dX5_readBaskets_22 rfl ?_
    refine V.iconst ic_0 dX5_readBaskets_23 ?_
    refine V.putI dX5_readBaskets_24 fpX5_28 nC_5 gC_5 (by decide) rfl ?_
    exact V.forget (vX5_readBaskets_27 h hQ) trivial
def fX5_readBaskets_5 (σ : vMem) : Option vMem :=
  (fX5_takeBaskets σ).bind fun q1 => fX5_readBaskets_14 (vup q1.2 5 6 q1.1)
theorem vX5_readBaskets_5 {ad : Nat → Nat} {Q : Option Value → vMem → Prop} {r : vMem} {σ : vMem} (h : fX5_readBaskets_5 σ = some r) (hQ : Q none r) : V GC mX5_readBaskets ad Q 3 5 [some (.ref (ad 5)), some (.ref (ad 3))] [] σ := by
  unfold fX5_readBaskets_5 at h
  refine V.aload_n dX5_readBaskets_5 rfl ?_
  refine V.aload_n dX5_readBaskets_6 rfl ?_
  refine V.aload_n dX5_readBaskets_7 rfl ?_
  obtain ⟨q1, h1, h⟩ := bdc h
  refine V.callV1 (mc := mX5_takeBaskets) (d' := 2) dX5_readBaskets_8 lkX5_75 hfX5_takeBaskets nC_5 gC_5 rfl (by decide) (Nat.le_of_ble_eq_true rfl) (Nat.le_of_ble_eq_true rfl) (vX5_takeBaskets h1 ?_)
  refine V.putI dX5_readBaskets_11 fpX5_31 nC_5 gC_5 (by decide) rfl ?_
  exact V.forget (vX5_readBaskets_14 h hQ) ⟨rfl, trivial⟩
def fX5_readBaskets (σ : vMem) : Option vMem :=
  fX5_readBaskets_5 (vup σ 5 5 (0 : Int32))
theorem vX5_readBaskets {ad : Nat → Nat} {Q : Option Value → vMem → Prop} {r : vMem} {σ : vMem} (h : fX5_readBaskets σ = some r) (hQ : Q none r) : V GC mX5_readBaskets ad Q 3 0 [some (.ref (ad 5)), some (.ref (ad 3))] [] σ := by
  unfold fX5_readBaskets at h
  refine V.aload_n dX5_readBaskets_0 rfl ?_
  refine V.iconst ic_0 dX5_readBaskets_1 ?_
  refine V.putI dX5_readBaskets_2 fpX5_28 nC_5 gC_5 (by decide) rfl ?_
  exact V.forget (vX5_readBaskets_5 h hQ) ⟨rfl, ⟨rfl, trivial⟩⟩
def fX5_sortOf (l0 : Int32) (σ : vMem) : Option (Int32 × vMem) :=
  if l0 = 99 then (some ((3 : Int32), σ)) else
  (if l0 = 108 then (some ((2 : Int32), σ)) else
  (if l0 = 109 then (some ((1 : Int32), σ)) else
  (if l0 = 112 then (some ((0 : Int32), σ)) else
  (some ((-1 : Int32), σ)))))
theorem vX5_sortOf {ad : Nat → Nat} {Q : Option Value → vMem → Prop} {r : (Int32 × vMem)} {l0 : Int32} {σ : vMem} (h : fX5_sortOf l0 σ = some r) (hQ : Q (some (.int r.1)) r.2) : V GC mX5_sortOf ad Q 0 0 [some (.int l0)] [] σ := by
  unfold fX5_sortOf at h
  refine V.iload_n dX5_sortOf_0 rfl ?_
  rcases itc h with ⟨hc, h⟩ | ⟨hs0, h⟩
  · refine V.lookup (off := 49) (tgt := 50) dX5_sortOf_1 (by decide) (by rw [hc]; rfl) (by decide) ?_
    refine V.iconst ic_3 dX5_sortOf_50 ?_
    obtain rfl := Option.some.inj h
    exact V.iret dX5_sortOf_51 rfl hQ
  · rcases itc h with ⟨hc, h⟩ | ⟨hs1, h⟩
    · refine V.lookup (off := 47) (tgt := 48) dX5_sortOf_1 (by decide) (by rw [hc]; rfl) (by decide) ?_
      refine V.iconst ic_2 dX5_sortOf_48 ?_
      obtain rfl := Option.some.inj h
      exact V.iret dX5_sortOf_49 rfl hQ
    · rcases itc h with ⟨hc, h⟩ | ⟨hs2, h⟩
      · refine V.lookup (off := 45) (tgt := 46) dX5_sortOf_1 (by decide) (by rw [hc]; rfl) (by decide) ?_
        refine V.iconst ic_1 dX5_sortOf_46 ?_
        obtain rfl := Option.some.inj h
        exact V.iret dX5_sortOf_47 rfl hQ
      · rcases itc h with ⟨hc, h⟩ | ⟨hs3, h⟩
        · refine V.lookup (off := 43) (tgt := 44) dX5_sortOf_1 (by decide) (by rw [hc]; rfl) (by decide) ?_
          refine V.iconst ic_0 dX5_sortOf_44 ?_
          obtain rfl := Option.some.inj h
          exact V.iret dX5_sortOf_45 rfl hQ
        · refine V.lookup (off := 51) (tgt := 52) dX5_sortOf_1 (by decide) ((lv_osw hs0 rfl).trans ((lv_osw hs1 rfl).trans ((lv_osw hs2 rfl).trans ((lv_osw hs3 rfl).trans rfl)))) (by decide) ?_
          refine V.iconst ic_m1 dX5_sortOf_52 ?_
          obtain rfl := Option.some.inj h
          exact V.iret dX5_sortOf_53 rfl hQ
def fX5_takeFloors_162 (s0 : Int32) (σ : vMem) : Option (Int32 × vMem) :=
  some (s0, σ)
theorem vX5_takeFloors_162 {ad : Nat → Nat} {Q : Option Value → vMem → Prop} {r : (Int32 × vMem)} {s0 : Int32} {σ : vMem} (h : fX5_takeFloors_162 s0 σ = some r) (hQ : Q (some (.int r.1)) r.2) : V GC mX5_takeFloors ad Q 1 162 [none, none, none, none, none, none] [.int s0] σ := by
  unfold fX5_takeFloors_162 at h
  obtain rfl := Option.some.inj h
  exact V.iret dX5_takeFloors_162 rfl hQ
def fX5_takeFloors_154 (σ : vMem) : Option (Int32 × vMem) :=
  fX5_takeFloors_162 (-1 : Int32) σ
theorem vX5_takeFloors_154 {ad : Nat → Nat} {Q : Option Value → vMem → Prop} {r : (Int32 × vMem)} {σ : vMem} (h : fX5_takeFloors_154 σ = some r) (hQ : Q (some (.int r.1)) r.2) : V GC mX5_takeFloors ad Q 1 154 [none, none, none, none, none, none] [] σ := by
  unfold fX5_takeFloors_154 at h
  refine V.iconst ic_m1 dX5_takeFloors_154 ?_
  refine V.goto (tgt := 162) dX5_takeFloors_155 (by decide) ?_
  exact V.forget (vX5_takeFloors_162 h hQ) trivial
def fX5_takeFloors_129 (l2 : Int32) (σ : vMem) : Option (Int32 × vMem) :=
  some (l2, σ)
theorem vX5_takeFloors_129 {ad : Nat → Nat} {Q : Option Value → vMem → Prop} {r : (Int32 × vMem)} {l2 : Int32} {σ : vMem} (h : fX5_takeFloors_129 l2 σ = some r) (hQ : Q (some (.int r.1)) r.2) : V GC mX5_takeFloors ad Q 1 129 [none, none, some (.int l2), none, none, none] [] σ := by
  unfold fX5_takeFloors_129 at h
  refine V.iload_n dX5_takeFloors_129 rfl ?_
  obtain rfl := Option.some.inj h
  exact V.iret dX5_takeFloors_130 rfl hQ
def fX5_takeFloors_131 (K2 : Int32 → vMem → Option (Int32 × vMem)) (l2 : Int32) (σ : vMem) : Option (Int32 × vMem) :=
  K2 (l2 + (1 : Int32)) σ
theorem vX5_takeFloors_131 {ad : Nat → Nat} {Q : Option Value → vMem → Prop} {r : (Int32 × vMem)} {K2 : Int32 → vMem → Option (Int32 × vMem)} (hK2 : ∀ (l2 : Int32) (σ : vMem), K2 l2 σ = some r → V GC mX5_takeFloors ad Q 1 2 [some (.ref (ad 5)), some (.ref (ad 1)), some (.int l2), none, none, none] [] σ) {l2 : Int32} {σ : vMem} (h : fX5_takeFloors_131 K2 l2 σ = some r) (hQ : Q (some (.int r.1)) r.2) : V GC mX5_takeFloors ad Q 1 131 [some (.ref (ad 5)), some (.ref (ad 1)), some (.int l2), none, none, none] [] σ := by
  unfold fX5_takeFloors_131 at h
  refine V.iinc dX5_takeFloors_131 rfl (ii_1 _) (by decide) rfl ?_
  refine V.goto (tgt := 2) dX5_takeFloors_134 (by decide) ?_
  exact V.forget (hK2 _ _ h) ⟨rfl, ⟨rfl, ⟨rfl, trivial⟩⟩⟩
def fX5_takeFloors_117 (K2 : Int32 → vMem → Option (Int32 × vMem)) (l2 : Int32) (l3 : Int32) (l5 : Int32) (σ : vMem) : Option (Int32 × vMem) :=
  if l5 = (3 : Int32) then (if l3 = (59 : Int32) then (fX5_takeFloors_131 K2 l2 σ) else
  (fX5_takeFloors_129 l2 σ)) else
  (fX5_takeFloors_129 l2 σ)
theorem vX5_takeFloors_117 {ad : Nat → Nat} {Q : Option Value → vMem → Prop} {r : (Int32 × vMem)} {K2 : Int32 → vMem → Option (Int32 × vMem)} (hK2 : ∀ (l2 : Int32) (σ : vMem), K2 l2 σ = some r → V GC mX5_takeFloors ad Q 1 2 [some (.ref (ad 5)), some (.ref (ad 1)), some (.int l2), none, none, none] [] σ) {l2 : Int32} {l3 : Int32} {l5 : Int32} {σ : vMem} (h : fX5_takeFloors_117 K2 l2 l3 l5 σ = some r) (hQ : Q (some (.int r.1)) r.2) : V GC mX5_takeFloors ad Q 1 117 [some (.ref (ad 5)), some (.ref (ad 1)), some (.int l2), some (.int l3), none, some (.int l5)] [] σ := by
  unfold fX5_takeFloors_117 at h
  refine V.iload dX5_takeFloors_117 rfl ?_
  refine V.iconst ic_3 dX5_takeFloors_119 ?_
  rcases itc h with ⟨hc, h⟩ | ⟨hc, h⟩
  · refine V.icmp_ne (tgt := 129) dX5_takeFloors_120 (by decide) (fun hn => absurd hc hn) (fun _ => ?_)
    refine V.iload_n dX5_takeFloors_123 rfl ?_
    refine V.bipush bp_59 dX5_takeFloors_124 ?_
    rcases itc h with ⟨hc, h⟩ | ⟨hc, h⟩
    · refine V.icmp_eq (tgt := 131) dX5_takeFloors_126 (by decide) (fun _ => ?_) (fun hn => absurd hc hn)
      exact V.forget (vX5_takeFloors_131 hK2 h hQ) ⟨rfl, ⟨rfl, ⟨rfl, trivial⟩⟩⟩
    · refine V.icmp_eq (tgt := 131) dX5_takeFloors_126 (by decide) (fun hn => absurd hn hc) (fun _ => ?_)
      exact V.forget (vX5_takeFloors_129 h hQ) ⟨rfl, trivial⟩
  · refine V.icmp_ne (tgt := 129) dX5_takeFloors_120 (by decide) (fun _ => ?_) (fun hn => absurd hn hc)
    exact V.forget (vX5_takeFloors_129 h hQ) ⟨rfl, trivial⟩
def fX5_takeFloors_90 (K2 : Int32 → vMem → Option (Int32 × vMem)) (l2 : Int32) (l3 : Int32) (l4 : Int32) (l5 : Int32) (σ : vMem) : Option (Int32 × vMem) :=
  if l5 = (2 : Int32) then ((fX5_isLetter l3 σ).bind fun q1 => if q1.1 = 0 then (fX5_takeFloors_117 K2 l2 l3 l5 q1.2) else
  (if l4 < 0 ∨ 9 ≤ l4.toNatClampNeg then none else fX5_takeFloors_131 K2 l2 (vup q1.2 8 l4.toNatClampNeg (l3 - (97 : Int32))))) else
  (fX5_takeFloors_117 K2 l2 l3 l5 σ)
theorem vX5_takeFloors_90 {ad : Nat → Nat} {Q : Option Value → vMem → Prop} {r : (Int32 × vMem)} {K2 : Int32 → vMem → Option (Int32 × vMem)} (hK2 : ∀ (l2 : Int32) (σ : vMem), K2 l2 σ = some r → V GC mX5_takeFloors ad Q 1 2 [some (.ref (ad 5)), some (.ref (ad 1)), some (.int l2), none, none, none] [] σ) {l2 : Int32} {l3 : Int32} {l4 : Int32} {l5 : Int32} {σ : vMem} (h : fX5_takeFloors_90 K2 l2 l3 l4 l5 σ = some r) (hQ : Q (some (.int r.1)) r.2) : V GC mX5_takeFloors ad Q 1 90 [some (.ref (ad 5)), some (.ref (ad 1)), some (.int l2), some (.int l3), some (.int l4), some (.int l5)] [] σ := by
  unfold fX5_takeFloors_90 at h
  refine V.iload dX5_takeFloors_90 rfl ?_
  refine V.iconst ic_2 dX5_takeFloors_92 ?_
  rcases itc h with ⟨hc, h⟩ | ⟨hc, h⟩
  · refine V.icmp_ne (tgt := 117) dX5_takeFloors_93 (by decide) (fun hn => absurd hc hn) (fun _ => ?_)
    refine V.iload_n dX5_takeFloors_96 rfl ?_
    obtain ⟨q1, h1, h⟩ := bdc h
    refine V.callS1 (mc := mX5_isLetter) (d' := 0) dX5_takeFloors_97 lkX5_72 hfX5_isLetter (by decide) (Nat.le_of_ble_eq_true rfl) (Nat.le_of_ble_eq_true rfl) (vX5_isLetter h1 ?_)
    rcases itc h with ⟨hc, h⟩ | ⟨hc, h⟩
    · refine V.if_eq (tgt := 117) dX5_takeFloors_100 (by decide) (fun _ => ?_) (fun hn => absurd hc hn)
      exact V.forget (vX5_takeFloors_117 hK2 h hQ) ⟨rfl, ⟨rfl, ⟨rfl, ⟨rfl, ⟨rfl, trivial⟩⟩⟩⟩⟩
    · refine V.if_eq (tgt := 117) dX5_takeFloors_100 (by decide) (fun hn => absurd hn hc) (fun _ => ?_)
      refine V.aload_n dX5_takeFloors_103 rfl ?_
      refine V.get dX5_takeFloors_104 flX5_25 nC_5 gC_5 (by decide) (eC_5_4 _ _) ?_
      refine V.iload dX5_takeFloors_107 rfl ?_
      refine V.iload_n dX5_takeFloors_109 rfl ?_
      refine V.bipush bp_97 dX5_takeFloors_110 ?_
      refine V.isub dX5_takeFloors_112 ?_
      obtain ⟨hb, h⟩ := ckn h
      refine V.iast dX5_takeFloors_113 nC_8 gC_8 hb ?_
      refine V.goto (tgt := 131) dX5_takeFloors_114 (by decide) ?_
      exact V.forget (vX5_takeFloors_131 hK2 h hQ) ⟨rfl, ⟨rfl, ⟨rfl, trivial⟩⟩⟩
  · refine V.icmp_ne (tgt := 117) dX5_takeFloors_93 (by decide) (fun _ => ?_) (fun hn => absurd hn hc)
    exact V.forget (vX5_takeFloors_117 hK2 h hQ) ⟨rfl, ⟨rfl, ⟨rfl, ⟨rfl, ⟨rfl, trivial⟩⟩⟩⟩⟩
def fX5_takeFloors_63 (K2 : Int32 → vMem → Option (Int32 × vMem)) (l2 : Int32) (l3 : Int32) (l4 : Int32) (l5 : Int32) (σ : vMem) : Option (Int32 × vMem) :=
  if l5 = (1 : Int32) then ((fX5_isFigure l3 σ).bind fun q1 => if q1.1 = 0 then (fX5_takeFloors_90 K2 l2 l3 l4 l5 q1.2) else
  (if l4 < 0 ∨ 9 ≤ l4.toNatClampNeg then none else fX5_takeFloors_131 K2 l2 (vup q1.2 7 l4.toNatClampNeg (l3 - (48 : Int32))))) else
  (fX5_takeFloors_90 K2 l2 l3 l4 l5 σ)
theorem vX5_takeFloors_63 {ad : Nat → Nat} {Q : Option Value → vMem → Prop} {r : (Int32 × vMem)} {K2 : Int32 → vMem → Option (Int32 × vMem)} (hK2 : ∀ (l2 : Int32) (σ : vMem), K2 l2 σ = some r → V GC mX5_takeFloors ad Q 1 2 [some (.ref (ad 5)), some (.ref (ad 1)), some (.int l2), none, none, none] [] σ) {l2 : Int32} {l3 : Int32} {l4 : Int32} {l5 : Int32} {σ : vMem} (h : fX5_takeFloors_63 K2 l2 l3 l4 l5 σ = some r) (hQ : Q (some (.int r.1)) r.2) : V GC mX5_takeFloors ad Q 1 63 [some (.ref (ad 5)), some (.ref (ad 1)), some (.int l2), some (.int l3), some (.int l4), some (.int l5)] [] σ := by
  unfold fX5_takeFloors_63 at h
  refine V.iload dX5_takeFloors_63 rfl ?_
  refine V.iconst ic_1 dX5_takeFloors_65 ?_
  rcases itc h with ⟨hc, h⟩ | ⟨hc, h⟩
  · refine V.icmp_ne (tgt := 90) dX5_takeFloors_66 (by decide) (fun hn => absurd hc hn) (fun _ => ?_)
    refine V.iload_n dX5_takeFloors_69 rfl ?_
    obtain ⟨q1, h1, h⟩ := bdc h
    refine V.callS1 (mc := mX5_isFigure) (d' := 0) dX5_takeFloors_70 lkX5_68 hfX5_isFigure (by decide) (Nat.le_of_ble_eq_true rfl) (Nat.le_of_ble_eq_true rfl) (vX5_isFigure h1 ?_)
    rcases itc h with ⟨hc, h⟩ | ⟨hc, h⟩
    · refine V.if_eq (tgt := 90) dX5_takeFloors_73 (by decide) (fun _ => ?_) (fun hn => absurd hc hn)
      exact V.forget (vX5_takeFloors_90 hK2 h hQ) ⟨rfl, ⟨rfl, ⟨rfl, ⟨rfl, ⟨rfl, ⟨rfl, trivial⟩⟩⟩⟩⟩⟩
    · refine V.if_eq (tgt := 90) dX5_takeFloors_73 (by decide) (fun hn => absurd hn hc) (fun _ => ?_)
      refine V.aload_n dX5_takeFloors_76 rfl ?_
      refine V.get dX5_takeFloors_77 flX5_22 nC_5 gC_5 (by decide) (eC_5_3 _ _) ?_
      refine V.iload dX5_takeFloors_80 rfl ?_
      refine V.iload_n dX5_takeFloors_82 rfl ?_
      refine V.bipush bp_48 dX5_takeFloors_83 ?_
      refine V.isub dX5_takeFloors_85 ?_
      obtain ⟨hb, h⟩ := ckn h
      refine V.iast dX5_takeFloors_86 nC_7 gC_7 hb ?_
      refine V.goto (tgt := 131) dX5_takeFloors_87 (by decide) ?_
      exact V.forget (vX5_takeFloors_131 hK2 h hQ) ⟨rfl, ⟨rfl, ⟨rfl, trivial⟩⟩⟩
  · refine V.icmp_ne (tgt := 90) dX5_takeFloors_66 (by decide) (fun _ => ?_) (fun hn => absurd hn hc)
    exact V.forget (vX5_takeFloors_90 hK2 h hQ) ⟨rfl, ⟨rfl, ⟨rfl, ⟨rfl, ⟨rfl, ⟨rfl, trivial⟩⟩⟩⟩⟩⟩
def fX5_takeFloors_2 (K2 : Int32 → vMem → Option (Int32 × vMem)) (l2 : Int32) (σ : vMem) : Option (Int32 × vMem) :=
  if (σ.1 1 1) ≤ l2 then (if (σ.1 1 1) = 0 then (fX5_takeFloors_154 σ) else
  (if ((σ.1 1 1) - (σ.1 1 1) / (4 : Int32) * (4 : Int32)) = (3 : Int32) then (fX5_takeFloors_154 σ) else
  (fX5_takeFloors_162 (σ.1 1 1) σ))) else
  (if l2 < 0 ∨ 35 ≤ l2.toNatClampNeg then none else if (l2 / (4 : Int32)) < (9 : Int32) then (if (l2 - l2 / (4 : Int32) * (4 : Int32)) = 0 then ((fX5_sortOf (σ.1 2 l2.toNatClampNeg) σ).bind fun q1 => if q1.1 = (-1 : Int32) then (fX5_takeFloors_63 K2 l2 (σ.1 2 l2.toNatClampNeg) (l2 / (4 : Int32)) (l2 - l2 / (4 : Int32) * (4 : Int32)) q1.2) else
  ((fX5_sortOf (σ.1 2 l2.toNatClampNeg) q1.2).bind fun q2 => if (l2 / (4 : Int32)) < 0 ∨ 9 ≤ (l2 / (4 : Int32)).toNatClampNeg then none else fX5_takeFloors_131 K2 l2 (vup q2.2 6 (l2 / (4 : Int32)).toNatClampNeg q2.1))) else
  (fX5_takeFloors_63 K2 l2 (σ.1 2 l2.toNatClampNeg) (l2 / (4 : Int32)) (l2 - l2 / (4 : Int32) * (4 : Int32)) σ)) else
  (some (l2, σ)))
theorem vX5_takeFloors_2 {ad : Nat → Nat} {Q : Option Value → vMem → Prop} {r : (Int32 × vMem)} {K2 : Int32 → vMem → Option (Int32 × vMem)} (hK2 : ∀ (l2 : Int32) (σ : vMem), K2 l2 σ = some r → V GC mX5_takeFloors ad Q 1 2 [some (.ref (ad 5)), some (.ref (ad 1)), some (.int l2), none, none, none] [] σ) {l2 : Int32} {σ : vMem} (h : fX5_takeFloors_2 K2 l2 σ = some r) (hQ : Q (some (.int r.1)) r.2) : V GC mX5_takeFloors ad Q 1 2 [some (.ref (ad 5)), some (.ref (ad 1)), some (.int l2), none, none, none] [] σ := by
  unfold fX5_takeFloors_2 at h
  refine V.iload_n dX5_takeFloors_2 rfl ?_
  refine V.aload_n dX5_takeFloors_3 rfl ?_
  refine V.get dX5_takeFloors_4 flX5_56 nC_1 gC_1 (by decide) (eC_1_1 _ _) ?_
  rcases itc h with ⟨hc, h⟩ | ⟨hc, h⟩
  · refine V.icmp_ge (tgt := 137) dX5_takeFloors_7 (by decide) (fun _ => ?_) (fun hn => absurd hc hn)
    refine V.aload_n dX5_takeFloors_137 rfl ?_
    refine V.get dX5_takeFloors_138 flX5_56 nC_1 gC_1 (by decide) (eC_1_1 _ _) ?_
    rcases itc h with ⟨hc, h⟩ | ⟨hc, h⟩
    · refine V.if_eq (tgt := 154) dX5_takeFloors_141 (by decide) (fun _ => ?_) (fun hn => absurd hc hn)
      exact V.forget (vX5_takeFloors_154 h hQ) trivial
    · refine V.if_eq (tgt := 154) dX5_takeFloors_141 (by decide) (fun hn => absurd hn hc) (fun _ => ?_)
      refine V.aload_n dX5_takeFloors_144 rfl ?_
      refine V.get dX5_takeFloors_145 flX5_56 nC_1 gC_1 (by decide) (eC_1_1 _ _) ?_
      refine V.iconst ic_4 dX5_takeFloors_148 ?_
      refine V.irem (by decide) dX5_takeFloors_149 ?_
      refine V.iconst ic_3 dX5_takeFloors_150 ?_
      rcases itc h with ⟨hc, h⟩ | ⟨hc, h⟩
      · refine V.icmp_ne (tgt := 158) dX5_takeFloors_151 (by decide) (fun hn => absurd hc hn) (fun _ => ?_)
        exact V.forget (vX5_takeFloors_154 h hQ) trivial
      · refine V.icmp_ne (tgt := 158) dX5_takeFloors_151 (by decide) (fun _ => ?_) (fun hn => absurd hn hc)
        refine V.aload_n dX5_takeFloors_158 rfl ?_
        refine V.get dX5_takeFloors_159 flX5_56 nC_1 gC_1 (by decide) (eC_1_1 _ _) ?_
        exact V.forget (vX5_takeFloors_162 h hQ) trivial
  · refine V.icmp_ge (tgt := 137) dX5_takeFloors_7 (by decide) (fun hn => absurd hn hc) (fun _ => ?_)
    refine V.aload_n dX5_takeFloors_10 rfl ?_
    refine V.get dX5_takeFloors_11 flX5_61 nC_1 gC_1 (by decide) (eC_1_0 _ _) ?_
    refine V.iload_n dX5_takeFloors_14 rfl ?_
    obtain ⟨hb, h⟩ := ckn h
    refine V.iald dX5_takeFloors_15 nC_2 gC_2 hb ?_
    refine V.istore_n dX5_takeFloors_16 (by decide) rfl ?_
    refine V.iload_n dX5_takeFloors_17 rfl ?_
    refine V.iconst ic_4 dX5_takeFloors_18 ?_
    refine V.idiv (by decide) dX5_takeFloors_19 ?_
    refine V.istore dX5_takeFloors_20 (by decide) rfl ?_
    refine V.iload_n dX5_takeFloors_22 rfl ?_
    refine V.iconst ic_4 dX5_takeFloors_23 ?_
    refine V.irem (by decide) dX5_takeFloors_24 ?_
    refine V.istore dX5_takeFloors_25 (by decide) rfl ?_
    refine V.iload dX5_takeFloors_27 rfl ?_
    refine V.bipush bp_9 dX5_takeFloors_29 ?_
    rcases itc h with ⟨hc, h⟩ | ⟨hc, h⟩
    · refine V.icmp_lt (tgt := 36) dX5_takeFloors_31 (by decide) (fun _ => ?_) (fun hn => absurd hc hn)
      refine V.iload dX5_takeFloors_36 rfl ?_
      rcases itc h with ⟨hc, h⟩ | ⟨hc, h⟩
      · refine V.if_ne (tgt := 63) dX5_takeFloors_38 (by decide) (fun hn => absurd hc hn) (fun _ => ?_)
        refine V.iload_n dX5_takeFloors_41 rfl ?_
        obtain ⟨q1, h1, h⟩ := bdc h
        refine V.callS1 (mc := mX5_sortOf) (d' := 0) dX5_takeFloors_42 lkX5_64 hfX5_sortOf (by decide) (Nat.le_of_ble_eq_true rfl) (Nat.le_of_ble_eq_true rfl) (vX5_sortOf h1 ?_)
        refine V.iconst ic_m1 dX5_takeFloors_45 ?_
        rcases itc h with ⟨hc, h⟩ | ⟨hc, h⟩
        · refine V.icmp_eq (tgt := 63) dX5_takeFloors_46 (by decide) (fun _ => ?_) (fun hn => absurd hc hn)
          exact V.forget (vX5_takeFloors_63 hK2 h hQ) ⟨rfl, ⟨rfl, ⟨rfl, ⟨rfl, ⟨rfl, ⟨rfl, trivial⟩⟩⟩⟩⟩⟩
        · refine V.icmp_eq (tgt := 63) dX5_takeFloors_46 (by decide) (fun hn => absurd hn hc) (fun _ => ?_)
          refine V.aload_n dX5_takeFloors_49 rfl ?_
          refine V.get dX5_takeFloors_50 flX5_18 nC_5 gC_5 (by decide) (eC_5_2 _ _) ?_
          refine V.iload dX5_takeFloors_53 rfl ?_
          refine V.iload_n dX5_takeFloors_55 rfl ?_
          obtain ⟨q2, h1, h⟩ := bdc h
          refine V.callS1 (mc := mX5_sortOf) (d' := 0) dX5_takeFloors_56 lkX5_64 hfX5_sortOf (by decide) (Nat.le_of_ble_eq_true rfl) (Nat.le_of_ble_eq_true rfl) (vX5_sortOf h1 ?_)
          obtain ⟨hb, h⟩ := ckn h
          refine V.iast dX5_takeFloors_59 nC_6 gC_6 hb ?_
          refine V.goto (tgt := 131) dX5_takeFloors_60 (by decide) ?_
          exact V.forget (vX5_takeFloors_131 hK2 h hQ) ⟨rfl, ⟨rfl, ⟨rfl, trivial⟩⟩⟩
      · refine V.if_ne (tgt := 63) dX5_takeFloors_38 (by decide) (fun _ => ?_) (fun hn => absurd hn hc)
        exact V.forget (vX5_takeFloors_63 hK2 h hQ) ⟨rfl, ⟨rfl, ⟨rfl, ⟨rfl, ⟨rfl, ⟨rfl, trivial⟩⟩⟩⟩⟩⟩
    · refine V.icmp_lt (tgt := 36) dX5_takeFloors_31 (by decide) (fun hn => absurd hn hc) (fun _ => ?_)
      refine V.iload_n dX5_takeFloors_34 rfl ?_
      obtain rfl := Option.some.inj h
      exact V.iret dX5_takeFloors_35 rfl hQ
def LfX5_takeFloors_2 : Nat → Int32 → vMem → Option (Int32 × vMem)
  | 0, _, _ => none
  | n + 1, l2, σ => fX5_takeFloors_2 (LfX5_takeFloors_2 n) l2 σ
theorem LvX5_takeFloors_2 {ad : Nat → Nat} {Q : Option Value → vMem → Prop} {r : (Int32 × vMem)} (hQ : Q (some (.int r.1)) r.2) : ∀ (n : Nat) (l2 : Int32) (σ : vMem), LfX5_takeFloors_2 n l2 σ = some r → V GC mX5_takeFloors ad Q 1 2 [some (.ref (ad 5)), some (.ref (ad 1)), some (.int l2), none, none, none] [] σ := by
  intro n
  induction n with
  | zero => intro l2 σ h; cases h
  | succ n ih => intro l2 σ h; exact vX5_takeFloors_2 ih h hQ
def fX5_takeFloors (σ : vMem) : Option (Int32 × vMem) :=
  LfX5_takeFloors_2 200 (0 : Int32) σ
theorem vX5_takeFloors {ad : Nat → Nat} {Q : Option Value → vMem → Prop} {r : (Int32 × vMem)} {σ : vMem} (h : fX5_takeFloors σ = some r) (hQ : Q (some (.int r.1)) r.2) : V GC mX5_takeFloors ad Q 1 0 [some (.ref (ad 5)), some (.ref (ad 1)), none, none, none, none] [] σ := by
  unfold fX5_takeFloors at h
  refine V.iconst ic_0 dX5_takeFloors_0 ?_
  refine V.istore_n dX5_takeFloors_1 (by decide) rfl ?_
  exact V.forget (LvX5_takeFloors_2 hQ 200 _ _ h) ⟨rfl, ⟨rfl, ⟨rfl, trivial⟩⟩⟩
def fX5_readFloors_30 (s1 : Int32) (σ : vMem) : Option vMem :=
  some (vup σ 5 0 s1)
theorem vX5_readFloors_30 {ad : Nat → Nat} {Q : Option Value → vMem → Prop} {r : vMem} {s1 : Int32} {σ : vMem} (h : fX5_readFloors_30 s1 σ = some r) (hQ : Q none r) : V GC mX5_readFloors ad Q 2 30 [none, none] [.int s1, .ref (ad 5)] σ := by
  unfold fX5_readFloors_30 at h
  refine V.putI dX5_readFloors_30 fpX5_9 nC_5 gC_5 (by decide) rfl ?_
  obtain rfl := Option.some.inj h
  exact V.vret dX5_readFloors_33 rfl hQ
def fX5_readFloors_9 (σ : vMem) : Option vMem :=
  if (σ.1 5 1) = (-1 : Int32) then (fX5_readFloors_30 (((σ.1 1 1) + (1 : Int32)) / (4 : Int32)) σ) else
  (fX5_readFloors_30 (0 : Int32) σ)
theorem vX5_readFloors_9 {ad : Nat → Nat} {Q : Option Value → vMem → Prop} {r : vMem} {σ : vMem} (h : fX5_readFloors_9 σ = some r) (hQ : Q none r) : V GC mX5_readFloors ad Q 2 9 [some (.ref (ad 5)), some (.ref (ad 1))] [] σ := by
  unfold fX5_readFloors_9 at h
  refine V.aload_n dX5_readFloors_9 rfl ?_
  refine V.aload_n dX5_readFloors_10 rfl ?_
  refine V.get dX5_readFloors_11 flX5_15 nC_5 gC_5 (by decide) (eC_5_1 _ _) ?_
  refine V.iconst ic_m1 dX5_readFloors_14 ?_
  rcases itc h with ⟨hc, h⟩ | ⟨hc, h⟩
  · refine V.icmp_ne (tgt := 29) dX5_readFloors_15 (by decide) (fun hn => absurd hc hn) (fun _ => ?_)
    refine V.aload_n dX5_readFloors_18 rfl ?_
    refine V.get dX5_readFloors_19 flX5_56 nC_1 gC_1 (by decide) (eC_1_1 _ _) ?_
    refine V.iconst ic_1 dX5_readFloors_22 ?_
    refine V.iadd dX5_readFloors_23 ?_
    refine V.iconst ic_4 dX5_readFloors_24 ?_
    refine V.idiv (by decide) dX5_readFloors_25 ?_
    refine V.goto (tgt := 30) dX5_readFloors_26 (by decide) ?_
    exact V.forget (vX5_readFloors_30 h hQ) trivial
  · refine V.icmp_ne (tgt := 29) dX5_readFloors_15 (by decide) (fun _ => ?_) (fun hn => absurd hn hc)
    refine V.iconst ic_0 dX5_readFloors_29 ?_
    exact V.forget (vX5_readFloors_30 h hQ) trivial
def fX5_readFloors (σ : vMem) : Option vMem :=
  (fX5_takeFloors σ).bind fun q1 => fX5_readFloors_9 (vup q1.2 5 1 q1.1)
theorem vX5_readFloors {ad : Nat → Nat} {Q : Option Value → vMem → Prop} {r : vMem} {σ : vMem} (h : fX5_readFloors σ = some r) (hQ : Q none r) : V GC mX5_readFloors ad Q 2 0 [some (.ref (ad 5)), some (.ref (ad 1))] [] σ := by
  unfold fX5_readFloors at h
  refine V.aload_n dX5_readFloors_0 rfl ?_
  refine V.aload_n dX5_readFloors_1 rfl ?_
  refine V.aload_n dX5_readFloors_2 rfl ?_
  obtain ⟨q1, h1, h⟩ := bdc h
  refine V.callV1 (mc := mX5_takeFloors) (d' := 1) dX5_readFloors_3 lkX5_52 hfX5_takeFloors nC_5 gC_5 rfl (by decide) (Nat.le_of_ble_eq_true rfl) (Nat.le_of_ble_eq_true rfl) (vX5_takeFloors h1 ?_)
  refine V.putI dX5_readFloors_6 fpX5_15 nC_5 gC_5 (by decide) rfl ?_
  exact V.forget (vX5_readFloors_9 h hQ) ⟨rfl, ⟨rfl, trivial⟩⟩
def fX7_reread_29 (l1 : Int32) (σ : vMem) : Option (Int32 × vMem) :=
  (fX7_textOf l1 σ).bind fun q1 => if q1.1 = 1 then (some ((q1.2.1 1 1), q1.2)) else
  (if q1.1 = 3 then (some ((q1.2.1 3 1), q1.2)) else
  (none))
theorem vX7_reread_29 {ad : Nat → Nat} {Q : Option Value → vMem → Prop} {r : (Int32 × vMem)} {l1 : Int32} {σ : vMem} (h : fX7_reread_29 l1 σ = some r) (hQ : Q (some (.int r.1)) r.2) : V GC mX7_reread ad Q 4 29 [some (.ref (ad 0)), some (.int l1)] [] σ := by
  unfold fX7_reread_29 at h
  refine V.aload_n dX7_reread_29 rfl ?_
  refine V.iload_n dX7_reread_30 rfl ?_
  obtain ⟨⟨q1a, q1b⟩, h1, h⟩ := bdc h
  rcases itc h with ⟨hc, h⟩ | ⟨hc, h⟩
  · subst hc
    refine V.callV1 (mc := mX7_textOf) (d' := 0) dX7_reread_31 lkX7_93 hfX7_textOf nC_0 gC_0 rfl (by decide) (Nat.le_of_ble_eq_true rfl) (Nat.le_of_ble_eq_true rfl) (vX7_textOf h1 ?_)
    refine V.get dX7_reread_34 flX7_104 nC_1 gC_1 (by decide) (eC_1_1 _ _) ?_
    obtain rfl := Option.some.inj h
    exact V.iret dX7_reread_37 rfl hQ
  · rcases itc h with ⟨hc, h⟩ | ⟨hc, h⟩
    · subst hc
      refine V.callV1 (mc := mX7_textOf) (d' := 0) dX7_reread_31 lkX7_93 hfX7_textOf nC_0 gC_0 rfl (by decide) (Nat.le_of_ble_eq_true rfl) (Nat.le_of_ble_eq_true rfl) (vX7_textOf h1 ?_)
      refine V.get dX7_reread_34 flX7_104 nC_3 gC_3 (by decide) (eC_3_1 _ _) ?_
      obtain rfl := Option.some.inj h
      exact V.iret dX7_reread_37 rfl hQ
    · cases h
def fX7_reread (l1 : Int32) (σ : vMem) : Option (Int32 × vMem) :=
  if l1 = 0 then ((fX5_readFloors σ).bind fun q2 => fX7_reread_29 l1 q2) else
  ((fX5_readBaskets σ).bind fun q1 => fX7_reread_29 l1 q1)
theorem vX7_reread {ad : Nat → Nat} {Q : Option Value → vMem → Prop} {r : (Int32 × vMem)} {l1 : Int32} {σ : vMem} (h : fX7_reread l1 σ = some r) (hQ : Q (some (.int r.1)) r.2) : V GC mX7_reread ad Q 4 0 [some (.ref (ad 0)), some (.int l1)] [] σ := by
  unfold fX7_reread at h
  refine V.iload_n dX7_reread_0 rfl ?_
  rcases itc h with ⟨hc, h⟩ | ⟨hc, h⟩
  · refine V.if_ne (tgt := 18) dX7_reread_1 (by decide) (fun hn => absurd hc hn) (fun _ => ?_)
    refine V.aload_n dX7_reread_4 rfl ?_
    refine V.get dX7_reread_5 flX7_24 nC_0 gC_0 (by decide) (eC_0_2 _ _) ?_
    refine V.aload_n dX7_reread_8 rfl ?_
    refine V.get dX7_reread_9 flX7_14 nC_0 gC_0 (by decide) (eC_0_0 _ _) ?_
    obtain ⟨q2, h1, h⟩ := bdc h
    refine V.callV1 (mc := mX5_readFloors) (d' := 2) dX7_reread_12 lkX7_358 hfX5_readFloors nC_5 gC_5 rfl (by decide) (Nat.le_of_ble_eq_true rfl) (Nat.le_of_ble_eq_true rfl) (vX5_readFloors h1 ?_)
    refine V.goto (tgt := 29) dX7_reread_15 (by decide) ?_
    exact V.forget (vX7_reread_29 h hQ) ⟨rfl, ⟨rfl, trivial⟩⟩
  · refine V.if_ne (tgt := 18) dX7_reread_1 (by decide) (fun _ => ?_) (fun hn => absurd hn hc)
    refine V.aload_n dX7_reread_18 rfl ?_
    refine V.get dX7_reread_19 flX7_24 nC_0 gC_0 (by decide) (eC_0_2 _ _) ?_
    refine V.aload_n dX7_reread_22 rfl ?_
    refine V.get dX7_reread_23 flX7_18 nC_0 gC_0 (by decide) (eC_0_1 _ _) ?_
    obtain ⟨q1, h1, h⟩ := bdc h
    refine V.callV1 (mc := mX5_readBaskets) (d' := 3) dX7_reread_26 lkX7_362 hfX5_readBaskets nC_5 gC_5 rfl (by decide) (Nat.le_of_ble_eq_true rfl) (Nat.le_of_ble_eq_true rfl) (vX5_readBaskets h1 ?_)
    exact V.forget (vX7_reread_29 h hQ) ⟨rfl, ⟨rfl, trivial⟩⟩
def fX4_append_3_19 (σ : vMem) : Option (Int32 × vMem) :=
  some ((0 : Int32), σ)
theorem vX4_append_3_19 {ad : Nat → Nat} {Q : Option Value → vMem → Prop} {r : (Int32 × vMem)} {σ : vMem} (h : fX4_append_3_19 σ = some r) (hQ : Q (some (.int r.1)) r.2) : V GC mX4_append ad Q 0 19 [none, none] [] σ := by
  unfold fX4_append_3_19 at h
  refine V.iconst ic_0 dX4_append_19 ?_
  obtain rfl := Option.some.inj h
  exact V.zret dX4_append_20 rfl (Or.inl rfl) hQ
def fX4_append_3_41 (σ : vMem) : Option (Int32 × vMem) :=
  some ((1 : Int32), σ)
theorem vX4_append_3_41 {ad : Nat → Nat} {Q : Option Value → vMem → Prop} {r : (Int32 × vMem)} {σ : vMem} (h : fX4_append_3_41 σ = some r) (hQ : Q (some (.int r.1)) r.2) : V GC mX4_append ad Q 0 41 [none, none] [] σ := by
  unfold fX4_append_3_41 at h
  refine V.iconst ic_1 dX4_append_41 ?_
  obtain rfl := Option.some.inj h
  exact V.zret dX4_append_42 rfl (Or.inr rfl) hQ
def fX4_append_3_31 (σ : vMem) : Option (Int32 × vMem) :=
  fX4_append_3_41 (vup σ 3 1 ((σ.1 3 1) + (1 : Int32)))
theorem vX4_append_3_31 {ad : Nat → Nat} {Q : Option Value → vMem → Prop} {r : (Int32 × vMem)} {σ : vMem} (h : fX4_append_3_31 σ = some r) (hQ : Q (some (.int r.1)) r.2) : V GC mX4_append ad Q 0 31 [some (.ref (ad 3)), none] [] σ := by
  unfold fX4_append_3_31 at h
  refine V.aload_n dX4_append_31 rfl ?_
  refine V.dup rfl dX4_append_32 ?_
  refine V.get dX4_append_33 flX4_7 nC_3 gC_3 (by decide) (eC_3_1 _ _) ?_
  refine V.iconst ic_1 dX4_append_36 ?_
  refine V.iadd dX4_append_37 ?_
  refine V.putI dX4_append_38 fpX4_7 nC_3 gC_3 (by decide) rfl ?_
  exact V.forget (vX4_append_3_41 h hQ) trivial
def fX4_append_3 (l1 : Int32) (σ : vMem) : Option (Int32 × vMem) :=
  if (σ.1 3 1) < 0 then (fX4_append_3_19 σ) else
  (if (σ.1 3 1) < (63 : Int32) then (if (σ.1 3 1) < 0 ∨ 63 ≤ (σ.1 3 1).toNatClampNeg then none else fX4_append_3_31 (vup σ 4 (σ.1 3 1).toNatClampNeg l1)) else
  (fX4_append_3_19 σ))
theorem vX4_append_3 {ad : Nat → Nat} {Q : Option Value → vMem → Prop} {r : (Int32 × vMem)} {l1 : Int32} {σ : vMem} (h : fX4_append_3 l1 σ = some r) (hQ : Q (some (.int r.1)) r.2) : V GC mX4_append ad Q 0 0 [some (.ref (ad 3)), some (.int l1)] [] σ := by
  unfold fX4_append_3 at h
  refine V.aload_n dX4_append_0 rfl ?_
  refine V.get dX4_append_1 flX4_7 nC_3 gC_3 (by decide) (eC_3_1 _ _) ?_
  rcases itc h with ⟨hc, h⟩ | ⟨hc, h⟩
  · refine V.if_lt (tgt := 19) dX4_append_4 (by decide) (fun _ => ?_) (fun hn => absurd hc hn)
    exact V.forget (vX4_append_3_19 h hQ) trivial
  · refine V.if_lt (tgt := 19) dX4_append_4 (by decide) (fun hn => absurd hn hc) (fun _ => ?_)
    refine V.aload_n dX4_append_7 rfl ?_
    refine V.get dX4_append_8 flX4_7 nC_3 gC_3 (by decide) (eC_3_1 _ _) ?_
    refine V.aload_n dX4_append_11 rfl ?_
    refine V.get dX4_append_12 flX4_13 nC_3 gC_3 (by decide) (eC_3_0 _ _) ?_
    refine V.alen (v := 63) dX4_append_15 nC_4 gC_4 (by decide) ?_
    rcases itc h with ⟨hc, h⟩ | ⟨hc, h⟩
    · refine V.icmp_lt (tgt := 21) dX4_append_16 (by decide) (fun _ => ?_) (fun hn => absurd hc hn)
      refine V.aload_n dX4_append_21 rfl ?_
      refine V.get dX4_append_22 flX4_13 nC_3 gC_3 (by decide) (eC_3_0 _ _) ?_
      refine V.aload_n dX4_append_25 rfl ?_
      refine V.get dX4_append_26 flX4_7 nC_3 gC_3 (by decide) (eC_3_1 _ _) ?_
      refine V.iload_n dX4_append_29 rfl ?_
      obtain ⟨hb, h⟩ := ckn h
      refine V.iast dX4_append_30 nC_4 gC_4 hb ?_
      exact V.forget (vX4_append_3_31 h hQ) ⟨rfl, trivial⟩
    · refine V.icmp_lt (tgt := 21) dX4_append_16 (by decide) (fun hn => absurd hn hc) (fun _ => ?_)
      exact V.forget (vX4_append_3_19 h hQ) trivial
def fX7_type_18 (σ : vMem) : Option (Int32 × vMem) :=
  some ((-2 : Int32), σ)
theorem vX7_type_18 {ad : Nat → Nat} {Q : Option Value → vMem → Prop} {r : (Int32 × vMem)} {σ : vMem} (h : fX7_type_18 σ = some r) (hQ : Q (some (.int r.1)) r.2) : V GC mX7_type ad Q 5 18 [none, none, none] [] σ := by
  unfold fX7_type_18 at h
  refine V.bipush bp_m2 dX7_type_18 ?_
  obtain rfl := Option.some.inj h
  exact V.iret dX7_type_20 rfl hQ
def fX7_type (l1 : Int32) (l2 : Int32) (σ : vMem) : Option (Int32 × vMem) :=
  (fX7_isText l1 σ).bind fun q1 => if q1.1 = 0 then (fX7_type_18 q1.2) else
  (if l2 < 0 then (fX7_type_18 q1.2) else
  (if l2 ≤ (255 : Int32) then ((fX7_textOf l1 q1.2).bind fun q2 => if q2.1 = 1 then ((fX4_append_1 l2 q2.2).bind fun q3 => if q3.1 = 0 then (some ((-4 : Int32), q3.2)) else
  ((fX7_reread l1 q3.2).bind fun q4 => some (q4.1, q4.2))) else
  (if q2.1 = 3 then ((fX4_append_3 l2 q2.2).bind fun q5 => if q5.1 = 0 then (some ((-4 : Int32), q5.2)) else
  ((fX7_reread l1 q5.2).bind fun q6 => some (q6.1, q6.2))) else
  (none))) else
  (fX7_type_18 q1.2)))
theorem vX7_type {ad : Nat → Nat} {Q : Option Value → vMem → Prop} {r : (Int32 × vMem)} {l1 : Int32} {l2 : Int32} {σ : vMem} (h : fX7_type l1 l2 σ = some r) (hQ : Q (some (.int r.1)) r.2) : V GC mX7_type ad Q 5 0 [some (.ref (ad 0)), some (.int l1), some (.int l2)] [] σ := by
  unfold fX7_type at h
  refine V.iload_n dX7_type_0 rfl ?_
  obtain ⟨q1, h1, h⟩ := bdc h
  refine V.callS1 (mc := mX7_isText) (d' := 0) dX7_type_1 lkX7_89 hfX7_isText (by decide) (Nat.le_of_ble_eq_true rfl) (Nat.le_of_ble_eq_true rfl) (vX7_isText h1 ?_)
  rcases itc h with ⟨hc, h⟩ | ⟨hc, h⟩
  · refine V.if_eq (tgt := 18) dX7_type_4 (by decide) (fun _ => ?_) (fun hn => absurd hc hn)
    exact V.forget (vX7_type_18 h hQ) trivial
  · refine V.if_eq (tgt := 18) dX7_type_4 (by decide) (fun hn => absurd hn hc) (fun _ => ?_)
    refine V.iload_n dX7_type_7 rfl ?_
    rcases itc h with ⟨hc, h⟩ | ⟨hc, h⟩
    · refine V.if_lt (tgt := 18) dX7_type_8 (by decide) (fun _ => ?_) (fun hn => absurd hc hn)
      exact V.forget (vX7_type_18 h hQ) trivial
    · refine V.if_lt (tgt := 18) dX7_type_8 (by decide) (fun hn => absurd hn hc) (fun _ => ?_)
      refine V.iload_n dX7_type_11 rfl ?_
      refine V.sipush sp_255 dX7_type_12 ?_
      rcases itc h with ⟨hc, h⟩ | ⟨hc, h⟩
      · refine V.icmp_le (tgt := 21) dX7_type_15 (by decide) (fun _ => ?_) (fun hn => absurd hc hn)
        refine V.aload_n dX7_type_21 rfl ?_
        refine V.iload_n dX7_type_22 rfl ?_
        obtain ⟨⟨q2a, q2b⟩, h1, h⟩ := bdc h
        rcases itc h with ⟨hc, h⟩ | ⟨hc, h⟩
        · subst hc
          refine V.callV1 (mc := mX7_textOf) (d' := 0) dX7_type_23 lkX7_93 hfX7_textOf nC_0 gC_0 rfl (by decide) (Nat.le_of_ble_eq_true rfl) (Nat.le_of_ble_eq_true rfl) (vX7_textOf h1 ?_)
          refine V.iload_n dX7_type_26 rfl ?_
          obtain ⟨q3, h1, h⟩ := bdc h
          refine V.callV1 (mc := mX4_append) (d' := 0) dX7_type_27 lkX7_97 hfX4_append nC_1 gC_1 rfl (by decide) (Nat.le_of_ble_eq_true rfl) (Nat.le_of_ble_eq_true rfl) (vX4_append_1 h1 ?_)
          rcases itc h with ⟨hc, h⟩ | ⟨hc, h⟩
          · refine V.if_ne (tgt := 36) dX7_type_30 (by decide) (fun hn => absurd hc hn) (fun _ => ?_)
            refine V.bipush bp_m4 dX7_type_33 ?_
            obtain rfl := Option.some.inj h
            exact V.iret dX7_type_35 rfl hQ
          · refine V.if_ne (tgt := 36) dX7_type_30 (by decide) (fun _ => ?_) (fun hn => absurd hn hc)
            refine V.aload_n dX7_type_36 rfl ?_
            refine V.iload_n dX7_type_37 rfl ?_
            obtain ⟨q4, h1, h⟩ := bdc h
            refine V.callV1 (mc := mX7_reread) (d' := 4) dX7_type_38 lkX7_100 hfX7_reread nC_0 gC_0 rfl (by decide) (Nat.le_of_ble_eq_true rfl) (Nat.le_of_ble_eq_true rfl) (vX7_reread h1 ?_)
            obtain rfl := Option.some.inj h
            exact V.iret dX7_type_41 rfl hQ
        · rcases itc h with ⟨hc, h⟩ | ⟨hc, h⟩
          · subst hc
            refine V.callV1 (mc := mX7_textOf) (d' := 0) dX7_type_23 lkX7_93 hfX7_textOf nC_0 gC_0 rfl (by decide) (Nat.le_of_ble_eq_true rfl) (Nat.le_of_ble_eq_true rfl) (vX7_textOf h1 ?_)
            refine V.iload_n dX7_type_26 rfl ?_
            obtain ⟨q5, h1, h⟩ := bdc h
            refine V.callV1 (mc := mX4_append) (d' := 0) dX7_type_27 lkX7_97 hfX4_append nC_3 gC_3 rfl (by decide) (Nat.le_of_ble_eq_true rfl) (Nat.le_of_ble_eq_true rfl) (vX4_append_3 h1 ?_)
            rcases itc h with ⟨hc, h⟩ | ⟨hc, h⟩
            · refine V.if_ne (tgt := 36) dX7_type_30 (by decide) (fun hn => absurd hc hn) (fun _ => ?_)
              refine V.bipush bp_m4 dX7_type_33 ?_
              obtain rfl := Option.some.inj h
              exact V.iret dX7_type_35 rfl hQ
            · refine V.if_ne (tgt := 36) dX7_type_30 (by decide) (fun _ => ?_) (fun hn => absurd hn hc)
              refine V.aload_n dX7_type_36 rfl ?_
              refine V.iload_n dX7_type_37 rfl ?_
              obtain ⟨q6, h1, h⟩ := bdc h
              refine V.callV1 (mc := mX7_reread) (d' := 4) dX7_type_38 lkX7_100 hfX7_reread nC_0 gC_0 rfl (by decide) (Nat.le_of_ble_eq_true rfl) (Nat.le_of_ble_eq_true rfl) (vX7_reread h1 ?_)
              obtain rfl := Option.some.inj h
              exact V.iret dX7_type_41 rfl hQ
          · cases h
      · refine V.icmp_le (tgt := 21) dX7_type_15 (by decide) (fun hn => absurd hn hc) (fun _ => ?_)
        exact V.forget (vX7_type_18 h hQ) trivial
def fX7_wipe_28 (l1 : Int32) (l2 : Int32) (σ : vMem) : Option (Int32 × vMem) :=
  (fX7_reread l1 σ).bind fun q1 => some (l2, q1.2)
theorem vX7_wipe_28 {ad : Nat → Nat} {Q : Option Value → vMem → Prop} {r : (Int32 × vMem)} {l1 : Int32} {l2 : Int32} {σ : vMem} (h : fX7_wipe_28 l1 l2 σ = some r) (hQ : Q (some (.int r.1)) r.2) : V GC mX7_wipe ad Q 5 28 [some (.ref (ad 0)), some (.int l1), some (.int l2)] [] σ := by
  unfold fX7_wipe_28 at h
  refine V.aload_n dX7_wipe_28 rfl ?_
  refine V.iload_n dX7_wipe_29 rfl ?_
  obtain ⟨q1, h1, h⟩ := bdc h
  refine V.callV1 (mc := mX7_reread) (d' := 4) dX7_wipe_30 lkX7_100 hfX7_reread nC_0 gC_0 rfl (by decide) (Nat.le_of_ble_eq_true rfl) (Nat.le_of_ble_eq_true rfl) (vX7_reread h1 ?_)
  refine V.pop rfl dX7_wipe_33 ?_
  refine V.iload_n dX7_wipe_34 rfl ?_
  obtain rfl := Option.some.inj h
  exact V.iret dX7_wipe_35 rfl hQ
def fX7_wipe (l1 : Int32) (σ : vMem) : Option (Int32 × vMem) :=
  (fX7_isText l1 σ).bind fun q1 => if q1.1 = 0 then (some ((-2 : Int32), q1.2)) else
  ((fX7_textOf l1 q1.2).bind fun q2 => if q2.1 = 1 then ((fX7_textOf l1 q2.2).bind fun q3 => if q3.1 = 1 then (fX7_wipe_28 l1 (q2.2.1 1 1) (vup q3.2 1 1 (0 : Int32))) else
  (if q3.1 = 3 then (fX7_wipe_28 l1 (q2.2.1 1 1) (vup q3.2 3 1 (0 : Int32))) else
  (none))) else
  (if q2.1 = 3 then ((fX7_textOf l1 q2.2).bind fun q4 => if q4.1 = 1 then (fX7_wipe_28 l1 (q2.2.1 3 1) (vup q4.2 1 1 (0 : Int32))) else
  (if q4.1 = 3 then (fX7_wipe_28 l1 (q2.2.1 3 1) (vup q4.2 3 1 (0 : Int32))) else
  (none))) else
  (none)))
theorem vX7_wipe {ad : Nat → Nat} {Q : Option Value → vMem → Prop} {r : (Int32 × vMem)} {l1 : Int32} {σ : vMem} (h : fX7_wipe l1 σ = some r) (hQ : Q (some (.int r.1)) r.2) : V GC mX7_wipe ad Q 5 0 [some (.ref (ad 0)), some (.int l1), none] [] σ := by
  unfold fX7_wipe at h
  refine V.iload_n dX7_wipe_0 rfl ?_
  obtain ⟨q1, h1, h⟩ := bdc h
  refine V.callS1 (mc := mX7_isText) (d' := 0) dX7_wipe_1 lkX7_89 hfX7_isText (by decide) (Nat.le_of_ble_eq_true rfl) (Nat.le_of_ble_eq_true rfl) (vX7_isText h1 ?_)
  rcases itc h with ⟨hc, h⟩ | ⟨hc, h⟩
  · refine V.if_ne (tgt := 10) dX7_wipe_4 (by decide) (fun hn => absurd hc hn) (fun _ => ?_)
    refine V.bipush bp_m2 dX7_wipe_7 ?_
    obtain rfl := Option.some.inj h
    exact V.iret dX7_wipe_9 rfl hQ
  · refine V.if_ne (tgt := 10) dX7_wipe_4 (by decide) (fun _ => ?_) (fun hn => absurd hn hc)
    refine V.aload_n dX7_wipe_10 rfl ?_
    refine V.iload_n dX7_wipe_11 rfl ?_
    obtain ⟨⟨q2a, q2b⟩, h1, h⟩ := bdc h
    rcases itc h with ⟨hc, h⟩ | ⟨hc, h⟩
    · subst hc
      refine V.callV1 (mc := mX7_textOf) (d' := 0) dX7_wipe_12 lkX7_93 hfX7_textOf nC_0 gC_0 rfl (by decide) (Nat.le_of_ble_eq_true rfl) (Nat.le_of_ble_eq_true rfl) (vX7_textOf h1 ?_)
      refine V.get dX7_wipe_15 flX7_104 nC_1 gC_1 (by decide) (eC_1_1 _ _) ?_
      refine V.istore_n dX7_wipe_18 (by decide) rfl ?_
      refine V.aload_n dX7_wipe_19 rfl ?_
      refine V.iload_n dX7_wipe_20 rfl ?_
      obtain ⟨⟨q3a, q3b⟩, h1, h⟩ := bdc h
      rcases itc h with ⟨hc, h⟩ | ⟨hc, h⟩
      · subst hc
        refine V.callV1 (mc := mX7_textOf) (d' := 0) dX7_wipe_21 lkX7_93 hfX7_textOf nC_0 gC_0 rfl (by decide) (Nat.le_of_ble_eq_true rfl) (Nat.le_of_ble_eq_true rfl) (vX7_textOf h1 ?_)
        refine V.iconst ic_0 dX7_wipe_24 ?_
        refine V.putI dX7_wipe_25 fpX7_104 nC_1 gC_1 (by decide) rfl ?_
        exact V.forget (vX7_wipe_28 h hQ) ⟨rfl, ⟨rfl, ⟨rfl, trivial⟩⟩⟩
      · rcases itc h with ⟨hc, h⟩ | ⟨hc, h⟩
        · subst hc
          refine V.callV1 (mc := mX7_textOf) (d' := 0) dX7_wipe_21 lkX7_93 hfX7_textOf nC_0 gC_0 rfl (by decide) (Nat.le_of_ble_eq_true rfl) (Nat.le_of_ble_eq_true rfl) (vX7_textOf h1 ?_)
          refine V.iconst ic_0 dX7_wipe_24 ?_
          refine V.putI dX7_wipe_25 fpX7_104 nC_3 gC_3 (by decide) rfl ?_
          exact V.forget (vX7_wipe_28 h hQ) ⟨rfl, ⟨rfl, ⟨rfl, trivial⟩⟩⟩
        · cases h
    · rcases itc h with ⟨hc, h⟩ | ⟨hc, h⟩
      · subst hc
        refine V.callV1 (mc := mX7_textOf) (d' := 0) dX7_wipe_12 lkX7_93 hfX7_textOf nC_0 gC_0 rfl (by decide) (Nat.le_of_ble_eq_true rfl) (Nat.le_of_ble_eq_true rfl) (vX7_textOf h1 ?_)
        refine V.get dX7_wipe_15 flX7_104 nC_3 gC_3 (by decide) (eC_3_1 _ _) ?_
        refine V.istore_n dX7_wipe_18 (by decide) rfl ?_
        refine V.aload_n dX7_wipe_19 rfl ?_
        refine V.iload_n dX7_wipe_20 rfl ?_
        obtain ⟨⟨q4a, q4b⟩, h1, h⟩ := bdc h
        rcases itc h with ⟨hc, h⟩ | ⟨hc, h⟩
        · subst hc
          refine V.callV1 (mc := mX7_textOf) (d' := 0) dX7_wipe_21 lkX7_93 hfX7_textOf nC_0 gC_0 rfl (by decide) (Nat.le_of_ble_eq_true rfl) (Nat.le_of_ble_eq_true rfl) (vX7_textOf h1 ?_)
          refine V.iconst ic_0 dX7_wipe_24 ?_
          refine V.putI dX7_wipe_25 fpX7_104 nC_1 gC_1 (by decide) rfl ?_
          exact V.forget (vX7_wipe_28 h hQ) ⟨rfl, ⟨rfl, ⟨rfl, trivial⟩⟩⟩
        · rcases itc h with ⟨hc, h⟩ | ⟨hc, h⟩
          · subst hc
            refine V.callV1 (mc := mX7_textOf) (d' := 0) dX7_wipe_21 lkX7_93 hfX7_textOf nC_0 gC_0 rfl (by decide) (Nat.le_of_ble_eq_true rfl) (Nat.le_of_ble_eq_true rfl) (vX7_textOf h1 ?_)
            refine V.iconst ic_0 dX7_wipe_24 ?_
            refine V.putI dX7_wipe_25 fpX7_104 nC_3 gC_3 (by decide) rfl ?_
            exact V.forget (vX7_wipe_28 h hQ) ⟨rfl, ⟨rfl, ⟨rfl, trivial⟩⟩⟩
          · cases h
      · cases h
def fX7_undo_38 (l1 : Int32) (σ : vMem) : Option (Int32 × vMem) :=
  (fX7_reread l1 σ).bind fun q1 => some (q1.1, q1.2)
theorem vX7_undo_38 {ad : Nat → Nat} {Q : Option Value → vMem → Prop} {r : (Int32 × vMem)} {l1 : Int32} {σ : vMem} (h : fX7_undo_38 l1 σ = some r) (hQ : Q (some (.int r.1)) r.2) : V GC mX7_undo ad Q 5 38 [some (.ref (ad 0)), some (.int l1)] [] σ := by
  unfold fX7_undo_38 at h
  refine V.aload_n dX7_undo_38 rfl ?_
  refine V.iload_n dX7_undo_39 rfl ?_
  obtain ⟨q1, h1, h⟩ := bdc h
  refine V.callV1 (mc := mX7_reread) (d' := 4) dX7_undo_40 lkX7_100 hfX7_reread nC_0 gC_0 rfl (by decide) (Nat.le_of_ble_eq_true rfl) (Nat.le_of_ble_eq_true rfl) (vX7_reread h1 ?_)
  obtain rfl := Option.some.inj h
  exact V.iret dX7_undo_43 rfl hQ
def fX7_undo (l1 : Int32) (σ : vMem) : Option (Int32 × vMem) :=
  (fX7_isText l1 σ).bind fun q1 => if q1.1 = 0 then (some ((-2 : Int32), q1.2)) else
  ((fX7_textOf l1 q1.2).bind fun q2 => if q2.1 = 1 then (if (q2.2.1 1 1) = 0 then (some ((-3 : Int32), q2.2)) else
  ((fX7_textOf l1 q2.2).bind fun q3 => if q3.1 = 1 then (fX7_undo_38 l1 (vup q3.2 1 1 ((q3.2.1 1 1) - (1 : Int32)))) else
  (if q3.1 = 3 then (fX7_undo_38 l1 (vup q3.2 3 1 ((q3.2.1 3 1) - (1 : Int32)))) else
  (none)))) else
  (if q2.1 = 3 then (if (q2.2.1 3 1) = 0 then (some ((-3 : Int32), q2.2)) else
  ((fX7_textOf l1 q2.2).bind fun q4 => if q4.1 = 1 then (fX7_undo_38 l1 (vup q4.2 1 1 ((q4.2.1 1 1) - (1 : Int32)))) else
  (if q4.1 = 3 then (fX7_undo_38 l1 (vup q4.2 3 1 ((q4.2.1 3 1) - (1 : Int32)))) else
  (none)))) else
  (none)))
theorem vX7_undo {ad : Nat → Nat} {Q : Option Value → vMem → Prop} {r : (Int32 × vMem)} {l1 : Int32} {σ : vMem} (h : fX7_undo l1 σ = some r) (hQ : Q (some (.int r.1)) r.2) : V GC mX7_undo ad Q 5 0 [some (.ref (ad 0)), some (.int l1)] [] σ := by
  unfold fX7_undo at h
  refine V.iload_n dX7_undo_0 rfl ?_
  obtain ⟨q1, h1, h⟩ := bdc h
  refine V.callS1 (mc := mX7_isText) (d' := 0) dX7_undo_1 lkX7_89 hfX7_isText (by decide) (Nat.le_of_ble_eq_true rfl) (Nat.le_of_ble_eq_true rfl) (vX7_isText h1 ?_)
  rcases itc h with ⟨hc, h⟩ | ⟨hc, h⟩
  · refine V.if_ne (tgt := 10) dX7_undo_4 (by decide) (fun hn => absurd hc hn) (fun _ => ?_)
    refine V.bipush bp_m2 dX7_undo_7 ?_
    obtain rfl := Option.some.inj h
    exact V.iret dX7_undo_9 rfl hQ
  · refine V.if_ne (tgt := 10) dX7_undo_4 (by decide) (fun _ => ?_) (fun hn => absurd hn hc)
    refine V.aload_n dX7_undo_10 rfl ?_
    refine V.iload_n dX7_undo_11 rfl ?_
    obtain ⟨⟨q2a, q2b⟩, h1, h⟩ := bdc h
    rcases itc h with ⟨hc, h⟩ | ⟨hc, h⟩
    · subst hc
      refine V.callV1 (mc := mX7_textOf) (d' := 0) dX7_undo_12 lkX7_93 hfX7_textOf nC_0 gC_0 rfl (by decide) (Nat.le_of_ble_eq_true rfl) (Nat.le_of_ble_eq_true rfl) (vX7_textOf h1 ?_)
      refine V.get dX7_undo_15 flX7_104 nC_1 gC_1 (by decide) (eC_1_1 _ _) ?_
      rcases itc h with ⟨hc, h⟩ | ⟨hc, h⟩
      · refine V.if_ne (tgt := 24) dX7_undo_18 (by decide) (fun hn => absurd hc hn) (fun _ => ?_)
        refine V.bipush bp_m3 dX7_undo_21 ?_
        obtain rfl := Option.some.inj h
        exact V.iret dX7_undo_23 rfl hQ
      · refine V.if_ne (tgt := 24) dX7_undo_18 (by decide) (fun _ => ?_) (fun hn => absurd hn hc)
        refine V.aload_n dX7_undo_24 rfl ?_
        refine V.iload_n dX7_undo_25 rfl ?_
        obtain ⟨⟨q3a, q3b⟩, h1, h⟩ := bdc h
        rcases itc h with ⟨hc, h⟩ | ⟨hc, h⟩
        · subst hc
          refine V.callV1 (mc := mX7_textOf) (d' := 0) dX7_undo_26 lkX7_93 hfX7_textOf nC_0 gC_0 rfl (by decide) (Nat.le_of_ble_eq_true rfl) (Nat.le_of_ble_eq_true rfl) (vX7_textOf h1 ?_)
          refine V.dup rfl dX7_undo_29 ?_
          refine V.get dX7_undo_30 flX7_104 nC_1 gC_1 (by decide) (eC_1_1 _ _) ?_
          refine V.iconst ic_1 dX7_undo_33 ?_
          refine V.isub dX7_undo_34 ?_
          refine V.putI dX7_undo_35 fpX7_104 nC_1 gC_1 (by decide) rfl ?_
          exact V.forget (vX7_undo_38 h hQ) ⟨rfl, ⟨rfl, trivial⟩⟩
        · rcases itc h with ⟨hc, h⟩ | ⟨hc, h⟩
          · subst hc
            refine V.callV1 (mc := mX7_textOf) (d' := 0) dX7_undo_26 lkX7_93 hfX7_textOf nC_0 gC_0 rfl (by decide) (Nat.le_of_ble_eq_true rfl) (Nat.le_of_ble_eq_true rfl) (vX7_textOf h1 ?_)
            refine V.dup rfl dX7_undo_29 ?_
            refine V.get dX7_undo_30 flX7_104 nC_3 gC_3 (by decide) (eC_3_1 _ _) ?_
            refine V.iconst ic_1 dX7_undo_33 ?_
            refine V.isub dX7_undo_34 ?_
            refine V.putI dX7_undo_35 fpX7_104 nC_3 gC_3 (by decide) rfl ?_
            exact V.forget (vX7_undo_38 h hQ) ⟨rfl, ⟨rfl, trivial⟩⟩
          · cases h
    · rcases itc h with ⟨hc, h⟩ | ⟨hc, h⟩
      · subst hc
        refine V.callV1 (mc := mX7_textOf) (d' := 0) dX7_undo_12 lkX7_93 hfX7_textOf nC_0 gC_0 rfl (by decide) (Nat.le_of_ble_eq_true rfl) (Nat.le_of_ble_eq_true rfl) (vX7_textOf h1 ?_)
        refine V.get dX7_undo_15 flX7_104 nC_3 gC_3 (by decide) (eC_3_1 _ _) ?_
        rcases itc h with ⟨hc, h⟩ | ⟨hc, h⟩
        · refine V.if_ne (tgt := 24) dX7_undo_18 (by decide) (fun hn => absurd hc hn) (fun _ => ?_)
          refine V.bipush bp_m3 dX7_undo_21 ?_
          obtain rfl := Option.some.inj h
          exact V.iret dX7_undo_23 rfl hQ
        · refine V.if_ne (tgt := 24) dX7_undo_18 (by decide) (fun _ => ?_) (fun hn => absurd hn hc)
          refine V.aload_n dX7_undo_24 rfl ?_
          refine V.iload_n dX7_undo_25 rfl ?_
          obtain ⟨⟨q4a, q4b⟩, h1, h⟩ := bdc h
          rcases itc h with ⟨hc, h⟩ | ⟨hc, h⟩
          · subst hc
            refine V.callV1 (mc := mX7_textOf) (d' := 0) dX7_undo_26 lkX7_93 hfX7_textOf nC_0 gC_0 rfl (by decide) (Nat.le_of_ble_eq_true rfl) (Nat.le_of_ble_eq_true rfl) (vX7_textOf h1 ?_)
            refine V.dup rfl dX7_undo_29 ?_
            refine V.get dX7_undo_30 flX7_104 nC_1 gC_1 (by decide) (eC_1_1 _ _) ?_
            refine V.iconst ic_1 dX7_undo_33 ?_
            refine V.isub dX7_undo_34 ?_
            refine V.putI dX7_undo_35 fpX7_104 nC_1 gC_1 (by decide) rfl ?_
            exact V.forget (vX7_undo_38 h hQ) ⟨rfl, ⟨rfl, trivial⟩⟩
          · rcases itc h with ⟨hc, h⟩ | ⟨hc, h⟩
            · subst hc
              refine V.callV1 (mc := mX7_textOf) (d' := 0) dX7_undo_26 lkX7_93 hfX7_textOf nC_0 gC_0 rfl (by decide) (Nat.le_of_ble_eq_true rfl) (Nat.le_of_ble_eq_true rfl) (vX7_textOf h1 ?_)
              refine V.dup rfl dX7_undo_29 ?_
              refine V.get dX7_undo_30 flX7_104 nC_3 gC_3 (by decide) (eC_3_1 _ _) ?_
              refine V.iconst ic_1 dX7_undo_33 ?_
              refine V.isub dX7_undo_34 ?_
              refine V.putI dX7_undo_35 fpX7_104 nC_3 gC_3 (by decide) rfl ?_
              exact V.forget (vX7_undo_38 h hQ) ⟨rfl, ⟨rfl, trivial⟩⟩
            · cases h
      · cases h
def fX7_fault_31 (s0 : Int32) (σ : vMem) : Option (Int32 × vMem) :=
  some (s0, σ)
theorem vX7_fault_31 {ad : Nat → Nat} {Q : Option Value → vMem → Prop} {r : (Int32 × vMem)} {s0 : Int32} {σ : vMem} (h : fX7_fault_31 s0 σ = some r) (hQ : Q (some (.int r.1)) r.2) : V GC mX7_fault ad Q 1 31 [none, none] [.int s0] σ := by
  unfold fX7_fault_31 at h
  obtain rfl := Option.some.inj h
  exact V.iret dX7_fault_31 rfl hQ
def fX7_fault (l1 : Int32) (σ : vMem) : Option (Int32 × vMem) :=
  (fX7_isText l1 σ).bind fun q1 => if q1.1 = 0 then (some ((-2 : Int32), q1.2)) else
  (if l1 = 0 then (fX7_fault_31 (q1.2.1 5 1) q1.2) else
  (fX7_fault_31 (q1.2.1 5 6) q1.2))
theorem vX7_fault {ad : Nat → Nat} {Q : Option Value → vMem → Prop} {r : (Int32 × vMem)} {l1 : Int32} {σ : vMem} (h : fX7_fault l1 σ = some r) (hQ : Q (some (.int r.1)) r.2) : V GC mX7_fault ad Q 1 0 [some (.ref (ad 0)), some (.int l1)] [] σ := by
  unfold fX7_fault at h
  refine V.iload_n dX7_fault_0 rfl ?_
  obtain ⟨q1, h1, h⟩ := bdc h
  refine V.callS1 (mc := mX7_isText) (d' := 0) dX7_fault_1 lkX7_89 hfX7_isText (by decide) (Nat.le_of_ble_eq_true rfl) (Nat.le_of_ble_eq_true rfl) (vX7_isText h1 ?_)
  rcases itc h with ⟨hc, h⟩ | ⟨hc, h⟩
  · refine V.if_ne (tgt := 10) dX7_fault_4 (by decide) (fun hn => absurd hc hn) (fun _ => ?_)
    refine V.bipush bp_m2 dX7_fault_7 ?_
    obtain rfl := Option.some.inj h
    exact V.iret dX7_fault_9 rfl hQ
  · refine V.if_ne (tgt := 10) dX7_fault_4 (by decide) (fun _ => ?_) (fun hn => absurd hn hc)
    refine V.iload_n dX7_fault_10 rfl ?_
    rcases itc h with ⟨hc, h⟩ | ⟨hc, h⟩
    · refine V.if_ne (tgt := 24) dX7_fault_11 (by decide) (fun hn => absurd hc hn) (fun _ => ?_)
      refine V.aload_n dX7_fault_14 rfl ?_
      refine V.get dX7_fault_15 flX7_24 nC_0 gC_0 (by decide) (eC_0_2 _ _) ?_
      refine V.get dX7_fault_18 flX7_107 nC_5 gC_5 (by decide) (eC_5_1 _ _) ?_
      refine V.goto (tgt := 31) dX7_fault_21 (by decide) ?_
      exact V.forget (vX7_fault_31 h hQ) trivial
    · refine V.if_ne (tgt := 24) dX7_fault_11 (by decide) (fun _ => ?_) (fun hn => absurd hn hc)
      refine V.aload_n dX7_fault_24 rfl ?_
      refine V.get dX7_fault_25 flX7_24 nC_0 gC_0 (by decide) (eC_0_2 _ _) ?_
      refine V.get dX7_fault_28 flX7_110 nC_5 gC_5 (by decide) (eC_5_6 _ _) ?_
      exact V.forget (vX7_fault_31 h hQ) trivial
def fX7_isFloor_20 (s0 : Int32) (σ : vMem) : Option (Int32 × vMem) :=
  if ¬ (s0 = 0 ∨ s0 = 1) then none else some (s0, σ)
theorem vX7_isFloor_20 {ad : Nat → Nat} {Q : Option Value → vMem → Prop} {r : (Int32 × vMem)} {s0 : Int32} {σ : vMem} (h : fX7_isFloor_20 s0 σ = some r) (hQ : Q (some (.int r.1)) r.2) : V GC mX7_isFloor ad Q 0 20 [none, none] [.int s0] σ := by
  unfold fX7_isFloor_20 at h
  obtain ⟨hb, h⟩ := ckn h
  obtain rfl := Option.some.inj h
  exact V.zret dX7_isFloor_20 rfl (Decidable.not_not.mp hb) hQ
def fX7_isFloor_19 (σ : vMem) : Option (Int32 × vMem) :=
  fX7_isFloor_20 (0 : Int32) σ
theorem vX7_isFloor_19 {ad : Nat → Nat} {Q : Option Value → vMem → Prop} {r : (Int32 × vMem)} {σ : vMem} (h : fX7_isFloor_19 σ = some r) (hQ : Q (some (.int r.1)) r.2) : V GC mX7_isFloor ad Q 0 19 [none, none] [] σ := by
  unfold fX7_isFloor_19 at h
  refine V.iconst ic_0 dX7_isFloor_19 ?_
  exact V.forget (vX7_isFloor_20 h hQ) trivial
def fX7_isFloor (l1 : Int32) (σ : vMem) : Option (Int32 × vMem) :=
  if l1 < 0 then (fX7_isFloor_19 σ) else
  (if (σ.1 5 0) ≤ l1 then (fX7_isFloor_19 σ) else
  (fX7_isFloor_20 (1 : Int32) σ))
theorem vX7_isFloor {ad : Nat → Nat} {Q : Option Value → vMem → Prop} {r : (Int32 × vMem)} {l1 : Int32} {σ : vMem} (h : fX7_isFloor l1 σ = some r) (hQ : Q (some (.int r.1)) r.2) : V GC mX7_isFloor ad Q 0 0 [some (.ref (ad 0)), some (.int l1)] [] σ := by
  unfold fX7_isFloor at h
  refine V.iload_n dX7_isFloor_0 rfl ?_
  rcases itc h with ⟨hc, h⟩ | ⟨hc, h⟩
  · refine V.if_lt (tgt := 19) dX7_isFloor_1 (by decide) (fun _ => ?_) (fun hn => absurd hc hn)
    exact V.forget (vX7_isFloor_19 h hQ) trivial
  · refine V.if_lt (tgt := 19) dX7_isFloor_1 (by decide) (fun hn => absurd hn hc) (fun _ => ?_)
    refine V.iload_n dX7_isFloor_4 rfl ?_
    refine V.aload_n dX7_isFloor_5 rfl ?_
    refine V.get dX7_isFloor_6 flX7_24 nC_0 gC_0 (by decide) (eC_0_2 _ _) ?_
    refine V.get dX7_isFloor_9 flX7_217 nC_5 gC_5 (by decide) (eC_5_0 _ _) ?_
    rcases itc h with ⟨hc, h⟩ | ⟨hc, h⟩
    · refine V.icmp_ge (tgt := 19) dX7_isFloor_12 (by decide) (fun _ => ?_) (fun hn => absurd hc hn)
      exact V.forget (vX7_isFloor_19 h hQ) trivial
    · refine V.icmp_ge (tgt := 19) dX7_isFloor_12 (by decide) (fun hn => absurd hn hc) (fun _ => ?_)
      refine V.iconst ic_1 dX7_isFloor_15 ?_
      refine V.goto (tgt := 20) dX7_isFloor_16 (by decide) ?_
      exact V.forget (vX7_isFloor_20 h hQ) trivial
def fX7_floor (l1 : Int32) (l2 : Int32) (σ : vMem) : Option (Int32 × vMem) :=
  (fX7_isFloor l1 σ).bind fun q1 => if q1.1 = 0 then (some ((-2 : Int32), q1.2)) else
  (if l2 = 0 then (if l1 < 0 ∨ 9 ≤ l1.toNatClampNeg then none else some ((q1.2.1 6 l1.toNatClampNeg), q1.2)) else
  (if l2 = 1 then (if l1 < 0 ∨ 9 ≤ l1.toNatClampNeg then none else some ((q1.2.1 7 l1.toNatClampNeg), q1.2)) else
  (if l2 = 2 then (if l1 < 0 ∨ 9 ≤ l1.toNatClampNeg then none else some ((q1.2.1 8 l1.toNatClampNeg), q1.2)) else
  (some ((-2 : Int32), q1.2)))))
theorem vX7_floor {ad : Nat → Nat} {Q : Option Value → vMem → Prop} {r : (Int32 × vMem)} {l1 : Int32} {l2 : Int32} {σ : vMem} (h : fX7_floor l1 l2 σ = some r) (hQ : Q (some (.int r.1)) r.2) : V GC mX7_floor ad Q 1 0 [some (.ref (ad 0)), some (.int l1), some (.int l2)] [] σ := by
  unfold fX7_floor at h
  refine V.aload_n dX7_floor_0 rfl ?_
  refine V.iload_n dX7_floor_1 rfl ?_
  obtain ⟨q1, h1, h⟩ := bdc h
  refine V.callV1 (mc := mX7_isFloor) (d' := 0) dX7_floor_2 lkX7_113 hfX7_isFloor nC_0 gC_0 rfl (by decide) (Nat.le_of_ble_eq_true rfl) (Nat.le_of_ble_eq_true rfl) (vX7_isFloor h1 ?_)
  rcases itc h with ⟨hc, h⟩ | ⟨hc, h⟩
  · refine V.if_ne (tgt := 11) dX7_floor_5 (by decide) (fun hn => absurd hc hn) (fun _ => ?_)
    refine V.bipush bp_m2 dX7_floor_8 ?_
    obtain rfl := Option.some.inj h
    exact V.iret dX7_floor_10 rfl hQ
  · refine V.if_ne (tgt := 11) dX7_floor_5 (by decide) (fun _ => ?_) (fun hn => absurd hn hc)
    refine V.iload_n dX7_floor_11 rfl ?_
    rcases itc h with ⟨hc, h⟩ | ⟨hs0, h⟩
    · refine V.tableIn (off := 28) (tgt := 40) dX7_floor_12 (by rw [hc]; decide) (by rw [hc]; decide) (by rw [hc]; rfl) (by decide) ?_
      refine V.aload_n dX7_floor_40 rfl ?_
      refine V.get dX7_floor_41 flX7_24 nC_0 gC_0 (by decide) (eC_0_2 _ _) ?_
      refine V.get dX7_floor_44 flX7_116 nC_5 gC_5 (by decide) (eC_5_2 _ _) ?_
      refine V.iload_n dX7_floor_47 rfl ?_
      obtain ⟨hb, h⟩ := ckn h
      refine V.iald dX7_floor_48 nC_6 gC_6 hb ?_
      obtain rfl := Option.some.inj h
      exact V.iret dX7_floor_49 rfl hQ
    · rcases itc h with ⟨hc, h⟩ | ⟨hs1, h⟩
      · refine V.tableIn (off := 38) (tgt := 50) dX7_floor_12 (by rw [hc]; decide) (by rw [hc]; decide) (by rw [hc]; rfl) (by decide) ?_
        refine V.aload_n dX7_floor_50 rfl ?_
        refine V.get dX7_floor_51 flX7_24 nC_0 gC_0 (by decide) (eC_0_2 _ _) ?_
        refine V.get dX7_floor_54 flX7_119 nC_5 gC_5 (by decide) (eC_5_3 _ _) ?_
        refine V.iload_n dX7_floor_57 rfl ?_
        obtain ⟨hb, h⟩ := ckn h
        refine V.iald dX7_floor_58 nC_7 gC_7 hb ?_
        obtain rfl := Option.some.inj h
        exact V.iret dX7_floor_59 rfl hQ
      · rcases itc h with ⟨hc, h⟩ | ⟨hs2, h⟩
        · refine V.tableIn (off := 48) (tgt := 60) dX7_floor_12 (by rw [hc]; decide) (by rw [hc]; decide) (by rw [hc]; rfl) (by decide) ?_
          refine V.aload_n dX7_floor_60 rfl ?_
          refine V.get dX7_floor_61 flX7_24 nC_0 gC_0 (by decide) (eC_0_2 _ _) ?_
          refine V.get dX7_floor_64 flX7_122 nC_5 gC_5 (by decide) (eC_5_4 _ _) ?_
          refine V.iload_n dX7_floor_67 rfl ?_
          obtain ⟨hb, h⟩ := ckn h
          refine V.iald dX7_floor_68 nC_8 gC_8 hb ?_
          obtain rfl := Option.some.inj h
          exact V.iret dX7_floor_69 rfl hQ
        · refine V.tableOut (tgt := 70) dX7_floor_12 (by have hs0t : ¬ l2.toInt = 0 := lv_neT hs0 rfl; have hs1t : ¬ l2.toInt = 1 := lv_neT hs1 rfl; have hs2t : ¬ l2.toInt = 2 := lv_neT hs2 rfl; omega) (by decide) ?_
          refine V.bipush bp_m2 dX7_floor_70 ?_
          obtain rfl := Option.some.inj h
          exact V.iret dX7_floor_72 rfl hQ
def fX7_isBasket_20 (s0 : Int32) (σ : vMem) : Option (Int32 × vMem) :=
  if ¬ (s0 = 0 ∨ s0 = 1) then none else some (s0, σ)
theorem vX7_isBasket_20 {ad : Nat → Nat} {Q : Option Value → vMem → Prop} {r : (Int32 × vMem)} {s0 : Int32} {σ : vMem} (h : fX7_isBasket_20 s0 σ = some r) (hQ : Q (some (.int r.1)) r.2) : V GC mX7_isBasket ad Q 0 20 [none, none] [.int s0] σ := by
  unfold fX7_isBasket_20 at h
  obtain ⟨hb, h⟩ := ckn h
  obtain rfl := Option.some.inj h
  exact V.zret dX7_isBasket_20 rfl (Decidable.not_not.mp hb) hQ
def fX7_isBasket_19 (σ : vMem) : Option (Int32 × vMem) :=
  fX7_isBasket_20 (0 : Int32) σ
theorem vX7_isBasket_19 {ad : Nat → Nat} {Q : Option Value → vMem → Prop} {r : (Int32 × vMem)} {σ : vMem} (h : fX7_isBasket_19 σ = some r) (hQ : Q (some (.int r.1)) r.2) : V GC mX7_isBasket ad Q 0 19 [none, none] [] σ := by
  unfold fX7_isBasket_19 at h
  refine V.iconst ic_0 dX7_isBasket_19 ?_
  exact V.forget (vX7_isBasket_20 h hQ) trivial
def fX7_isBasket (l1 : Int32) (σ : vMem) : Option (Int32 × vMem) :=
  if l1 < 0 then (fX7_isBasket_19 σ) else
  (if (σ.1 5 5) ≤ l1 then (fX7_isBasket_19 σ) else
  (fX7_isBasket_20 (1 : Int32) σ))
theorem vX7_isBasket {ad : Nat → Nat} {Q : Option Value → vMem → Prop} {r : (Int32 × vMem)} {l1 : Int32} {σ : vMem} (h : fX7_isBasket l1 σ = some r) (hQ : Q (some (.int r.1)) r.2) : V GC mX7_isBasket ad Q 0 0 [some (.ref (ad 0)), some (.int l1)] [] σ := by
  unfold fX7_isBasket at h
  refine V.iload_n dX7_isBasket_0 rfl ?_
  rcases itc h with ⟨hc, h⟩ | ⟨hc, h⟩
  · refine V.if_lt (tgt := 19) dX7_isBasket_1 (by decide) (fun _ => ?_) (fun hn => absurd hc hn)
    exact V.forget (vX7_isBasket_19 h hQ) trivial
  · refine V.if_lt (tgt := 19) dX7_isBasket_1 (by decide) (fun hn => absurd hn hc) (fun _ => ?_)
    refine V.iload_n dX7_isBasket_4 rfl ?_
    refine V.aload_n dX7_isBasket_5 rfl ?_
    refine V.get dX7_isBasket_6 flX7_24 nC_0 gC_0 (by decide) (eC_0_2 _ _) ?_
    refine V.get dX7_isBasket_9 flX7_268 nC_5 gC_5 (by decide) (eC_5_5 _ _) ?_
    rcases itc h with ⟨hc, h⟩ | ⟨hc, h⟩
    · refine V.icmp_ge (tgt := 19) dX7_isBasket_12 (by decide) (fun _ => ?_) (fun hn => absurd hc hn)
      exact V.forget (vX7_isBasket_19 h hQ) trivial
    · refine V.icmp_ge (tgt := 19) dX7_isBasket_12 (by decide) (fun hn => absurd hn hc) (fun _ => ?_)
      refine V.iconst ic_1 dX7_isBasket_15 ?_
      refine V.goto (tgt := 20) dX7_isBasket_16 (by decide) ?_
      exact V.forget (vX7_isBasket_20 h hQ) trivial
def fX5_toldLetter_28 (s0 : Int32) (σ : vMem) : Option (Int32 × vMem) :=
  some (s0, σ)
theorem vX5_toldLetter_28 {ad : Nat → Nat} {Q : Option Value → vMem → Prop} {r : (Int32 × vMem)} {s0 : Int32} {σ : vMem} (h : fX5_toldLetter_28 s0 σ = some r) (hQ : Q (some (.int r.1)) r.2) : V GC mX5_toldLetter ad Q 0 28 [none, none, none] [.int s0] σ := by
  unfold fX5_toldLetter_28 at h
  obtain rfl := Option.some.inj h
  exact V.iret dX5_toldLetter_28 rfl hQ
def fX5_toldLetter_27 (σ : vMem) : Option (Int32 × vMem) :=
  fX5_toldLetter_28 (-1 : Int32) σ
theorem vX5_toldLetter_27 {ad : Nat → Nat} {Q : Option Value → vMem → Prop} {r : (Int32 × vMem)} {σ : vMem} (h : fX5_toldLetter_27 σ = some r) (hQ : Q (some (.int r.1)) r.2) : V GC mX5_toldLetter ad Q 0 27 [none, none, none] [] σ := by
  unfold fX5_toldLetter_27 at h
  refine V.iconst ic_m1 dX5_toldLetter_27 ?_
  exact V.forget (vX5_toldLetter_28 h hQ) trivial
def fX5_toldLetter (l1 : Int32) (l2 : Int32) (σ : vMem) : Option (Int32 × vMem) :=
  if l2 < 0 then (fX5_toldLetter_27 σ) else
  (if l1 < 0 ∨ 8 ≤ l1.toNatClampNeg then none else if (σ.1 11 l1.toNatClampNeg) ≤ l2 then (fX5_toldLetter_27 σ) else
  (if ((l1 * (3 : Int32)) + l2) < 0 ∨ 24 ≤ ((l1 * (3 : Int32)) + l2).toNatClampNeg then none else fX5_toldLetter_28 (σ.1 12 ((l1 * (3 : Int32)) + l2).toNatClampNeg) σ))
theorem vX5_toldLetter {ad : Nat → Nat} {Q : Option Value → vMem → Prop} {r : (Int32 × vMem)} {l1 : Int32} {l2 : Int32} {σ : vMem} (h : fX5_toldLetter l1 l2 σ = some r) (hQ : Q (some (.int r.1)) r.2) : V GC mX5_toldLetter ad Q 0 0 [some (.ref (ad 5)), some (.int l1), some (.int l2)] [] σ := by
  unfold fX5_toldLetter at h
  refine V.iload_n dX5_toldLetter_0 rfl ?_
  rcases itc h with ⟨hc, h⟩ | ⟨hc, h⟩
  · refine V.if_lt (tgt := 27) dX5_toldLetter_1 (by decide) (fun _ => ?_) (fun hn => absurd hc hn)
    exact V.forget (vX5_toldLetter_27 h hQ) trivial
  · refine V.if_lt (tgt := 27) dX5_toldLetter_1 (by decide) (fun hn => absurd hn hc) (fun _ => ?_)
    refine V.iload_n dX5_toldLetter_4 rfl ?_
    refine V.aload_n dX5_toldLetter_5 rfl ?_
    refine V.get dX5_toldLetter_6 flX5_40 nC_5 gC_5 (by decide) (eC_5_9 _ _) ?_
    refine V.iload_n dX5_toldLetter_9 rfl ?_
    obtain ⟨hb, h⟩ := ckn h
    refine V.iald dX5_toldLetter_10 nC_11 gC_11 hb ?_
    rcases itc h with ⟨hc, h⟩ | ⟨hc, h⟩
    · refine V.icmp_ge (tgt := 27) dX5_toldLetter_11 (by decide) (fun _ => ?_) (fun hn => absurd hc hn)
      exact V.forget (vX5_toldLetter_27 h hQ) trivial
    · refine V.icmp_ge (tgt := 27) dX5_toldLetter_11 (by decide) (fun hn => absurd hn hc) (fun _ => ?_)
      refine V.aload_n dX5_toldLetter_14 rfl ?_
      refine V.get dX5_toldLetter_15 flX5_43 nC_5 gC_5 (by decide) (eC_5_10 _ _) ?_
      refine V.iload_n dX5_toldLetter_18 rfl ?_
      refine V.iconst ic_3 dX5_toldLetter_19 ?_
      refine V.imul dX5_toldLetter_20 ?_
      refine V.iload_n dX5_toldLetter_21 rfl ?_
      refine V.iadd dX5_toldLetter_22 ?_
      obtain ⟨hb, h⟩ := ckn h
      refine V.iald dX5_toldLetter_23 nC_12 gC_12 hb ?_
      refine V.goto (tgt := 28) dX5_toldLetter_24 (by decide) ?_
      exact V.forget (vX5_toldLetter_28 h hQ) trivial
def fX7_basket_17 (σ : vMem) : Option (Int32 × vMem) :=
  some ((-2 : Int32), σ)
theorem vX7_basket_17 {ad : Nat → Nat} {Q : Option Value → vMem → Prop} {r : (Int32 × vMem)} {σ : vMem} (h : fX7_basket_17 σ = some r) (hQ : Q (some (.int r.1)) r.2) : V GC mX7_basket ad Q 1 17 [none, none, none] [] σ := by
  unfold fX7_basket_17 at h
  refine V.bipush bp_m2 dX7_basket_17 ?_
  obtain rfl := Option.some.inj h
  exact V.iret dX7_basket_19 rfl hQ
def fX7_basket (l1 : Int32) (l2 : Int32) (σ : vMem) : Option (Int32 × vMem) :=
  (fX7_isBasket l1 σ).bind fun q1 => if q1.1 = 0 then (fX7_basket_17 q1.2) else
  (if l2 < 0 then (fX7_basket_17 q1.2) else
  (if l2 ≤ (5 : Int32) then (if l2 = 0 then (if l1 < 0 ∨ 8 ≤ l1.toNatClampNeg then none else some ((q1.2.1 9 l1.toNatClampNeg), q1.2)) else
  (if l2 = 1 then (if l1 < 0 ∨ 8 ≤ l1.toNatClampNeg then none else some ((q1.2.1 10 l1.toNatClampNeg), q1.2)) else
  (if l2 = 2 then (if l1 < 0 ∨ 8 ≤ l1.toNatClampNeg then none else some ((q1.2.1 11 l1.toNatClampNeg), q1.2)) else
  ((fX5_toldLetter l1 (l2 - (3 : Int32)) q1.2).bind fun q2 => some (q2.1, q2.2))))) else
  (fX7_basket_17 q1.2)))
theorem vX7_basket {ad : Nat → Nat} {Q : Option Value → vMem → Prop} {r : (Int32 × vMem)} {l1 : Int32} {l2 : Int32} {σ : vMem} (h : fX7_basket l1 l2 σ = some r) (hQ : Q (some (.int r.1)) r.2) : V GC mX7_basket ad Q 1 0 [some (.ref (ad 0)), some (.int l1), some (.int l2)] [] σ := by
  unfold fX7_basket at h
  refine V.aload_n dX7_basket_0 rfl ?_
  refine V.iload_n dX7_basket_1 rfl ?_
  obtain ⟨q1, h1, h⟩ := bdc h
  refine V.callV1 (mc := mX7_isBasket) (d' := 0) dX7_basket_2 lkX7_125 hfX7_isBasket nC_0 gC_0 rfl (by decide) (Nat.le_of_ble_eq_true rfl) (Nat.le_of_ble_eq_true rfl) (vX7_isBasket h1 ?_)
  rcases itc h with ⟨hc, h⟩ | ⟨hc, h⟩
  · refine V.if_eq (tgt := 17) dX7_basket_5 (by decide) (fun _ => ?_) (fun hn => absurd hc hn)
    exact V.forget (vX7_basket_17 h hQ) trivial
  · refine V.if_eq (tgt := 17) dX7_basket_5 (by decide) (fun hn => absurd hn hc) (fun _ => ?_)
    refine V.iload_n dX7_basket_8 rfl ?_
    rcases itc h with ⟨hc, h⟩ | ⟨hc, h⟩
    · refine V.if_lt (tgt := 17) dX7_basket_9 (by decide) (fun _ => ?_) (fun hn => absurd hc hn)
      exact V.forget (vX7_basket_17 h hQ) trivial
    · refine V.if_lt (tgt := 17) dX7_basket_9 (by decide) (fun hn => absurd hn hc) (fun _ => ?_)
      refine V.iload_n dX7_basket_12 rfl ?_
      refine V.iconst ic_5 dX7_basket_13 ?_
      rcases itc h with ⟨hc, h⟩ | ⟨hc, h⟩
      · refine V.icmp_le (tgt := 20) dX7_basket_14 (by decide) (fun _ => ?_) (fun hn => absurd hc hn)
        refine V.iload_n dX7_basket_20 rfl ?_
        rcases itc h with ⟨hc, h⟩ | ⟨hs0, h⟩
        · refine V.tableIn (off := 27) (tgt := 48) dX7_basket_21 (by rw [hc]; decide) (by rw [hc]; decide) (by rw [hc]; rfl) (by decide) ?_
          refine V.aload_n dX7_basket_48 rfl ?_
          refine V.get dX7_basket_49 flX7_24 nC_0 gC_0 (by decide) (eC_0_2 _ _) ?_
          refine V.get dX7_basket_52 flX7_128 nC_5 gC_5 (by decide) (eC_5_7 _ _) ?_
          refine V.iload_n dX7_basket_55 rfl ?_
          obtain ⟨hb, h⟩ := ckn h
          refine V.iald dX7_basket_56 nC_9 gC_9 hb ?_
          obtain rfl := Option.some.inj h
          exact V.iret dX7_basket_57 rfl hQ
        · rcases itc h with ⟨hc, h⟩ | ⟨hs1, h⟩
          · refine V.tableIn (off := 37) (tgt := 58) dX7_basket_21 (by rw [hc]; decide) (by rw [hc]; decide) (by rw [hc]; rfl) (by decide) ?_
            refine V.aload_n dX7_basket_58 rfl ?_
            refine V.get dX7_basket_59 flX7_24 nC_0 gC_0 (by decide) (eC_0_2 _ _) ?_
            refine V.get dX7_basket_62 flX7_131 nC_5 gC_5 (by decide) (eC_5_8 _ _) ?_
            refine V.iload_n dX7_basket_65 rfl ?_
            obtain ⟨hb, h⟩ := ckn h
            refine V.iald dX7_basket_66 nC_10 gC_10 hb ?_
            obtain rfl := Option.some.inj h
            exact V.iret dX7_basket_67 rfl hQ
          · rcases itc h with ⟨hc, h⟩ | ⟨hs2, h⟩
            · refine V.tableIn (off := 47) (tgt := 68) dX7_basket_21 (by rw [hc]; decide) (by rw [hc]; decide) (by rw [hc]; rfl) (by decide) ?_
              refine V.aload_n dX7_basket_68 rfl ?_
              refine V.get dX7_basket_69 flX7_24 nC_0 gC_0 (by decide) (eC_0_2 _ _) ?_
              refine V.get dX7_basket_72 flX7_134 nC_5 gC_5 (by decide) (eC_5_9 _ _) ?_
              refine V.iload_n dX7_basket_75 rfl ?_
              obtain ⟨hb, h⟩ := ckn h
              refine V.iald dX7_basket_76 nC_11 gC_11 hb ?_
              obtain rfl := Option.some.inj h
              exact V.iret dX7_basket_77 rfl hQ
            · refine V.tableOut (tgt := 78) dX7_basket_21 (by have hs0t : ¬ l2.toInt = 0 := lv_neT hs0 rfl; have hs1t : ¬ l2.toInt = 1 := lv_neT hs1 rfl; have hs2t : ¬ l2.toInt = 2 := lv_neT hs2 rfl; omega) (by decide) ?_
              refine V.aload_n dX7_basket_78 rfl ?_
              refine V.get dX7_basket_79 flX7_24 nC_0 gC_0 (by decide) (eC_0_2 _ _) ?_
              refine V.iload_n dX7_basket_82 rfl ?_
              refine V.iload_n dX7_basket_83 rfl ?_
              refine V.iconst ic_3 dX7_basket_84 ?_
              refine V.isub dX7_basket_85 ?_
              obtain ⟨q2, h1, h⟩ := bdc h
              refine V.callV2 (mc := mX5_toldLetter) (d' := 0) dX7_basket_86 lkX7_137 hfX5_toldLetter nC_5 gC_5 rfl (by decide) (Nat.le_of_ble_eq_true rfl) (Nat.le_of_ble_eq_true rfl) (vX5_toldLetter h1 ?_)
              obtain rfl := Option.some.inj h
              exact V.iret dX7_basket_89 rfl hQ
      · refine V.icmp_le (tgt := 20) dX7_basket_14 (by decide) (fun hn => absurd hn hc) (fun _ => ?_)
        exact V.forget (vX7_basket_17 h hQ) trivial
def fX7_set_66 (σ : vMem) : Option (Int32 × vMem) :=
  some ((-2 : Int32), σ)
theorem vX7_set_66 {ad : Nat → Nat} {Q : Option Value → vMem → Prop} {r : (Int32 × vMem)} {σ : vMem} (h : fX7_set_66 σ = some r) (hQ : Q (some (.int r.1)) r.2) : V GC mX7_set ad Q 0 66 [none, none, none, none] [] σ := by
  unfold fX7_set_66 at h
  refine V.bipush bp_m2 dX7_set_66 ?_
  obtain rfl := Option.some.inj h
  exact V.iret dX7_set_68 rfl hQ
def fX7_set_64 (l3 : Int32) (σ : vMem) : Option (Int32 × vMem) :=
  some (l3, σ)
theorem vX7_set_64 {ad : Nat → Nat} {Q : Option Value → vMem → Prop} {r : (Int32 × vMem)} {l3 : Int32} {σ : vMem} (h : fX7_set_64 l3 σ = some r) (hQ : Q (some (.int r.1)) r.2) : V GC mX7_set ad Q 0 64 [none, none, none, some (.int l3)] [] σ := by
  unfold fX7_set_64 at h
  refine V.iload_n dX7_set_64 rfl ?_
  obtain rfl := Option.some.inj h
  exact V.iret dX7_set_65 rfl hQ
def fX7_set_32 (l1 : Int32) (l2 : Int32) (σ : vMem) : Option (Int32 × vMem) :=
  if l1 = (1 : Int32) then (if l2 < (1 : Int32) then (fX7_set_66 σ) else
  (if (9 : Int32) < l2 then (fX7_set_66 σ) else
  (fX7_set_64 (σ.1 5 12) (vup σ 5 12 l2)))) else
  (fX7_set_66 σ)
theorem vX7_set_32 {ad : Nat → Nat} {Q : Option Value → vMem → Prop} {r : (Int32 × vMem)} {l1 : Int32} {l2 : Int32} {σ : vMem} (h : fX7_set_32 l1 l2 σ = some r) (hQ : Q (some (.int r.1)) r.2) : V GC mX7_set ad Q 0 32 [some (.ref (ad 0)), some (.int l1), some (.int l2), none] [] σ := by
  unfold fX7_set_32 at h
  refine V.iload_n dX7_set_32 rfl ?_
  refine V.iconst ic_1 dX7_set_33 ?_
  rcases itc h with ⟨hc, h⟩ | ⟨hc, h⟩
  · refine V.icmp_ne (tgt := 66) dX7_set_34 (by decide) (fun hn => absurd hc hn) (fun _ => ?_)
    refine V.iload_n dX7_set_37 rfl ?_
    refine V.iconst ic_1 dX7_set_38 ?_
    rcases itc h with ⟨hc, h⟩ | ⟨hc, h⟩
    · refine V.icmp_lt (tgt := 66) dX7_set_39 (by decide) (fun _ => ?_) (fun hn => absurd hc hn)
      exact V.forget (vX7_set_66 h hQ) trivial
    · refine V.icmp_lt (tgt := 66) dX7_set_39 (by decide) (fun hn => absurd hn hc) (fun _ => ?_)
      refine V.iload_n dX7_set_42 rfl ?_
      refine V.bipush bp_9 dX7_set_43 ?_
      rcases itc h with ⟨hc, h⟩ | ⟨hc, h⟩
      · refine V.icmp_gt (tgt := 66) dX7_set_45 (by decide) (fun _ => ?_) (fun hn => absurd hc hn)
        exact V.forget (vX7_set_66 h hQ) trivial
      · refine V.icmp_gt (tgt := 66) dX7_set_45 (by decide) (fun hn => absurd hn hc) (fun _ => ?_)
        refine V.aload_n dX7_set_48 rfl ?_
        refine V.get dX7_set_49 flX7_24 nC_0 gC_0 (by decide) (eC_0_2 _ _) ?_
        refine V.get dX7_set_52 flX7_144 nC_5 gC_5 (by decide) (eC_5_12 _ _) ?_
        refine V.istore_n dX7_set_55 (by decide) rfl ?_
        refine V.aload_n dX7_set_56 rfl ?_
        refine V.get dX7_set_57 flX7_24 nC_0 gC_0 (by decide) (eC_0_2 _ _) ?_
        refine V.iload_n dX7_set_60 rfl ?_
        refine V.putI dX7_set_61 fpX7_144 nC_5 gC_5 (by decide) rfl ?_
        exact V.forget (vX7_set_64 h hQ) ⟨rfl, trivial⟩
  · refine V.icmp_ne (tgt := 66) dX7_set_34 (by decide) (fun _ => ?_) (fun hn => absurd hn hc)
    exact V.forget (vX7_set_66 h hQ) trivial
def fX7_set_30 (l3 : Int32) (σ : vMem) : Option (Int32 × vMem) :=
  some (l3, σ)
theorem vX7_set_30 {ad : Nat → Nat} {Q : Option Value → vMem → Prop} {r : (Int32 × vMem)} {l3 : Int32} {σ : vMem} (h : fX7_set_30 l3 σ = some r) (hQ : Q (some (.int r.1)) r.2) : V GC mX7_set ad Q 0 30 [none, none, none, some (.int l3)] [] σ := by
  unfold fX7_set_30 at h
  refine V.iload_n dX7_set_30 rfl ?_
  obtain rfl := Option.some.inj h
  exact V.iret dX7_set_31 rfl hQ
def fX7_set (l1 : Int32) (l2 : Int32) (σ : vMem) : Option (Int32 × vMem) :=
  if l1 = 0 then (if l2 < 0 then (fX7_set_32 l1 l2 σ) else
  (if (9 : Int32) < l2 then (fX7_set_32 l1 l2 σ) else
  (fX7_set_30 (σ.1 5 11) (vup σ 5 11 l2)))) else
  (fX7_set_32 l1 l2 σ)
theorem vX7_set {ad : Nat → Nat} {Q : Option Value → vMem → Prop} {r : (Int32 × vMem)} {l1 : Int32} {l2 : Int32} {σ : vMem} (h : fX7_set l1 l2 σ = some r) (hQ : Q (some (.int r.1)) r.2) : V GC mX7_set ad Q 0 0 [some (.ref (ad 0)), some (.int l1), some (.int l2), none] [] σ := by
  unfold fX7_set at h
  refine V.iload_n dX7_set_0 rfl ?_
  rcases itc h with ⟨hc, h⟩ | ⟨hc, h⟩
  · refine V.if_ne (tgt := 32) dX7_set_1 (by decide) (fun hn => absurd hc hn) (fun _ => ?_)
    refine V.iload_n dX7_set_4 rfl ?_
    rcases itc h with ⟨hc, h⟩ | ⟨hc, h⟩
    · refine V.if_lt (tgt := 32) dX7_set_5 (by decide) (fun _ => ?_) (fun hn => absurd hc hn)
      exact V.forget (vX7_set_32 h hQ) ⟨rfl, ⟨rfl, ⟨rfl, trivial⟩⟩⟩
    · refine V.if_lt (tgt := 32) dX7_set_5 (by decide) (fun hn => absurd hn hc) (fun _ => ?_)
      refine V.iload_n dX7_set_8 rfl ?_
      refine V.bipush bp_9 dX7_set_9 ?_
      rcases itc h with ⟨hc, h⟩ | ⟨hc, h⟩
      · refine V.icmp_gt (tgt := 32) dX7_set_11 (by decide) (fun _ => ?_) (fun hn => absurd hc hn)
        exact V.forget (vX7_set_32 h hQ) ⟨rfl, ⟨rfl, ⟨rfl, trivial⟩⟩⟩
      · refine V.icmp_gt (tgt := 32) dX7_set_11 (by decide) (fun hn => absurd hn hc) (fun _ => ?_)
        refine V.aload_n dX7_set_14 rfl ?_
        refine V.get dX7_set_15 flX7_24 nC_0 gC_0 (by decide) (eC_0_2 _ _) ?_
        refine V.get dX7_set_18 flX7_141 nC_5 gC_5 (by decide) (eC_5_11 _ _) ?_
        refine V.istore_n dX7_set_21 (by decide) rfl ?_
        refine V.aload_n dX7_set_22 rfl ?_
        refine V.get dX7_set_23 flX7_24 nC_0 gC_0 (by decide) (eC_0_2 _ _) ?_
        refine V.iload_n dX7_set_26 rfl ?_
        refine V.putI dX7_set_27 fpX7_141 nC_5 gC_5 (by decide) rfl ?_
        exact V.forget (vX7_set_30 h hQ) ⟨rfl, trivial⟩
  · refine V.if_ne (tgt := 32) dX7_set_1 (by decide) (fun _ => ?_) (fun hn => absurd hn hc)
    exact V.forget (vX7_set_32 h hQ) ⟨rfl, ⟨rfl, ⟨rfl, trivial⟩⟩⟩
