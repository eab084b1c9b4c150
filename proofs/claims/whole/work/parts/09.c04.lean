def fX7_sheet_20 (σ : vMem) : Option (Int32 × vMem) :=
  some ((-2 : Int32), σ)
theorem vX7_sheet_20 {ad : Nat → Nat} {Q : Option Value → vMem → Prop} {r : (Int32 × vMem)} {σ : vMem} (h : fX7_sheet_20 σ = some r) (hQ : Q (some (.int r.1)) r.2) : V GC mX7_sheet ad Q 1 20 [none, none, none, none] [] σ := by
  unfold fX7_sheet_20 at h
  refine V.bipush bp_m2 dX7_sheet_20 ?_
  obtain rfl := Option.some.inj h
  exact V.iret dX7_sheet_22 rfl hQ
def fX7_sheet (l1 : Int32) (l2 : Int32) (l3 : Int32) (σ : vMem) : Option (Int32 × vMem) :=
  (fX7_isSheet l1 σ).bind fun q1 => if q1.1 = 0 then (fX7_sheet_20 q1.2) else
  ((fX7_isForm l2 q1.2).bind fun q2 => if q2.1 = 0 then (fX7_sheet_20 q2.2) else
  (if l3 ≤ (60 : Int32) then (if 0 ≤ l3 then ((fX2_make l1 l2 l3 q2.2).bind fun q3 => some (l3, q3)) else
  ((fX7_found (5 : Int32) q2.2).bind fun q4 => some (q4.1, q4.2))) else
  (fX7_sheet_20 q2.2)))
theorem vX7_sheet {ad : Nat → Nat} {Q : Option Value → vMem → Prop} {r : (Int32 × vMem)} {l1 : Int32} {l2 : Int32} {l3 : Int32} {σ : vMem} (h : fX7_sheet l1 l2 l3 σ = some r) (hQ : Q (some (.int r.1)) r.2) : V GC mX7_sheet ad Q 1 0 [some (.ref (ad 0)), some (.int l1), some (.int l2), some (.int l3)] [] σ := by
  unfold fX7_sheet at h
  refine V.iload_n dX7_sheet_0 rfl ?_
  obtain ⟨q1, h1, h⟩ := bdc h
  refine V.callS1 (mc := mX7_isSheet) (d' := 0) dX7_sheet_1 lkX7_152 hfX7_isSheet (by decide) (Nat.le_of_ble_eq_true rfl) (Nat.le_of_ble_eq_true rfl) (vX7_isSheet h1 ?_)
  rcases itc h with ⟨hc, h⟩ | ⟨hc, h⟩
  · refine V.if_eq (tgt := 20) dX7_sheet_4 (by decide) (fun _ => ?_) (fun hn => absurd hc hn)
    exact V.forget (vX7_sheet_20 h hQ) trivial
  · refine V.if_eq (tgt := 20) dX7_sheet_4 (by decide) (fun hn => absurd hn hc) (fun _ => ?_)
    refine V.iload_n dX7_sheet_7 rfl ?_
    obtain ⟨q2, h1, h⟩ := bdc h
    refine V.callS1 (mc := mX7_isForm) (d' := 0) dX7_sheet_8 lkX7_287 hfX7_isForm (by decide) (Nat.le_of_ble_eq_true rfl) (Nat.le_of_ble_eq_true rfl) (vX7_isForm h1 ?_)
    rcases itc h with ⟨hc, h⟩ | ⟨hc, h⟩
    · refine V.if_eq (tgt := 20) dX7_sheet_11 (by decide) (fun _ => ?_) (fun hn => absurd hc hn)
      exact V.forget (vX7_sheet_20 h hQ) trivial
    · refine V.if_eq (tgt := 20) dX7_sheet_11 (by decide) (fun hn => absurd hn hc) (fun _ => ?_)
      refine V.iload_n dX7_sheet_14 rfl ?_
      refine V.bipush bp_60 dX7_sheet_15 ?_
      rcases itc h with ⟨hc, h⟩ | ⟨hc, h⟩
      · refine V.icmp_le (tgt := 23) dX7_sheet_17 (by decide) (fun _ => ?_) (fun hn => absurd hc hn)
        refine V.iload_n dX7_sheet_23 rfl ?_
        rcases itc h with ⟨hc, h⟩ | ⟨hc, h⟩
        · refine V.if_ge (tgt := 33) dX7_sheet_24 (by decide) (fun _ => ?_) (fun hn => absurd hc hn)
          refine V.aload_n dX7_sheet_33 rfl ?_
          refine V.get dX7_sheet_34 flX7_57 nC_0 gC_0 (by decide) (eC_0_7 _ _) ?_
          refine V.iload_n dX7_sheet_37 rfl ?_
          refine V.iload_n dX7_sheet_38 rfl ?_
          refine V.iload_n dX7_sheet_39 rfl ?_
          obtain ⟨q3, h1, h⟩ := bdc h
          refine V.callV3 (mc := mX2_make) (d' := 0) dX7_sheet_40 lkX7_290 hfX2_make nC_33 gC_33 rfl (by decide) (Nat.le_of_ble_eq_true rfl) (Nat.le_of_ble_eq_true rfl) (vX2_make h1 ?_)
          refine V.iload_n dX7_sheet_43 rfl ?_
          obtain rfl := Option.some.inj h
          exact V.iret dX7_sheet_44 rfl hQ
        · refine V.if_ge (tgt := 33) dX7_sheet_24 (by decide) (fun hn => absurd hn hc) (fun _ => ?_)
          refine V.aload_n dX7_sheet_27 rfl ?_
          refine V.iconst ic_5 dX7_sheet_28 ?_
          obtain ⟨q4, h1, h⟩ := bdc h
          refine V.callV1 (mc := mX7_found) (d' := 0) dX7_sheet_29 lkX7_158 hfX7_found nC_0 gC_0 rfl (by decide) (Nat.le_of_ble_eq_true rfl) (Nat.le_of_ble_eq_true rfl) (vX7_found h1 ?_)
          obtain rfl := Option.some.inj h
          exact V.iret dX7_sheet_32 rfl hQ
      · refine V.icmp_le (tgt := 23) dX7_sheet_17 (by decide) (fun hn => absurd hn hc) (fun _ => ?_)
        exact V.forget (vX7_sheet_20 h hQ) trivial
def fX7_lose_47 (l2 : Int32) (σ : vMem) : Option (Int32 × vMem) :=
  some (l2, σ)
theorem vX7_lose_47 {ad : Nat → Nat} {Q : Option Value → vMem → Prop} {r : (Int32 × vMem)} {l2 : Int32} {σ : vMem} (h : fX7_lose_47 l2 σ = some r) (hQ : Q (some (.int r.1)) r.2) : V GC mX7_lose ad Q 1 47 [none, none, some (.int l2)] [] σ := by
  unfold fX7_lose_47 at h
  refine V.iload_n dX7_lose_47 rfl ?_
  obtain rfl := Option.some.inj h
  exact V.iret dX7_lose_48 rfl hQ
def fX7_lose (l1 : Int32) (σ : vMem) : Option (Int32 × vMem) :=
  (fX7_isSheet l1 σ).bind fun q1 => if q1.1 = 0 then (some ((-2 : Int32), q1.2)) else
  ((fX2_isLost l1 q1.2).bind fun q2 => if q2.1 = 0 then (if l1 < 0 ∨ 4 ≤ l1.toNatClampNeg then none else if l1 < 0 ∨ 4 ≤ l1.toNatClampNeg then none else fX7_lose_47 (q2.2.1 35 l1.toNatClampNeg) (vup q2.2 35 l1.toNatClampNeg (-1 : Int32))) else
  ((fX7_found (1 : Int32) q2.2).bind fun q3 => some (q3.1, q3.2)))
theorem vX7_lose {ad : Nat → Nat} {Q : Option Value → vMem → Prop} {r : (Int32 × vMem)} {l1 : Int32} {σ : vMem} (h : fX7_lose l1 σ = some r) (hQ : Q (some (.int r.1)) r.2) : V GC mX7_lose ad Q 1 0 [some (.ref (ad 0)), some (.int l1), none] [] σ := by
  unfold fX7_lose at h
  refine V.iload_n dX7_lose_0 rfl ?_
  obtain ⟨q1, h1, h⟩ := bdc h
  refine V.callS1 (mc := mX7_isSheet) (d' := 0) dX7_lose_1 lkX7_152 hfX7_isSheet (by decide) (Nat.le_of_ble_eq_true rfl) (Nat.le_of_ble_eq_true rfl) (vX7_isSheet h1 ?_)
  rcases itc h with ⟨hc, h⟩ | ⟨hc, h⟩
  · refine V.if_ne (tgt := 10) dX7_lose_4 (by decide) (fun hn => absurd hc hn) (fun _ => ?_)
    refine V.bipush bp_m2 dX7_lose_7 ?_
    obtain rfl := Option.some.inj h
    exact V.iret dX7_lose_9 rfl hQ
  · refine V.if_ne (tgt := 10) dX7_lose_4 (by decide) (fun _ => ?_) (fun hn => absurd hn hc)
    refine V.aload_n dX7_lose_10 rfl ?_
    refine V.get dX7_lose_11 flX7_57 nC_0 gC_0 (by decide) (eC_0_7 _ _) ?_
    refine V.iload_n dX7_lose_14 rfl ?_
    obtain ⟨q2, h1, h⟩ := bdc h
    refine V.callV1 (mc := mX2_isLost) (d' := 0) dX7_lose_15 lkX7_155 hfX2_isLost nC_33 gC_33 rfl (by decide) (Nat.le_of_ble_eq_true rfl) (Nat.le_of_ble_eq_true rfl) (vX2_isLost h1 ?_)
    rcases itc h with ⟨hc, h⟩ | ⟨hc, h⟩
    · refine V.if_eq (tgt := 27) dX7_lose_18 (by decide) (fun _ => ?_) (fun hn => absurd hc hn)
      refine V.aload_n dX7_lose_27 rfl ?_
      refine V.get dX7_lose_28 flX7_57 nC_0 gC_0 (by decide) (eC_0_7 _ _) ?_
      refine V.get dX7_lose_31 flX7_161 nC_33 gC_33 (by decide) (eC_33_1 _ _) ?_
      refine V.iload_n dX7_lose_34 rfl ?_
      obtain ⟨hb, h⟩ := ckn h
      refine V.iald dX7_lose_35 nC_35 gC_35 hb ?_
      refine V.istore_n dX7_lose_36 (by decide) rfl ?_
      refine V.aload_n dX7_lose_37 rfl ?_
      refine V.get dX7_lose_38 flX7_57 nC_0 gC_0 (by decide) (eC_0_7 _ _) ?_
      refine V.get dX7_lose_41 flX7_161 nC_33 gC_33 (by decide) (eC_33_1 _ _) ?_
      refine V.iload_n dX7_lose_44 rfl ?_
      refine V.iconst ic_m1 dX7_lose_45 ?_
      obtain ⟨hb, h⟩ := ckn h
      refine V.iast dX7_lose_46 nC_35 gC_35 hb ?_
      exact V.forget (vX7_lose_47 h hQ) ⟨rfl, trivial⟩
    · refine V.if_eq (tgt := 27) dX7_lose_18 (by decide) (fun hn => absurd hn hc) (fun _ => ?_)
      refine V.aload_n dX7_lose_21 rfl ?_
      refine V.iconst ic_1 dX7_lose_22 ?_
      obtain ⟨q3, h1, h⟩ := bdc h
      refine V.callV1 (mc := mX7_found) (d' := 0) dX7_lose_23 lkX7_158 hfX7_found nC_0 gC_0 rfl (by decide) (Nat.le_of_ble_eq_true rfl) (Nat.le_of_ble_eq_true rfl) (vX7_found h1 ?_)
      obtain rfl := Option.some.inj h
      exact V.iret dX7_lose_26 rfl hQ
def fX2_hasItems_35 (s0 : Int32) (σ : vMem) : Option (Int32 × vMem) :=
  if ¬ (s0 = 0 ∨ s0 = 1) then none else some (s0, σ)
theorem vX2_hasItems_35 {ad : Nat → Nat} {Q : Option Value → vMem → Prop} {r : (Int32 × vMem)} {s0 : Int32} {σ : vMem} (h : fX2_hasItems_35 s0 σ = some r) (hQ : Q (some (.int r.1)) r.2) : V GC mX2_hasItems ad Q 0 35 [none, none, none, none] [.int s0] σ := by
  unfold fX2_hasItems_35 at h
  obtain ⟨hb, h⟩ := ckn h
  obtain rfl := Option.some.inj h
  exact V.zret dX2_hasItems_35 rfl (Decidable.not_not.mp hb) hQ
def fX2_hasItems_34 (σ : vMem) : Option (Int32 × vMem) :=
  fX2_hasItems_35 (0 : Int32) σ
theorem vX2_hasItems_34 {ad : Nat → Nat} {Q : Option Value → vMem → Prop} {r : (Int32 × vMem)} {σ : vMem} (h : fX2_hasItems_34 σ = some r) (hQ : Q (some (.int r.1)) r.2) : V GC mX2_hasItems ad Q 0 34 [none, none, none, none] [] σ := by
  unfold fX2_hasItems_34 at h
  refine V.iconst ic_0 dX2_hasItems_34 ?_
  exact V.forget (vX2_hasItems_35 h hQ) trivial
def fX2_hasItems (l1 : Int32) (l2 : Int32) (l3 : Int32) (σ : vMem) : Option (Int32 × vMem) :=
  if l2 < 0 then (fX2_hasItems_34 σ) else
  (if l3 < 0 then (fX2_hasItems_34 σ) else
  (if l1 < 0 ∨ 4 ≤ l1.toNatClampNeg then none else if (σ.1 35 l1.toNatClampNeg) < l3 then (fX2_hasItems_34 σ) else
  (if l1 < 0 ∨ 4 ≤ l1.toNatClampNeg then none else if ((σ.1 35 l1.toNatClampNeg) - l3) < l2 then (fX2_hasItems_34 σ) else
  (fX2_hasItems_35 (1 : Int32) σ))))
theorem vX2_hasItems {ad : Nat → Nat} {Q : Option Value → vMem → Prop} {r : (Int32 × vMem)} {l1 : Int32} {l2 : Int32} {l3 : Int32} {σ : vMem} (h : fX2_hasItems l1 l2 l3 σ = some r) (hQ : Q (some (.int r.1)) r.2) : V GC mX2_hasItems ad Q 0 0 [some (.ref (ad 33)), some (.int l1), some (.int l2), some (.int l3)] [] σ := by
  unfold fX2_hasItems at h
  refine V.iload_n dX2_hasItems_0 rfl ?_
  rcases itc h with ⟨hc, h⟩ | ⟨hc, h⟩
  · refine V.if_lt (tgt := 34) dX2_hasItems_1 (by decide) (fun _ => ?_) (fun hn => absurd hc hn)
    exact V.forget (vX2_hasItems_34 h hQ) trivial
  · refine V.if_lt (tgt := 34) dX2_hasItems_1 (by decide) (fun hn => absurd hn hc) (fun _ => ?_)
    refine V.iload_n dX2_hasItems_4 rfl ?_
    rcases itc h with ⟨hc, h⟩ | ⟨hc, h⟩
    · refine V.if_lt (tgt := 34) dX2_hasItems_5 (by decide) (fun _ => ?_) (fun hn => absurd hc hn)
      exact V.forget (vX2_hasItems_34 h hQ) trivial
    · refine V.if_lt (tgt := 34) dX2_hasItems_5 (by decide) (fun hn => absurd hn hc) (fun _ => ?_)
      refine V.iload_n dX2_hasItems_8 rfl ?_
      refine V.aload_n dX2_hasItems_9 rfl ?_
      refine V.get dX2_hasItems_10 flX2_15 nC_33 gC_33 (by decide) (eC_33_1 _ _) ?_
      refine V.iload_n dX2_hasItems_13 rfl ?_
      obtain ⟨hb, h⟩ := ckn h
      refine V.iald dX2_hasItems_14 nC_35 gC_35 hb ?_
      rcases itc h with ⟨hc, h⟩ | ⟨hc, h⟩
      · refine V.icmp_gt (tgt := 34) dX2_hasItems_15 (by decide) (fun _ => ?_) (fun hn => absurd hc hn)
        exact V.forget (vX2_hasItems_34 h hQ) trivial
      · refine V.icmp_gt (tgt := 34) dX2_hasItems_15 (by decide) (fun hn => absurd hn hc) (fun _ => ?_)
        refine V.iload_n dX2_hasItems_18 rfl ?_
        refine V.aload_n dX2_hasItems_19 rfl ?_
        refine V.get dX2_hasItems_20 flX2_15 nC_33 gC_33 (by decide) (eC_33_1 _ _) ?_
        refine V.iload_n dX2_hasItems_23 rfl ?_
        obtain ⟨hb, h⟩ := ckn h
        refine V.iald dX2_hasItems_24 nC_35 gC_35 hb ?_
        refine V.iload_n dX2_hasItems_25 rfl ?_
        refine V.isub dX2_hasItems_26 ?_
        rcases itc h with ⟨hc, h⟩ | ⟨hc, h⟩
        · refine V.icmp_gt (tgt := 34) dX2_hasItems_27 (by decide) (fun _ => ?_) (fun hn => absurd hc hn)
          exact V.forget (vX2_hasItems_34 h hQ) trivial
        · refine V.icmp_gt (tgt := 34) dX2_hasItems_27 (by decide) (fun hn => absurd hn hc) (fun _ => ?_)
          refine V.iconst ic_1 dX2_hasItems_30 ?_
          refine V.goto (tgt := 35) dX2_hasItems_31 (by decide) ?_
          exact V.forget (vX2_hasItems_35 h hQ) trivial
def fX2_wrongWith_37 (s0 : Int32) (σ : vMem) : Option (Int32 × vMem) :=
  some (s0, σ)
theorem vX2_wrongWith_37 {ad : Nat → Nat} {Q : Option Value → vMem → Prop} {r : (Int32 × vMem)} {s0 : Int32} {σ : vMem} (h : fX2_wrongWith_37 s0 σ = some r) (hQ : Q (some (.int r.1)) r.2) : V GC mX2_wrongWith ad Q 1 37 [none, none, none, none] [.int s0] σ := by
  unfold fX2_wrongWith_37 at h
  obtain rfl := Option.some.inj h
  exact V.iret dX2_wrongWith_37 rfl hQ
def fX2_wrongWith (l1 : Int32) (l2 : Int32) (l3 : Int32) (σ : vMem) : Option (Int32 × vMem) :=
  (fX2_isLost l1 σ).bind fun q1 => if q1.1 = 0 then (if l1 < 0 ∨ 4 ≤ l1.toNatClampNeg then none else if (q1.2.1 34 l1.toNatClampNeg) = l2 then ((fX2_hasItems l1 l3 (1 : Int32) q1.2).bind fun q2 => if q2.1 = 0 then (fX2_wrongWith_37 (2 : Int32) q2.2) else
  (fX2_wrongWith_37 (0 : Int32) q2.2)) else
  (some ((3 : Int32), q1.2))) else
  (some ((1 : Int32), q1.2))
theorem vX2_wrongWith {ad : Nat → Nat} {Q : Option Value → vMem → Prop} {r : (Int32 × vMem)} {l1 : Int32} {l2 : Int32} {l3 : Int32} {σ : vMem} (h : fX2_wrongWith l1 l2 l3 σ = some r) (hQ : Q (some (.int r.1)) r.2) : V GC mX2_wrongWith ad Q 1 0 [some (.ref (ad 33)), some (.int l1), some (.int l2), some (.int l3)] [] σ := by
  unfold fX2_wrongWith at h
  refine V.aload_n dX2_wrongWith_0 rfl ?_
  refine V.iload_n dX2_wrongWith_1 rfl ?_
  obtain ⟨q1, h1, h⟩ := bdc h
  refine V.callV1 (mc := mX2_isLost) (d' := 0) dX2_wrongWith_2 lkX2_21 hfX2_isLost nC_33 gC_33 rfl (by decide) (Nat.le_of_ble_eq_true rfl) (Nat.le_of_ble_eq_true rfl) (vX2_isLost h1 ?_)
  rcases itc h with ⟨hc, h⟩ | ⟨hc, h⟩
  · refine V.if_eq (tgt := 10) dX2_wrongWith_5 (by decide) (fun _ => ?_) (fun hn => absurd hc hn)
    refine V.aload_n dX2_wrongWith_10 rfl ?_
    refine V.get dX2_wrongWith_11 flX2_9 nC_33 gC_33 (by decide) (eC_33_0 _ _) ?_
    refine V.iload_n dX2_wrongWith_14 rfl ?_
    obtain ⟨hb, h⟩ := ckn h
    refine V.iald dX2_wrongWith_15 nC_34 gC_34 hb ?_
    refine V.iload_n dX2_wrongWith_16 rfl ?_
    rcases itc h with ⟨hc, h⟩ | ⟨hc, h⟩
    · refine V.icmp_eq (tgt := 22) dX2_wrongWith_17 (by decide) (fun _ => ?_) (fun hn => absurd hc hn)
      refine V.aload_n dX2_wrongWith_22 rfl ?_
      refine V.iload_n dX2_wrongWith_23 rfl ?_
      refine V.iload_n dX2_wrongWith_24 rfl ?_
      refine V.iconst ic_1 dX2_wrongWith_25 ?_
      obtain ⟨q2, h1, h⟩ := bdc h
      refine V.callV3 (mc := mX2_hasItems) (d' := 0) dX2_wrongWith_26 lkX2_25 hfX2_hasItems nC_33 gC_33 rfl (by decide) (Nat.le_of_ble_eq_true rfl) (Nat.le_of_ble_eq_true rfl) (vX2_hasItems h1 ?_)
      rcases itc h with ⟨hc, h⟩ | ⟨hc, h⟩
      · refine V.if_eq (tgt := 36) dX2_wrongWith_29 (by decide) (fun _ => ?_) (fun hn => absurd hc hn)
        refine V.iconst ic_2 dX2_wrongWith_36 ?_
        exact V.forget (vX2_wrongWith_37 h hQ) trivial
      · refine V.if_eq (tgt := 36) dX2_wrongWith_29 (by decide) (fun hn => absurd hn hc) (fun _ => ?_)
        refine V.iconst ic_0 dX2_wrongWith_32 ?_
        refine V.goto (tgt := 37) dX2_wrongWith_33 (by decide) ?_
        exact V.forget (vX2_wrongWith_37 h hQ) trivial
    · refine V.icmp_eq (tgt := 22) dX2_wrongWith_17 (by decide) (fun hn => absurd hn hc) (fun _ => ?_)
      refine V.iconst ic_3 dX2_wrongWith_20 ?_
      obtain rfl := Option.some.inj h
      exact V.iret dX2_wrongWith_21 rfl hQ
  · refine V.if_eq (tgt := 10) dX2_wrongWith_5 (by decide) (fun hn => absurd hn hc) (fun _ => ?_)
    refine V.iconst ic_1 dX2_wrongWith_8 ?_
    obtain rfl := Option.some.inj h
    exact V.iret dX2_wrongWith_9 rfl hQ
def fX2_store_30 (l1 : Int32) (l2 : Int32) (s0 : Int32) (σ : vMem) : Option vMem :=
  if ((l1 * (60 : Int32)) + l2) < 0 ∨ 240 ≤ ((l1 * (60 : Int32)) + l2).toNatClampNeg then none else some (vup σ 36 ((l1 * (60 : Int32)) + l2).toNatClampNeg s0)
theorem vX2_store_30 {ad : Nat → Nat} {Q : Option Value → vMem → Prop} {r : vMem} {l1 : Int32} {l2 : Int32} {s0 : Int32} {σ : vMem} (h : fX2_store_30 l1 l2 s0 σ = some r) (hQ : Q none r) : V GC mX2_store ad Q 0 30 [some (.ref (ad 33)), some (.int l1), some (.int l2), none, none] [.int s0] σ := by
  unfold fX2_store_30 at h
  refine V.istore dX2_store_30 (by decide) rfl ?_
  refine V.aload_n dX2_store_32 rfl ?_
  refine V.get dX2_store_33 flX2_18 nC_33 gC_33 (by decide) (eC_33_2 _ _) ?_
  refine V.iload_n dX2_store_36 rfl ?_
  refine V.bipush bp_60 dX2_store_37 ?_
  refine V.imul dX2_store_39 ?_
  refine V.iload_n dX2_store_40 rfl ?_
  refine V.iadd dX2_store_41 ?_
  refine V.iload dX2_store_42 rfl ?_
  obtain ⟨hb, h⟩ := ckn h
  refine V.iast dX2_store_44 nC_36 gC_36 hb ?_
  obtain rfl := Option.some.inj h
  exact V.vret dX2_store_45 rfl hQ
def fX2_store (l1 : Int32) (l2 : Int32) (l3 : Int32) (σ : vMem) : Option vMem :=
  if l1 < 0 ∨ 4 ≤ l1.toNatClampNeg then none else if (σ.1 34 l1.toNatClampNeg) = 0 then (fX2_store_30 l1 l2 (l3.toInt8.toInt32) σ) else
  (if l1 < 0 ∨ 4 ≤ l1.toNatClampNeg then none else if (σ.1 34 l1.toNatClampNeg) = (1 : Int32) then (fX2_store_30 l1 l2 (l3.toInt16.toInt32) σ) else
  (fX2_store_30 l1 l2 l3 σ))
theorem vX2_store {ad : Nat → Nat} {Q : Option Value → vMem → Prop} {r : vMem} {l1 : Int32} {l2 : Int32} {l3 : Int32} {σ : vMem} (h : fX2_store l1 l2 l3 σ = some r) (hQ : Q none r) : V GC mX2_store ad Q 0 0 [some (.ref (ad 33)), some (.int l1), some (.int l2), some (.int l3), none] [] σ := by
  unfold fX2_store at h
  refine V.aload_n dX2_store_0 rfl ?_
  refine V.get dX2_store_1 flX2_9 nC_33 gC_33 (by decide) (eC_33_0 _ _) ?_
  refine V.iload_n dX2_store_4 rfl ?_
  obtain ⟨hb, h⟩ := ckn h
  refine V.iald dX2_store_5 nC_34 gC_34 hb ?_
  rcases itc h with ⟨hc, h⟩ | ⟨hc, h⟩
  · refine V.if_ne (tgt := 14) dX2_store_6 (by decide) (fun hn => absurd hc hn) (fun _ => ?_)
    refine V.iload_n dX2_store_9 rfl ?_
    refine V.i2b dX2_store_10 ?_
    refine V.goto (tgt := 30) dX2_store_11 (by decide) ?_
    exact V.forget (vX2_store_30 h hQ) ⟨rfl, ⟨rfl, ⟨rfl, trivial⟩⟩⟩
  · refine V.if_ne (tgt := 14) dX2_store_6 (by decide) (fun _ => ?_) (fun hn => absurd hn hc)
    refine V.aload_n dX2_store_14 rfl ?_
    refine V.get dX2_store_15 flX2_9 nC_33 gC_33 (by decide) (eC_33_0 _ _) ?_
    refine V.iload_n dX2_store_18 rfl ?_
    obtain ⟨hb, h⟩ := ckn h
    refine V.iald dX2_store_19 nC_34 gC_34 hb ?_
    refine V.iconst ic_1 dX2_store_20 ?_
    rcases itc h with ⟨hc, h⟩ | ⟨hc, h⟩
    · refine V.icmp_ne (tgt := 29) dX2_store_21 (by decide) (fun hn => absurd hc hn) (fun _ => ?_)
      refine V.iload_n dX2_store_24 rfl ?_
      refine V.i2s dX2_store_25 ?_
      refine V.goto (tgt := 30) dX2_store_26 (by decide) ?_
      exact V.forget (vX2_store_30 h hQ) ⟨rfl, ⟨rfl, ⟨rfl, trivial⟩⟩⟩
    · refine V.icmp_ne (tgt := 29) dX2_store_21 (by decide) (fun _ => ?_) (fun hn => absurd hn hc)
      refine V.iload_n dX2_store_29 rfl ?_
      exact V.forget (vX2_store_30 h hQ) ⟨rfl, ⟨rfl, ⟨rfl, trivial⟩⟩⟩
def fX7_put_14 (σ : vMem) : Option (Int32 × vMem) :=
  some ((-2 : Int32), σ)
theorem vX7_put_14 {ad : Nat → Nat} {Q : Option Value → vMem → Prop} {r : (Int32 × vMem)} {σ : vMem} (h : fX7_put_14 σ = some r) (hQ : Q (some (.int r.1)) r.2) : V GC mX7_put ad Q 2 14 [none, none, none, none, none, none] [] σ := by
  unfold fX7_put_14 at h
  refine V.bipush bp_m2 dX7_put_14 ?_
  obtain rfl := Option.some.inj h
  exact V.iret dX7_put_16 rfl hQ
def fX7_put (l1 : Int32) (l2 : Int32) (l3 : Int32) (l4 : Int32) (σ : vMem) : Option (Int32 × vMem) :=
  (fX7_isSheet l1 σ).bind fun q1 => if q1.1 = 0 then (fX7_put_14 q1.2) else
  ((fX7_isForm l2 q1.2).bind fun q2 => if q2.1 = 0 then (fX7_put_14 q2.2) else
  ((fX2_wrongWith l1 l2 l3 q2.2).bind fun q3 => if q3.1 = 0 then ((fX2_store l1 l3 l4 q3.2).bind fun q4 => some ((1 : Int32), q4)) else
  ((fX7_found q3.1 q3.2).bind fun q5 => some (q5.1, q5.2))))
theorem vX7_put {ad : Nat → Nat} {Q : Option Value → vMem → Prop} {r : (Int32 × vMem)} {l1 : Int32} {l2 : Int32} {l3 : Int32} {l4 : Int32} {σ : vMem} (h : fX7_put l1 l2 l3 l4 σ = some r) (hQ : Q (some (.int r.1)) r.2) : V GC mX7_put ad Q 2 0 [some (.ref (ad 0)), some (.int l1), some (.int l2), some (.int l3), some (.int l4), none] [] σ := by
  unfold fX7_put at h
  refine V.iload_n dX7_put_0 rfl ?_
  obtain ⟨q1, h1, h⟩ := bdc h
  refine V.callS1 (mc := mX7_isSheet) (d' := 0) dX7_put_1 lkX7_152 hfX7_isSheet (by decide) (Nat.le_of_ble_eq_true rfl) (Nat.le_of_ble_eq_true rfl) (vX7_isSheet h1 ?_)
  rcases itc h with ⟨hc, h⟩ | ⟨hc, h⟩
  · refine V.if_eq (tgt := 14) dX7_put_4 (by decide) (fun _ => ?_) (fun hn => absurd hc hn)
    exact V.forget (vX7_put_14 h hQ) trivial
  · refine V.if_eq (tgt := 14) dX7_put_4 (by decide) (fun hn => absurd hn hc) (fun _ => ?_)
    refine V.iload_n dX7_put_7 rfl ?_
    obtain ⟨q2, h1, h⟩ := bdc h
    refine V.callS1 (mc := mX7_isForm) (d' := 0) dX7_put_8 lkX7_287 hfX7_isForm (by decide) (Nat.le_of_ble_eq_true rfl) (Nat.le_of_ble_eq_true rfl) (vX7_isForm h1 ?_)
    rcases itc h with ⟨hc, h⟩ | ⟨hc, h⟩
    · refine V.if_ne (tgt := 17) dX7_put_11 (by decide) (fun hn => absurd hc hn) (fun _ => ?_)
      exact V.forget (vX7_put_14 h hQ) trivial
    · refine V.if_ne (tgt := 17) dX7_put_11 (by decide) (fun _ => ?_) (fun hn => absurd hn hc)
      refine V.aload_n dX7_put_17 rfl ?_
      refine V.get dX7_put_18 flX7_57 nC_0 gC_0 (by decide) (eC_0_7 _ _) ?_
      refine V.iload_n dX7_put_21 rfl ?_
      refine V.iload_n dX7_put_22 rfl ?_
      refine V.iload_n dX7_put_23 rfl ?_
      obtain ⟨q3, h1, h⟩ := bdc h
      refine V.callV3 (mc := mX2_wrongWith) (d' := 1) dX7_put_24 lkX7_293 hfX2_wrongWith nC_33 gC_33 rfl (by decide) (Nat.le_of_ble_eq_true rfl) (Nat.le_of_ble_eq_true rfl) (vX2_wrongWith h1 ?_)
      refine V.istore dX7_put_27 (by decide) rfl ?_
      refine V.iload dX7_put_29 rfl ?_
      rcases itc h with ⟨hc, h⟩ | ⟨hc, h⟩
      · refine V.if_eq (tgt := 41) dX7_put_31 (by decide) (fun _ => ?_) (fun hn => absurd hc hn)
        refine V.aload_n dX7_put_41 rfl ?_
        refine V.get dX7_put_42 flX7_57 nC_0 gC_0 (by decide) (eC_0_7 _ _) ?_
        refine V.iload_n dX7_put_45 rfl ?_
        refine V.iload_n dX7_put_46 rfl ?_
        refine V.iload dX7_put_47 rfl ?_
        obtain ⟨q4, h1, h⟩ := bdc h
        refine V.callV3 (mc := mX2_store) (d' := 0) dX7_put_49 lkX7_297 hfX2_store nC_33 gC_33 rfl (by decide) (Nat.le_of_ble_eq_true rfl) (Nat.le_of_ble_eq_true rfl) (vX2_store h1 ?_)
        refine V.iconst ic_1 dX7_put_52 ?_
        obtain rfl := Option.some.inj h
        exact V.iret dX7_put_53 rfl hQ
      · refine V.if_eq (tgt := 41) dX7_put_31 (by decide) (fun hn => absurd hn hc) (fun _ => ?_)
        refine V.aload_n dX7_put_34 rfl ?_
        refine V.iload dX7_put_35 rfl ?_
        obtain ⟨q5, h1, h⟩ := bdc h
        refine V.callV1 (mc := mX7_found) (d' := 0) dX7_put_37 lkX7_158 hfX7_found nC_0 gC_0 rfl (by decide) (Nat.le_of_ble_eq_true rfl) (Nat.le_of_ble_eq_true rfl) (vX7_found h1 ?_)
        obtain rfl := Option.some.inj h
        exact V.iret dX7_put_40 rfl hQ
def fX7_get_14 (σ : vMem) : Option (Int32 × vMem) :=
  some ((-2147483648 : Int32), σ)
theorem vX7_get_14 {ad : Nat → Nat} {Q : Option Value → vMem → Prop} {r : (Int32 × vMem)} {σ : vMem} (h : fX7_get_14 σ = some r) (hQ : Q (some (.int r.1)) r.2) : V GC mX7_get ad Q 2 14 [none, none, none, none, none] [] σ := by
  unfold fX7_get_14 at h
  refine V.ldcw dX7_get_14 ctX7_300 ?_
  obtain rfl := Option.some.inj h
  exact V.iret dX7_get_17 rfl hQ
def fX7_get (l1 : Int32) (l2 : Int32) (l3 : Int32) (σ : vMem) : Option (Int32 × vMem) :=
  (fX7_isSheet l1 σ).bind fun q1 => if q1.1 = 0 then (fX7_get_14 q1.2) else
  ((fX7_isForm l2 q1.2).bind fun q2 => if q2.1 = 0 then (fX7_get_14 q2.2) else
  ((fX2_wrongWith l1 l2 l3 q2.2).bind fun q3 => if q3.1 = 0 then ((fX2_item l1 l3 q3.2).bind fun q4 => some (q4.1, q4.2)) else
  ((fX7_found q3.1 q3.2).bind fun q5 => some ((-2147483648 : Int32), q5.2))))
theorem vX7_get {ad : Nat → Nat} {Q : Option Value → vMem → Prop} {r : (Int32 × vMem)} {l1 : Int32} {l2 : Int32} {l3 : Int32} {σ : vMem} (h : fX7_get l1 l2 l3 σ = some r) (hQ : Q (some (.int r.1)) r.2) : V GC mX7_get ad Q 2 0 [some (.ref (ad 0)), some (.int l1), some (.int l2), some (.int l3), none] [] σ := by
  unfold fX7_get at h
  refine V.iload_n dX7_get_0 rfl ?_
  obtain ⟨q1, h1, h⟩ := bdc h
  refine V.callS1 (mc := mX7_isSheet) (d' := 0) dX7_get_1 lkX7_152 hfX7_isSheet (by decide) (Nat.le_of_ble_eq_true rfl) (Nat.le_of_ble_eq_true rfl) (vX7_isSheet h1 ?_)
  rcases itc h with ⟨hc, h⟩ | ⟨hc, h⟩
  · refine V.if_eq (tgt := 14) dX7_get_4 (by decide) (fun _ => ?_) (fun hn => absurd hc hn)
    exact V.forget (vX7_get_14 h hQ) trivial
  · refine V.if_eq (tgt := 14) dX7_get_4 (by decide) (fun hn => absurd hn hc) (fun _ => ?_)
    refine V.iload_n dX7_get_7 rfl ?_
    obtain ⟨q2, h1, h⟩ := bdc h
    refine V.callS1 (mc := mX7_isForm) (d' := 0) dX7_get_8 lkX7_287 hfX7_isForm (by decide) (Nat.le_of_ble_eq_true rfl) (Nat.le_of_ble_eq_true rfl) (vX7_isForm h1 ?_)
    rcases itc h with ⟨hc, h⟩ | ⟨hc, h⟩
    · refine V.if_ne (tgt := 18) dX7_get_11 (by decide) (fun hn => absurd hc hn) (fun _ => ?_)
      exact V.forget (vX7_get_14 h hQ) trivial
    · refine V.if_ne (tgt := 18) dX7_get_11 (by decide) (fun _ => ?_) (fun hn => absurd hn hc)
      refine V.aload_n dX7_get_18 rfl ?_
      refine V.get dX7_get_19 flX7_57 nC_0 gC_0 (by decide) (eC_0_7 _ _) ?_
      refine V.iload_n dX7_get_22 rfl ?_
      refine V.iload_n dX7_get_23 rfl ?_
      refine V.iload_n dX7_get_24 rfl ?_
      obtain ⟨q3, h1, h⟩ := bdc h
      refine V.callV3 (mc := mX2_wrongWith) (d' := 1) dX7_get_25 lkX7_293 hfX2_wrongWith nC_33 gC_33 rfl (by decide) (Nat.le_of_ble_eq_true rfl) (Nat.le_of_ble_eq_true rfl) (vX2_wrongWith h1 ?_)
      refine V.istore dX7_get_28 (by decide) rfl ?_
      refine V.iload dX7_get_30 rfl ?_
      rcases itc h with ⟨hc, h⟩ | ⟨hc, h⟩
      · refine V.if_eq (tgt := 46) dX7_get_32 (by decide) (fun _ => ?_) (fun hn => absurd hc hn)
        refine V.aload_n dX7_get_46 rfl ?_
        refine V.get dX7_get_47 flX7_57 nC_0 gC_0 (by decide) (eC_0_7 _ _) ?_
        refine V.iload_n dX7_get_50 rfl ?_
        refine V.iload_n dX7_get_51 rfl ?_
        obtain ⟨q4, h1, h⟩ := bdc h
        refine V.callV2 (mc := mX2_item) (d' := 0) dX7_get_52 lkX7_163 hfX2_item nC_33 gC_33 rfl (by decide) (Nat.le_of_ble_eq_true rfl) (Nat.le_of_ble_eq_true rfl) (vX2_item h1 ?_)
        obtain rfl := Option.some.inj h
        exact V.iret dX7_get_55 rfl hQ
      · refine V.if_eq (tgt := 46) dX7_get_32 (by decide) (fun hn => absurd hn hc) (fun _ => ?_)
        refine V.aload_n dX7_get_35 rfl ?_
        refine V.iload dX7_get_36 rfl ?_
        obtain ⟨q5, h1, h⟩ := bdc h
        refine V.callV1 (mc := mX7_found) (d' := 0) dX7_get_38 lkX7_158 hfX7_found nC_0 gC_0 rfl (by decide) (Nat.le_of_ble_eq_true rfl) (Nat.le_of_ble_eq_true rfl) (vX7_found h1 ?_)
        refine V.pop rfl dX7_get_41 ?_
        refine V.ldcw dX7_get_42 ctX7_300 ?_
        obtain rfl := Option.some.inj h
        exact V.iret dX7_get_45 rfl hQ
def fX7_copy_14 (σ : vMem) : Option (Int32 × vMem) :=
  some ((-2 : Int32), σ)
theorem vX7_copy_14 {ad : Nat → Nat} {Q : Option Value → vMem → Prop} {r : (Int32 × vMem)} {σ : vMem} (h : fX7_copy_14 σ = some r) (hQ : Q (some (.int r.1)) r.2) : V GC mX7_copy ad Q 2 14 [none, none, none, none, none, none] [] σ := by
  unfold fX7_copy_14 at h
  refine V.bipush bp_m2 dX7_copy_14 ?_
  obtain rfl := Option.some.inj h
  exact V.iret dX7_copy_16 rfl hQ
def fX7_copy_39 (σ : vMem) : Option (Int32 × vMem) :=
  (fX7_found (1 : Int32) σ).bind fun q1 => some (q1.1, q1.2)
theorem vX7_copy_39 {ad : Nat → Nat} {Q : Option Value → vMem → Prop} {r : (Int32 × vMem)} {σ : vMem} (h : fX7_copy_39 σ = some r) (hQ : Q (some (.int r.1)) r.2) : V GC mX7_copy ad Q 2 39 [some (.ref (ad 0)), none, none, none, none, none] [] σ := by
  unfold fX7_copy_39 at h
  refine V.aload_n dX7_copy_39 rfl ?_
  refine V.iconst ic_1 dX7_copy_40 ?_
  obtain ⟨q1, h1, h⟩ := bdc h
  refine V.callV1 (mc := mX7_found) (d' := 0) dX7_copy_41 lkX7_158 hfX7_found nC_0 gC_0 rfl (by decide) (Nat.le_of_ble_eq_true rfl) (Nat.le_of_ble_eq_true rfl) (vX7_found h1 ?_)
  obtain rfl := Option.some.inj h
  exact V.iret dX7_copy_44 rfl hQ
def fX7_copy_101 (σ : vMem) : Option (Int32 × vMem) :=
  (fX7_found (2 : Int32) σ).bind fun q1 => some (q1.1, q1.2)
theorem vX7_copy_101 {ad : Nat → Nat} {Q : Option Value → vMem → Prop} {r : (Int32 × vMem)} {σ : vMem} (h : fX7_copy_101 σ = some r) (hQ : Q (some (.int r.1)) r.2) : V GC mX7_copy ad Q 2 101 [some (.ref (ad 0)), none, none, none, none, none] [] σ := by
  unfold fX7_copy_101 at h
  refine V.aload_n dX7_copy_101 rfl ?_
  refine V.iconst ic_2 dX7_copy_102 ?_
  obtain ⟨q1, h1, h⟩ := bdc h
  refine V.callV1 (mc := mX7_found) (d' := 0) dX7_copy_103 lkX7_158 hfX7_found nC_0 gC_0 rfl (by decide) (Nat.le_of_ble_eq_true rfl) (Nat.le_of_ble_eq_true rfl) (vX7_found h1 ?_)
  obtain rfl := Option.some.inj h
  exact V.iret dX7_copy_106 rfl hQ
def fX7_copy_139 (σ : vMem) : Option (Int32 × vMem) :=
  some ((1 : Int32), σ)
theorem vX7_copy_139 {ad : Nat → Nat} {Q : Option Value → vMem → Prop} {r : (Int32 × vMem)} {σ : vMem} (h : fX7_copy_139 σ = some r) (hQ : Q (some (.int r.1)) r.2) : V GC mX7_copy ad Q 2 139 [none, none, none, none, none, none] [] σ := by
  unfold fX7_copy_139 at h
  refine V.iconst ic_1 dX7_copy_139 ?_
  obtain rfl := Option.some.inj h
  exact V.iret dX7_copy_140 rfl hQ
def fX7_copy (l1 : Int32) (l2 : Int32) (l3 : Int32) (l4 : Int32) (l5 : Int32) (σ : vMem) : Option (Int32 × vMem) :=
  (fX7_isSheet l1 σ).bind fun q1 => if q1.1 = 0 then (fX7_copy_14 q1.2) else
  ((fX7_isSheet l3 q1.2).bind fun q2 => if q2.1 = 0 then (fX7_copy_14 q2.2) else
  ((fX2_isLost l1 q2.2).bind fun q3 => if q3.1 = 0 then ((fX2_isLost l3 q3.2).bind fun q4 => if q4.1 = 0 then (if l1 < 0 ∨ 4 ≤ l1.toNatClampNeg then none else if l3 < 0 ∨ 4 ≤ l3.toNatClampNeg then none else if (q4.2.1 34 l1.toNatClampNeg) = (q4.2.1 34 l3.toNatClampNeg) then ((fX2_hasItems l1 l2 l5 q4.2).bind fun q5 => if q5.1 = 0 then (fX7_copy_101 q5.2) else
  ((fX2_hasItems l3 l4 l5 q5.2).bind fun q6 => if q6.1 = 0 then (fX7_copy_101 q6.2) else
  (if ((l1 * (60 : Int32)) + l2) < 0 ∨ ((l3 * (60 : Int32)) + l4) < 0 ∨ l5 < 0 ∨ 240 < ((l1 * (60 : Int32)) + l2).toNatClampNeg + l5.toNatClampNeg ∨ 240 < ((l3 * (60 : Int32)) + l4).toNatClampNeg + l5.toNatClampNeg then none else fX7_copy_139 (vcp q6.2 36 36 ((l1 * (60 : Int32)) + l2).toNatClampNeg ((l3 * (60 : Int32)) + l4).toNatClampNeg l5.toNatClampNeg)))) else
  ((fX7_found (4 : Int32) q4.2).bind fun q7 => some (q7.1, q7.2))) else
  (fX7_copy_39 q4.2)) else
  (fX7_copy_39 q3.2)))
theorem vX7_copy {ad : Nat → Nat} {Q : Option Value → vMem → Prop} {r : (Int32 × vMem)} {l1 : Int32} {l2 : Int32} {l3 : Int32} {l4 : Int32} {l5 : Int32} {σ : vMem} (h : fX7_copy l1 l2 l3 l4 l5 σ = some r) (hQ : Q (some (.int r.1)) r.2) : V GC mX7_copy ad Q 2 0 [some (.ref (ad 0)), some (.int l1), some (.int l2), some (.int l3), some (.int l4), some (.int l5)] [] σ := by
  unfold fX7_copy at h
  refine V.iload_n dX7_copy_0 rfl ?_
  obtain ⟨q1, h1, h⟩ := bdc h
  refine V.callS1 (mc := mX7_isSheet) (d' := 0) dX7_copy_1 lkX7_152 hfX7_isSheet (by decide) (Nat.le_of_ble_eq_true rfl) (Nat.le_of_ble_eq_true rfl) (vX7_isSheet h1 ?_)
  rcases itc h with ⟨hc, h⟩ | ⟨hc, h⟩
  · refine V.if_eq (tgt := 14) dX7_copy_4 (by decide) (fun _ => ?_) (fun hn => absurd hc hn)
    exact V.forget (vX7_copy_14 h hQ) trivial
  · refine V.if_eq (tgt := 14) dX7_copy_4 (by decide) (fun hn => absurd hn hc) (fun _ => ?_)
    refine V.iload_n dX7_copy_7 rfl ?_
    obtain ⟨q2, h1, h⟩ := bdc h
    refine V.callS1 (mc := mX7_isSheet) (d' := 0) dX7_copy_8 lkX7_152 hfX7_isSheet (by decide) (Nat.le_of_ble_eq_true rfl) (Nat.le_of_ble_eq_true rfl) (vX7_isSheet h1 ?_)
    rcases itc h with ⟨hc, h⟩ | ⟨hc, h⟩
    · refine V.if_ne (tgt := 17) dX7_copy_11 (by decide) (fun hn => absurd hc hn) (fun _ => ?_)
      exact V.forget (vX7_copy_14 h hQ) trivial
    · refine V.if_ne (tgt := 17) dX7_copy_11 (by decide) (fun _ => ?_) (fun hn => absurd hn hc)
      refine V.aload_n dX7_copy_17 rfl ?_
      refine V.get dX7_copy_18 flX7_57 nC_0 gC_0 (by decide) (eC_0_7 _ _) ?_
      refine V.iload_n dX7_copy_21 rfl ?_
      obtain ⟨q3, h1, h⟩ := bdc h
      refine V.callV1 (mc := mX2_isLost) (d' := 0) dX7_copy_22 lkX7_155 hfX2_isLost nC_33 gC_33 rfl (by decide) (Nat.le_of_ble_eq_true rfl) (Nat.le_of_ble_eq_true rfl) (vX2_isLost h1 ?_)
      rcases itc h with ⟨hc, h⟩ | ⟨hc, h⟩
      · refine V.if_ne (tgt := 39) dX7_copy_25 (by decide) (fun hn => absurd hc hn) (fun _ => ?_)
        refine V.aload_n dX7_copy_28 rfl ?_
        refine V.get dX7_copy_29 flX7_57 nC_0 gC_0 (by decide) (eC_0_7 _ _) ?_
        refine V.iload_n dX7_copy_32 rfl ?_
        obtain ⟨q4, h1, h⟩ := bdc h
        refine V.callV1 (mc := mX2_isLost) (d' := 0) dX7_copy_33 lkX7_155 hfX2_isLost nC_33 gC_33 rfl (by decide) (Nat.le_of_ble_eq_true rfl) (Nat.le_of_ble_eq_true rfl) (vX2_isLost h1 ?_)
        rcases itc h with ⟨hc, h⟩ | ⟨hc, h⟩
        · refine V.if_eq (tgt := 45) dX7_copy_36 (by decide) (fun _ => ?_) (fun hn => absurd hc hn)
          refine V.aload_n dX7_copy_45 rfl ?_
          refine V.get dX7_copy_46 flX7_57 nC_0 gC_0 (by decide) (eC_0_7 _ _) ?_
          refine V.get dX7_copy_49 flX7_301 nC_33 gC_33 (by decide) (eC_33_0 _ _) ?_
          refine V.iload_n dX7_copy_52 rfl ?_
          obtain ⟨hb, h⟩ := ckn h
          refine V.iald dX7_copy_53 nC_34 gC_34 hb ?_
          refine V.aload_n dX7_copy_54 rfl ?_
          refine V.get dX7_copy_55 flX7_57 nC_0 gC_0 (by decide) (eC_0_7 _ _) ?_
          refine V.get dX7_copy_58 flX7_301 nC_33 gC_33 (by decide) (eC_33_0 _ _) ?_
          refine V.iload_n dX7_copy_61 rfl ?_
          obtain ⟨hb, h⟩ := ckn h
          refine V.iald dX7_copy_62 nC_34 gC_34 hb ?_
          rcases itc h with ⟨hc, h⟩ | ⟨hc, h⟩
          · refine V.icmp_eq (tgt := 72) dX7_copy_63 (by decide) (fun _ => ?_) (fun hn => absurd hc hn)
            refine V.aload_n dX7_copy_72 rfl ?_
            refine V.get dX7_copy_73 flX7_57 nC_0 gC_0 (by decide) (eC_0_7 _ _) ?_
            refine V.iload_n dX7_copy_76 rfl ?_
            refine V.iload_n dX7_copy_77 rfl ?_
            refine V.iload dX7_copy_78 rfl ?_
            obtain ⟨q5, h1, h⟩ := bdc h
            refine V.callV3 (mc := mX2_hasItems) (d' := 0) dX7_copy_80 lkX7_304 hfX2_hasItems nC_33 gC_33 rfl (by decide) (Nat.le_of_ble_eq_true rfl) (Nat.le_of_ble_eq_true rfl) (vX2_hasItems h1 ?_)
            rcases itc h with ⟨hc, h⟩ | ⟨hc, h⟩
            · refine V.if_eq (tgt := 101) dX7_copy_83 (by decide) (fun _ => ?_) (fun hn => absurd hc hn)
              exact V.forget (vX7_copy_101 h hQ) ⟨rfl, trivial⟩
            · refine V.if_eq (tgt := 101) dX7_copy_83 (by decide) (fun hn => absurd hn hc) (fun _ => ?_)
              refine V.aload_n dX7_copy_86 rfl ?_
              refine V.get dX7_copy_87 flX7_57 nC_0 gC_0 (by decide) (eC_0_7 _ _) ?_
              refine V.iload_n dX7_copy_90 rfl ?_
              refine V.iload dX7_copy_91 rfl ?_
              refine V.iload dX7_copy_93 rfl ?_
              obtain ⟨q6, h1, h⟩ := bdc h
              refine V.callV3 (mc := mX2_hasItems) (d' := 0) dX7_copy_95 lkX7_304 hfX2_hasItems nC_33 gC_33 rfl (by decide) (Nat.le_of_ble_eq_true rfl) (Nat.le_of_ble_eq_true rfl) (vX2_hasItems h1 ?_)
              rcases itc h with ⟨hc, h⟩ | ⟨hc, h⟩
              · refine V.if_ne (tgt := 107) dX7_copy_98 (by decide) (fun hn => absurd hc hn) (fun _ => ?_)
                exact V.forget (vX7_copy_101 h hQ) ⟨rfl, trivial⟩
              · refine V.if_ne (tgt := 107) dX7_copy_98 (by decide) (fun _ => ?_) (fun hn => absurd hn hc)
                refine V.aload_n dX7_copy_107 rfl ?_
                refine V.get dX7_copy_108 flX7_57 nC_0 gC_0 (by decide) (eC_0_7 _ _) ?_
                refine V.get dX7_copy_111 flX7_307 nC_33 gC_33 (by decide) (eC_33_2 _ _) ?_
                refine V.iload_n dX7_copy_114 rfl ?_
                refine V.bipush bp_60 dX7_copy_115 ?_
                refine V.imul dX7_copy_117 ?_
                refine V.iload_n dX7_copy_118 rfl ?_
                refine V.iadd dX7_copy_119 ?_
                refine V.aload_n dX7_copy_120 rfl ?_
                refine V.get dX7_copy_121 flX7_57 nC_0 gC_0 (by decide) (eC_0_7 _ _) ?_
                refine V.get dX7_copy_124 flX7_307 nC_33 gC_33 (by decide) (eC_33_2 _ _) ?_
                refine V.iload_n dX7_copy_127 rfl ?_
                refine V.bipush bp_60 dX7_copy_128 ?_
                refine V.imul dX7_copy_130 ?_
                refine V.iload dX7_copy_131 rfl ?_
                refine V.iadd dX7_copy_133 ?_
                refine V.iload dX7_copy_134 rfl ?_
                obtain ⟨hb, h⟩ := ckn h
                obtain ⟨hb1, hb2, hb3, hb4, hb5⟩ := ck5 hb
                refine V.copy dX7_copy_136 lkacX7_310 ac_nat ac_sta ac_ini nC_36 gC_36 nC_36 gC_36 hb1 hb2 hb3 hb4 hb5 (by decide) (Nat.le_of_ble_eq_true rfl) ?_
                exact V.forget (vX7_copy_139 h hQ) trivial
          · refine V.icmp_eq (tgt := 72) dX7_copy_63 (by decide) (fun hn => absurd hn hc) (fun _ => ?_)
            refine V.aload_n dX7_copy_66 rfl ?_
            refine V.iconst ic_4 dX7_copy_67 ?_
            obtain ⟨q7, h1, h⟩ := bdc h
            refine V.callV1 (mc := mX7_found) (d' := 0) dX7_copy_68 lkX7_158 hfX7_found nC_0 gC_0 rfl (by decide) (Nat.le_of_ble_eq_true rfl) (Nat.le_of_ble_eq_true rfl) (vX7_found h1 ?_)
            obtain rfl := Option.some.inj h
            exact V.iret dX7_copy_71 rfl hQ
        · refine V.if_eq (tgt := 45) dX7_copy_36 (by decide) (fun hn => absurd hn hc) (fun _ => ?_)
          exact V.forget (vX7_copy_39 h hQ) ⟨rfl, trivial⟩
      · refine V.if_ne (tgt := 39) dX7_copy_25 (by decide) (fun _ => ?_) (fun hn => absurd hn hc)
        exact V.forget (vX7_copy_39 h hQ) ⟨rfl, trivial⟩
def fX7_write_15 (σ : vMem) : Option (Int32 × vMem) :=
  some ((-2 : Int32), σ)
theorem vX7_write_15 {ad : Nat → Nat} {Q : Option Value → vMem → Prop} {r : (Int32 × vMem)} {σ : vMem} (h : fX7_write_15 σ = some r) (hQ : Q (some (.int r.1)) r.2) : V GC mX7_write ad Q 5 15 [none, none, none, none, none] [] σ := by
  unfold fX7_write_15 at h
  refine V.bipush bp_m2 dX7_write_15 ?_
  obtain rfl := Option.some.inj h
  exact V.iret dX7_write_17 rfl hQ
def fX7_write_63 (K63 : Int32 → Int32 → Int32 → Int32 → vMem → Option (Int32 × vMem)) (l1 : Int32) (l2 : Int32) (l3 : Int32) (l4 : Int32) (σ : vMem) : Option (Int32 × vMem) :=
  if l3 ≤ l4 then (some (l3, σ)) else
  ((fX6_letter l1 l4 σ).bind fun q1 => (fX2_store l2 l4 q1.1 q1.2).bind fun q2 => K63 l1 l2 l3 (l4 + (1 : Int32)) q2)
theorem vX7_write_63 {ad : Nat → Nat} {Q : Option Value → vMem → Prop} {r : (Int32 × vMem)} {K63 : Int32 → Int32 → Int32 → Int32 → vMem → Option (Int32 × vMem)} (hK63 : ∀ (l1 : Int32) (l2 : Int32) (l3 : Int32) (l4 : Int32) (σ : vMem), K63 l1 l2 l3 l4 σ = some r → V GC mX7_write ad Q 5 63 [some (.ref (ad 0)), some (.int l1), some (.int l2), some (.int l3), some (.int l4)] [] σ) {l1 : Int32} {l2 : Int32} {l3 : Int32} {l4 : Int32} {σ : vMem} (h : fX7_write_63 K63 l1 l2 l3 l4 σ = some r) (hQ : Q (some (.int r.1)) r.2) : V GC mX7_write ad Q 5 63 [some (.ref (ad 0)), some (.int l1), some (.int l2), some (.int l3), some (.int l4)] [] σ := by
  unfold fX7_write_63 at h
  refine V.iload dX7_write_63 rfl ?_
  refine V.iload_n dX7_write_65 rfl ?_
  rcases itc h with ⟨hc, h⟩ | ⟨hc, h⟩
  · refine V.icmp_ge (tgt := 95) dX7_write_66 (by decide) (fun _ => ?_) (fun hn => absurd hc hn)
    refine V.iload_n dX7_write_95 rfl ?_
    obtain rfl := Option.some.inj h
    exact V.iret dX7_write_96 rfl hQ
  · refine V.icmp_ge (tgt := 95) dX7_write_66 (by decide) (fun hn => absurd hn hc) (fun _ => ?_)
    refine V.aload_n dX7_write_69 rfl ?_
    refine V.get dX7_write_70 flX7_57 nC_0 gC_0 (by decide) (eC_0_7 _ _) ?_
    refine V.iload_n dX7_write_73 rfl ?_
    refine V.iload dX7_write_74 rfl ?_
    refine V.aload_n dX7_write_76 rfl ?_
    refine V.get dX7_write_77 flX7_33 nC_0 gC_0 (by decide) (eC_0_3 _ _) ?_
    refine V.iload_n dX7_write_80 rfl ?_
    refine V.iload dX7_write_81 rfl ?_
    obtain ⟨q1, h1, h⟩ := bdc h
    refine V.callV2 (mc := mX6_letter) (d' := 1) dX7_write_83 lkX7_189 hfX6_letter nC_13 gC_13 rfl (by decide) (Nat.le_of_ble_eq_true rfl) (Nat.le_of_ble_eq_true rfl) (vX6_letter h1 ?_)
    obtain ⟨q2, h1, h⟩ := bdc h
    refine V.callV3 (mc := mX2_store) (d' := 0) dX7_write_86 lkX7_297 hfX2_store nC_33 gC_33 rfl (by decide) (Nat.le_of_ble_eq_true rfl) (Nat.le_of_ble_eq_true rfl) (vX2_store h1 ?_)
    refine V.iinc dX7_write_89 rfl (ii_1 _) (by decide) rfl ?_
    refine V.goto (tgt := 63) dX7_write_92 (by decide) ?_
    exact V.forget (hK63 _ _ _ _ _ h) ⟨rfl, ⟨rfl, ⟨rfl, ⟨rfl, ⟨rfl, trivial⟩⟩⟩⟩⟩
def LfX7_write_63 : Nat → Int32 → Int32 → Int32 → Int32 → vMem → Option (Int32 × vMem)
  | 0, _, _, _, _, _ => none
  | n + 1, l1, l2, l3, l4, σ => fX7_write_63 (LfX7_write_63 n) l1 l2 l3 l4 σ
theorem LvX7_write_63 {ad : Nat → Nat} {Q : Option Value → vMem → Prop} {r : (Int32 × vMem)} (hQ : Q (some (.int r.1)) r.2) : ∀ (n : Nat) (l1 : Int32) (l2 : Int32) (l3 : Int32) (l4 : Int32) (σ : vMem), LfX7_write_63 n l1 l2 l3 l4 σ = some r → V GC mX7_write ad Q 5 63 [some (.ref (ad 0)), some (.int l1), some (.int l2), some (.int l3), some (.int l4)] [] σ := by
  intro n
  induction n with
  | zero => intro l1 l2 l3 l4 σ h; cases h
  | succ n ih => intro l1 l2 l3 l4 σ h; exact vX7_write_63 ih h hQ
def fX7_write (l1 : Int32) (l2 : Int32) (σ : vMem) : Option (Int32 × vMem) :=
  (fX7_isBasket l1 σ).bind fun q1 => if q1.1 = 0 then (fX7_write_15 q1.2) else
  ((fX7_isSheet l2 q1.2).bind fun q2 => if q2.1 = 0 then (fX7_write_15 q2.2) else
  ((fX2_isLost l2 q2.2).bind fun q3 => if q3.1 = 0 then ((fX7_goAsTold q3.2).bind fun q4 => if l2 < 0 ∨ 4 ≤ l2.toNatClampNeg then none else (fX6_letters l1 q4).bind fun q5 => LfX7_write_63 200 l1 l2 (if q5.1 < (q4.1 35 l2.toNatClampNeg) then q5.1 else (q4.1 35 l2.toNatClampNeg)) (0 : Int32) q5.2) else
  ((fX7_found (1 : Int32) q3.2).bind fun q6 => some (q6.1, q6.2))))
theorem vX7_write {ad : Nat → Nat} {Q : Option Value → vMem → Prop} {r : (Int32 × vMem)} {l1 : Int32} {l2 : Int32} {σ : vMem} (h : fX7_write l1 l2 σ = some r) (hQ : Q (some (.int r.1)) r.2) : V GC mX7_write ad Q 5 0 [some (.ref (ad 0)), some (.int l1), some (.int l2), none, none] [] σ := by
  unfold fX7_write at h
  refine V.aload_n dX7_write_0 rfl ?_
  refine V.iload_n dX7_write_1 rfl ?_
  obtain ⟨q1, h1, h⟩ := bdc h
  refine V.callV1 (mc := mX7_isBasket) (d' := 0) dX7_write_2 lkX7_125 hfX7_isBasket nC_0 gC_0 rfl (by decide) (Nat.le_of_ble_eq_true rfl) (Nat.le_of_ble_eq_true rfl) (vX7_isBasket h1 ?_)
  rcases itc h with ⟨hc, h⟩ | ⟨hc, h⟩
  · refine V.if_eq (tgt := 15) dX7_write_5 (by decide) (fun _ => ?_) (fun hn => absurd hc hn)
    exact V.forget (vX7_write_15 h hQ) trivial
  · refine V.if_eq (tgt := 15) dX7_write_5 (by decide) (fun hn => absurd hn hc) (fun _ => ?_)
    refine V.iload_n dX7_write_8 rfl ?_
    obtain ⟨q2, h1, h⟩ := bdc h
    refine V.callS1 (mc := mX7_isSheet) (d' := 0) dX7_write_9 lkX7_152 hfX7_isSheet (by decide) (Nat.le_of_ble_eq_true rfl) (Nat.le_of_ble_eq_true rfl) (vX7_isSheet h1 ?_)
    rcases itc h with ⟨hc, h⟩ | ⟨hc, h⟩
    · refine V.if_ne (tgt := 18) dX7_write_12 (by decide) (fun hn => absurd hc hn) (fun _ => ?_)
      exact V.forget (vX7_write_15 h hQ) trivial
    · refine V.if_ne (tgt := 18) dX7_write_12 (by decide) (fun _ => ?_) (fun hn => absurd hn hc)
      refine V.aload_n dX7_write_18 rfl ?_
      refine V.get dX7_write_19 flX7_57 nC_0 gC_0 (by decide) (eC_0_7 _ _) ?_
      refine V.iload_n dX7_write_22 rfl ?_
      obtain ⟨q3, h1, h⟩ := bdc h
      refine V.callV1 (mc := mX2_isLost) (d' := 0) dX7_write_23 lkX7_155 hfX2_isLost nC_33 gC_33 rfl (by decide) (Nat.le_of_ble_eq_true rfl) (Nat.le_of_ble_eq_true rfl) (vX2_isLost h1 ?_)
      rcases itc h with ⟨hc, h⟩ | ⟨hc, h⟩
      · refine V.if_eq (tgt := 35) dX7_write_26 (by decide) (fun _ => ?_) (fun hn => absurd hc hn)
        refine V.aload_n dX7_write_35 rfl ?_
        obtain ⟨q4, h1, h⟩ := bdc h
        refine V.callV0 (mc := mX7_goAsTold) (d' := 4) dX7_write_36 lkX7_186 hfX7_goAsTold nC_0 gC_0 rfl (by decide) (Nat.le_of_ble_eq_true rfl) (Nat.le_of_ble_eq_true rfl) (vX7_goAsTold h1 ?_)
        refine V.aload_n dX7_write_39 rfl ?_
        refine V.get dX7_write_40 flX7_57 nC_0 gC_0 (by decide) (eC_0_7 _ _) ?_
        refine V.get dX7_write_43 flX7_161 nC_33 gC_33 (by decide) (eC_33_1 _ _) ?_
        refine V.iload_n dX7_write_46 rfl ?_
        obtain ⟨hb, h⟩ := ckn h
        refine V.iald dX7_write_47 nC_35 gC_35 hb ?_
        refine V.aload_n dX7_write_48 rfl ?_
        refine V.get dX7_write_49 flX7_33 nC_0 gC_0 (by decide) (eC_0_3 _ _) ?_
        refine V.iload_n dX7_write_52 rfl ?_
        obtain ⟨q5, h1, h⟩ := bdc h
        refine V.callV1 (mc := mX6_letters) (d' := 0) dX7_write_53 lkX7_181 hfX6_letters nC_13 gC_13 rfl (by decide) (Nat.le_of_ble_eq_true rfl) (Nat.le_of_ble_eq_true rfl) (vX6_letters h1 ?_)
        refine V.mmin dX7_write_56 lkX7_316 ma_min_s ma_ini ma_min_c (by decide) (Nat.le_of_ble_eq_true rfl) ?_
        refine V.istore_n dX7_write_59 (by decide) rfl ?_
        refine V.iconst ic_0 dX7_write_60 ?_
        refine V.istore dX7_write_61 (by decide) rfl ?_
        exact V.forget (LvX7_write_63 hQ 200 _ _ _ _ _ h) ⟨rfl, ⟨rfl, ⟨rfl, ⟨rfl, ⟨rfl, trivial⟩⟩⟩⟩⟩
      · refine V.if_eq (tgt := 35) dX7_write_26 (by decide) (fun hn => absurd hn hc) (fun _ => ?_)
        refine V.aload_n dX7_write_29 rfl ?_
        refine V.iconst ic_1 dX7_write_30 ?_
        obtain ⟨q6, h1, h⟩ := bdc h
        refine V.callV1 (mc := mX7_found) (d' := 0) dX7_write_31 lkX7_158 hfX7_found nC_0 gC_0 rfl (by decide) (Nat.le_of_ble_eq_true rfl) (Nat.le_of_ble_eq_true rfl) (vX7_found h1 ?_)
        obtain rfl := Option.some.inj h
        exact V.iret dX7_write_34 rfl hQ
def fX7_count (l1 : Int32) (σ : vMem) : Option (Int32 × vMem) :=
  if l1 = 0 then (some ((σ.1 5 0), σ)) else
  (if l1 = 1 then (some ((σ.1 5 5), σ)) else
  (if l1 = 2 then (some ((σ.1 1 1), σ)) else
  (if l1 = 3 then (some ((σ.1 3 1), σ)) else
  (if l1 = 4 then (some ((σ.1 25 1), σ)) else
  (if l1 = 5 then (some ((σ.1 27 1), σ)) else
  (if l1 = 6 then ((fX7_goAsTold σ).bind fun q1 => some ((q1.1 13 15), q1)) else
  (if l1 = 7 then (some ((σ.1 29 3), σ)) else
  (if l1 = 8 then (some ((σ.1 0 14), σ)) else
  (some ((-2 : Int32), σ))))))))))
theorem vX7_count {ad : Nat → Nat} {Q : Option Value → vMem → Prop} {r : (Int32 × vMem)} {l1 : Int32} {σ : vMem} (h : fX7_count l1 σ = some r) (hQ : Q (some (.int r.1)) r.2) : V GC mX7_count ad Q 5 0 [some (.ref (ad 0)), some (.int l1)] [] σ := by
  unfold fX7_count at h
  refine V.iload_n dX7_count_0 rfl ?_
  rcases itc h with ⟨hc, h⟩ | ⟨hs0, h⟩
  · refine V.tableIn (off := 51) (tgt := 52) dX7_count_1 (by rw [hc]; decide) (by rw [hc]; decide) (by rw [hc]; rfl) (by decide) ?_
    refine V.aload_n dX7_count_52 rfl ?_
    refine V.get dX7_count_53 flX7_24 nC_0 gC_0 (by decide) (eC_0_2 _ _) ?_
    refine V.get dX7_count_56 flX7_217 nC_5 gC_5 (by decide) (eC_5_0 _ _) ?_
    obtain rfl := Option.some.inj h
    exact V.iret dX7_count_59 rfl hQ
  · rcases itc h with ⟨hc, h⟩ | ⟨hs1, h⟩
    · refine V.tableIn (off := 59) (tgt := 60) dX7_count_1 (by rw [hc]; decide) (by rw [hc]; decide) (by rw [hc]; rfl) (by decide) ?_
      refine V.aload_n dX7_count_60 rfl ?_
      refine V.get dX7_count_61 flX7_24 nC_0 gC_0 (by decide) (eC_0_2 _ _) ?_
      refine V.get dX7_count_64 flX7_268 nC_5 gC_5 (by decide) (eC_5_5 _ _) ?_
      obtain rfl := Option.some.inj h
      exact V.iret dX7_count_67 rfl hQ
    · rcases itc h with ⟨hc, h⟩ | ⟨hs2, h⟩
      · refine V.tableIn (off := 67) (tgt := 68) dX7_count_1 (by rw [hc]; decide) (by rw [hc]; decide) (by rw [hc]; rfl) (by decide) ?_
        refine V.aload_n dX7_count_68 rfl ?_
        refine V.get dX7_count_69 flX7_14 nC_0 gC_0 (by decide) (eC_0_0 _ _) ?_
        refine V.get dX7_count_72 flX7_104 nC_1 gC_1 (by decide) (eC_1_1 _ _) ?_
        obtain rfl := Option.some.inj h
        exact V.iret dX7_count_75 rfl hQ
      · rcases itc h with ⟨hc, h⟩ | ⟨hs3, h⟩
        · refine V.tableIn (off := 75) (tgt := 76) dX7_count_1 (by rw [hc]; decide) (by rw [hc]; decide) (by rw [hc]; rfl) (by decide) ?_
          refine V.aload_n dX7_count_76 rfl ?_
          refine V.get dX7_count_77 flX7_18 nC_0 gC_0 (by decide) (eC_0_1 _ _) ?_
          refine V.get dX7_count_80 flX7_104 nC_3 gC_3 (by decide) (eC_3_1 _ _) ?_
          obtain rfl := Option.some.inj h
          exact V.iret dX7_count_83 rfl hQ
        · rcases itc h with ⟨hc, h⟩ | ⟨hs4, h⟩
          · refine V.tableIn (off := 83) (tgt := 84) dX7_count_1 (by rw [hc]; decide) (by rw [hc]; decide) (by rw [hc]; rfl) (by decide) ?_
            refine V.aload_n dX7_count_84 rfl ?_
            refine V.get dX7_count_85 flX7_40 nC_0 gC_0 (by decide) (eC_0_4 _ _) ?_
            refine V.get dX7_count_88 flX7_151 nC_25 gC_25 (by decide) (eC_25_1 _ _) ?_
            obtain rfl := Option.some.inj h
            exact V.iret dX7_count_91 rfl hQ
          · rcases itc h with ⟨hc, h⟩ | ⟨hs5, h⟩
            · refine V.tableIn (off := 91) (tgt := 92) dX7_count_1 (by rw [hc]; decide) (by rw [hc]; decide) (by rw [hc]; rfl) (by decide) ?_
              refine V.aload_n dX7_count_92 rfl ?_
              refine V.get dX7_count_93 flX7_44 nC_0 gC_0 (by decide) (eC_0_5 _ _) ?_
              refine V.get dX7_count_96 flX7_151 nC_27 gC_27 (by decide) (eC_27_1 _ _) ?_
              obtain rfl := Option.some.inj h
              exact V.iret dX7_count_99 rfl hQ
            · rcases itc h with ⟨hc, h⟩ | ⟨hs6, h⟩
              · refine V.tableIn (off := 99) (tgt := 100) dX7_count_1 (by rw [hc]; decide) (by rw [hc]; decide) (by rw [hc]; rfl) (by decide) ?_
                refine V.aload_n dX7_count_100 rfl ?_
                obtain ⟨q1, h1, h⟩ := bdc h
                refine V.callV0 (mc := mX7_goAsTold) (d' := 4) dX7_count_101 lkX7_186 hfX7_goAsTold nC_0 gC_0 rfl (by decide) (Nat.le_of_ble_eq_true rfl) (Nat.le_of_ble_eq_true rfl) (vX7_goAsTold h1 ?_)
                refine V.aload_n dX7_count_104 rfl ?_
                refine V.get dX7_count_105 flX7_33 nC_0 gC_0 (by decide) (eC_0_3 _ _) ?_
                refine V.get dX7_count_108 flX7_284 nC_13 gC_13 (by decide) (eC_13_15 _ _) ?_
                obtain rfl := Option.some.inj h
                exact V.iret dX7_count_111 rfl hQ
              · rcases itc h with ⟨hc, h⟩ | ⟨hs7, h⟩
                · refine V.tableIn (off := 111) (tgt := 112) dX7_count_1 (by rw [hc]; decide) (by rw [hc]; decide) (by rw [hc]; rfl) (by decide) ?_
                  refine V.aload_n dX7_count_112 rfl ?_
                  refine V.get dX7_count_113 flX7_50 nC_0 gC_0 (by decide) (eC_0_6 _ _) ?_
                  refine V.get dX7_count_116 flX7_253 nC_29 gC_29 (by decide) (eC_29_3 _ _) ?_
                  obtain rfl := Option.some.inj h
                  exact V.iret dX7_count_119 rfl hQ
                · rcases itc h with ⟨hc, h⟩ | ⟨hs8, h⟩
                  · refine V.tableIn (off := 119) (tgt := 120) dX7_count_1 (by rw [hc]; decide) (by rw [hc]; decide) (by rw [hc]; rfl) (by decide) ?_
                    refine V.aload_n dX7_count_120 rfl ?_
                    refine V.get dX7_count_121 flX7_86 nC_0 gC_0 (by decide) (eC_0_14 _ _) ?_
                    obtain rfl := Option.some.inj h
                    exact V.iret dX7_count_124 rfl hQ
                  · refine V.tableOut (tgt := 125) dX7_count_1 (by have hs0t : ¬ l1.toInt = 0 := lv_neT hs0 rfl; have hs1t : ¬ l1.toInt = 1 := lv_neT hs1 rfl; have hs2t : ¬ l1.toInt = 2 := lv_neT hs2 rfl; have hs3t : ¬ l1.toInt = 3 := lv_neT hs3 rfl; have hs4t : ¬ l1.toInt = 4 := lv_neT hs4 rfl; have hs5t : ¬ l1.toInt = 5 := lv_neT hs5 rfl; have hs6t : ¬ l1.toInt = 6 := lv_neT hs6 rfl; have hs7t : ¬ l1.toInt = 7 := lv_neT hs7 rfl; have hs8t : ¬ l1.toInt = 8 := lv_neT hs8 rfl; omega) (by decide) ?_
                    refine V.bipush bp_m2 dX7_count_125 ?_
                    obtain rfl := Option.some.inj h
                    exact V.iret dX7_count_127 rfl hQ
def fX7_mixed (l0 : Int64) (l2 : Int64) (σ : vMem) : Option (Int64 × vMem) :=
  some ((((31 : Int64) * l0) + l2), σ)
theorem vX7_mixed {ad : Nat → Nat} {Q : Option Value → vMem → Prop} {r : (Int64 × vMem)} {l0 : Int64} {l2 : Int64} {σ : vMem} (h : fX7_mixed l0 l2 σ = some r) (hQ : Q (some (.long r.1)) r.2) : V GC mX7_mixed ad Q 0 0 [some (.long l0), none, some (.long l2), none] [] σ := by
  unfold fX7_mixed at h
  refine V.ldc2 dX7_mixed_0 ctX7_388 ?_
  refine V.lload_n dX7_mixed_3 rfl ?_
  refine V.lmul dX7_mixed_4 ?_
  refine V.lload_n dX7_mixed_5 rfl ?_
  refine V.ladd dX7_mixed_6 ?_
  obtain rfl := Option.some.inj h
  exact V.lret dX7_mixed_7 rfl hQ
def fX7_mixedHour_3 (K3 : Int64 → Int32 → Int32 → Int32 → vMem → Option (Int64 × vMem)) (l1 : Int64) (l3 : Int32) (l4 : Int32) (l5 : Int32) (σ : vMem) : Option (Int64 × vMem) :=
  if (3 : Int32) < l5 then (some (l1, σ)) else
  ((fX7_at l4 l3 l5 σ).bind fun q1 => (fX7_mixed l1 (q1.1.toInt64) q1.2).bind fun q2 => K3 q2.1 l3 l4 (l5 + (1 : Int32)) q2.2)
theorem vX7_mixedHour_3 {ad : Nat → Nat} {Q : Option Value → vMem → Prop} {r : (Int64 × vMem)} {K3 : Int64 → Int32 → Int32 → Int32 → vMem → Option (Int64 × vMem)} (hK3 : ∀ (l1 : Int64) (l3 : Int32) (l4 : Int32) (l5 : Int32) (σ : vMem), K3 l1 l3 l4 l5 σ = some r → V GC mX7_mixedHour ad Q 5 3 [some (.ref (ad 0)), some (.long l1), none, some (.int l3), some (.int l4), some (.int l5)] [] σ) {l1 : Int64} {l3 : Int32} {l4 : Int32} {l5 : Int32} {σ : vMem} (h : fX7_mixedHour_3 K3 l1 l3 l4 l5 σ = some r) (hQ : Q (some (.long r.1)) r.2) : V GC mX7_mixedHour ad Q 5 3 [some (.ref (ad 0)), some (.long l1), none, some (.int l3), some (.int l4), some (.int l5)] [] σ := by
  unfold fX7_mixedHour_3 at h
  refine V.iload dX7_mixedHour_3 rfl ?_
  refine V.iconst ic_3 dX7_mixedHour_5 ?_
  rcases itc h with ⟨hc, h⟩ | ⟨hc, h⟩
  · refine V.icmp_gt (tgt := 30) dX7_mixedHour_6 (by decide) (fun _ => ?_) (fun hn => absurd hc hn)
    refine V.lload_n dX7_mixedHour_30 rfl ?_
    obtain rfl := Option.some.inj h
    exact V.lret dX7_mixedHour_31 rfl hQ
  · refine V.icmp_gt (tgt := 30) dX7_mixedHour_6 (by decide) (fun hn => absurd hn hc) (fun _ => ?_)
    refine V.lload_n dX7_mixedHour_9 rfl ?_
    refine V.aload_n dX7_mixedHour_10 rfl ?_
    refine V.iload dX7_mixedHour_11 rfl ?_
    refine V.iload_n dX7_mixedHour_13 rfl ?_
    refine V.iload dX7_mixedHour_14 rfl ?_
    obtain ⟨q1, h1, h⟩ := bdc h
    refine V.callV3 (mc := mX7_at) (d' := 4) dX7_mixedHour_16 lkX7_413 hfX7_at nC_0 gC_0 rfl (by decide) (Nat.le_of_ble_eq_true rfl) (Nat.le_of_ble_eq_true rfl) (vX7_at h1 ?_)
    refine V.i2l dX7_mixedHour_19 ?_
    obtain ⟨q2, h1, h⟩ := bdc h
    refine V.callS2 (mc := mX7_mixed) (d' := 0) dX7_mixedHour_20 lkX7_326 hfX7_mixed (by decide) (Nat.le_of_ble_eq_true rfl) (Nat.le_of_ble_eq_true rfl) (vX7_mixed h1 ?_)
    refine V.lstore_n dX7_mixedHour_23 (by decide) rfl ?_
    refine V.iinc dX7_mixedHour_24 rfl (ii_1 _) (by decide) rfl ?_
    refine V.goto (tgt := 3) dX7_mixedHour_27 (by decide) ?_
    exact V.forget (hK3 _ _ _ _ _ h) ⟨rfl, ⟨rfl, ⟨rfl, ⟨rfl, ⟨rfl, trivial⟩⟩⟩⟩⟩
def LfX7_mixedHour_3 : Nat → Int64 → Int32 → Int32 → Int32 → vMem → Option (Int64 × vMem)
  | 0, _, _, _, _, _ => none
  | n + 1, l1, l3, l4, l5, σ => fX7_mixedHour_3 (LfX7_mixedHour_3 n) l1 l3 l4 l5 σ
theorem LvX7_mixedHour_3 {ad : Nat → Nat} {Q : Option Value → vMem → Prop} {r : (Int64 × vMem)} (hQ : Q (some (.long r.1)) r.2) : ∀ (n : Nat) (l1 : Int64) (l3 : Int32) (l4 : Int32) (l5 : Int32) (σ : vMem), LfX7_mixedHour_3 n l1 l3 l4 l5 σ = some r → V GC mX7_mixedHour ad Q 5 3 [some (.ref (ad 0)), some (.long l1), none, some (.int l3), some (.int l4), some (.int l5)] [] σ := by
  intro n
  induction n with
  | zero => intro l1 l3 l4 l5 σ h; cases h
  | succ n ih => intro l1 l3 l4 l5 σ h; exact vX7_mixedHour_3 ih h hQ
def fX7_mixedHour (l1 : Int64) (l3 : Int32) (l4 : Int32) (σ : vMem) : Option (Int64 × vMem) :=
  LfX7_mixedHour_3 200 l1 l3 l4 (0 : Int32) σ
theorem vX7_mixedHour {ad : Nat → Nat} {Q : Option Value → vMem → Prop} {r : (Int64 × vMem)} {l1 : Int64} {l3 : Int32} {l4 : Int32} {σ : vMem} (h : fX7_mixedHour l1 l3 l4 σ = some r) (hQ : Q (some (.long r.1)) r.2) : V GC mX7_mixedHour ad Q 5 0 [some (.ref (ad 0)), some (.long l1), none, some (.int l3), some (.int l4), none] [] σ := by
  unfold fX7_mixedHour at h
  refine V.iconst ic_0 dX7_mixedHour_0 ?_
  refine V.istore dX7_mixedHour_1 (by decide) rfl ?_
  exact V.forget (LvX7_mixedHour_3 hQ 200 _ _ _ _ _ h) ⟨rfl, ⟨rfl, ⟨rfl, ⟨rfl, ⟨rfl, trivial⟩⟩⟩⟩⟩
def fX7_mixedWay_76 (K76 : Int64 → Int32 → Int32 → vMem → Option (Int64 × vMem)) (l1 : Int64) (l3 : Int32) (l4 : Int32) (σ : vMem) : Option (Int64 × vMem) :=
  if (3 : Int32) < l4 then (some (l1, σ)) else
  ((fX7_note l3 l4 σ).bind fun q1 => (fX7_mixed l1 (q1.1.toInt64) q1.2).bind fun q2 => K76 q2.1 l3 (l4 + (1 : Int32)) q2.2)
theorem vX7_mixedWay_76 {ad : Nat → Nat} {Q : Option Value → vMem → Prop} {r : (Int64 × vMem)} {K76 : Int64 → Int32 → Int32 → vMem → Option (Int64 × vMem)} (hK76 : ∀ (l1 : Int64) (l3 : Int32) (l4 : Int32) (σ : vMem), K76 l1 l3 l4 σ = some r → V GC mX7_mixedWay ad Q 6 76 [some (.ref (ad 0)), some (.long l1), none, some (.int l3), some (.int l4)] [] σ) {l1 : Int64} {l3 : Int32} {l4 : Int32} {σ : vMem} (h : fX7_mixedWay_76 K76 l1 l3 l4 σ = some r) (hQ : Q (some (.long r.1)) r.2) : V GC mX7_mixedWay ad Q 6 76 [some (.ref (ad 0)), some (.long l1), none, some (.int l3), some (.int l4)] [] σ := by
  unfold fX7_mixedWay_76 at h
  refine V.iload dX7_mixedWay_76 rfl ?_
  refine V.iconst ic_3 dX7_mixedWay_78 ?_
  rcases itc h with ⟨hc, h⟩ | ⟨hc, h⟩
  · refine V.icmp_gt (tgt := 101) dX7_mixedWay_79 (by decide) (fun _ => ?_) (fun hn => absurd hc hn)
    refine V.lload_n dX7_mixedWay_101 rfl ?_
    obtain rfl := Option.some.inj h
    exact V.lret dX7_mixedWay_102 rfl hQ
  · refine V.icmp_gt (tgt := 101) dX7_mixedWay_79 (by decide) (fun hn => absurd hn hc) (fun _ => ?_)
    refine V.lload_n dX7_mixedWay_82 rfl ?_
    refine V.aload_n dX7_mixedWay_83 rfl ?_
    refine V.iload_n dX7_mixedWay_84 rfl ?_
    refine V.iload dX7_mixedWay_85 rfl ?_
    obtain ⟨q1, h1, h⟩ := bdc h
    refine V.callV2 (mc := mX7_note) (d' := 5) dX7_mixedWay_87 lkX7_410 hfX7_note nC_0 gC_0 rfl (by decide) (Nat.le_of_ble_eq_true rfl) (Nat.le_of_ble_eq_true rfl) (vX7_note h1 ?_)
    refine V.i2l dX7_mixedWay_90 ?_
    obtain ⟨q2, h1, h⟩ := bdc h
    refine V.callS2 (mc := mX7_mixed) (d' := 0) dX7_mixedWay_91 lkX7_326 hfX7_mixed (by decide) (Nat.le_of_ble_eq_true rfl) (Nat.le_of_ble_eq_true rfl) (vX7_mixed h1 ?_)
    refine V.lstore_n dX7_mixedWay_94 (by decide) rfl ?_
    refine V.iinc dX7_mixedWay_95 rfl (ii_1 _) (by decide) rfl ?_
    refine V.goto (tgt := 76) dX7_mixedWay_98 (by decide) ?_
    exact V.forget (hK76 _ _ _ _ h) ⟨rfl, ⟨rfl, ⟨rfl, ⟨rfl, trivial⟩⟩⟩⟩
def LfX7_mixedWay_76 : Nat → Int64 → Int32 → Int32 → vMem → Option (Int64 × vMem)
  | 0, _, _, _, _ => none
  | n + 1, l1, l3, l4, σ => fX7_mixedWay_76 (LfX7_mixedWay_76 n) l1 l3 l4 σ
theorem LvX7_mixedWay_76 {ad : Nat → Nat} {Q : Option Value → vMem → Prop} {r : (Int64 × vMem)} (hQ : Q (some (.long r.1)) r.2) : ∀ (n : Nat) (l1 : Int64) (l3 : Int32) (l4 : Int32) (σ : vMem), LfX7_mixedWay_76 n l1 l3 l4 σ = some r → V GC mX7_mixedWay ad Q 6 76 [some (.ref (ad 0)), some (.long l1), none, some (.int l3), some (.int l4)] [] σ := by
  intro n
  induction n with
  | zero => intro l1 l3 l4 σ h; cases h
  | succ n ih => intro l1 l3 l4 σ h; exact vX7_mixedWay_76 ih h hQ
def fX7_mixedWay_3 (K3 : Int64 → Int32 → Int32 → vMem → Option (Int64 × vMem)) (l1 : Int64) (l3 : Int32) (l4 : Int32) (σ : vMem) : Option (Int64 × vMem) :=
  if (5 : Int32) < l4 then ((fX7_mixedHour l1 l3 (0 : Int32) σ).bind fun q1 => (fX7_mixedHour q1.1 l3 (5 : Int32) q1.2).bind fun q2 => (fX7_mixedHour q2.1 l3 (12 : Int32) q2.2).bind fun q3 => (fX7_mixedHour q3.1 l3 (39 : Int32) q3.2).bind fun q4 => (fX7_comes l3 q4.2).bind fun q5 => (fX7_mixed q4.1 (q5.1.toInt64) q5.2).bind fun q6 => LfX7_mixedWay_76 200 q6.1 l3 (0 : Int32) q6.2) else
  ((fX7_basket l3 l4 σ).bind fun q7 => (fX7_mixed l1 (q7.1.toInt64) q7.2).bind fun q8 => K3 q8.1 l3 (l4 + (1 : Int32)) q8.2)
theorem vX7_mixedWay_3 {ad : Nat → Nat} {Q : Option Value → vMem → Prop} {r : (Int64 × vMem)} {K3 : Int64 → Int32 → Int32 → vMem → Option (Int64 × vMem)} (hK3 : ∀ (l1 : Int64) (l3 : Int32) (l4 : Int32) (σ : vMem), K3 l1 l3 l4 σ = some r → V GC mX7_mixedWay ad Q 6 3 [some (.ref (ad 0)), some (.long l1), none, some (.int l3), some (.int l4)] [] σ) {l1 : Int64} {l3 : Int32} {l4 : Int32} {σ : vMem} (h : fX7_mixedWay_3 K3 l1 l3 l4 σ = some r) (hQ : Q (some (.long r.1)) r.2) : V GC mX7_mixedWay ad Q 6 3 [some (.ref (ad 0)), some (.long l1), none, some (.int l3), some (.int l4)] [] σ := by
  unfold fX7_mixedWay_3 at h
  refine V.iload dX7_mixedWay_3 rfl ?_
  refine V.iconst ic_5 dX7_mixedWay_5 ?_
  rcases itc h with ⟨hc, h⟩ | ⟨hc, h⟩
  · refine V.icmp_gt (tgt := 28) dX7_mixedWay_6 (by decide) (fun _ => ?_) (fun hn => absurd hc hn)
    refine V.aload_n dX7_mixedWay_28 rfl ?_
    refine V.lload_n dX7_mixedWay_29 rfl ?_
    refine V.iload_n dX7_mixedWay_30 rfl ?_
    refine V.iconst ic_0 dX7_mixedWay_31 ?_
    obtain ⟨q1, h1, h⟩ := bdc h
    refine V.callV3 (mc := mX7_mixedHour) (d' := 5) dX7_mixedWay_32 lkX7_403 hfX7_mixedHour nC_0 gC_0 rfl (by decide) (Nat.le_of_ble_eq_true rfl) (Nat.le_of_ble_eq_true rfl) (vX7_mixedHour h1 ?_)
    refine V.lstore_n dX7_mixedWay_35 (by decide) rfl ?_
    refine V.aload_n dX7_mixedWay_36 rfl ?_
    refine V.lload_n dX7_mixedWay_37 rfl ?_
    refine V.iload_n dX7_mixedWay_38 rfl ?_
    refine V.iconst ic_5 dX7_mixedWay_39 ?_
    obtain ⟨q2, h1, h⟩ := bdc h
    refine V.callV3 (mc := mX7_mixedHour) (d' := 5) dX7_mixedWay_40 lkX7_403 hfX7_mixedHour nC_0 gC_0 rfl (by decide) (Nat.le_of_ble_eq_true rfl) (Nat.le_of_ble_eq_true rfl) (vX7_mixedHour h1 ?_)
    refine V.lstore_n dX7_mixedWay_43 (by decide) rfl ?_
    refine V.aload_n dX7_mixedWay_44 rfl ?_
    refine V.lload_n dX7_mixedWay_45 rfl ?_
    refine V.iload_n dX7_mixedWay_46 rfl ?_
    refine V.bipush bp_12 dX7_mixedWay_47 ?_
    obtain ⟨q3, h1, h⟩ := bdc h
    refine V.callV3 (mc := mX7_mixedHour) (d' := 5) dX7_mixedWay_49 lkX7_403 hfX7_mixedHour nC_0 gC_0 rfl (by decide) (Nat.le_of_ble_eq_true rfl) (Nat.le_of_ble_eq_true rfl) (vX7_mixedHour h1 ?_)
    refine V.lstore_n dX7_mixedWay_52 (by decide) rfl ?_
    refine V.aload_n dX7_mixedWay_53 rfl ?_
    refine V.lload_n dX7_mixedWay_54 rfl ?_
    refine V.iload_n dX7_mixedWay_55 rfl ?_
    refine V.bipush bp_39 dX7_mixedWay_56 ?_
    obtain ⟨q4, h1, h⟩ := bdc h
    refine V.callV3 (mc := mX7_mixedHour) (d' := 5) dX7_mixedWay_58 lkX7_403 hfX7_mixedHour nC_0 gC_0 rfl (by decide) (Nat.le_of_ble_eq_true rfl) (Nat.le_of_ble_eq_true rfl) (vX7_mixedHour h1 ?_)
    refine V.lstore_n dX7_mixedWay_61 (by decide) rfl ?_
    refine V.lload_n dX7_mixedWay_62 rfl ?_
    refine V.aload_n dX7_mixedWay_63 rfl ?_
    refine V.iload_n dX7_mixedWay_64 rfl ?_
    obtain ⟨q5, h1, h⟩ := bdc h
    refine V.callV1 (mc := mX7_comes) (d' := 5) dX7_mixedWay_65 lkX7_407 hfX7_comes nC_0 gC_0 rfl (by decide) (Nat.le_of_ble_eq_true rfl) (Nat.le_of_ble_eq_true rfl) (vX7_comes h1 ?_)
    refine V.i2l dX7_mixedWay_68 ?_
    obtain ⟨q6, h1, h⟩ := bdc h
    refine V.callS2 (mc := mX7_mixed) (d' := 0) dX7_mixedWay_69 lkX7_326 hfX7_mixed (by decide) (Nat.le_of_ble_eq_true rfl) (Nat.le_of_ble_eq_true rfl) (vX7_mixed h1 ?_)
    refine V.lstore_n dX7_mixedWay_72 (by decide) rfl ?_
    refine V.iconst ic_0 dX7_mixedWay_73 ?_
    refine V.istore dX7_mixedWay_74 (by decide) rfl ?_
    exact V.forget (LvX7_mixedWay_76 hQ 200 _ _ _ _ h) ⟨rfl, ⟨rfl, ⟨rfl, ⟨rfl, trivial⟩⟩⟩⟩
  · refine V.icmp_gt (tgt := 28) dX7_mixedWay_6 (by decide) (fun hn => absurd hn hc) (fun _ => ?_)
    refine V.lload_n dX7_mixedWay_9 rfl ?_
    refine V.aload_n dX7_mixedWay_10 rfl ?_
    refine V.iload_n dX7_mixedWay_11 rfl ?_
    refine V.iload dX7_mixedWay_12 rfl ?_
    obtain ⟨q7, h1, h⟩ := bdc h
    refine V.callV2 (mc := mX7_basket) (d' := 1) dX7_mixedWay_14 lkX7_400 hfX7_basket nC_0 gC_0 rfl (by decide) (Nat.le_of_ble_eq_true rfl) (Nat.le_of_ble_eq_true rfl) (vX7_basket h1 ?_)
    refine V.i2l dX7_mixedWay_17 ?_
    obtain ⟨q8, h1, h⟩ := bdc h
    refine V.callS2 (mc := mX7_mixed) (d' := 0) dX7_mixedWay_18 lkX7_326 hfX7_mixed (by decide) (Nat.le_of_ble_eq_true rfl) (Nat.le_of_ble_eq_true rfl) (vX7_mixed h1 ?_)
    refine V.lstore_n dX7_mixedWay_21 (by decide) rfl ?_
    refine V.iinc dX7_mixedWay_22 rfl (ii_1 _) (by decide) rfl ?_
    refine V.goto (tgt := 3) dX7_mixedWay_25 (by decide) ?_
    exact V.forget (hK3 _ _ _ _ h) ⟨rfl, ⟨rfl, ⟨rfl, ⟨rfl, trivial⟩⟩⟩⟩
def LfX7_mixedWay_3 : Nat → Int64 → Int32 → Int32 → vMem → Option (Int64 × vMem)
  | 0, _, _, _, _ => none
  | n + 1, l1, l3, l4, σ => fX7_mixedWay_3 (LfX7_mixedWay_3 n) l1 l3 l4 σ
theorem LvX7_mixedWay_3 {ad : Nat → Nat} {Q : Option Value → vMem → Prop} {r : (Int64 × vMem)} (hQ : Q (some (.long r.1)) r.2) : ∀ (n : Nat) (l1 : Int64) (l3 : Int32) (l4 : Int32) (σ : vMem), LfX7_mixedWay_3 n l1 l3 l4 σ = some r → V GC mX7_mixedWay ad Q 6 3 [some (.ref (ad 0)), some (.long l1), none, some (.int l3), some (.int l4)] [] σ := by
  intro n
  induction n with
  | zero => intro l1 l3 l4 σ h; cases h
  | succ n ih => intro l1 l3 l4 σ h; exact vX7_mixedWay_3 ih h hQ
def fX7_mixedWay (l1 : Int64) (l3 : Int32) (σ : vMem) : Option (Int64 × vMem) :=
  LfX7_mixedWay_3 200 l1 l3 (0 : Int32) σ
theorem vX7_mixedWay {ad : Nat → Nat} {Q : Option Value → vMem → Prop} {r : (Int64 × vMem)} {l1 : Int64} {l3 : Int32} {σ : vMem} (h : fX7_mixedWay l1 l3 σ = some r) (hQ : Q (some (.long r.1)) r.2) : V GC mX7_mixedWay ad Q 6 0 [some (.ref (ad 0)), some (.long l1), none, some (.int l3), none] [] σ := by
  unfold fX7_mixedWay at h
  refine V.iconst ic_0 dX7_mixedWay_0 ?_
  refine V.istore dX7_mixedWay_1 (by decide) rfl ?_
  exact V.forget (LvX7_mixedWay_3 hQ 200 _ _ _ _ h) ⟨rfl, ⟨rfl, ⟨rfl, ⟨rfl, trivial⟩⟩⟩⟩
def fX7_mixedPlans (l1 : Int64) (l3 : Int32) (σ : vMem) : Option (Int64 × vMem) :=
  (fX7_findHour l3 σ).bind fun q1 => (fX7_mixed l1 ((q1.1 37 0).toInt64) q1).bind fun q2 => (fX7_mixed q2.1 ((q2.2.1 37 1).toInt64) q2.2).bind fun q3 => (fX7_loaf l3 (5 : Int32) q3.2).bind fun q4 => (fX7_mixed q3.1 (q4.1.toInt64) q4.2).bind fun q5 => (fX7_findFed l3 q5.2).bind fun q6 => (fX7_mixed q5.1 ((q6.1 0 10).toInt64) q6).bind fun q7 => (fX7_fedAt (0 : Int32) q7.2).bind fun q8 => (fX7_mixed q7.1 (q8.1.toInt64) q8.2).bind fun q9 => (fX7_findChance (5 : Int32) l3 (3 : Int32) q9.2).bind fun q10 => (fX7_mixed q9.1 (q10.2 0 12) q10).bind fun q11 => (fX7_mixed q11.1 (q11.2.2 0 13) q11.2).bind fun q12 => some (q12.1, q12.2)
theorem vX7_mixedPlans {ad : Nat → Nat} {Q : Option Value → vMem → Prop} {r : (Int64 × vMem)} {l1 : Int64} {l3 : Int32} {σ : vMem} (h : fX7_mixedPlans l1 l3 σ = some r) (hQ : Q (some (.long r.1)) r.2) : V GC mX7_mixedPlans ad Q 6 0 [some (.ref (ad 0)), some (.long l1), none, some (.int l3)] [] σ := by
  unfold fX7_mixedPlans at h
  refine V.aload_n dX7_mixedPlans_0 rfl ?_
  refine V.iload_n dX7_mixedPlans_1 rfl ?_
  obtain ⟨q1, h1, h⟩ := bdc h
  refine V.callV1 (mc := mX7_findHour) (d' := 5) dX7_mixedPlans_2 lkX7_227 hfX7_findHour nC_0 gC_0 rfl (by decide) (Nat.le_of_ble_eq_true rfl) (Nat.le_of_ble_eq_true rfl) (vX7_findHour h1 ?_)
  refine V.lload_n dX7_mixedPlans_5 rfl ?_
  refine V.aload_n dX7_mixedPlans_6 rfl ?_
  refine V.get dX7_mixedPlans_7 flX7_64 nC_0 gC_0 (by decide) (eC_0_8 _ _) ?_
  refine V.get dX7_mixedPlans_10 flX7_224 nC_37 gC_37 (by decide) (eC_37_0 _ _) ?_
  refine V.i2l dX7_mixedPlans_13 ?_
  obtain ⟨q2, h1, h⟩ := bdc h
  refine V.callS2 (mc := mX7_mixed) (d' := 0) dX7_mixedPlans_14 lkX7_326 hfX7_mixed (by decide) (Nat.le_of_ble_eq_true rfl) (Nat.le_of_ble_eq_true rfl) (vX7_mixed h1 ?_)
  refine V.aload_n dX7_mixedPlans_17 rfl ?_
  refine V.get dX7_mixedPlans_18 flX7_64 nC_0 gC_0 (by decide) (eC_0_8 _ _) ?_
  refine V.get dX7_mixedPlans_21 flX7_230 nC_37 gC_37 (by decide) (eC_37_1 _ _) ?_
  refine V.i2l dX7_mixedPlans_24 ?_
  obtain ⟨q3, h1, h⟩ := bdc h
  refine V.callS2 (mc := mX7_mixed) (d' := 0) dX7_mixedPlans_25 lkX7_326 hfX7_mixed (by decide) (Nat.le_of_ble_eq_true rfl) (Nat.le_of_ble_eq_true rfl) (vX7_mixed h1 ?_)
  refine V.lstore_n dX7_mixedPlans_28 (by decide) rfl ?_
  refine V.lload_n dX7_mixedPlans_29 rfl ?_
  refine V.aload_n dX7_mixedPlans_30 rfl ?_
  refine V.iload_n dX7_mixedPlans_31 rfl ?_
  refine V.iconst ic_5 dX7_mixedPlans_32 ?_
  obtain ⟨q4, h1, h⟩ := bdc h
  refine V.callV2 (mc := mX7_loaf) (d' := 5) dX7_mixedPlans_33 lkX7_416 hfX7_loaf nC_0 gC_0 rfl (by decide) (Nat.le_of_ble_eq_true rfl) (Nat.le_of_ble_eq_true rfl) (vX7_loaf h1 ?_)
  refine V.i2l dX7_mixedPlans_36 ?_
  obtain ⟨q5, h1, h⟩ := bdc h
  refine V.callS2 (mc := mX7_mixed) (d' := 0) dX7_mixedPlans_37 lkX7_326 hfX7_mixed (by decide) (Nat.le_of_ble_eq_true rfl) (Nat.le_of_ble_eq_true rfl) (vX7_mixed h1 ?_)
  refine V.lstore_n dX7_mixedPlans_40 (by decide) rfl ?_
  refine V.aload_n dX7_mixedPlans_41 rfl ?_
  refine V.iload_n dX7_mixedPlans_42 rfl ?_
  obtain ⟨q6, h1, h⟩ := bdc h
  refine V.callV1 (mc := mX7_findFed) (d' := 5) dX7_mixedPlans_43 lkX7_240 hfX7_findFed nC_0 gC_0 rfl (by decide) (Nat.le_of_ble_eq_true rfl) (Nat.le_of_ble_eq_true rfl) (vX7_findFed h1 ?_)
  refine V.lload_n dX7_mixedPlans_46 rfl ?_
  refine V.aload_n dX7_mixedPlans_47 rfl ?_
  refine V.get dX7_mixedPlans_48 flX7_72 nC_0 gC_0 (by decide) (eC_0_10 _ _) ?_
  refine V.i2l dX7_mixedPlans_51 ?_
  obtain ⟨q7, h1, h⟩ := bdc h
  refine V.callS2 (mc := mX7_mixed) (d' := 0) dX7_mixedPlans_52 lkX7_326 hfX7_mixed (by decide) (Nat.le_of_ble_eq_true rfl) (Nat.le_of_ble_eq_true rfl) (vX7_mixed h1 ?_)
  refine V.aload_n dX7_mixedPlans_55 rfl ?_
  refine V.iconst ic_0 dX7_mixedPlans_56 ?_
  obtain ⟨q8, h1, h⟩ := bdc h
  refine V.callV1 (mc := mX7_fedAt) (d' := 0) dX7_mixedPlans_57 lkX7_243 hfX7_fedAt nC_0 gC_0 rfl (by decide) (Nat.le_of_ble_eq_true rfl) (Nat.le_of_ble_eq_true rfl) (vX7_fedAt h1 ?_)
  refine V.i2l dX7_mixedPlans_60 ?_
  obtain ⟨q9, h1, h⟩ := bdc h
  refine V.callS2 (mc := mX7_mixed) (d' := 0) dX7_mixedPlans_61 lkX7_326 hfX7_mixed (by decide) (Nat.le_of_ble_eq_true rfl) (Nat.le_of_ble_eq_true rfl) (vX7_mixed h1 ?_)
  refine V.lstore_n dX7_mixedPlans_64 (by decide) rfl ?_
  refine V.aload_n dX7_mixedPlans_65 rfl ?_
  refine V.iconst ic_5 dX7_mixedPlans_66 ?_
  refine V.iload_n dX7_mixedPlans_67 rfl ?_
  refine V.iconst ic_3 dX7_mixedPlans_68 ?_
  obtain ⟨q10, h1, h⟩ := bdc h
  refine V.callV3 (mc := mX7_findChance) (d' := 4) dX7_mixedPlans_69 lkX7_276 hfX7_findChance nC_0 gC_0 rfl (by decide) (Nat.le_of_ble_eq_true rfl) (Nat.le_of_ble_eq_true rfl) (vX7_findChance h1 ?_)
  refine V.lload_n dX7_mixedPlans_72 rfl ?_
  refine V.aload_n dX7_mixedPlans_73 rfl ?_
  refine V.get dX7_mixedPlans_74 flX7_79 nC_0 gC_0 (by decide) (eC_0_12 _ _) ?_
  obtain ⟨q11, h1, h⟩ := bdc h
  refine V.callS2 (mc := mX7_mixed) (d' := 0) dX7_mixedPlans_77 lkX7_326 hfX7_mixed (by decide) (Nat.le_of_ble_eq_true rfl) (Nat.le_of_ble_eq_true rfl) (vX7_mixed h1 ?_)
  refine V.aload_n dX7_mixedPlans_80 rfl ?_
  refine V.get dX7_mixedPlans_81 flX7_83 nC_0 gC_0 (by decide) (eC_0_13 _ _) ?_
  obtain ⟨q12, h1, h⟩ := bdc h
  refine V.callS2 (mc := mX7_mixed) (d' := 0) dX7_mixedPlans_84 lkX7_326 hfX7_mixed (by decide) (Nat.le_of_ble_eq_true rfl) (Nat.le_of_ble_eq_true rfl) (vX7_mixed h1 ?_)
  obtain rfl := Option.some.inj h
  exact V.lret dX7_mixedPlans_87 rfl hQ
def fX7_mixedFloor_3 (K3 : Int64 → Int32 → Int32 → vMem → Option (Int64 × vMem)) (l1 : Int64) (l3 : Int32) (l4 : Int32) (σ : vMem) : Option (Int64 × vMem) :=
  if (2 : Int32) < l4 then ((fX7_bites l3 (0 : Int32) σ).bind fun q1 => (fX7_mixed l1 (q1.1.toInt64) q1.2).bind fun q2 => (fX7_bites l3 (1 : Int32) q2.2).bind fun q3 => (fX7_mixed q2.1 (q3.1.toInt64) q3.2).bind fun q4 => (fX7_was l3 (0 : Int32) q4.2).bind fun q5 => (fX7_mixed q4.1 (q5.1.toInt64) q5.2).bind fun q6 => (fX7_was l3 (1 : Int32) q6.2).bind fun q7 => (fX7_mixed q6.1 (q7.1.toInt64) q7.2).bind fun q8 => (fX7_ask l3 q8.2).bind fun q9 => (fX7_mixed q8.1 (q9.1.toInt64) q9.2).bind fun q10 => some (q10.1, q10.2)) else
  ((fX7_floor l3 l4 σ).bind fun q11 => (fX7_mixed l1 (q11.1.toInt64) q11.2).bind fun q12 => K3 q12.1 l3 (l4 + (1 : Int32)) q12.2)
theorem vX7_mixedFloor_3 {ad : Nat → Nat} {Q : Option Value → vMem → Prop} {r : (Int64 × vMem)} {K3 : Int64 → Int32 → Int32 → vMem → Option (Int64 × vMem)} (hK3 : ∀ (l1 : Int64) (l3 : Int32) (l4 : Int32) (σ : vMem), K3 l1 l3 l4 σ = some r → V GC mX7_mixedFloor ad Q 6 3 [some (.ref (ad 0)), some (.long l1), none, some (.int l3), some (.int l4)] [] σ) {l1 : Int64} {l3 : Int32} {l4 : Int32} {σ : vMem} (h : fX7_mixedFloor_3 K3 l1 l3 l4 σ = some r) (hQ : Q (some (.long r.1)) r.2) : V GC mX7_mixedFloor ad Q 6 3 [some (.ref (ad 0)), some (.long l1), none, some (.int l3), some (.int l4)] [] σ := by
  unfold fX7_mixedFloor_3 at h
  refine V.iload dX7_mixedFloor_3 rfl ?_
  refine V.iconst ic_2 dX7_mixedFloor_5 ?_
  rcases itc h with ⟨hc, h⟩ | ⟨hc, h⟩
  · refine V.icmp_gt (tgt := 28) dX7_mixedFloor_6 (by decide) (fun _ => ?_) (fun hn => absurd hc hn)
    refine V.lload_n dX7_mixedFloor_28 rfl ?_
    refine V.aload_n dX7_mixedFloor_29 rfl ?_
    refine V.iload_n dX7_mixedFloor_30 rfl ?_
    refine V.iconst ic_0 dX7_mixedFloor_31 ?_
    obtain ⟨q1, h1, h⟩ := bdc h
    refine V.callV2 (mc := mX7_bites) (d' := 5) dX7_mixedFloor_32 lkX7_392 hfX7_bites nC_0 gC_0 rfl (by decide) (Nat.le_of_ble_eq_true rfl) (Nat.le_of_ble_eq_true rfl) (vX7_bites h1 ?_)
    refine V.i2l dX7_mixedFloor_35 ?_
    obtain ⟨q2, h1, h⟩ := bdc h
    refine V.callS2 (mc := mX7_mixed) (d' := 0) dX7_mixedFloor_36 lkX7_326 hfX7_mixed (by decide) (Nat.le_of_ble_eq_true rfl) (Nat.le_of_ble_eq_true rfl) (vX7_mixed h1 ?_)
    refine V.aload_n dX7_mixedFloor_39 rfl ?_
    refine V.iload_n dX7_mixedFloor_40 rfl ?_
    refine V.iconst ic_1 dX7_mixedFloor_41 ?_
    obtain ⟨q3, h1, h⟩ := bdc h
    refine V.callV2 (mc := mX7_bites) (d' := 5) dX7_mixedFloor_42 lkX7_392 hfX7_bites nC_0 gC_0 rfl (by decide) (Nat.le_of_ble_eq_true rfl) (Nat.le_of_ble_eq_true rfl) (vX7_bites h1 ?_)
    refine V.i2l dX7_mixedFloor_45 ?_
    obtain ⟨q4, h1, h⟩ := bdc h
    refine V.callS2 (mc := mX7_mixed) (d' := 0) dX7_mixedFloor_46 lkX7_326 hfX7_mixed (by decide) (Nat.le_of_ble_eq_true rfl) (Nat.le_of_ble_eq_true rfl) (vX7_mixed h1 ?_)
    refine V.lstore_n dX7_mixedFloor_49 (by decide) rfl ?_
    refine V.lload_n dX7_mixedFloor_50 rfl ?_
    refine V.aload_n dX7_mixedFloor_51 rfl ?_
    refine V.iload_n dX7_mixedFloor_52 rfl ?_
    refine V.iconst ic_0 dX7_mixedFloor_53 ?_
    obtain ⟨q5, h1, h⟩ := bdc h
    refine V.callV2 (mc := mX7_was) (d' := 5) dX7_mixedFloor_54 lkX7_394 hfX7_was nC_0 gC_0 rfl (by decide) (Nat.le_of_ble_eq_true rfl) (Nat.le_of_ble_eq_true rfl) (vX7_was h1 ?_)
    refine V.i2l dX7_mixedFloor_57 ?_
    obtain ⟨q6, h1, h⟩ := bdc h
    refine V.callS2 (mc := mX7_mixed) (d' := 0) dX7_mixedFloor_58 lkX7_326 hfX7_mixed (by decide) (Nat.le_of_ble_eq_true rfl) (Nat.le_of_ble_eq_true rfl) (vX7_mixed h1 ?_)
    refine V.aload_n dX7_mixedFloor_61 rfl ?_
    refine V.iload_n dX7_mixedFloor_62 rfl ?_
    refine V.iconst ic_1 dX7_mixedFloor_63 ?_
    obtain ⟨q7, h1, h⟩ := bdc h
    refine V.callV2 (mc := mX7_was) (d' := 5) dX7_mixedFloor_64 lkX7_394 hfX7_was nC_0 gC_0 rfl (by decide) (Nat.le_of_ble_eq_true rfl) (Nat.le_of_ble_eq_true rfl) (vX7_was h1 ?_)
    refine V.i2l dX7_mixedFloor_67 ?_
    obtain ⟨q8, h1, h⟩ := bdc h
    refine V.callS2 (mc := mX7_mixed) (d' := 0) dX7_mixedFloor_68 lkX7_326 hfX7_mixed (by decide) (Nat.le_of_ble_eq_true rfl) (Nat.le_of_ble_eq_true rfl) (vX7_mixed h1 ?_)
    refine V.lstore_n dX7_mixedFloor_71 (by decide) rfl ?_
    refine V.lload_n dX7_mixedFloor_72 rfl ?_
    refine V.aload_n dX7_mixedFloor_73 rfl ?_
    refine V.iload_n dX7_mixedFloor_74 rfl ?_
    obtain ⟨q9, h1, h⟩ := bdc h
    refine V.callV1 (mc := mX7_ask) (d' := 5) dX7_mixedFloor_75 lkX7_397 hfX7_ask nC_0 gC_0 rfl (by decide) (Nat.le_of_ble_eq_true rfl) (Nat.le_of_ble_eq_true rfl) (vX7_ask h1 ?_)
    refine V.i2l dX7_mixedFloor_78 ?_
    obtain ⟨q10, h1, h⟩ := bdc h
    refine V.callS2 (mc := mX7_mixed) (d' := 0) dX7_mixedFloor_79 lkX7_326 hfX7_mixed (by decide) (Nat.le_of_ble_eq_true rfl) (Nat.le_of_ble_eq_true rfl) (vX7_mixed h1 ?_)
    obtain rfl := Option.some.inj h
    exact V.lret dX7_mixedFloor_82 rfl hQ
  · refine V.icmp_gt (tgt := 28) dX7_mixedFloor_6 (by decide) (fun hn => absurd hn hc) (fun _ => ?_)
    refine V.lload_n dX7_mixedFloor_9 rfl ?_
    refine V.aload_n dX7_mixedFloor_10 rfl ?_
    refine V.iload_n dX7_mixedFloor_11 rfl ?_
    refine V.iload dX7_mixedFloor_12 rfl ?_
    obtain ⟨q11, h1, h⟩ := bdc h
    refine V.callV2 (mc := mX7_floor) (d' := 1) dX7_mixedFloor_14 lkX7_390 hfX7_floor nC_0 gC_0 rfl (by decide) (Nat.le_of_ble_eq_true rfl) (Nat.le_of_ble_eq_true rfl) (vX7_floor h1 ?_)
    refine V.i2l dX7_mixedFloor_17 ?_
    obtain ⟨q12, h1, h⟩ := bdc h
    refine V.callS2 (mc := mX7_mixed) (d' := 0) dX7_mixedFloor_18 lkX7_326 hfX7_mixed (by decide) (Nat.le_of_ble_eq_true rfl) (Nat.le_of_ble_eq_true rfl) (vX7_mixed h1 ?_)
    refine V.lstore_n dX7_mixedFloor_21 (by decide) rfl ?_
    refine V.iinc dX7_mixedFloor_22 rfl (ii_1 _) (by decide) rfl ?_
    refine V.goto (tgt := 3) dX7_mixedFloor_25 (by decide) ?_
    exact V.forget (hK3 _ _ _ _ h) ⟨rfl, ⟨rfl, ⟨rfl, ⟨rfl, trivial⟩⟩⟩⟩
def LfX7_mixedFloor_3 : Nat → Int64 → Int32 → Int32 → vMem → Option (Int64 × vMem)
  | 0, _, _, _, _ => none
  | n + 1, l1, l3, l4, σ => fX7_mixedFloor_3 (LfX7_mixedFloor_3 n) l1 l3 l4 σ
theorem LvX7_mixedFloor_3 {ad : Nat → Nat} {Q : Option Value → vMem → Prop} {r : (Int64 × vMem)} (hQ : Q (some (.long r.1)) r.2) : ∀ (n : Nat) (l1 : Int64) (l3 : Int32) (l4 : Int32) (σ : vMem), LfX7_mixedFloor_3 n l1 l3 l4 σ = some r → V GC mX7_mixedFloor ad Q 6 3 [some (.ref (ad 0)), some (.long l1), none, some (.int l3), some (.int l4)] [] σ := by
  intro n
  induction n with
  | zero => intro l1 l3 l4 σ h; cases h
  | succ n ih => intro l1 l3 l4 σ h; exact vX7_mixedFloor_3 ih h hQ
def fX7_mixedFloor (l1 : Int64) (l3 : Int32) (σ : vMem) : Option (Int64 × vMem) :=
  LfX7_mixedFloor_3 200 l1 l3 (0 : Int32) σ
theorem vX7_mixedFloor {ad : Nat → Nat} {Q : Option Value → vMem → Prop} {r : (Int64 × vMem)} {l1 : Int64} {l3 : Int32} {σ : vMem} (h : fX7_mixedFloor l1 l3 σ = some r) (hQ : Q (some (.long r.1)) r.2) : V GC mX7_mixedFloor ad Q 6 0 [some (.ref (ad 0)), some (.long l1), none, some (.int l3), none] [] σ := by
  unfold fX7_mixedFloor at h
  refine V.iconst ic_0 dX7_mixedFloor_0 ?_
  refine V.istore dX7_mixedFloor_1 (by decide) rfl ?_
  exact V.forget (LvX7_mixedFloor_3 hQ 200 _ _ _ _ h) ⟨rfl, ⟨rfl, ⟨rfl, ⟨rfl, trivial⟩⟩⟩⟩
def fX7_digest_77 (K77 : Int64 → Int32 → vMem → Option (Int64 × vMem)) (l1 : Int64) (l3 : Int32) (σ : vMem) : Option (Int64 × vMem) :=
  if (σ.1 5 5) ≤ l3 then ((fX7_famine σ).bind fun q1 => (fX7_mixed l1 (q1.1.toInt64) q1.2).bind fun q2 => (fX7_first (0 : Int32) q2.2).bind fun q3 => (fX7_mixed q2.1 (q3.1.toInt64) q3.2).bind fun q4 => (fX7_first (1 : Int32) q4.2).bind fun q5 => (fX7_mixed q4.1 (q5.1.toInt64) q5.2).bind fun q6 => (fX7_greedy q6.2).bind fun q7 => (fX7_mixed q6.1 (q7.1.toInt64) q7.2).bind fun q8 => (fX7_findStill q8.2).bind fun q9 => (fX7_mixed q8.1 ((q9.1 37 0).toInt64) q9).bind fun q10 => (fX7_mixed q10.1 ((q10.2.1 37 1).toInt64) q10.2).bind fun q11 => (fX7_never q11.2).bind fun q12 => (fX7_mixed q11.1 (q12.1.toInt64) q12.2).bind fun q13 => (fX7_week (7 : Int32) (5 : Int32) (0 : Int32) q13.2).bind fun q14 => (fX7_mixed q13.1 (q14.1.toInt64) q14.2).bind fun q15 => (fX7_week (7 : Int32) (5 : Int32) (1 : Int32) q15.2).bind fun q16 => (fX7_mixed q15.1 (q16.1.toInt64) q16.2).bind fun q17 => some (q17.1, q17.2)) else
  ((fX7_mixedWay l1 l3 σ).bind fun q18 => (fX7_mixedPlans q18.1 l3 q18.2).bind fun q19 => K77 q19.1 (l3 + (1 : Int32)) q19.2)
theorem vX7_digest_77 {ad : Nat → Nat} {Q : Option Value → vMem → Prop} {r : (Int64 × vMem)} {K77 : Int64 → Int32 → vMem → Option (Int64 × vMem)} (hK77 : ∀ (l1 : Int64) (l3 : Int32) (σ : vMem), K77 l1 l3 σ = some r → V GC mX7_digest ad Q 7 77 [some (.ref (ad 0)), some (.long l1), none, some (.int l3)] [] σ) {l1 : Int64} {l3 : Int32} {σ : vMem} (h : fX7_digest_77 K77 l1 l3 σ = some r) (hQ : Q (some (.long r.1)) r.2) : V GC mX7_digest ad Q 7 77 [some (.ref (ad 0)), some (.long l1), none, some (.int l3)] [] σ := by
  unfold fX7_digest_77 at h
  refine V.iload_n dX7_digest_77 rfl ?_
  refine V.aload_n dX7_digest_78 rfl ?_
  refine V.get dX7_digest_79 flX7_24 nC_0 gC_0 (by decide) (eC_0_2 _ _) ?_
  refine V.get dX7_digest_82 flX7_268 nC_5 gC_5 (by decide) (eC_5_5 _ _) ?_
  rcases itc h with ⟨hc, h⟩ | ⟨hc, h⟩
  · refine V.icmp_ge (tgt := 106) dX7_digest_85 (by decide) (fun _ => ?_) (fun hn => absurd hc hn)
    refine V.lload_n dX7_digest_106 rfl ?_
    refine V.aload_n dX7_digest_107 rfl ?_
    obtain ⟨q1, h1, h⟩ := bdc h
    refine V.callV0 (mc := mX7_famine) (d' := 5) dX7_digest_108 lkX7_343 hfX7_famine nC_0 gC_0 rfl (by decide) (Nat.le_of_ble_eq_true rfl) (Nat.le_of_ble_eq_true rfl) (vX7_famine h1 ?_)
    refine V.i2l dX7_digest_111 ?_
    obtain ⟨q2, h1, h⟩ := bdc h
    refine V.callS2 (mc := mX7_mixed) (d' := 0) dX7_digest_112 lkX7_326 hfX7_mixed (by decide) (Nat.le_of_ble_eq_true rfl) (Nat.le_of_ble_eq_true rfl) (vX7_mixed h1 ?_)
    refine V.lstore_n dX7_digest_115 (by decide) rfl ?_
    refine V.lload_n dX7_digest_116 rfl ?_
    refine V.aload_n dX7_digest_117 rfl ?_
    refine V.iconst ic_0 dX7_digest_118 ?_
    obtain ⟨q3, h1, h⟩ := bdc h
    refine V.callV1 (mc := mX7_first) (d' := 5) dX7_digest_119 lkX7_346 hfX7_first nC_0 gC_0 rfl (by decide) (Nat.le_of_ble_eq_true rfl) (Nat.le_of_ble_eq_true rfl) (vX7_first h1 ?_)
    refine V.i2l dX7_digest_122 ?_
    obtain ⟨q4, h1, h⟩ := bdc h
    refine V.callS2 (mc := mX7_mixed) (d' := 0) dX7_digest_123 lkX7_326 hfX7_mixed (by decide) (Nat.le_of_ble_eq_true rfl) (Nat.le_of_ble_eq_true rfl) (vX7_mixed h1 ?_)
    refine V.aload_n dX7_digest_126 rfl ?_
    refine V.iconst ic_1 dX7_digest_127 ?_
    obtain ⟨q5, h1, h⟩ := bdc h
    refine V.callV1 (mc := mX7_first) (d' := 5) dX7_digest_128 lkX7_346 hfX7_first nC_0 gC_0 rfl (by decide) (Nat.le_of_ble_eq_true rfl) (Nat.le_of_ble_eq_true rfl) (vX7_first h1 ?_)
    refine V.i2l dX7_digest_131 ?_
    obtain ⟨q6, h1, h⟩ := bdc h
    refine V.callS2 (mc := mX7_mixed) (d' := 0) dX7_digest_132 lkX7_326 hfX7_mixed (by decide) (Nat.le_of_ble_eq_true rfl) (Nat.le_of_ble_eq_true rfl) (vX7_mixed h1 ?_)
    refine V.lstore_n dX7_digest_135 (by decide) rfl ?_
    refine V.lload_n dX7_digest_136 rfl ?_
    refine V.aload_n dX7_digest_137 rfl ?_
    obtain ⟨q7, h1, h⟩ := bdc h
    refine V.callV0 (mc := mX7_greedy) (d' := 5) dX7_digest_138 lkX7_349 hfX7_greedy nC_0 gC_0 rfl (by decide) (Nat.le_of_ble_eq_true rfl) (Nat.le_of_ble_eq_true rfl) (vX7_greedy h1 ?_)
    refine V.i2l dX7_digest_141 ?_
    obtain ⟨q8, h1, h⟩ := bdc h
    refine V.callS2 (mc := mX7_mixed) (d' := 0) dX7_digest_142 lkX7_326 hfX7_mixed (by decide) (Nat.le_of_ble_eq_true rfl) (Nat.le_of_ble_eq_true rfl) (vX7_mixed h1 ?_)
    refine V.lstore_n dX7_digest_145 (by decide) rfl ?_
    refine V.aload_n dX7_digest_146 rfl ?_
    obtain ⟨q9, h1, h⟩ := bdc h
    refine V.callV0 (mc := mX7_findStill) (d' := 4) dX7_digest_147 lkX7_246 hfX7_findStill nC_0 gC_0 rfl (by decide) (Nat.le_of_ble_eq_true rfl) (Nat.le_of_ble_eq_true rfl) (vX7_findStill h1 ?_)
    refine V.lload_n dX7_digest_150 rfl ?_
    refine V.aload_n dX7_digest_151 rfl ?_
    refine V.get dX7_digest_152 flX7_64 nC_0 gC_0 (by decide) (eC_0_8 _ _) ?_
    refine V.get dX7_digest_155 flX7_224 nC_37 gC_37 (by decide) (eC_37_0 _ _) ?_
    refine V.i2l dX7_digest_158 ?_
    obtain ⟨q10, h1, h⟩ := bdc h
    refine V.callS2 (mc := mX7_mixed) (d' := 0) dX7_digest_159 lkX7_326 hfX7_mixed (by decide) (Nat.le_of_ble_eq_true rfl) (Nat.le_of_ble_eq_true rfl) (vX7_mixed h1 ?_)
    refine V.aload_n dX7_digest_162 rfl ?_
    refine V.get dX7_digest_163 flX7_64 nC_0 gC_0 (by decide) (eC_0_8 _ _) ?_
    refine V.get dX7_digest_166 flX7_230 nC_37 gC_37 (by decide) (eC_37_1 _ _) ?_
    refine V.i2l dX7_digest_169 ?_
    obtain ⟨q11, h1, h⟩ := bdc h
    refine V.callS2 (mc := mX7_mixed) (d' := 0) dX7_digest_170 lkX7_326 hfX7_mixed (by decide) (Nat.le_of_ble_eq_true rfl) (Nat.le_of_ble_eq_true rfl) (vX7_mixed h1 ?_)
    refine V.lstore_n dX7_digest_173 (by decide) rfl ?_
    refine V.lload_n dX7_digest_174 rfl ?_
    refine V.aload_n dX7_digest_175 rfl ?_
    obtain ⟨q12, h1, h⟩ := bdc h
    refine V.callV0 (mc := mX7_never) (d' := 4) dX7_digest_176 lkX7_352 hfX7_never nC_0 gC_0 rfl (by decide) (Nat.le_of_ble_eq_true rfl) (Nat.le_of_ble_eq_true rfl) (vX7_never h1 ?_)
    refine V.i2l dX7_digest_179 ?_
    obtain ⟨q13, h1, h⟩ := bdc h
    refine V.callS2 (mc := mX7_mixed) (d' := 0) dX7_digest_180 lkX7_326 hfX7_mixed (by decide) (Nat.le_of_ble_eq_true rfl) (Nat.le_of_ble_eq_true rfl) (vX7_mixed h1 ?_)
    refine V.lstore_n dX7_digest_183 (by decide) rfl ?_
    refine V.lload_n dX7_digest_184 rfl ?_
    refine V.aload_n dX7_digest_185 rfl ?_
    refine V.bipush bp_7 dX7_digest_186 ?_
    refine V.iconst ic_5 dX7_digest_188 ?_
    refine V.iconst ic_0 dX7_digest_189 ?_
    obtain ⟨q14, h1, h⟩ := bdc h
    refine V.callV3 (mc := mX7_week) (d' := 4) dX7_digest_190 lkX7_355 hfX7_week nC_0 gC_0 rfl (by decide) (Nat.le_of_ble_eq_true rfl) (Nat.le_of_ble_eq_true rfl) (vX7_week h1 ?_)
    refine V.i2l dX7_digest_193 ?_
    obtain ⟨q15, h1, h⟩ := bdc h
    refine V.callS2 (mc := mX7_mixed) (d' := 0) dX7_digest_194 lkX7_326 hfX7_mixed (by decide) (Nat.le_of_ble_eq_true rfl) (Nat.le_of_ble_eq_true rfl) (vX7_mixed h1 ?_)
    refine V.aload_n dX7_digest_197 rfl ?_
    refine V.bipush bp_7 dX7_digest_198 ?_
    refine V.iconst ic_5 dX7_digest_200 ?_
    refine V.iconst ic_1 dX7_digest_201 ?_
    obtain ⟨q16, h1, h⟩ := bdc h
    refine V.callV3 (mc := mX7_week) (d' := 4) dX7_digest_202 lkX7_355 hfX7_week nC_0 gC_0 rfl (by decide) (Nat.le_of_ble_eq_true rfl) (Nat.le_of_ble_eq_true rfl) (vX7_week h1 ?_)
    refine V.i2l dX7_digest_205 ?_
    obtain ⟨q17, h1, h⟩ := bdc h
    refine V.callS2 (mc := mX7_mixed) (d' := 0) dX7_digest_206 lkX7_326 hfX7_mixed (by decide) (Nat.le_of_ble_eq_true rfl) (Nat.le_of_ble_eq_true rfl) (vX7_mixed h1 ?_)
    obtain rfl := Option.some.inj h
    exact V.lret dX7_digest_209 rfl hQ
  · refine V.icmp_ge (tgt := 106) dX7_digest_85 (by decide) (fun hn => absurd hn hc) (fun _ => ?_)
    refine V.aload_n dX7_digest_88 rfl ?_
    refine V.aload_n dX7_digest_89 rfl ?_
    refine V.lload_n dX7_digest_90 rfl ?_
    refine V.iload_n dX7_digest_91 rfl ?_
    obtain ⟨q18, h1, h⟩ := bdc h
    refine V.callV2 (mc := mX7_mixedWay) (d' := 6) dX7_digest_92 lkX7_337 hfX7_mixedWay nC_0 gC_0 rfl (by decide) (Nat.le_of_ble_eq_true rfl) (Nat.le_of_ble_eq_true rfl) (vX7_mixedWay h1 ?_)
    refine V.iload_n dX7_digest_95 rfl ?_
    obtain ⟨q19, h1, h⟩ := bdc h
    refine V.callV2 (mc := mX7_mixedPlans) (d' := 6) dX7_digest_96 lkX7_340 hfX7_mixedPlans nC_0 gC_0 rfl (by decide) (Nat.le_of_ble_eq_true rfl) (Nat.le_of_ble_eq_true rfl) (vX7_mixedPlans h1 ?_)
    refine V.lstore_n dX7_digest_99 (by decide) rfl ?_
    refine V.iinc dX7_digest_100 rfl (ii_1 _) (by decide) rfl ?_
    refine V.goto (tgt := 77) dX7_digest_103 (by decide) ?_
    exact V.forget (hK77 _ _ _ h) ⟨rfl, ⟨rfl, ⟨rfl, trivial⟩⟩⟩
def LfX7_digest_77 : Nat → Int64 → Int32 → vMem → Option (Int64 × vMem)
  | 0, _, _, _ => none
  | n + 1, l1, l3, σ => fX7_digest_77 (LfX7_digest_77 n) l1 l3 σ
theorem LvX7_digest_77 {ad : Nat → Nat} {Q : Option Value → vMem → Prop} {r : (Int64 × vMem)} (hQ : Q (some (.long r.1)) r.2) : ∀ (n : Nat) (l1 : Int64) (l3 : Int32) (σ : vMem), LfX7_digest_77 n l1 l3 σ = some r → V GC mX7_digest ad Q 7 77 [some (.ref (ad 0)), some (.long l1), none, some (.int l3)] [] σ := by
  intro n
  induction n with
  | zero => intro l1 l3 σ h; cases h
  | succ n ih => intro l1 l3 σ h; exact vX7_digest_77 ih h hQ
def fX7_digest_51 (K51 : Int64 → Int32 → vMem → Option (Int64 × vMem)) (l1 : Int64) (l3 : Int32) (σ : vMem) : Option (Int64 × vMem) :=
  if (σ.1 5 0) ≤ l3 then (LfX7_digest_77 200 l1 (0 : Int32) σ) else
  ((fX7_mixedFloor l1 l3 σ).bind fun q1 => K51 q1.1 (l3 + (1 : Int32)) q1.2)
theorem vX7_digest_51 {ad : Nat → Nat} {Q : Option Value → vMem → Prop} {r : (Int64 × vMem)} {K51 : Int64 → Int32 → vMem → Option (Int64 × vMem)} (hK51 : ∀ (l1 : Int64) (l3 : Int32) (σ : vMem), K51 l1 l3 σ = some r → V GC mX7_digest ad Q 7 51 [some (.ref (ad 0)), some (.long l1), none, some (.int l3)] [] σ) {l1 : Int64} {l3 : Int32} {σ : vMem} (h : fX7_digest_51 K51 l1 l3 σ = some r) (hQ : Q (some (.long r.1)) r.2) : V GC mX7_digest ad Q 7 51 [some (.ref (ad 0)), some (.long l1), none, some (.int l3)] [] σ := by
  unfold fX7_digest_51 at h
  refine V.iload_n dX7_digest_51 rfl ?_
  refine V.aload_n dX7_digest_52 rfl ?_
  refine V.get dX7_digest_53 flX7_24 nC_0 gC_0 (by decide) (eC_0_2 _ _) ?_
  refine V.get dX7_digest_56 flX7_217 nC_5 gC_5 (by decide) (eC_5_0 _ _) ?_
  rcases itc h with ⟨hc, h⟩ | ⟨hc, h⟩
  · refine V.icmp_ge (tgt := 75) dX7_digest_59 (by decide) (fun _ => ?_) (fun hn => absurd hc hn)
    refine V.iconst ic_0 dX7_digest_75 ?_
    refine V.istore_n dX7_digest_76 (by decide) rfl ?_
    exact V.forget (LvX7_digest_77 hQ 200 _ _ _ h) ⟨rfl, ⟨rfl, ⟨rfl, trivial⟩⟩⟩
  · refine V.icmp_ge (tgt := 75) dX7_digest_59 (by decide) (fun hn => absurd hn hc) (fun _ => ?_)
    refine V.aload_n dX7_digest_62 rfl ?_
    refine V.lload_n dX7_digest_63 rfl ?_
    refine V.iload_n dX7_digest_64 rfl ?_
    obtain ⟨q1, h1, h⟩ := bdc h
    refine V.callV2 (mc := mX7_mixedFloor) (d' := 6) dX7_digest_65 lkX7_333 hfX7_mixedFloor nC_0 gC_0 rfl (by decide) (Nat.le_of_ble_eq_true rfl) (Nat.le_of_ble_eq_true rfl) (vX7_mixedFloor h1 ?_)
    refine V.lstore_n dX7_digest_68 (by decide) rfl ?_
    refine V.iinc dX7_digest_69 rfl (ii_1 _) (by decide) rfl ?_
    refine V.goto (tgt := 51) dX7_digest_72 (by decide) ?_
    exact V.forget (hK51 _ _ _ h) ⟨rfl, ⟨rfl, ⟨rfl, trivial⟩⟩⟩
def LfX7_digest_51 : Nat → Int64 → Int32 → vMem → Option (Int64 × vMem)
  | 0, _, _, _ => none
  | n + 1, l1, l3, σ => fX7_digest_51 (LfX7_digest_51 n) l1 l3 σ
theorem LvX7_digest_51 {ad : Nat → Nat} {Q : Option Value → vMem → Prop} {r : (Int64 × vMem)} (hQ : Q (some (.long r.1)) r.2) : ∀ (n : Nat) (l1 : Int64) (l3 : Int32) (σ : vMem), LfX7_digest_51 n l1 l3 σ = some r → V GC mX7_digest ad Q 7 51 [some (.ref (ad 0)), some (.long l1), none, some (.int l3)] [] σ := by
  intro n
  induction n with
  | zero => intro l1 l3 σ h; cases h
  | succ n ih => intro l1 l3 σ h; exact vX7_digest_51 ih h hQ
def fX7_digest_6 (K6 : Int64 → Int32 → vMem → Option (Int64 × vMem)) (l1 : Int64) (l3 : Int32) (σ : vMem) : Option (Int64 × vMem) :=
  if (7 : Int32) < l3 then ((fX7_fault (0 : Int32) σ).bind fun q1 => (fX7_mixed l1 (q1.1.toInt64) q1.2).bind fun q2 => (fX7_fault (1 : Int32) q2.2).bind fun q3 => (fX7_mixed q2.1 (q3.1.toInt64) q3.2).bind fun q4 => LfX7_digest_51 200 q4.1 (0 : Int32) q4.2) else
  ((fX7_count l3 σ).bind fun q5 => (fX7_mixed l1 (q5.1.toInt64) q5.2).bind fun q6 => K6 q6.1 (l3 + (1 : Int32)) q6.2)
theorem vX7_digest_6 {ad : Nat → Nat} {Q : Option Value → vMem → Prop} {r : (Int64 × vMem)} {K6 : Int64 → Int32 → vMem → Option (Int64 × vMem)} (hK6 : ∀ (l1 : Int64) (l3 : Int32) (σ : vMem), K6 l1 l3 σ = some r → V GC mX7_digest ad Q 7 6 [some (.ref (ad 0)), some (.long l1), none, some (.int l3)] [] σ) {l1 : Int64} {l3 : Int32} {σ : vMem} (h : fX7_digest_6 K6 l1 l3 σ = some r) (hQ : Q (some (.long r.1)) r.2) : V GC mX7_digest ad Q 7 6 [some (.ref (ad 0)), some (.long l1), none, some (.int l3)] [] σ := by
  unfold fX7_digest_6 at h
  refine V.iload_n dX7_digest_6 rfl ?_
  refine V.bipush bp_7 dX7_digest_7 ?_
  rcases itc h with ⟨hc, h⟩ | ⟨hc, h⟩
  · refine V.icmp_gt (tgt := 29) dX7_digest_9 (by decide) (fun _ => ?_) (fun hn => absurd hc hn)
    refine V.lload_n dX7_digest_29 rfl ?_
    refine V.aload_n dX7_digest_30 rfl ?_
    refine V.iconst ic_0 dX7_digest_31 ?_
    obtain ⟨q1, h1, h⟩ := bdc h
    refine V.callV1 (mc := mX7_fault) (d' := 1) dX7_digest_32 lkX7_330 hfX7_fault nC_0 gC_0 rfl (by decide) (Nat.le_of_ble_eq_true rfl) (Nat.le_of_ble_eq_true rfl) (vX7_fault h1 ?_)
    refine V.i2l dX7_digest_35 ?_
    obtain ⟨q2, h1, h⟩ := bdc h
    refine V.callS2 (mc := mX7_mixed) (d' := 0) dX7_digest_36 lkX7_326 hfX7_mixed (by decide) (Nat.le_of_ble_eq_true rfl) (Nat.le_of_ble_eq_true rfl) (vX7_mixed h1 ?_)
    refine V.aload_n dX7_digest_39 rfl ?_
    refine V.iconst ic_1 dX7_digest_40 ?_
    obtain ⟨q3, h1, h⟩ := bdc h
    refine V.callV1 (mc := mX7_fault) (d' := 1) dX7_digest_41 lkX7_330 hfX7_fault nC_0 gC_0 rfl (by decide) (Nat.le_of_ble_eq_true rfl) (Nat.le_of_ble_eq_true rfl) (vX7_fault h1 ?_)
    refine V.i2l dX7_digest_44 ?_
    obtain ⟨q4, h1, h⟩ := bdc h
    refine V.callS2 (mc := mX7_mixed) (d' := 0) dX7_digest_45 lkX7_326 hfX7_mixed (by decide) (Nat.le_of_ble_eq_true rfl) (Nat.le_of_ble_eq_true rfl) (vX7_mixed h1 ?_)
    refine V.lstore_n dX7_digest_48 (by decide) rfl ?_
    refine V.iconst ic_0 dX7_digest_49 ?_
    refine V.istore_n dX7_digest_50 (by decide) rfl ?_
    exact V.forget (LvX7_digest_51 hQ 200 _ _ _ h) ⟨rfl, ⟨rfl, ⟨rfl, trivial⟩⟩⟩
  · refine V.icmp_gt (tgt := 29) dX7_digest_9 (by decide) (fun hn => absurd hn hc) (fun _ => ?_)
    refine V.lload_n dX7_digest_12 rfl ?_
    refine V.aload_n dX7_digest_13 rfl ?_
    refine V.iload_n dX7_digest_14 rfl ?_
    obtain ⟨q5, h1, h⟩ := bdc h
    refine V.callV1 (mc := mX7_count) (d' := 5) dX7_digest_15 lkX7_323 hfX7_count nC_0 gC_0 rfl (by decide) (Nat.le_of_ble_eq_true rfl) (Nat.le_of_ble_eq_true rfl) (vX7_count h1 ?_)
    refine V.i2l dX7_digest_18 ?_
    obtain ⟨q6, h1, h⟩ := bdc h
    refine V.callS2 (mc := mX7_mixed) (d' := 0) dX7_digest_19 lkX7_326 hfX7_mixed (by decide) (Nat.le_of_ble_eq_true rfl) (Nat.le_of_ble_eq_true rfl) (vX7_mixed h1 ?_)
    refine V.lstore_n dX7_digest_22 (by decide) rfl ?_
    refine V.iinc dX7_digest_23 rfl (ii_1 _) (by decide) rfl ?_
    refine V.goto (tgt := 6) dX7_digest_26 (by decide) ?_
    exact V.forget (hK6 _ _ _ h) ⟨rfl, ⟨rfl, ⟨rfl, trivial⟩⟩⟩
def LfX7_digest_6 : Nat → Int64 → Int32 → vMem → Option (Int64 × vMem)
  | 0, _, _, _ => none
  | n + 1, l1, l3, σ => fX7_digest_6 (LfX7_digest_6 n) l1 l3 σ
theorem LvX7_digest_6 {ad : Nat → Nat} {Q : Option Value → vMem → Prop} {r : (Int64 × vMem)} (hQ : Q (some (.long r.1)) r.2) : ∀ (n : Nat) (l1 : Int64) (l3 : Int32) (σ : vMem), LfX7_digest_6 n l1 l3 σ = some r → V GC mX7_digest ad Q 7 6 [some (.ref (ad 0)), some (.long l1), none, some (.int l3)] [] σ := by
  intro n
  induction n with
  | zero => intro l1 l3 σ h; cases h
  | succ n ih => intro l1 l3 σ h; exact vX7_digest_6 ih h hQ
def fX7_digest (σ : vMem) : Option (Int64 × vMem) :=
  LfX7_digest_6 200 (17 : Int64) (0 : Int32) σ
theorem vX7_digest {ad : Nat → Nat} {Q : Option Value → vMem → Prop} {r : (Int64 × vMem)} {σ : vMem} (h : fX7_digest σ = some r) (hQ : Q (some (.long r.1)) r.2) : V GC mX7_digest ad Q 7 0 [some (.ref (ad 0)), none, none, none] [] σ := by
  unfold fX7_digest at h
  refine V.ldc2 dX7_digest_0 ctX7_321 ?_
  refine V.lstore_n dX7_digest_3 (by decide) rfl ?_
  refine V.iconst ic_0 dX7_digest_4 ?_
  refine V.istore_n dX7_digest_5 (by decide) rfl ?_
  exact V.forget (LvX7_digest_6 hQ 200 _ _ _ h) ⟨rfl, ⟨rfl, ⟨rfl, trivial⟩⟩⟩
