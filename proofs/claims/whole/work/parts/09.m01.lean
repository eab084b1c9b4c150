def fX8_meets_5 (l1 : Int32) (σ : vMem) : Option (Int32 × vMem) :=
  some (((-10 : Int32) - l1), σ)
theorem vX8_meets_5 {ad : Nat → Nat} {Q : Option Value → vMem → Prop} {r : (Int32 × vMem)} {l1 : Int32} {σ : vMem} (h : fX8_meets_5 l1 σ = some r) (hQ : Q (some (.int r.1)) r.2) : V GM mX8_meets ad Q 0 5 [none, some (.int l1)] [] σ := by
  unfold fX8_meets_5 at h
  refine V.bipush bp_m10 dX8_meets_5 ?_
  refine V.iload_n dX8_meets_7 rfl ?_
  refine V.isub dX8_meets_8 ?_
  obtain rfl := Option.some.inj h
  exact V.iret dX8_meets_9 rfl hQ
def fX8_meets (l1 : Int32) (σ : vMem) : Option (Int32 × vMem) :=
  fX8_meets_5 l1 (vup σ 0 47 l1)
theorem vX8_meets {ad : Nat → Nat} {Q : Option Value → vMem → Prop} {r : (Int32 × vMem)} {l1 : Int32} {σ : vMem} (h : fX8_meets l1 σ = some r) (hQ : Q (some (.int r.1)) r.2) : V GM mX8_meets ad Q 0 0 [some (.ref (ad 0)), some (.int l1)] [] σ := by
  unfold fX8_meets at h
  refine V.aload_n dX8_meets_0 rfl ?_
  refine V.iload_n dX8_meets_1 rfl ?_
  refine V.putI dX8_meets_2 fpX8_329 nM_0 gM_0 (by decide) rfl ?_
  exact V.forget (vX8_meets_5 h hQ) ⟨rfl, trivial⟩
def fX8_read_61 (l2 : Int32) (σ : vMem) : Option (Int32 × vMem) :=
  some (l2, σ)
theorem vX8_read_61 {ad : Nat → Nat} {Q : Option Value → vMem → Prop} {r : (Int32 × vMem)} {l2 : Int32} {σ : vMem} (h : fX8_read_61 l2 σ = some r) (hQ : Q (some (.int r.1)) r.2) : V GM mX8_read ad Q 3 61 [none, none, some (.int l2)] [] σ := by
  unfold fX8_read_61 at h
  refine V.iload_n dX8_read_61 rfl ?_
  obtain rfl := Option.some.inj h
  exact V.iret dX8_read_62 rfl hQ
def fX8_read_27 (K27 : Int32 → Int32 → vMem → Option (Int32 × vMem)) (l1 : Int32) (l2 : Int32) (σ : vMem) : Option (Int32 × vMem) :=
  if l1 < 0 ∨ 4 ≤ l1.toNatClampNeg then none else if (σ.1 33 l1.toNatClampNeg) ≤ l2 then (fX8_read_61 l2 σ) else
  (if (((60 : Int32) * l1) + l2) < 0 ∨ 240 ≤ (((60 : Int32) * l1) + l2).toNatClampNeg then none else (fX8_wind (σ.1 34 (((60 : Int32) * l1) + l2).toNatClampNeg) σ).bind fun q1 => if q1.1 ≤ 0 then (fX8_read_61 l2 q1.2) else
  (K27 l1 (l2 + (1 : Int32)) q1.2))
theorem vX8_read_27 {ad : Nat → Nat} {Q : Option Value → vMem → Prop} {r : (Int32 × vMem)} {K27 : Int32 → Int32 → vMem → Option (Int32 × vMem)} (hK27 : ∀ (l1 : Int32) (l2 : Int32) (σ : vMem), K27 l1 l2 σ = some r → V GM mX8_read ad Q 3 27 [some (.ref (ad 0)), some (.int l1), some (.int l2)] [] σ) {l1 : Int32} {l2 : Int32} {σ : vMem} (h : fX8_read_27 K27 l1 l2 σ = some r) (hQ : Q (some (.int r.1)) r.2) : V GM mX8_read ad Q 3 27 [some (.ref (ad 0)), some (.int l1), some (.int l2)] [] σ := by
  unfold fX8_read_27 at h
  refine V.iload_n dX8_read_27 rfl ?_
  refine V.aload_n dX8_read_28 rfl ?_
  refine V.get dX8_read_29 flX8_107 nM_0 gM_0 (by decide) (eM_0_44 _ _) ?_
  refine V.iload_n dX8_read_32 rfl ?_
  obtain ⟨hb, h⟩ := ckn h
  refine V.iald dX8_read_33 nM_33 gM_33 hb ?_
  rcases itc h with ⟨hc, h⟩ | ⟨hc, h⟩
  · refine V.icmp_ge (tgt := 61) dX8_read_34 (by decide) (fun _ => ?_) (fun hn => absurd hc hn)
    exact V.forget (vX8_read_61 h hQ) ⟨rfl, trivial⟩
  · refine V.icmp_ge (tgt := 61) dX8_read_34 (by decide) (fun hn => absurd hn hc) (fun _ => ?_)
    refine V.aload_n dX8_read_37 rfl ?_
    refine V.aload_n dX8_read_38 rfl ?_
    refine V.get dX8_read_39 flX8_110 nM_0 gM_0 (by decide) (eM_0_45 _ _) ?_
    refine V.bipush bp_60 dX8_read_42 ?_
    refine V.iload_n dX8_read_44 rfl ?_
    refine V.imul dX8_read_45 ?_
    refine V.iload_n dX8_read_46 rfl ?_
    refine V.iadd dX8_read_47 ?_
    obtain ⟨hb, h⟩ := ckn h
    refine V.iald dX8_read_48 nM_34 gM_34 hb ?_
    obtain ⟨q1, h1, h⟩ := bdc h
    refine V.callV1 (mc := mX8_wind) (d' := 2) dX8_read_49 lkX8_193 hfX8_wind nM_0 gM_0 rfl (by decide) (Nat.le_of_ble_eq_true rfl) (Nat.le_of_ble_eq_true rfl) (vX8_wind h1 ?_)
    rcases itc h with ⟨hc, h⟩ | ⟨hc, h⟩
    · refine V.if_le (tgt := 61) dX8_read_52 (by decide) (fun _ => ?_) (fun hn => absurd hc hn)
      exact V.forget (vX8_read_61 h hQ) ⟨rfl, trivial⟩
    · refine V.if_le (tgt := 61) dX8_read_52 (by decide) (fun hn => absurd hn hc) (fun _ => ?_)
      refine V.iinc dX8_read_55 rfl (ii_1 _) (by decide) rfl ?_
      refine V.goto (tgt := 27) dX8_read_58 (by decide) ?_
      exact V.forget (hK27 _ _ _ h) ⟨rfl, ⟨rfl, ⟨rfl, trivial⟩⟩⟩
def LfX8_read_27 : Nat → Int32 → Int32 → vMem → Option (Int32 × vMem)
  | 0, _, _, _ => none
  | n + 1, l1, l2, σ => fX8_read_27 (LfX8_read_27 n) l1 l2 σ
theorem LvX8_read_27 {ad : Nat → Nat} {Q : Option Value → vMem → Prop} {r : (Int32 × vMem)} (hQ : Q (some (.int r.1)) r.2) : ∀ (n : Nat) (l1 : Int32) (l2 : Int32) (σ : vMem), LfX8_read_27 n l1 l2 σ = some r → V GM mX8_read ad Q 3 27 [some (.ref (ad 0)), some (.int l1), some (.int l2)] [] σ := by
  intro n
  induction n with
  | zero => intro l1 l2 σ h; cases h
  | succ n ih => intro l1 l2 σ h; exact vX8_read_27 ih h hQ
def fX8_read (l1 : Int32) (σ : vMem) : Option (Int32 × vMem) :=
  (fX8_isSheet l1 σ).bind fun q1 => if q1.1 = 0 then (some ((-2 : Int32), q1.2)) else
  (if l1 < 0 ∨ 4 ≤ l1.toNatClampNeg then none else if (q1.2.1 31 l1.toNatClampNeg) = 0 then ((fX8_meets (1 : Int32) q1.2).bind fun q2 => some (q2.1, q2.2)) else
  (LfX8_read_27 200 l1 (0 : Int32) q1.2))
theorem vX8_read {ad : Nat → Nat} {Q : Option Value → vMem → Prop} {r : (Int32 × vMem)} {l1 : Int32} {σ : vMem} (h : fX8_read l1 σ = some r) (hQ : Q (some (.int r.1)) r.2) : V GM mX8_read ad Q 3 0 [some (.ref (ad 0)), some (.int l1), none] [] σ := by
  unfold fX8_read at h
  refine V.iload_n dX8_read_0 rfl ?_
  obtain ⟨q1, h1, h⟩ := bdc h
  refine V.callS1 (mc := mX8_isSheet) (d' := 1) dX8_read_1 lkX8_187 hfX8_isSheet (by decide) (Nat.le_of_ble_eq_true rfl) (Nat.le_of_ble_eq_true rfl) (vX8_isSheet h1 ?_)
  rcases itc h with ⟨hc, h⟩ | ⟨hc, h⟩
  · refine V.if_ne (tgt := 10) dX8_read_4 (by decide) (fun hn => absurd hc hn) (fun _ => ?_)
    refine V.bipush bp_m2 dX8_read_7 ?_
    obtain rfl := Option.some.inj h
    exact V.iret dX8_read_9 rfl hQ
  · refine V.if_ne (tgt := 10) dX8_read_4 (by decide) (fun _ => ?_) (fun hn => absurd hn hc)
    refine V.aload_n dX8_read_10 rfl ?_
    refine V.get dX8_read_11 flX8_101 nM_0 gM_0 (by decide) (eM_0_42 _ _) ?_
    refine V.iload_n dX8_read_14 rfl ?_
    obtain ⟨hb, h⟩ := ckn h
    refine V.zald dX8_read_15 nM_31 gM_31 hb ?_
    rcases itc h with ⟨hc, h⟩ | ⟨hc, h⟩
    · refine V.if_ne (tgt := 25) dX8_read_16 (by decide) (fun hn => absurd hc hn) (fun _ => ?_)
      refine V.aload_n dX8_read_19 rfl ?_
      refine V.iconst ic_1 dX8_read_20 ?_
      obtain ⟨q2, h1, h⟩ := bdc h
      refine V.callV1 (mc := mX8_meets) (d' := 0) dX8_read_21 lkX8_190 hfX8_meets nM_0 gM_0 rfl (by decide) (Nat.le_of_ble_eq_true rfl) (Nat.le_of_ble_eq_true rfl) (vX8_meets h1 ?_)
      obtain rfl := Option.some.inj h
      exact V.iret dX8_read_24 rfl hQ
    · refine V.if_ne (tgt := 25) dX8_read_16 (by decide) (fun _ => ?_) (fun hn => absurd hn hc)
      refine V.iconst ic_0 dX8_read_25 ?_
      refine V.istore_n dX8_read_26 (by decide) rfl ?_
      exact V.forget (LvX8_read_27 hQ 200 _ _ _ h) ⟨rfl, ⟨rfl, ⟨rfl, trivial⟩⟩⟩
def fX8_isIn_15 (s0 : Int32) (σ : vMem) : Option (Int32 × vMem) :=
  if ¬ (s0 = 0 ∨ s0 = 1) then none else some (s0, σ)
theorem vX8_isIn_15 {ad : Nat → Nat} {Q : Option Value → vMem → Prop} {r : (Int32 × vMem)} {s0 : Int32} {σ : vMem} (h : fX8_isIn_15 s0 σ = some r) (hQ : Q (some (.int r.1)) r.2) : V GM mX8_isIn ad Q 0 15 [none, none, none] [.int s0] σ := by
  unfold fX8_isIn_15 at h
  obtain ⟨hb, h⟩ := ckn h
  obtain rfl := Option.some.inj h
  exact V.zret dX8_isIn_15 rfl (Decidable.not_not.mp hb) hQ
def fX8_isIn (l0 : Int64) (l2 : Int32) (σ : vMem) : Option (Int32 × vMem) :=
  if (lg_cmp ((l0 >>> (l2.toInt64 &&& 63)) &&& (1 : Int64)) (1 : Int64)) = 0 then (fX8_isIn_15 (1 : Int32) σ) else
  (fX8_isIn_15 (0 : Int32) σ)
theorem vX8_isIn {ad : Nat → Nat} {Q : Option Value → vMem → Prop} {r : (Int32 × vMem)} {l0 : Int64} {l2 : Int32} {σ : vMem} (h : fX8_isIn l0 l2 σ = some r) (hQ : Q (some (.int r.1)) r.2) : V GM mX8_isIn ad Q 0 0 [some (.long l0), none, some (.int l2)] [] σ := by
  unfold fX8_isIn at h
  refine V.lload_n dX8_isIn_0 rfl ?_
  refine V.iload_n dX8_isIn_1 rfl ?_
  refine V.lshr dX8_isIn_2 ?_
  refine V.lconst lc_1 dX8_isIn_3 ?_
  refine V.land dX8_isIn_4 ?_
  refine V.lconst lc_1 dX8_isIn_5 ?_
  refine V.lcmp dX8_isIn_6 ?_
  rcases itc h with ⟨hc, h⟩ | ⟨hc, h⟩
  · refine V.if_ne (tgt := 14) dX8_isIn_7 (by decide) (fun hn => absurd hc hn) (fun _ => ?_)
    refine V.iconst ic_1 dX8_isIn_10 ?_
    refine V.goto (tgt := 15) dX8_isIn_11 (by decide) ?_
    exact V.forget (vX8_isIn_15 h hQ) trivial
  · refine V.if_ne (tgt := 14) dX8_isIn_7 (by decide) (fun _ => ?_) (fun hn => absurd hn hc)
    refine V.iconst ic_0 dX8_isIn_14 ?_
    exact V.forget (vX8_isIn_15 h hQ) trivial
def fX8_bitsOf (l0 : Int64) (l2 : Int32) (σ : vMem) : Option (Int64 × vMem) :=
  some ((l0 ||| ((1 : Int64) <<< (l2.toInt64 &&& 63))), σ)
theorem vX8_bitsOf {ad : Nat → Nat} {Q : Option Value → vMem → Prop} {r : (Int64 × vMem)} {l0 : Int64} {l2 : Int32} {σ : vMem} (h : fX8_bitsOf l0 l2 σ = some r) (hQ : Q (some (.long r.1)) r.2) : V GM mX8_bitsOf ad Q 0 0 [some (.long l0), none, some (.int l2)] [] σ := by
  unfold fX8_bitsOf at h
  refine V.lload_n dX8_bitsOf_0 rfl ?_
  refine V.lconst lc_1 dX8_bitsOf_1 ?_
  refine V.iload_n dX8_bitsOf_2 rfl ?_
  refine V.lshl dX8_bitsOf_3 ?_
  refine V.lor dX8_bitsOf_4 ?_
  obtain rfl := Option.some.inj h
  exact V.lret dX8_bitsOf_5 rfl hQ
def fX8_windsBut_39 (K5 : Int32 → Int64 → Int32 → vMem → Option (Int64 × vMem)) (l1 : Int32) (l4 : Int32) (s0 : Int64) (σ : vMem) : Option (Int64 × vMem) :=
  K5 l1 s0 (l4 + (1 : Int32)) σ
theorem vX8_windsBut_39 {ad : Nat → Nat} {Q : Option Value → vMem → Prop} {r : (Int64 × vMem)} {K5 : Int32 → Int64 → Int32 → vMem → Option (Int64 × vMem)} (hK5 : ∀ (l1 : Int32) (l2 : Int64) (l4 : Int32) (σ : vMem), K5 l1 l2 l4 σ = some r → V GM mX8_windsBut ad Q 1 5 [some (.ref (ad 0)), some (.int l1), some (.long l2), none, some (.int l4)] [] σ) {l1 : Int32} {l4 : Int32} {s0 : Int64} {σ : vMem} (h : fX8_windsBut_39 K5 l1 l4 s0 σ = some r) (hQ : Q (some (.long r.1)) r.2) : V GM mX8_windsBut ad Q 1 39 [some (.ref (ad 0)), some (.int l1), none, none, some (.int l4)] [.long s0] σ := by
  unfold fX8_windsBut_39 at h
  refine V.lstore_n dX8_windsBut_39 (by decide) rfl ?_
  refine V.iinc dX8_windsBut_40 rfl (ii_1 _) (by decide) rfl ?_
  refine V.goto (tgt := 5) dX8_windsBut_43 (by decide) ?_
  exact V.forget (hK5 _ _ _ _ h) ⟨rfl, ⟨rfl, ⟨rfl, ⟨rfl, trivial⟩⟩⟩⟩
def fX8_windsBut_5 (K5 : Int32 → Int64 → Int32 → vMem → Option (Int64 × vMem)) (l1 : Int32) (l2 : Int64) (l4 : Int32) (σ : vMem) : Option (Int64 × vMem) :=
  if (σ.1 0 13) ≤ l4 then (some (l2, σ)) else
  ((fX8_isIn (l1.toInt64) l4 σ).bind fun q1 => if q1.1 = 0 then (if l4 < 0 ∨ 6 ≤ l4.toNatClampNeg then none else (fX8_bitsOf l2 (q1.2.1 10 l4.toNatClampNeg) q1.2).bind fun q2 => fX8_windsBut_39 K5 l1 l4 q2.1 q2.2) else
  (fX8_windsBut_39 K5 l1 l4 l2 q1.2))
theorem vX8_windsBut_5 {ad : Nat → Nat} {Q : Option Value → vMem → Prop} {r : (Int64 × vMem)} {K5 : Int32 → Int64 → Int32 → vMem → Option (Int64 × vMem)} (hK5 : ∀ (l1 : Int32) (l2 : Int64) (l4 : Int32) (σ : vMem), K5 l1 l2 l4 σ = some r → V GM mX8_windsBut ad Q 1 5 [some (.ref (ad 0)), some (.int l1), some (.long l2), none, some (.int l4)] [] σ) {l1 : Int32} {l2 : Int64} {l4 : Int32} {σ : vMem} (h : fX8_windsBut_5 K5 l1 l2 l4 σ = some r) (hQ : Q (some (.long r.1)) r.2) : V GM mX8_windsBut ad Q 1 5 [some (.ref (ad 0)), some (.int l1), some (.long l2), none, some (.int l4)] [] σ := by
  unfold fX8_windsBut_5 at h
  refine V.iload dX8_windsBut_5 rfl ?_
  refine V.aload_n dX8_windsBut_7 rfl ?_
  refine V.get dX8_windsBut_8 flX8_181 nM_0 gM_0 (by decide) (eM_0_13 _ _) ?_
  rcases itc h with ⟨hc, h⟩ | ⟨hc, h⟩
  · refine V.icmp_ge (tgt := 46) dX8_windsBut_11 (by decide) (fun _ => ?_) (fun hn => absurd hc hn)
    refine V.lload_n dX8_windsBut_46 rfl ?_
    obtain rfl := Option.some.inj h
    exact V.lret dX8_windsBut_47 rfl hQ
  · refine V.icmp_ge (tgt := 46) dX8_windsBut_11 (by decide) (fun hn => absurd hn hc) (fun _ => ?_)
    refine V.iload_n dX8_windsBut_14 rfl ?_
    refine V.i2l dX8_windsBut_15 ?_
    refine V.iload dX8_windsBut_16 rfl ?_
    obtain ⟨q1, h1, h⟩ := bdc h
    refine V.callS2 (mc := mX8_isIn) (d' := 0) dX8_windsBut_18 lkX8_196 hfX8_isIn (by decide) (Nat.le_of_ble_eq_true rfl) (Nat.le_of_ble_eq_true rfl) (vX8_isIn h1 ?_)
    rcases itc h with ⟨hc, h⟩ | ⟨hc, h⟩
    · refine V.if_eq (tgt := 28) dX8_windsBut_21 (by decide) (fun _ => ?_) (fun hn => absurd hc hn)
      refine V.lload_n dX8_windsBut_28 rfl ?_
      refine V.aload_n dX8_windsBut_29 rfl ?_
      refine V.get dX8_windsBut_30 flX8_37 nM_0 gM_0 (by decide) (eM_0_14 _ _) ?_
      refine V.iload dX8_windsBut_33 rfl ?_
      obtain ⟨hb, h⟩ := ckn h
      refine V.iald dX8_windsBut_35 nM_10 gM_10 hb ?_
      obtain ⟨q2, h1, h⟩ := bdc h
      refine V.callS2 (mc := mX8_bitsOf) (d' := 0) dX8_windsBut_36 lkX8_200 hfX8_bitsOf (by decide) (Nat.le_of_ble_eq_true rfl) (Nat.le_of_ble_eq_true rfl) (vX8_bitsOf h1 ?_)
      exact V.forget (vX8_windsBut_39 hK5 h hQ) ⟨rfl, ⟨rfl, ⟨rfl, trivial⟩⟩⟩
    · refine V.if_eq (tgt := 28) dX8_windsBut_21 (by decide) (fun hn => absurd hn hc) (fun _ => ?_)
      refine V.lload_n dX8_windsBut_24 rfl ?_
      refine V.goto (tgt := 39) dX8_windsBut_25 (by decide) ?_
      exact V.forget (vX8_windsBut_39 hK5 h hQ) ⟨rfl, ⟨rfl, ⟨rfl, trivial⟩⟩⟩
def LfX8_windsBut_5 : Nat → Int32 → Int64 → Int32 → vMem → Option (Int64 × vMem)
  | 0, _, _, _, _ => none
  | n + 1, l1, l2, l4, σ => fX8_windsBut_5 (LfX8_windsBut_5 n) l1 l2 l4 σ
theorem LvX8_windsBut_5 {ad : Nat → Nat} {Q : Option Value → vMem → Prop} {r : (Int64 × vMem)} (hQ : Q (some (.long r.1)) r.2) : ∀ (n : Nat) (l1 : Int32) (l2 : Int64) (l4 : Int32) (σ : vMem), LfX8_windsBut_5 n l1 l2 l4 σ = some r → V GM mX8_windsBut ad Q 1 5 [some (.ref (ad 0)), some (.int l1), some (.long l2), none, some (.int l4)] [] σ := by
  intro n
  induction n with
  | zero => intro l1 l2 l4 σ h; cases h
  | succ n ih => intro l1 l2 l4 σ h; exact vX8_windsBut_5 ih h hQ
def fX8_windsBut (l1 : Int32) (σ : vMem) : Option (Int64 × vMem) :=
  LfX8_windsBut_5 200 l1 (0 : Int64) (0 : Int32) σ
theorem vX8_windsBut {ad : Nat → Nat} {Q : Option Value → vMem → Prop} {r : (Int64 × vMem)} {l1 : Int32} {σ : vMem} (h : fX8_windsBut l1 σ = some r) (hQ : Q (some (.long r.1)) r.2) : V GM mX8_windsBut ad Q 1 0 [some (.ref (ad 0)), some (.int l1), none, none, none] [] σ := by
  unfold fX8_windsBut at h
  refine V.lconst lc_0 dX8_windsBut_0 ?_
  refine V.lstore_n dX8_windsBut_1 (by decide) rfl ?_
  refine V.iconst ic_0 dX8_windsBut_2 ?_
  refine V.istore dX8_windsBut_3 (by decide) rfl ?_
  exact V.forget (LvX8_windsBut_5 hQ 200 _ _ _ _ h) ⟨rfl, ⟨rfl, ⟨rfl, ⟨rfl, trivial⟩⟩⟩⟩
def fX8_asTold_45 (K20 : Int32 → vMem → Option vMem) (l1 : Int32) (σ : vMem) : Option vMem :=
  K20 (l1 + (1 : Int32)) σ
theorem vX8_asTold_45 {ad : Nat → Nat} {Q : Option Value → vMem → Prop} {r : vMem} {K20 : Int32 → vMem → Option vMem} (hK20 : ∀ (l1 : Int32) (σ : vMem), K20 l1 σ = some r → V GM mX8_asTold ad Q 6 20 [some (.ref (ad 0)), some (.int l1)] [] σ) {l1 : Int32} {σ : vMem} (h : fX8_asTold_45 K20 l1 σ = some r) (hQ : Q none r) : V GM mX8_asTold ad Q 6 45 [some (.ref (ad 0)), some (.int l1)] [] σ := by
  unfold fX8_asTold_45 at h
  refine V.iinc dX8_asTold_45 rfl (ii_1 _) (by decide) rfl ?_
  refine V.goto (tgt := 20) dX8_asTold_48 (by decide) ?_
  exact V.forget (hK20 _ _ h) ⟨rfl, ⟨rfl, trivial⟩⟩
def fX8_asTold_20 (K20 : Int32 → vMem → Option vMem) (l1 : Int32) (σ : vMem) : Option vMem :=
  if (σ.1 0 15) ≤ l1 then (some (vup σ 0 19 (0 : Int32))) else
  (if l1 < 0 ∨ 6 ≤ l1.toNatClampNeg then none else (fX8_bitsOf (σ.2 0 18) (σ.1 11 l1.toNatClampNeg) σ).bind fun q1 => fX8_asTold_45 K20 l1 (vupL q1.2 0 18 q1.1))
theorem vX8_asTold_20 {ad : Nat → Nat} {Q : Option Value → vMem → Prop} {r : vMem} {K20 : Int32 → vMem → Option vMem} (hK20 : ∀ (l1 : Int32) (σ : vMem), K20 l1 σ = some r → V GM mX8_asTold ad Q 6 20 [some (.ref (ad 0)), some (.int l1)] [] σ) {l1 : Int32} {σ : vMem} (h : fX8_asTold_20 K20 l1 σ = some r) (hQ : Q none r) : V GM mX8_asTold ad Q 6 20 [some (.ref (ad 0)), some (.int l1)] [] σ := by
  unfold fX8_asTold_20 at h
  refine V.iload_n dX8_asTold_20 rfl ?_
  refine V.aload_n dX8_asTold_21 rfl ?_
  refine V.get dX8_asTold_22 flX8_184 nM_0 gM_0 (by decide) (eM_0_15 _ _) ?_
  rcases itc h with ⟨hc, h⟩ | ⟨hc, h⟩
  · refine V.icmp_ge (tgt := 51) dX8_asTold_25 (by decide) (fun _ => ?_) (fun hn => absurd hc hn)
    refine V.aload_n dX8_asTold_51 rfl ?_
    refine V.iconst ic_0 dX8_asTold_52 ?_
    refine V.putI dX8_asTold_53 fpX8_215 nM_0 gM_0 (by decide) rfl ?_
    obtain rfl := Option.some.inj h
    exact V.vret dX8_asTold_56 rfl hQ
  · refine V.icmp_ge (tgt := 51) dX8_asTold_25 (by decide) (fun hn => absurd hn hc) (fun _ => ?_)
    refine V.aload_n dX8_asTold_28 rfl ?_
    refine V.aload_n dX8_asTold_29 rfl ?_
    refine V.get dX8_asTold_30 flX8_212 nM_0 gM_0 (by decide) (eM_0_18 _ _) ?_
    refine V.aload_n dX8_asTold_33 rfl ?_
    refine V.get dX8_asTold_34 flX8_40 nM_0 gM_0 (by decide) (eM_0_16 _ _) ?_
    refine V.iload_n dX8_asTold_37 rfl ?_
    obtain ⟨hb, h⟩ := ckn h
    refine V.iald dX8_asTold_38 nM_11 gM_11 hb ?_
    obtain ⟨q1, h1, h⟩ := bdc h
    refine V.callS2 (mc := mX8_bitsOf) (d' := 0) dX8_asTold_39 lkX8_200 hfX8_bitsOf (by decide) (Nat.le_of_ble_eq_true rfl) (Nat.le_of_ble_eq_true rfl) (vX8_bitsOf h1 ?_)
    refine V.putL dX8_asTold_42 fpX8_212 nM_0 gM_0 (by decide) rfl ?_
    exact V.forget (vX8_asTold_45 hK20 h hQ) ⟨rfl, ⟨rfl, trivial⟩⟩
def LfX8_asTold_20 : Nat → Int32 → vMem → Option vMem
  | 0, _, _ => none
  | n + 1, l1, σ => fX8_asTold_20 (LfX8_asTold_20 n) l1 σ
theorem LvX8_asTold_20 {ad : Nat → Nat} {Q : Option Value → vMem → Prop} {r : vMem} (hQ : Q none r) : ∀ (n : Nat) (l1 : Int32) (σ : vMem), LfX8_asTold_20 n l1 σ = some r → V GM mX8_asTold ad Q 6 20 [some (.ref (ad 0)), some (.int l1)] [] σ := by
  intro n
  induction n with
  | zero => intro l1 σ h; cases h
  | succ n ih => intro l1 σ h; exact vX8_asTold_20 ih h hQ
def fX8_asTold_18 (σ : vMem) : Option vMem :=
  LfX8_asTold_20 200 (0 : Int32) σ
theorem vX8_asTold_18 {ad : Nat → Nat} {Q : Option Value → vMem → Prop} {r : vMem} {σ : vMem} (h : fX8_asTold_18 σ = some r) (hQ : Q none r) : V GM mX8_asTold ad Q 6 18 [some (.ref (ad 0)), none] [] σ := by
  unfold fX8_asTold_18 at h
  refine V.iconst ic_0 dX8_asTold_18 ?_
  refine V.istore_n dX8_asTold_19 (by decide) rfl ?_
  exact V.forget (LvX8_asTold_20 hQ 200 _ _ h) ⟨rfl, ⟨rfl, trivial⟩⟩
def fX8_asTold_13 (σ : vMem) : Option vMem :=
  fX8_asTold_18 (vupL σ 0 18 (0 : Int64))
theorem vX8_asTold_13 {ad : Nat → Nat} {Q : Option Value → vMem → Prop} {r : vMem} {σ : vMem} (h : fX8_asTold_13 σ = some r) (hQ : Q none r) : V GM mX8_asTold ad Q 6 13 [some (.ref (ad 0)), none] [] σ := by
  unfold fX8_asTold_13 at h
  refine V.aload_n dX8_asTold_13 rfl ?_
  refine V.lconst lc_0 dX8_asTold_14 ?_
  refine V.putL dX8_asTold_15 fpX8_212 nM_0 gM_0 (by decide) rfl ?_
  exact V.forget (vX8_asTold_18 h hQ) ⟨rfl, trivial⟩
def fX8_asTold (σ : vMem) : Option vMem :=
  (fX8_reads σ).bind fun q1 => (fX8_windsBut (0 : Int32) q1).bind fun q2 => fX8_asTold_13 (vupL q2.2 0 17 q2.1)
theorem vX8_asTold {ad : Nat → Nat} {Q : Option Value → vMem → Prop} {r : vMem} {σ : vMem} (h : fX8_asTold σ = some r) (hQ : Q none r) : V GM mX8_asTold ad Q 6 0 [some (.ref (ad 0)), none] [] σ := by
  unfold fX8_asTold at h
  refine V.aload_n dX8_asTold_0 rfl ?_
  obtain ⟨q1, h1, h⟩ := bdc h
  refine V.callV0 (mc := mX8_reads) (d' := 5) dX8_asTold_1 lkX8_163 hfX8_reads nM_0 gM_0 rfl (by decide) (Nat.le_of_ble_eq_true rfl) (Nat.le_of_ble_eq_true rfl) (vX8_reads h1 ?_)
  refine V.aload_n dX8_asTold_4 rfl ?_
  refine V.aload_n dX8_asTold_5 rfl ?_
  refine V.iconst ic_0 dX8_asTold_6 ?_
  obtain ⟨q2, h1, h⟩ := bdc h
  refine V.callV1 (mc := mX8_windsBut) (d' := 1) dX8_asTold_7 lkX8_204 hfX8_windsBut nM_0 gM_0 rfl (by decide) (Nat.le_of_ble_eq_true rfl) (Nat.le_of_ble_eq_true rfl) (vX8_windsBut h1 ?_)
  refine V.putL dX8_asTold_10 fpX8_208 nM_0 gM_0 (by decide) rfl ?_
  exact V.forget (vX8_asTold_13 h hQ) ⟨rfl, trivial⟩
def fX8_wears_86 (σ : vMem) : Option vMem :=
  some σ
theorem vX8_wears_86 {ad : Nat → Nat} {Q : Option Value → vMem → Prop} {r : vMem} {σ : vMem} (h : fX8_wears_86 σ = some r) (hQ : Q none r) : V GM mX8_wears ad Q 0 86 [none, none, none] [] σ := by
  unfold fX8_wears_86 at h
  obtain rfl := Option.some.inj h
  exact V.vret dX8_wears_86 rfl hQ
def fX8_wears_80 (K46 : Int32 → Int32 → vMem → Option vMem) (l1 : Int32) (l2 : Int32) (σ : vMem) : Option vMem :=
  K46 l1 (l2 + (1 : Int32)) σ
theorem vX8_wears_80 {ad : Nat → Nat} {Q : Option Value → vMem → Prop} {r : vMem} {K46 : Int32 → Int32 → vMem → Option vMem} (hK46 : ∀ (l1 : Int32) (l2 : Int32) (σ : vMem), K46 l1 l2 σ = some r → V GM mX8_wears ad Q 0 46 [some (.ref (ad 0)), some (.int l1), some (.int l2)] [] σ) {l1 : Int32} {l2 : Int32} {σ : vMem} (h : fX8_wears_80 K46 l1 l2 σ = some r) (hQ : Q none r) : V GM mX8_wears ad Q 0 80 [some (.ref (ad 0)), some (.int l1), some (.int l2)] [] σ := by
  unfold fX8_wears_80 at h
  refine V.iinc dX8_wears_80 rfl (ii_1 _) (by decide) rfl ?_
  refine V.goto (tgt := 46) dX8_wears_83 (by decide) ?_
  exact V.forget (hK46 _ _ _ h) ⟨rfl, ⟨rfl, ⟨rfl, trivial⟩⟩⟩
def fX8_wears_46 (K46 : Int32 → Int32 → vMem → Option vMem) (l1 : Int32) (l2 : Int32) (σ : vMem) : Option vMem :=
  if l1 < 0 ∨ 8 ≤ l1.toNatClampNeg then none else if (σ.1 14 l1.toNatClampNeg) ≤ l2 then (fX8_wears_86 σ) else
  (if ((((24 : Int32) * l1) + l2) + (1 : Int32)) < 0 ∨ 192 ≤ ((((24 : Int32) * l1) + l2) + (1 : Int32)).toNatClampNeg then none else if (((24 : Int32) * l1) + l2) < 0 ∨ 192 ≤ (((24 : Int32) * l1) + l2).toNatClampNeg then none else fX8_wears_80 K46 l1 l2 (vup σ 15 (((24 : Int32) * l1) + l2).toNatClampNeg (σ.1 15 ((((24 : Int32) * l1) + l2) + (1 : Int32)).toNatClampNeg)))
theorem vX8_wears_46 {ad : Nat → Nat} {Q : Option Value → vMem → Prop} {r : vMem} {K46 : Int32 → Int32 → vMem → Option vMem} (hK46 : ∀ (l1 : Int32) (l2 : Int32) (σ : vMem), K46 l1 l2 σ = some r → V GM mX8_wears ad Q 0 46 [some (.ref (ad 0)), some (.int l1), some (.int l2)] [] σ) {l1 : Int32} {l2 : Int32} {σ : vMem} (h : fX8_wears_46 K46 l1 l2 σ = some r) (hQ : Q none r) : V GM mX8_wears ad Q 0 46 [some (.ref (ad 0)), some (.int l1), some (.int l2)] [] σ := by
  unfold fX8_wears_46 at h
  refine V.iload_n dX8_wears_46 rfl ?_
  refine V.aload_n dX8_wears_47 rfl ?_
  refine V.get dX8_wears_48 flX8_49 nM_0 gM_0 (by decide) (eM_0_22 _ _) ?_
  refine V.iload_n dX8_wears_51 rfl ?_
  obtain ⟨hb, h⟩ := ckn h
  refine V.iald dX8_wears_52 nM_14 gM_14 hb ?_
  rcases itc h with ⟨hc, h⟩ | ⟨hc, h⟩
  · refine V.icmp_ge (tgt := 86) dX8_wears_53 (by decide) (fun _ => ?_) (fun hn => absurd hc hn)
    exact V.forget (vX8_wears_86 h hQ) trivial
  · refine V.icmp_ge (tgt := 86) dX8_wears_53 (by decide) (fun hn => absurd hn hc) (fun _ => ?_)
    refine V.aload_n dX8_wears_56 rfl ?_
    refine V.get dX8_wears_57 flX8_52 nM_0 gM_0 (by decide) (eM_0_23 _ _) ?_
    refine V.bipush bp_24 dX8_wears_60 ?_
    refine V.iload_n dX8_wears_62 rfl ?_
    refine V.imul dX8_wears_63 ?_
    refine V.iload_n dX8_wears_64 rfl ?_
    refine V.iadd dX8_wears_65 ?_
    refine V.aload_n dX8_wears_66 rfl ?_
    refine V.get dX8_wears_67 flX8_52 nM_0 gM_0 (by decide) (eM_0_23 _ _) ?_
    refine V.bipush bp_24 dX8_wears_70 ?_
    refine V.iload_n dX8_wears_72 rfl ?_
    refine V.imul dX8_wears_73 ?_
    refine V.iload_n dX8_wears_74 rfl ?_
    refine V.iadd dX8_wears_75 ?_
    refine V.iconst ic_1 dX8_wears_76 ?_
    refine V.iadd dX8_wears_77 ?_
    obtain ⟨hb, h⟩ := ckn h
    refine V.iald dX8_wears_78 nM_15 gM_15 hb ?_
    obtain ⟨hb, h⟩ := ckn h
    refine V.iast dX8_wears_79 nM_15 gM_15 hb ?_
    exact V.forget (vX8_wears_80 hK46 h hQ) ⟨rfl, ⟨rfl, ⟨rfl, trivial⟩⟩⟩
def LfX8_wears_46 : Nat → Int32 → Int32 → vMem → Option vMem
  | 0, _, _, _ => none
  | n + 1, l1, l2, σ => fX8_wears_46 (LfX8_wears_46 n) l1 l2 σ
theorem LvX8_wears_46 {ad : Nat → Nat} {Q : Option Value → vMem → Prop} {r : vMem} (hQ : Q none r) : ∀ (n : Nat) (l1 : Int32) (l2 : Int32) (σ : vMem), LfX8_wears_46 n l1 l2 σ = some r → V GM mX8_wears ad Q 0 46 [some (.ref (ad 0)), some (.int l1), some (.int l2)] [] σ := by
  intro n
  induction n with
  | zero => intro l1 l2 σ h; cases h
  | succ n ih => intro l1 l2 σ h; exact vX8_wears_46 ih h hQ
def fX8_wears_44 (l1 : Int32) (σ : vMem) : Option vMem :=
  LfX8_wears_46 200 l1 (0 : Int32) σ
theorem vX8_wears_44 {ad : Nat → Nat} {Q : Option Value → vMem → Prop} {r : vMem} {l1 : Int32} {σ : vMem} (h : fX8_wears_44 l1 σ = some r) (hQ : Q none r) : V GM mX8_wears ad Q 0 44 [some (.ref (ad 0)), some (.int l1), none] [] σ := by
  unfold fX8_wears_44 at h
  refine V.iconst ic_0 dX8_wears_44 ?_
  refine V.istore_n dX8_wears_45 (by decide) rfl ?_
  exact V.forget (LvX8_wears_46 hQ 200 _ _ _ h) ⟨rfl, ⟨rfl, ⟨rfl, trivial⟩⟩⟩
def fX8_wears_10 (l1 : Int32) (σ : vMem) : Option vMem :=
  if l1 < 0 ∨ 8 ≤ l1.toNatClampNeg then none else if (σ.1 0 12) = 0 then none else if ((σ.1 17 l1.toNatClampNeg) - (σ.1 17 l1.toNatClampNeg) / (σ.1 0 12) * (σ.1 0 12)) = 0 then (if l1 < 0 ∨ 8 ≤ l1.toNatClampNeg then none else if (σ.1 14 l1.toNatClampNeg) ≤ (1 : Int32) then (fX8_wears_86 σ) else
  (if l1 < 0 ∨ 8 ≤ l1.toNatClampNeg then none else if l1 < 0 ∨ 8 ≤ l1.toNatClampNeg then none else fX8_wears_44 l1 (vup σ 14 l1.toNatClampNeg ((σ.1 14 l1.toNatClampNeg) - (1 : Int32))))) else
  (fX8_wears_86 σ)
theorem vX8_wears_10 {ad : Nat → Nat} {Q : Option Value → vMem → Prop} {r : vMem} {l1 : Int32} {σ : vMem} (h : fX8_wears_10 l1 σ = some r) (hQ : Q none r) : V GM mX8_wears ad Q 0 10 [some (.ref (ad 0)), some (.int l1), none] [] σ := by
  unfold fX8_wears_10 at h
  refine V.aload_n dX8_wears_10 rfl ?_
  refine V.get dX8_wears_11 flX8_59 nM_0 gM_0 (by decide) (eM_0_25 _ _) ?_
  refine V.iload_n dX8_wears_14 rfl ?_
  obtain ⟨hb, h⟩ := ckn h
  refine V.iald dX8_wears_15 nM_17 gM_17 hb ?_
  refine V.aload_n dX8_wears_16 rfl ?_
  refine V.get dX8_wears_17 flX8_120 nM_0 gM_0 (by decide) (eM_0_12 _ _) ?_
  obtain ⟨hb, h⟩ := ckn h
  refine V.irem hb dX8_wears_20 ?_
  rcases itc h with ⟨hc, h⟩ | ⟨hc, h⟩
  · refine V.if_ne (tgt := 86) dX8_wears_21 (by decide) (fun hn => absurd hc hn) (fun _ => ?_)
    refine V.aload_n dX8_wears_24 rfl ?_
    refine V.get dX8_wears_25 flX8_49 nM_0 gM_0 (by decide) (eM_0_22 _ _) ?_
    refine V.iload_n dX8_wears_28 rfl ?_
    obtain ⟨hb, h⟩ := ckn h
    refine V.iald dX8_wears_29 nM_14 gM_14 hb ?_
    refine V.iconst ic_1 dX8_wears_30 ?_
    rcases itc h with ⟨hc, h⟩ | ⟨hc, h⟩
    · refine V.icmp_le (tgt := 86) dX8_wears_31 (by decide) (fun _ => ?_) (fun hn => absurd hc hn)
      exact V.forget (vX8_wears_86 h hQ) trivial
    · refine V.icmp_le (tgt := 86) dX8_wears_31 (by decide) (fun hn => absurd hn hc) (fun _ => ?_)
      refine V.aload_n dX8_wears_34 rfl ?_
      refine V.get dX8_wears_35 flX8_49 nM_0 gM_0 (by decide) (eM_0_22 _ _) ?_
      refine V.iload_n dX8_wears_38 rfl ?_
      refine V.dup2 rfl rfl dX8_wears_39 ?_
      obtain ⟨hb, h⟩ := ckn h
      refine V.iald dX8_wears_40 nM_14 gM_14 hb ?_
      refine V.iconst ic_1 dX8_wears_41 ?_
      refine V.isub dX8_wears_42 ?_
      obtain ⟨hb, h⟩ := ckn h
      refine V.iast dX8_wears_43 nM_14 gM_14 hb ?_
      exact V.forget (vX8_wears_44 h hQ) ⟨rfl, ⟨rfl, trivial⟩⟩
  · refine V.if_ne (tgt := 86) dX8_wears_21 (by decide) (fun _ => ?_) (fun hn => absurd hn hc)
    exact V.forget (vX8_wears_86 h hQ) trivial
def fX8_wears (l1 : Int32) (σ : vMem) : Option vMem :=
  if l1 < 0 ∨ 8 ≤ l1.toNatClampNeg then none else if l1 < 0 ∨ 8 ≤ l1.toNatClampNeg then none else fX8_wears_10 l1 (vup σ 17 l1.toNatClampNeg ((σ.1 17 l1.toNatClampNeg) + (1 : Int32)))
theorem vX8_wears {ad : Nat → Nat} {Q : Option Value → vMem → Prop} {r : vMem} {l1 : Int32} {σ : vMem} (h : fX8_wears l1 σ = some r) (hQ : Q none r) : V GM mX8_wears ad Q 0 0 [some (.ref (ad 0)), some (.int l1), none] [] σ := by
  unfold fX8_wears at h
  refine V.aload_n dX8_wears_0 rfl ?_
  refine V.get dX8_wears_1 flX8_59 nM_0 gM_0 (by decide) (eM_0_25 _ _) ?_
  refine V.iload_n dX8_wears_4 rfl ?_
  refine V.dup2 rfl rfl dX8_wears_5 ?_
  obtain ⟨hb, h⟩ := ckn h
  refine V.iald dX8_wears_6 nM_17 gM_17 hb ?_
  refine V.iconst ic_1 dX8_wears_7 ?_
  refine V.iadd dX8_wears_8 ?_
  obtain ⟨hb, h⟩ := ckn h
  refine V.iast dX8_wears_9 nM_17 gM_17 hb ?_
  exact V.forget (vX8_wears_10 h hQ) ⟨rfl, ⟨rfl, trivial⟩⟩
def fX8_goesUp_93 (σ : vMem) : Option vMem :=
  some σ
theorem vX8_goesUp_93 {ad : Nat → Nat} {Q : Option Value → vMem → Prop} {r : vMem} {σ : vMem} (h : fX8_goesUp_93 σ = some r) (hQ : Q none r) : V GM mX8_goesUp ad Q 1 93 [none, none, none, none] [] σ := by
  unfold fX8_goesUp_93 at h
  obtain rfl := Option.some.inj h
  exact V.vret dX8_goesUp_93 rfl hQ
def fX8_goesUp_92 (s1 : Int32) (s2 : Int32) (σ : vMem) : Option vMem :=
  if s1 < 0 ∨ 8 ≤ s1.toNatClampNeg then none else fX8_goesUp_93 (vup σ 18 s1.toNatClampNeg s2)
theorem vX8_goesUp_92 {ad : Nat → Nat} {Q : Option Value → vMem → Prop} {r : vMem} {s1 : Int32} {s2 : Int32} {σ : vMem} (h : fX8_goesUp_92 s1 s2 σ = some r) (hQ : Q none r) : V GM mX8_goesUp ad Q 1 92 [none, none, none, none] [.int s2, .int s1, .ref (ad 18)] σ := by
  unfold fX8_goesUp_92 at h
  obtain ⟨hb, h⟩ := ckn h
  refine V.iast dX8_goesUp_92 nM_18 gM_18 hb ?_
  exact V.forget (vX8_goesUp_93 h hQ) trivial
def fX8_goesUp_62 (l1 : Int32) (l2 : Int32) (σ : vMem) : Option vMem :=
  (fX8_wears l1 σ).bind fun q1 => if l1 < 0 ∨ 8 ≤ l1.toNatClampNeg then none else if (q1.1 12 l1.toNatClampNeg) = (q1.1 0 2) then (fX8_goesUp_92 l1 (l2 + (1 : Int32)) q1) else
  (fX8_goesUp_92 l1 (-1 : Int32) q1)
theorem vX8_goesUp_62 {ad : Nat → Nat} {Q : Option Value → vMem → Prop} {r : vMem} {l1 : Int32} {l2 : Int32} {σ : vMem} (h : fX8_goesUp_62 l1 l2 σ = some r) (hQ : Q none r) : V GM mX8_goesUp ad Q 1 62 [some (.ref (ad 0)), some (.int l1), some (.int l2), none] [] σ := by
  unfold fX8_goesUp_62 at h
  refine V.aload_n dX8_goesUp_62 rfl ?_
  refine V.iload_n dX8_goesUp_63 rfl ?_
  obtain ⟨q1, h1, h⟩ := bdc h
  refine V.callV1 (mc := mX8_wears) (d' := 0) dX8_goesUp_64 lkX8_224 hfX8_wears nM_0 gM_0 rfl (by decide) (Nat.le_of_ble_eq_true rfl) (Nat.le_of_ble_eq_true rfl) (vX8_wears h1 ?_)
  refine V.aload_n dX8_goesUp_67 rfl ?_
  refine V.get dX8_goesUp_68 flX8_62 nM_0 gM_0 (by decide) (eM_0_26 _ _) ?_
  refine V.iload_n dX8_goesUp_71 rfl ?_
  refine V.aload_n dX8_goesUp_72 rfl ?_
  refine V.get dX8_goesUp_73 flX8_43 nM_0 gM_0 (by decide) (eM_0_20 _ _) ?_
  refine V.iload_n dX8_goesUp_76 rfl ?_
  obtain ⟨hb, h⟩ := ckn h
  refine V.iald dX8_goesUp_77 nM_12 gM_12 hb ?_
  refine V.aload_n dX8_goesUp_78 rfl ?_
  refine V.get dX8_goesUp_79 flX8_144 nM_0 gM_0 (by decide) (eM_0_2 _ _) ?_
  rcases itc h with ⟨hc, h⟩ | ⟨hc, h⟩
  · refine V.icmp_ne (tgt := 91) dX8_goesUp_82 (by decide) (fun hn => absurd hc hn) (fun _ => ?_)
    refine V.iload_n dX8_goesUp_85 rfl ?_
    refine V.iconst ic_1 dX8_goesUp_86 ?_
    refine V.iadd dX8_goesUp_87 ?_
    refine V.goto (tgt := 92) dX8_goesUp_88 (by decide) ?_
    exact V.forget (vX8_goesUp_92 h hQ) trivial
  · refine V.icmp_ne (tgt := 91) dX8_goesUp_82 (by decide) (fun _ => ?_) (fun hn => absurd hn hc)
    refine V.iconst ic_m1 dX8_goesUp_91 ?_
    exact V.forget (vX8_goesUp_92 h hQ) trivial
def fX8_goesUp_48 (l1 : Int32) (l2 : Int32) (l3 : Int32) (σ : vMem) : Option vMem :=
  if l3 = 0 then (if l1 < 0 ∨ 8 ≤ l1.toNatClampNeg then none else if l1 < 0 ∨ 8 ≤ l1.toNatClampNeg then none else fX8_goesUp_62 l1 l2 (vup σ 12 l1.toNatClampNeg ((σ.1 12 l1.toNatClampNeg) + (1 : Int32)))) else
  (fX8_goesUp_93 σ)
theorem vX8_goesUp_48 {ad : Nat → Nat} {Q : Option Value → vMem → Prop} {r : vMem} {l1 : Int32} {l2 : Int32} {l3 : Int32} {σ : vMem} (h : fX8_goesUp_48 l1 l2 l3 σ = some r) (hQ : Q none r) : V GM mX8_goesUp ad Q 1 48 [some (.ref (ad 0)), some (.int l1), some (.int l2), some (.int l3)] [] σ := by
  unfold fX8_goesUp_48 at h
  refine V.iload_n dX8_goesUp_48 rfl ?_
  rcases itc h with ⟨hc, h⟩ | ⟨hc, h⟩
  · refine V.if_ne (tgt := 93) dX8_goesUp_49 (by decide) (fun hn => absurd hc hn) (fun _ => ?_)
    refine V.aload_n dX8_goesUp_52 rfl ?_
    refine V.get dX8_goesUp_53 flX8_43 nM_0 gM_0 (by decide) (eM_0_20 _ _) ?_
    refine V.iload_n dX8_goesUp_56 rfl ?_
    refine V.dup2 rfl rfl dX8_goesUp_57 ?_
    obtain ⟨hb, h⟩ := ckn h
    refine V.iald dX8_goesUp_58 nM_12 gM_12 hb ?_
    refine V.iconst ic_1 dX8_goesUp_59 ?_
    refine V.iadd dX8_goesUp_60 ?_
    obtain ⟨hb, h⟩ := ckn h
    refine V.iast dX8_goesUp_61 nM_12 gM_12 hb ?_
    exact V.forget (vX8_goesUp_62 h hQ) ⟨rfl, ⟨rfl, ⟨rfl, trivial⟩⟩⟩
  · refine V.if_ne (tgt := 93) dX8_goesUp_49 (by decide) (fun _ => ?_) (fun hn => absurd hn hc)
    exact V.forget (vX8_goesUp_93 h hQ) trivial
def fX8_goesUp_40 (l1 : Int32) (l2 : Int32) (s0 : Int32) (σ : vMem) : Option vMem :=
  if l1 < 0 ∨ 8 ≤ l1.toNatClampNeg then none else if ¬ (s0 = 0 ∨ s0 = 1) then none else fX8_goesUp_48 l1 l2 s0 (vup σ 16 l1.toNatClampNeg s0)
theorem vX8_goesUp_40 {ad : Nat → Nat} {Q : Option Value → vMem → Prop} {r : vMem} {l1 : Int32} {l2 : Int32} {s0 : Int32} {σ : vMem} (h : fX8_goesUp_40 l1 l2 s0 σ = some r) (hQ : Q none r) : V GM mX8_goesUp ad Q 1 40 [some (.ref (ad 0)), some (.int l1), some (.int l2), none] [.int s0] σ := by
  unfold fX8_goesUp_40 at h
  refine V.istore_n dX8_goesUp_40 (by decide) rfl ?_
  refine V.aload_n dX8_goesUp_41 rfl ?_
  refine V.get dX8_goesUp_42 flX8_55 nM_0 gM_0 (by decide) (eM_0_24 _ _) ?_
  refine V.iload_n dX8_goesUp_45 rfl ?_
  refine V.iload_n dX8_goesUp_46 rfl ?_
  obtain ⟨hb, h⟩ := ckn h
  obtain ⟨hz, h⟩ := ckn h
  refine V.zast dX8_goesUp_47 nM_16 gM_16 hb (Decidable.not_not.mp hz) ?_
  exact V.forget (vX8_goesUp_48 h hQ) ⟨rfl, ⟨rfl, ⟨rfl, ⟨rfl, trivial⟩⟩⟩⟩
def fX8_goesUp_39 (l1 : Int32) (l2 : Int32) (σ : vMem) : Option vMem :=
  fX8_goesUp_40 l1 l2 (0 : Int32) σ
theorem vX8_goesUp_39 {ad : Nat → Nat} {Q : Option Value → vMem → Prop} {r : vMem} {l1 : Int32} {l2 : Int32} {σ : vMem} (h : fX8_goesUp_39 l1 l2 σ = some r) (hQ : Q none r) : V GM mX8_goesUp ad Q 1 39 [some (.ref (ad 0)), some (.int l1), some (.int l2), none] [] σ := by
  unfold fX8_goesUp_39 at h
  refine V.iconst ic_0 dX8_goesUp_39 ?_
  exact V.forget (vX8_goesUp_40 h hQ) ⟨rfl, ⟨rfl, ⟨rfl, trivial⟩⟩⟩
def fX8_goesUp (l1 : Int32) (l2 : Int32) (σ : vMem) : Option vMem :=
  if l1 < 0 ∨ 8 ≤ l1.toNatClampNeg then none else if (σ.1 12 l1.toNatClampNeg) < 0 ∨ 10 ≤ (σ.1 12 l1.toNatClampNeg).toNatClampNeg then none else if (σ.1 3 (σ.1 12 l1.toNatClampNeg).toNatClampNeg) = (2 : Int32) then (if l1 < 0 ∨ 8 ≤ l1.toNatClampNeg then none else if (σ.1 16 l1.toNatClampNeg) = 0 then ((fX8_isIn (σ.2 0 18) l2 σ).bind fun q1 => if q1.1 = 0 then (fX8_goesUp_40 l1 l2 (1 : Int32) q1.2) else
  (fX8_goesUp_39 l1 l2 q1.2)) else
  (fX8_goesUp_39 l1 l2 σ)) else
  (fX8_goesUp_39 l1 l2 σ)
theorem vX8_goesUp {ad : Nat → Nat} {Q : Option Value → vMem → Prop} {r : vMem} {l1 : Int32} {l2 : Int32} {σ : vMem} (h : fX8_goesUp l1 l2 σ = some r) (hQ : Q none r) : V GM mX8_goesUp ad Q 1 0 [some (.ref (ad 0)), some (.int l1), some (.int l2), none] [] σ := by
  unfold fX8_goesUp at h
  refine V.aload_n dX8_goesUp_0 rfl ?_
  refine V.get dX8_goesUp_1 flX8_16 nM_0 gM_0 (by decide) (eM_0_3 _ _) ?_
  refine V.aload_n dX8_goesUp_4 rfl ?_
  refine V.get dX8_goesUp_5 flX8_43 nM_0 gM_0 (by decide) (eM_0_20 _ _) ?_
  refine V.iload_n dX8_goesUp_8 rfl ?_
  obtain ⟨hb, h⟩ := ckn h
  refine V.iald dX8_goesUp_9 nM_12 gM_12 hb ?_
  obtain ⟨hb, h⟩ := ckn h
  refine V.iald dX8_goesUp_10 nM_3 gM_3 hb ?_
  refine V.iconst ic_2 dX8_goesUp_11 ?_
  rcases itc h with ⟨hc, h⟩ | ⟨hc, h⟩
  · refine V.icmp_ne (tgt := 39) dX8_goesUp_12 (by decide) (fun hn => absurd hc hn) (fun _ => ?_)
    refine V.aload_n dX8_goesUp_15 rfl ?_
    refine V.get dX8_goesUp_16 flX8_55 nM_0 gM_0 (by decide) (eM_0_24 _ _) ?_
    refine V.iload_n dX8_goesUp_19 rfl ?_
    obtain ⟨hb, h⟩ := ckn h
    refine V.zald dX8_goesUp_20 nM_16 gM_16 hb ?_
    rcases itc h with ⟨hc, h⟩ | ⟨hc, h⟩
    · refine V.if_ne (tgt := 39) dX8_goesUp_21 (by decide) (fun hn => absurd hc hn) (fun _ => ?_)
      refine V.aload_n dX8_goesUp_24 rfl ?_
      refine V.get dX8_goesUp_25 flX8_212 nM_0 gM_0 (by decide) (eM_0_18 _ _) ?_
      refine V.iload_n dX8_goesUp_28 rfl ?_
      obtain ⟨q1, h1, h⟩ := bdc h
      refine V.callS2 (mc := mX8_isIn) (d' := 0) dX8_goesUp_29 lkX8_196 hfX8_isIn (by decide) (Nat.le_of_ble_eq_true rfl) (Nat.le_of_ble_eq_true rfl) (vX8_isIn h1 ?_)
      rcases itc h with ⟨hc, h⟩ | ⟨hc, h⟩
      · refine V.if_ne (tgt := 39) dX8_goesUp_32 (by decide) (fun hn => absurd hc hn) (fun _ => ?_)
        refine V.iconst ic_1 dX8_goesUp_35 ?_
        refine V.goto (tgt := 40) dX8_goesUp_36 (by decide) ?_
        exact V.forget (vX8_goesUp_40 h hQ) ⟨rfl, ⟨rfl, ⟨rfl, trivial⟩⟩⟩
      · refine V.if_ne (tgt := 39) dX8_goesUp_32 (by decide) (fun _ => ?_) (fun hn => absurd hn hc)
        exact V.forget (vX8_goesUp_39 h hQ) ⟨rfl, ⟨rfl, ⟨rfl, trivial⟩⟩⟩
    · refine V.if_ne (tgt := 39) dX8_goesUp_21 (by decide) (fun _ => ?_) (fun hn => absurd hn hc)
      exact V.forget (vX8_goesUp_39 h hQ) ⟨rfl, ⟨rfl, ⟨rfl, trivial⟩⟩⟩
  · refine V.icmp_ne (tgt := 39) dX8_goesUp_12 (by decide) (fun _ => ?_) (fun hn => absurd hn hc)
    exact V.forget (vX8_goesUp_39 h hQ) ⟨rfl, ⟨rfl, ⟨rfl, trivial⟩⟩⟩
def fX8_takes_78 (σ : vMem) : Option vMem :=
  some σ
theorem vX8_takes_78 {ad : Nat → Nat} {Q : Option Value → vMem → Prop} {r : vMem} {σ : vMem} (h : fX8_takes_78 σ = some r) (hQ : Q none r) : V GM mX8_takes ad Q 1 78 [none, none, none, none, none, none] [] σ := by
  unfold fX8_takes_78 at h
  obtain rfl := Option.some.inj h
  exact V.vret dX8_takes_78 rfl hQ
def fX8_takes_250 (σ : vMem) : Option vMem :=
  some σ
theorem vX8_takes_250 {ad : Nat → Nat} {Q : Option Value → vMem → Prop} {r : vMem} {σ : vMem} (h : fX8_takes_250 σ = some r) (hQ : Q none r) : V GM mX8_takes ad Q 1 250 [none, none, none, none, none, none] [] σ := by
  unfold fX8_takes_250 at h
  obtain rfl := Option.some.inj h
  exact V.vret dX8_takes_250 rfl hQ
def fX8_takes_240 (l1 : Int32) (σ : vMem) : Option vMem :=
  if l1 < 0 ∨ 8 ≤ l1.toNatClampNeg then none else if l1 < 0 ∨ 8 ≤ l1.toNatClampNeg then none else fX8_takes_250 (vup σ 14 l1.toNatClampNeg ((σ.1 14 l1.toNatClampNeg) + (1 : Int32)))
theorem vX8_takes_240 {ad : Nat → Nat} {Q : Option Value → vMem → Prop} {r : vMem} {l1 : Int32} {σ : vMem} (h : fX8_takes_240 l1 σ = some r) (hQ : Q none r) : V GM mX8_takes ad Q 1 240 [some (.ref (ad 0)), some (.int l1), none, none, none, none] [] σ := by
  unfold fX8_takes_240 at h
  refine V.aload_n dX8_takes_240 rfl ?_
  refine V.get dX8_takes_241 flX8_49 nM_0 gM_0 (by decide) (eM_0_22 _ _) ?_
  refine V.iload_n dX8_takes_244 rfl ?_
  refine V.dup2 rfl rfl dX8_takes_245 ?_
  obtain ⟨hb, h⟩ := ckn h
  refine V.iald dX8_takes_246 nM_14 gM_14 hb ?_
  refine V.iconst ic_1 dX8_takes_247 ?_
  refine V.iadd dX8_takes_248 ?_
  obtain ⟨hb, h⟩ := ckn h
  refine V.iast dX8_takes_249 nM_14 gM_14 hb ?_
  exact V.forget (vX8_takes_250 h hQ) trivial
def fX8_takes_190 (l1 : Int32) (l2 : Int32) (σ : vMem) : Option vMem :=
  if l2 < 0 ∨ 10 ≤ l2.toNatClampNeg then none else if (σ.1 3 l2.toNatClampNeg) = (1 : Int32) then (if l2 < 0 ∨ 10 ≤ l2.toNatClampNeg then none else if ((24 : Int32) * l1) < 0 ∨ 192 ≤ ((24 : Int32) * l1).toNatClampNeg then none else fX8_takes_250 (vup σ 15 ((24 : Int32) * l1).toNatClampNeg (σ.1 5 l2.toNatClampNeg))) else
  (if l1 < 0 ∨ 8 ≤ l1.toNatClampNeg then none else if l2 < 0 ∨ 10 ≤ l2.toNatClampNeg then none else if (((24 : Int32) * l1) + (σ.1 14 l1.toNatClampNeg)) < 0 ∨ 192 ≤ (((24 : Int32) * l1) + (σ.1 14 l1.toNatClampNeg)).toNatClampNeg then none else fX8_takes_240 l1 (vup σ 15 (((24 : Int32) * l1) + (σ.1 14 l1.toNatClampNeg)).toNatClampNeg (σ.1 5 l2.toNatClampNeg)))
theorem vX8_takes_190 {ad : Nat → Nat} {Q : Option Value → vMem → Prop} {r : vMem} {l1 : Int32} {l2 : Int32} {σ : vMem} (h : fX8_takes_190 l1 l2 σ = some r) (hQ : Q none r) : V GM mX8_takes ad Q 1 190 [some (.ref (ad 0)), some (.int l1), some (.int l2), none, none, none] [] σ := by
  unfold fX8_takes_190 at h
  refine V.aload_n dX8_takes_190 rfl ?_
  refine V.get dX8_takes_191 flX8_16 nM_0 gM_0 (by decide) (eM_0_3 _ _) ?_
  refine V.iload_n dX8_takes_194 rfl ?_
  obtain ⟨hb, h⟩ := ckn h
  refine V.iald dX8_takes_195 nM_3 gM_3 hb ?_
  refine V.iconst ic_1 dX8_takes_196 ?_
  rcases itc h with ⟨hc, h⟩ | ⟨hc, h⟩
  · refine V.icmp_ne (tgt := 218) dX8_takes_197 (by decide) (fun hn => absurd hc hn) (fun _ => ?_)
    refine V.aload_n dX8_takes_200 rfl ?_
    refine V.get dX8_takes_201 flX8_52 nM_0 gM_0 (by decide) (eM_0_23 _ _) ?_
    refine V.bipush bp_24 dX8_takes_204 ?_
    refine V.iload_n dX8_takes_206 rfl ?_
    refine V.imul dX8_takes_207 ?_
    refine V.aload_n dX8_takes_208 rfl ?_
    refine V.get dX8_takes_209 flX8_22 nM_0 gM_0 (by decide) (eM_0_5 _ _) ?_
    refine V.iload_n dX8_takes_212 rfl ?_
    obtain ⟨hb, h⟩ := ckn h
    refine V.iald dX8_takes_213 nM_5 gM_5 hb ?_
    obtain ⟨hb, h⟩ := ckn h
    refine V.iast dX8_takes_214 nM_15 gM_15 hb ?_
    refine V.goto (tgt := 250) dX8_takes_215 (by decide) ?_
    exact V.forget (vX8_takes_250 h hQ) trivial
  · refine V.icmp_ne (tgt := 218) dX8_takes_197 (by decide) (fun _ => ?_) (fun hn => absurd hn hc)
    refine V.aload_n dX8_takes_218 rfl ?_
    refine V.get dX8_takes_219 flX8_52 nM_0 gM_0 (by decide) (eM_0_23 _ _) ?_
    refine V.bipush bp_24 dX8_takes_222 ?_
    refine V.iload_n dX8_takes_224 rfl ?_
    refine V.imul dX8_takes_225 ?_
    refine V.aload_n dX8_takes_226 rfl ?_
    refine V.get dX8_takes_227 flX8_49 nM_0 gM_0 (by decide) (eM_0_22 _ _) ?_
    refine V.iload_n dX8_takes_230 rfl ?_
    obtain ⟨hb, h⟩ := ckn h
    refine V.iald dX8_takes_231 nM_14 gM_14 hb ?_
    refine V.iadd dX8_takes_232 ?_
    refine V.aload_n dX8_takes_233 rfl ?_
    refine V.get dX8_takes_234 flX8_22 nM_0 gM_0 (by decide) (eM_0_5 _ _) ?_
    refine V.iload_n dX8_takes_237 rfl ?_
    obtain ⟨hb, h⟩ := ckn h
    refine V.iald dX8_takes_238 nM_5 gM_5 hb ?_
    obtain ⟨hb, h⟩ := ckn h
    refine V.iast dX8_takes_239 nM_15 gM_15 hb ?_
    exact V.forget (vX8_takes_240 h hQ) ⟨rfl, ⟨rfl, trivial⟩⟩
def fX8_takes_187 (l1 : Int32) (l2 : Int32) (s1 : Int32) (σ : vMem) : Option vMem :=
  fX8_takes_190 l1 l2 (vup σ 0 30 s1)
theorem vX8_takes_187 {ad : Nat → Nat} {Q : Option Value → vMem → Prop} {r : vMem} {l1 : Int32} {l2 : Int32} {s1 : Int32} {σ : vMem} (h : fX8_takes_187 l1 l2 s1 σ = some r) (hQ : Q none r) : V GM mX8_takes ad Q 1 187 [some (.ref (ad 0)), some (.int l1), some (.int l2), none, none, none] [.int s1, .ref (ad 0)] σ := by
  unfold fX8_takes_187 at h
  refine V.putI dX8_takes_187 fpX8_218 nM_0 gM_0 (by decide) rfl ?_
  exact V.forget (vX8_takes_190 h hQ) ⟨rfl, ⟨rfl, ⟨rfl, trivial⟩⟩⟩
def fX8_takes_170 (l1 : Int32) (l2 : Int32) (l3 : Int32) (σ : vMem) : Option vMem :=
  if (σ.1 0 30) = (-1 : Int32) then (fX8_takes_187 l1 l2 l3 σ) else
  (fX8_takes_187 l1 l2 (σ.1 0 30) σ)
theorem vX8_takes_170 {ad : Nat → Nat} {Q : Option Value → vMem → Prop} {r : vMem} {l1 : Int32} {l2 : Int32} {l3 : Int32} {σ : vMem} (h : fX8_takes_170 l1 l2 l3 σ = some r) (hQ : Q none r) : V GM mX8_takes ad Q 1 170 [some (.ref (ad 0)), some (.int l1), some (.int l2), some (.int l3), none, none] [] σ := by
  unfold fX8_takes_170 at h
  refine V.aload_n dX8_takes_170 rfl ?_
  refine V.aload_n dX8_takes_171 rfl ?_
  refine V.get dX8_takes_172 flX8_218 nM_0 gM_0 (by decide) (eM_0_30 _ _) ?_
  refine V.iconst ic_m1 dX8_takes_175 ?_
  rcases itc h with ⟨hc, h⟩ | ⟨hc, h⟩
  · refine V.icmp_ne (tgt := 183) dX8_takes_176 (by decide) (fun hn => absurd hc hn) (fun _ => ?_)
    refine V.iload_n dX8_takes_179 rfl ?_
    refine V.goto (tgt := 187) dX8_takes_180 (by decide) ?_
    exact V.forget (vX8_takes_187 h hQ) ⟨rfl, ⟨rfl, ⟨rfl, trivial⟩⟩⟩
  · refine V.icmp_ne (tgt := 183) dX8_takes_176 (by decide) (fun _ => ?_) (fun hn => absurd hn hc)
    refine V.aload_n dX8_takes_183 rfl ?_
    refine V.get dX8_takes_184 flX8_218 nM_0 gM_0 (by decide) (eM_0_30 _ _) ?_
    exact V.forget (vX8_takes_187 h hQ) ⟨rfl, ⟨rfl, ⟨rfl, trivial⟩⟩⟩
def fX8_takes_167 (l1 : Int32) (l2 : Int32) (l3 : Int32) (s1 : Int32) (σ : vMem) : Option vMem :=
  fX8_takes_170 l1 l2 l3 (vup σ 0 31 s1)
theorem vX8_takes_167 {ad : Nat → Nat} {Q : Option Value → vMem → Prop} {r : vMem} {l1 : Int32} {l2 : Int32} {l3 : Int32} {s1 : Int32} {σ : vMem} (h : fX8_takes_167 l1 l2 l3 s1 σ = some r) (hQ : Q none r) : V GM mX8_takes ad Q 1 167 [some (.ref (ad 0)), some (.int l1), some (.int l2), some (.int l3), none, none] [.int s1, .ref (ad 0)] σ := by
  unfold fX8_takes_167 at h
  refine V.putI dX8_takes_167 fpX8_221 nM_0 gM_0 (by decide) rfl ?_
  exact V.forget (vX8_takes_170 h hQ) ⟨rfl, ⟨rfl, ⟨rfl, ⟨rfl, trivial⟩⟩⟩⟩
def fX8_takes_150 (l1 : Int32) (l2 : Int32) (l3 : Int32) (σ : vMem) : Option vMem :=
  if (σ.1 0 30) = (-1 : Int32) then (fX8_takes_167 l1 l2 l3 l2 σ) else
  (fX8_takes_167 l1 l2 l3 (σ.1 0 31) σ)
theorem vX8_takes_150 {ad : Nat → Nat} {Q : Option Value → vMem → Prop} {r : vMem} {l1 : Int32} {l2 : Int32} {l3 : Int32} {σ : vMem} (h : fX8_takes_150 l1 l2 l3 σ = some r) (hQ : Q none r) : V GM mX8_takes ad Q 1 150 [some (.ref (ad 0)), some (.int l1), some (.int l2), some (.int l3), none, none] [] σ := by
  unfold fX8_takes_150 at h
  refine V.aload_n dX8_takes_150 rfl ?_
  refine V.aload_n dX8_takes_151 rfl ?_
  refine V.get dX8_takes_152 flX8_218 nM_0 gM_0 (by decide) (eM_0_30 _ _) ?_
  refine V.iconst ic_m1 dX8_takes_155 ?_
  rcases itc h with ⟨hc, h⟩ | ⟨hc, h⟩
  · refine V.icmp_ne (tgt := 163) dX8_takes_156 (by decide) (fun hn => absurd hc hn) (fun _ => ?_)
    refine V.iload_n dX8_takes_159 rfl ?_
    refine V.goto (tgt := 167) dX8_takes_160 (by decide) ?_
    exact V.forget (vX8_takes_167 h hQ) ⟨rfl, ⟨rfl, ⟨rfl, ⟨rfl, trivial⟩⟩⟩⟩
  · refine V.icmp_ne (tgt := 163) dX8_takes_156 (by decide) (fun _ => ?_) (fun hn => absurd hn hc)
    refine V.aload_n dX8_takes_163 rfl ?_
    refine V.get dX8_takes_164 flX8_221 nM_0 gM_0 (by decide) (eM_0_31 _ _) ?_
    exact V.forget (vX8_takes_167 h hQ) ⟨rfl, ⟨rfl, ⟨rfl, ⟨rfl, trivial⟩⟩⟩⟩
def fX8_takes_139 (l1 : Int32) (l2 : Int32) (l3 : Int32) (l5 : Int32) (σ : vMem) : Option vMem :=
  if l2 < 0 ∨ 9 ≤ l2.toNatClampNeg then none else if l2 < 0 ∨ 9 ≤ l2.toNatClampNeg then none else fX8_takes_150 l1 l2 l3 (vup σ 21 l2.toNatClampNeg ((σ.1 21 l2.toNatClampNeg) + l5))
theorem vX8_takes_139 {ad : Nat → Nat} {Q : Option Value → vMem → Prop} {r : vMem} {l1 : Int32} {l2 : Int32} {l3 : Int32} {l5 : Int32} {σ : vMem} (h : fX8_takes_139 l1 l2 l3 l5 σ = some r) (hQ : Q none r) : V GM mX8_takes ad Q 1 139 [some (.ref (ad 0)), some (.int l1), some (.int l2), some (.int l3), none, some (.int l5)] [] σ := by
  unfold fX8_takes_139 at h
  refine V.aload_n dX8_takes_139 rfl ?_
  refine V.get dX8_takes_140 flX8_71 nM_0 gM_0 (by decide) (eM_0_29 _ _) ?_
  refine V.iload_n dX8_takes_143 rfl ?_
  refine V.dup2 rfl rfl dX8_takes_144 ?_
  obtain ⟨hb, h⟩ := ckn h
  refine V.iald dX8_takes_145 nM_21 gM_21 hb ?_
  refine V.iload dX8_takes_146 rfl ?_
  refine V.iadd dX8_takes_148 ?_
  obtain ⟨hb, h⟩ := ckn h
  refine V.iast dX8_takes_149 nM_21 gM_21 hb ?_
  exact V.forget (vX8_takes_150 h hQ) ⟨rfl, ⟨rfl, ⟨rfl, ⟨rfl, trivial⟩⟩⟩⟩
def fX8_takes_129 (l1 : Int32) (l2 : Int32) (l3 : Int32) (l5 : Int32) (σ : vMem) : Option vMem :=
  if l2 < 0 ∨ 9 ≤ l2.toNatClampNeg then none else if l2 < 0 ∨ 9 ≤ l2.toNatClampNeg then none else fX8_takes_139 l1 l2 l3 l5 (vup σ 20 l2.toNatClampNeg ((σ.1 20 l2.toNatClampNeg) + (1 : Int32)))
theorem vX8_takes_129 {ad : Nat → Nat} {Q : Option Value → vMem → Prop} {r : vMem} {l1 : Int32} {l2 : Int32} {l3 : Int32} {l5 : Int32} {σ : vMem} (h : fX8_takes_129 l1 l2 l3 l5 σ = some r) (hQ : Q none r) : V GM mX8_takes ad Q 1 129 [some (.ref (ad 0)), some (.int l1), some (.int l2), some (.int l3), none, some (.int l5)] [] σ := by
  unfold fX8_takes_129 at h
  refine V.aload_n dX8_takes_129 rfl ?_
  refine V.get dX8_takes_130 flX8_68 nM_0 gM_0 (by decide) (eM_0_28 _ _) ?_
  refine V.iload_n dX8_takes_133 rfl ?_
  refine V.dup2 rfl rfl dX8_takes_134 ?_
  obtain ⟨hb, h⟩ := ckn h
  refine V.iald dX8_takes_135 nM_20 gM_20 hb ?_
  refine V.iconst ic_1 dX8_takes_136 ?_
  refine V.iadd dX8_takes_137 ?_
  obtain ⟨hb, h⟩ := ckn h
  refine V.iast dX8_takes_138 nM_20 gM_20 hb ?_
  exact V.forget (vX8_takes_139 h hQ) ⟨rfl, ⟨rfl, ⟨rfl, ⟨rfl, ⟨rfl, trivial⟩⟩⟩⟩⟩
def fX8_takes_122 (l1 : Int32) (l2 : Int32) (l3 : Int32) (l5 : Int32) (σ : vMem) : Option vMem :=
  if l2 < 0 ∨ 9 ≤ l2.toNatClampNeg then none else fX8_takes_129 l1 l2 l3 l5 (vup σ 19 l2.toNatClampNeg l3)
theorem vX8_takes_122 {ad : Nat → Nat} {Q : Option Value → vMem → Prop} {r : vMem} {l1 : Int32} {l2 : Int32} {l3 : Int32} {l5 : Int32} {σ : vMem} (h : fX8_takes_122 l1 l2 l3 l5 σ = some r) (hQ : Q none r) : V GM mX8_takes ad Q 1 122 [some (.ref (ad 0)), some (.int l1), some (.int l2), some (.int l3), none, some (.int l5)] [] σ := by
  unfold fX8_takes_122 at h
  refine V.aload_n dX8_takes_122 rfl ?_
  refine V.get dX8_takes_123 flX8_65 nM_0 gM_0 (by decide) (eM_0_27 _ _) ?_
  refine V.iload_n dX8_takes_126 rfl ?_
  refine V.iload_n dX8_takes_127 rfl ?_
  obtain ⟨hb, h⟩ := ckn h
  refine V.iast dX8_takes_128 nM_19 gM_19 hb ?_
  exact V.forget (vX8_takes_129 h hQ) ⟨rfl, ⟨rfl, ⟨rfl, ⟨rfl, ⟨rfl, trivial⟩⟩⟩⟩⟩
def fX8_takes_109 (l1 : Int32) (l2 : Int32) (l3 : Int32) (s0 : Int32) (σ : vMem) : Option vMem :=
  if l1 < 0 ∨ 8 ≤ l1.toNatClampNeg then none else if l1 < 0 ∨ 8 ≤ l1.toNatClampNeg then none else fX8_takes_122 l1 l2 l3 s0 (vup σ 13 l1.toNatClampNeg ((σ.1 13 l1.toNatClampNeg) - s0))
theorem vX8_takes_109 {ad : Nat → Nat} {Q : Option Value → vMem → Prop} {r : vMem} {l1 : Int32} {l2 : Int32} {l3 : Int32} {s0 : Int32} {σ : vMem} (h : fX8_takes_109 l1 l2 l3 s0 σ = some r) (hQ : Q none r) : V GM mX8_takes ad Q 1 109 [some (.ref (ad 0)), some (.int l1), some (.int l2), some (.int l3), none, none] [.int s0] σ := by
  unfold fX8_takes_109 at h
  refine V.istore dX8_takes_109 (by decide) rfl ?_
  refine V.aload_n dX8_takes_111 rfl ?_
  refine V.get dX8_takes_112 flX8_46 nM_0 gM_0 (by decide) (eM_0_21 _ _) ?_
  refine V.iload_n dX8_takes_115 rfl ?_
  refine V.dup2 rfl rfl dX8_takes_116 ?_
  obtain ⟨hb, h⟩ := ckn h
  refine V.iald dX8_takes_117 nM_13 gM_13 hb ?_
  refine V.iload dX8_takes_118 rfl ?_
  refine V.isub dX8_takes_120 ?_
  obtain ⟨hb, h⟩ := ckn h
  refine V.iast dX8_takes_121 nM_13 gM_13 hb ?_
  exact V.forget (vX8_takes_122 h hQ) ⟨rfl, ⟨rfl, ⟨rfl, ⟨rfl, ⟨rfl, trivial⟩⟩⟩⟩⟩
def fX8_takes_30 (l1 : Int32) (l2 : Int32) (l3 : Int32) (s0 : Int32) (σ : vMem) : Option vMem :=
  (fX8_isIn (σ.2 0 18) l3 σ).bind fun q1 => if q1.1 = 0 then ((fX8_isIn ((q1.2.1 0 19).toInt64) l2 q1.2).bind fun q2 => if q2.1 = 0 then (if s0 = 0 then (fX8_takes_78 q2.2) else
  (if l1 < 0 ∨ 8 ≤ l1.toNatClampNeg then none else if (q2.2.1 13 l1.toNatClampNeg) = 0 then (fX8_takes_78 q2.2) else
  (if l2 < 0 ∨ 10 ≤ l2.toNatClampNeg then none else if (q2.2.1 4 l2.toNatClampNeg) = 0 then (fX8_takes_78 q2.2) else
  (if l2 < 0 ∨ 10 ≤ l2.toNatClampNeg then none else if l1 < 0 ∨ 8 ≤ l1.toNatClampNeg then none else if (q2.2.1 13 l1.toNatClampNeg) ≤ (q2.2.1 4 l2.toNatClampNeg) then (if l1 < 0 ∨ 8 ≤ l1.toNatClampNeg then none else fX8_takes_109 l1 l2 l3 (q2.2.1 13 l1.toNatClampNeg) q2.2) else
  (if l2 < 0 ∨ 10 ≤ l2.toNatClampNeg then none else fX8_takes_109 l1 l2 l3 (q2.2.1 4 l2.toNatClampNeg) q2.2))))) else
  (fX8_takes_78 q2.2)) else
  (fX8_takes_78 q1.2)
theorem vX8_takes_30 {ad : Nat → Nat} {Q : Option Value → vMem → Prop} {r : vMem} {l1 : Int32} {l2 : Int32} {l3 : Int32} {s0 : Int32} {σ : vMem} (h : fX8_takes_30 l1 l2 l3 s0 σ = some r) (hQ : Q none r) : V GM mX8_takes ad Q 1 30 [some (.ref (ad 0)), some (.int l1), some (.int l2), some (.int l3), none, none] [.int s0] σ := by
  unfold fX8_takes_30 at h
  refine V.istore dX8_takes_30 (by decide) rfl ?_
  refine V.aload_n dX8_takes_32 rfl ?_
  refine V.get dX8_takes_33 flX8_212 nM_0 gM_0 (by decide) (eM_0_18 _ _) ?_
  refine V.iload_n dX8_takes_36 rfl ?_
  obtain ⟨q1, h1, h⟩ := bdc h
  refine V.callS2 (mc := mX8_isIn) (d' := 0) dX8_takes_37 lkX8_196 hfX8_isIn (by decide) (Nat.le_of_ble_eq_true rfl) (Nat.le_of_ble_eq_true rfl) (vX8_isIn h1 ?_)
  rcases itc h with ⟨hc, h⟩ | ⟨hc, h⟩
  · refine V.if_ne (tgt := 78) dX8_takes_40 (by decide) (fun hn => absurd hc hn) (fun _ => ?_)
    refine V.aload_n dX8_takes_43 rfl ?_
    refine V.get dX8_takes_44 flX8_215 nM_0 gM_0 (by decide) (eM_0_19 _ _) ?_
    refine V.i2l dX8_takes_47 ?_
    refine V.iload_n dX8_takes_48 rfl ?_
    obtain ⟨q2, h1, h⟩ := bdc h
    refine V.callS2 (mc := mX8_isIn) (d' := 0) dX8_takes_49 lkX8_196 hfX8_isIn (by decide) (Nat.le_of_ble_eq_true rfl) (Nat.le_of_ble_eq_true rfl) (vX8_isIn h1 ?_)
    rcases itc h with ⟨hc, h⟩ | ⟨hc, h⟩
    · refine V.if_ne (tgt := 78) dX8_takes_52 (by decide) (fun hn => absurd hc hn) (fun _ => ?_)
      refine V.iload dX8_takes_55 rfl ?_
      rcases itc h with ⟨hc, h⟩ | ⟨hc, h⟩
      · refine V.if_eq (tgt := 78) dX8_takes_57 (by decide) (fun _ => ?_) (fun hn => absurd hc hn)
        exact V.forget (vX8_takes_78 h hQ) trivial
      · refine V.if_eq (tgt := 78) dX8_takes_57 (by decide) (fun hn => absurd hn hc) (fun _ => ?_)
        refine V.aload_n dX8_takes_60 rfl ?_
        refine V.get dX8_takes_61 flX8_46 nM_0 gM_0 (by decide) (eM_0_21 _ _) ?_
        refine V.iload_n dX8_takes_64 rfl ?_
        obtain ⟨hb, h⟩ := ckn h
        refine V.iald dX8_takes_65 nM_13 gM_13 hb ?_
        rcases itc h with ⟨hc, h⟩ | ⟨hc, h⟩
        · refine V.if_eq (tgt := 78) dX8_takes_66 (by decide) (fun _ => ?_) (fun hn => absurd hc hn)
          exact V.forget (vX8_takes_78 h hQ) trivial
        · refine V.if_eq (tgt := 78) dX8_takes_66 (by decide) (fun hn => absurd hn hc) (fun _ => ?_)
          refine V.aload_n dX8_takes_69 rfl ?_
          refine V.get dX8_takes_70 flX8_19 nM_0 gM_0 (by decide) (eM_0_4 _ _) ?_
          refine V.iload_n dX8_takes_73 rfl ?_
          obtain ⟨hb, h⟩ := ckn h
          refine V.iald dX8_takes_74 nM_4 gM_4 hb ?_
          rcases itc h with ⟨hc, h⟩ | ⟨hc, h⟩
          · refine V.if_ne (tgt := 79) dX8_takes_75 (by decide) (fun hn => absurd hc hn) (fun _ => ?_)
            exact V.forget (vX8_takes_78 h hQ) trivial
          · refine V.if_ne (tgt := 79) dX8_takes_75 (by decide) (fun _ => ?_) (fun hn => absurd hn hc)
            refine V.aload_n dX8_takes_79 rfl ?_
            refine V.get dX8_takes_80 flX8_19 nM_0 gM_0 (by decide) (eM_0_4 _ _) ?_
            refine V.iload_n dX8_takes_83 rfl ?_
            obtain ⟨hb, h⟩ := ckn h
            refine V.iald dX8_takes_84 nM_4 gM_4 hb ?_
            refine V.aload_n dX8_takes_85 rfl ?_
            refine V.get dX8_takes_86 flX8_46 nM_0 gM_0 (by decide) (eM_0_21 _ _) ?_
            refine V.iload_n dX8_takes_89 rfl ?_
            obtain ⟨hb, h⟩ := ckn h
            refine V.iald dX8_takes_90 nM_13 gM_13 hb ?_
            rcases itc h with ⟨hc, h⟩ | ⟨hc, h⟩
            · refine V.icmp_ge (tgt := 103) dX8_takes_91 (by decide) (fun _ => ?_) (fun hn => absurd hc hn)
              refine V.aload_n dX8_takes_103 rfl ?_
              refine V.get dX8_takes_104 flX8_46 nM_0 gM_0 (by decide) (eM_0_21 _ _) ?_
              refine V.iload_n dX8_takes_107 rfl ?_
              obtain ⟨hb, h⟩ := ckn h
              refine V.iald dX8_takes_108 nM_13 gM_13 hb ?_
              exact V.forget (vX8_takes_109 h hQ) ⟨rfl, ⟨rfl, ⟨rfl, ⟨rfl, trivial⟩⟩⟩⟩
            · refine V.icmp_ge (tgt := 103) dX8_takes_91 (by decide) (fun hn => absurd hn hc) (fun _ => ?_)
              refine V.aload_n dX8_takes_94 rfl ?_
              refine V.get dX8_takes_95 flX8_19 nM_0 gM_0 (by decide) (eM_0_4 _ _) ?_
              refine V.iload_n dX8_takes_98 rfl ?_
              obtain ⟨hb, h⟩ := ckn h
              refine V.iald dX8_takes_99 nM_4 gM_4 hb ?_
              refine V.goto (tgt := 109) dX8_takes_100 (by decide) ?_
              exact V.forget (vX8_takes_109 h hQ) ⟨rfl, ⟨rfl, ⟨rfl, ⟨rfl, trivial⟩⟩⟩⟩
    · refine V.if_ne (tgt := 78) dX8_takes_52 (by decide) (fun _ => ?_) (fun hn => absurd hn hc)
      exact V.forget (vX8_takes_78 h hQ) trivial
  · refine V.if_ne (tgt := 78) dX8_takes_40 (by decide) (fun _ => ?_) (fun hn => absurd hn hc)
    exact V.forget (vX8_takes_78 h hQ) trivial
def fX8_takes_25 (l1 : Int32) (l2 : Int32) (l3 : Int32) (σ : vMem) : Option vMem :=
  fX8_takes_30 l1 l2 l3 (1 : Int32) σ
theorem vX8_takes_25 {ad : Nat → Nat} {Q : Option Value → vMem → Prop} {r : vMem} {l1 : Int32} {l2 : Int32} {l3 : Int32} {σ : vMem} (h : fX8_takes_25 l1 l2 l3 σ = some r) (hQ : Q none r) : V GM mX8_takes ad Q 1 25 [some (.ref (ad 0)), some (.int l1), some (.int l2), some (.int l3), none, none] [] σ := by
  unfold fX8_takes_25 at h
  refine V.iconst ic_1 dX8_takes_25 ?_
  refine V.goto (tgt := 30) dX8_takes_26 (by decide) ?_
  exact V.forget (vX8_takes_30 h hQ) ⟨rfl, ⟨rfl, ⟨rfl, ⟨rfl, trivial⟩⟩⟩⟩
def fX8_takes (l1 : Int32) (l2 : Int32) (l3 : Int32) (σ : vMem) : Option vMem :=
  if l2 < 0 ∨ 9 ≤ l2.toNatClampNeg then none else if (σ.1 19 l2.toNatClampNeg) = (-1 : Int32) then (fX8_takes_25 l1 l2 l3 σ) else
  (if l2 < 0 ∨ 9 ≤ l2.toNatClampNeg then none else if (l3 - (σ.1 19 l2.toNatClampNeg)) ≤ (σ.1 0 11) then (fX8_takes_30 l1 l2 l3 (0 : Int32) σ) else
  (fX8_takes_25 l1 l2 l3 σ))
theorem vX8_takes {ad : Nat → Nat} {Q : Option Value → vMem → Prop} {r : vMem} {l1 : Int32} {l2 : Int32} {l3 : Int32} {σ : vMem} (h : fX8_takes l1 l2 l3 σ = some r) (hQ : Q none r) : V GM mX8_takes ad Q 1 0 [some (.ref (ad 0)), some (.int l1), some (.int l2), some (.int l3), none, none] [] σ := by
  unfold fX8_takes at h
  refine V.aload_n dX8_takes_0 rfl ?_
  refine V.get dX8_takes_1 flX8_65 nM_0 gM_0 (by decide) (eM_0_27 _ _) ?_
  refine V.iload_n dX8_takes_4 rfl ?_
  obtain ⟨hb, h⟩ := ckn h
  refine V.iald dX8_takes_5 nM_19 gM_19 hb ?_
  refine V.iconst ic_m1 dX8_takes_6 ?_
  rcases itc h with ⟨hc, h⟩ | ⟨hc, h⟩
  · refine V.icmp_eq (tgt := 25) dX8_takes_7 (by decide) (fun _ => ?_) (fun hn => absurd hc hn)
    exact V.forget (vX8_takes_25 h hQ) ⟨rfl, ⟨rfl, ⟨rfl, ⟨rfl, trivial⟩⟩⟩⟩
  · refine V.icmp_eq (tgt := 25) dX8_takes_7 (by decide) (fun hn => absurd hn hc) (fun _ => ?_)
    refine V.iload_n dX8_takes_10 rfl ?_
    refine V.aload_n dX8_takes_11 rfl ?_
    refine V.get dX8_takes_12 flX8_65 nM_0 gM_0 (by decide) (eM_0_27 _ _) ?_
    refine V.iload_n dX8_takes_15 rfl ?_
    obtain ⟨hb, h⟩ := ckn h
    refine V.iald dX8_takes_16 nM_19 gM_19 hb ?_
    refine V.isub dX8_takes_17 ?_
    refine V.aload_n dX8_takes_18 rfl ?_
    refine V.get dX8_takes_19 flX8_116 nM_0 gM_0 (by decide) (eM_0_11 _ _) ?_
    rcases itc h with ⟨hc, h⟩ | ⟨hc, h⟩
    · refine V.icmp_le (tgt := 29) dX8_takes_22 (by decide) (fun _ => ?_) (fun hn => absurd hc hn)
      refine V.iconst ic_0 dX8_takes_29 ?_
      exact V.forget (vX8_takes_30 h hQ) ⟨rfl, ⟨rfl, ⟨rfl, ⟨rfl, trivial⟩⟩⟩⟩
    · refine V.icmp_le (tgt := 29) dX8_takes_22 (by decide) (fun hn => absurd hn hc) (fun _ => ?_)
      exact V.forget (vX8_takes_25 h hQ) ⟨rfl, ⟨rfl, ⟨rfl, ⟨rfl, trivial⟩⟩⟩⟩
def fX8_isTangled_33 (K4 : Int32 → Int32 → Int32 → vMem → Option (Int32 × vMem)) (l1 : Int32) (l3 : Int32) (s0 : Int32) (σ : vMem) : Option (Int32 × vMem) :=
  K4 l1 s0 (l3 + (1 : Int32)) σ
theorem vX8_isTangled_33 {ad : Nat → Nat} {Q : Option Value → vMem → Prop} {r : (Int32 × vMem)} {K4 : Int32 → Int32 → Int32 → vMem → Option (Int32 × vMem)} (hK4 : ∀ (l1 : Int32) (l2 : Int32) (l3 : Int32) (σ : vMem), K4 l1 l2 l3 σ = some r → V GM mX8_isTangled ad Q 0 4 [some (.ref (ad 0)), some (.int l1), some (.int l2), some (.int l3)] [] σ) {l1 : Int32} {l3 : Int32} {s0 : Int32} {σ : vMem} (h : fX8_isTangled_33 K4 l1 l3 s0 σ = some r) (hQ : Q (some (.int r.1)) r.2) : V GM mX8_isTangled ad Q 0 33 [some (.ref (ad 0)), some (.int l1), none, some (.int l3)] [.int s0] σ := by
  unfold fX8_isTangled_33 at h
  refine V.istore_n dX8_isTangled_33 (by decide) rfl ?_
  refine V.iinc dX8_isTangled_34 rfl (ii_1 _) (by decide) rfl ?_
  refine V.goto (tgt := 4) dX8_isTangled_37 (by decide) ?_
  exact V.forget (hK4 _ _ _ _ h) ⟨rfl, ⟨rfl, ⟨rfl, ⟨rfl, trivial⟩⟩⟩⟩
def fX8_isTangled_28 (K4 : Int32 → Int32 → Int32 → vMem → Option (Int32 × vMem)) (l1 : Int32) (l3 : Int32) (σ : vMem) : Option (Int32 × vMem) :=
  fX8_isTangled_33 K4 l1 l3 (1 : Int32) σ
theorem vX8_isTangled_28 {ad : Nat → Nat} {Q : Option Value → vMem → Prop} {r : (Int32 × vMem)} {K4 : Int32 → Int32 → Int32 → vMem → Option (Int32 × vMem)} (hK4 : ∀ (l1 : Int32) (l2 : Int32) (l3 : Int32) (σ : vMem), K4 l1 l2 l3 σ = some r → V GM mX8_isTangled ad Q 0 4 [some (.ref (ad 0)), some (.int l1), some (.int l2), some (.int l3)] [] σ) {l1 : Int32} {l3 : Int32} {σ : vMem} (h : fX8_isTangled_28 K4 l1 l3 σ = some r) (hQ : Q (some (.int r.1)) r.2) : V GM mX8_isTangled ad Q 0 28 [some (.ref (ad 0)), some (.int l1), none, some (.int l3)] [] σ := by
  unfold fX8_isTangled_28 at h
  refine V.iconst ic_1 dX8_isTangled_28 ?_
  refine V.goto (tgt := 33) dX8_isTangled_29 (by decide) ?_
  exact V.forget (vX8_isTangled_33 hK4 h hQ) ⟨rfl, ⟨rfl, ⟨rfl, trivial⟩⟩⟩
def fX8_isTangled_4 (K4 : Int32 → Int32 → Int32 → vMem → Option (Int32 × vMem)) (l1 : Int32) (l2 : Int32) (l3 : Int32) (σ : vMem) : Option (Int32 × vMem) :=
  if l1 ≤ l3 then (if ¬ (l2 = 0 ∨ l2 = 1) then none else some (l2, σ)) else
  (if l2 = 0 then (if l3 < 0 ∨ 8 ≤ l3.toNatClampNeg then none else if l1 < 0 ∨ 8 ≤ l1.toNatClampNeg then none else if (σ.1 12 l3.toNatClampNeg) = (σ.1 12 l1.toNatClampNeg) then (fX8_isTangled_28 K4 l1 l3 σ) else
  (fX8_isTangled_33 K4 l1 l3 (0 : Int32) σ)) else
  (fX8_isTangled_28 K4 l1 l3 σ))
theorem vX8_isTangled_4 {ad : Nat → Nat} {Q : Option Value → vMem → Prop} {r : (Int32 × vMem)} {K4 : Int32 → Int32 → Int32 → vMem → Option (Int32 × vMem)} (hK4 : ∀ (l1 : Int32) (l2 : Int32) (l3 : Int32) (σ : vMem), K4 l1 l2 l3 σ = some r → V GM mX8_isTangled ad Q 0 4 [some (.ref (ad 0)), some (.int l1), some (.int l2), some (.int l3)] [] σ) {l1 : Int32} {l2 : Int32} {l3 : Int32} {σ : vMem} (h : fX8_isTangled_4 K4 l1 l2 l3 σ = some r) (hQ : Q (some (.int r.1)) r.2) : V GM mX8_isTangled ad Q 0 4 [some (.ref (ad 0)), some (.int l1), some (.int l2), some (.int l3)] [] σ := by
  unfold fX8_isTangled_4 at h
  refine V.iload_n dX8_isTangled_4 rfl ?_
  refine V.iload_n dX8_isTangled_5 rfl ?_
  rcases itc h with ⟨hc, h⟩ | ⟨hc, h⟩
  · refine V.icmp_ge (tgt := 40) dX8_isTangled_6 (by decide) (fun _ => ?_) (fun hn => absurd hc hn)
    refine V.iload_n dX8_isTangled_40 rfl ?_
    obtain ⟨hb, h⟩ := ckn h
    obtain rfl := Option.some.inj h
    exact V.zret dX8_isTangled_41 rfl (Decidable.not_not.mp hb) hQ
  · refine V.icmp_ge (tgt := 40) dX8_isTangled_6 (by decide) (fun hn => absurd hn hc) (fun _ => ?_)
    refine V.iload_n dX8_isTangled_9 rfl ?_
    rcases itc h with ⟨hc, h⟩ | ⟨hc, h⟩
    · refine V.if_ne (tgt := 28) dX8_isTangled_10 (by decide) (fun hn => absurd hc hn) (fun _ => ?_)
      refine V.aload_n dX8_isTangled_13 rfl ?_
      refine V.get dX8_isTangled_14 flX8_43 nM_0 gM_0 (by decide) (eM_0_20 _ _) ?_
      refine V.iload_n dX8_isTangled_17 rfl ?_
      obtain ⟨hb, h⟩ := ckn h
      refine V.iald dX8_isTangled_18 nM_12 gM_12 hb ?_
      refine V.aload_n dX8_isTangled_19 rfl ?_
      refine V.get dX8_isTangled_20 flX8_43 nM_0 gM_0 (by decide) (eM_0_20 _ _) ?_
      refine V.iload_n dX8_isTangled_23 rfl ?_
      obtain ⟨hb, h⟩ := ckn h
      refine V.iald dX8_isTangled_24 nM_12 gM_12 hb ?_
      rcases itc h with ⟨hc, h⟩ | ⟨hc, h⟩
      · refine V.icmp_ne (tgt := 32) dX8_isTangled_25 (by decide) (fun hn => absurd hc hn) (fun _ => ?_)
        exact V.forget (vX8_isTangled_28 hK4 h hQ) ⟨rfl, ⟨rfl, ⟨rfl, trivial⟩⟩⟩
      · refine V.icmp_ne (tgt := 32) dX8_isTangled_25 (by decide) (fun _ => ?_) (fun hn => absurd hn hc)
        refine V.iconst ic_0 dX8_isTangled_32 ?_
        exact V.forget (vX8_isTangled_33 hK4 h hQ) ⟨rfl, ⟨rfl, ⟨rfl, trivial⟩⟩⟩
    · refine V.if_ne (tgt := 28) dX8_isTangled_10 (by decide) (fun _ => ?_) (fun hn => absurd hn hc)
      exact V.forget (vX8_isTangled_28 hK4 h hQ) ⟨rfl, ⟨rfl, ⟨rfl, trivial⟩⟩⟩
def LfX8_isTangled_4 : Nat → Int32 → Int32 → Int32 → vMem → Option (Int32 × vMem)
  | 0, _, _, _, _ => none
  | n + 1, l1, l2, l3, σ => fX8_isTangled_4 (LfX8_isTangled_4 n) l1 l2 l3 σ
theorem LvX8_isTangled_4 {ad : Nat → Nat} {Q : Option Value → vMem → Prop} {r : (Int32 × vMem)} (hQ : Q (some (.int r.1)) r.2) : ∀ (n : Nat) (l1 : Int32) (l2 : Int32) (l3 : Int32) (σ : vMem), LfX8_isTangled_4 n l1 l2 l3 σ = some r → V GM mX8_isTangled ad Q 0 4 [some (.ref (ad 0)), some (.int l1), some (.int l2), some (.int l3)] [] σ := by
  intro n
  induction n with
  | zero => intro l1 l2 l3 σ h; cases h
  | succ n ih => intro l1 l2 l3 σ h; exact vX8_isTangled_4 ih h hQ
def fX8_isTangled (l1 : Int32) (σ : vMem) : Option (Int32 × vMem) :=
  LfX8_isTangled_4 200 l1 (0 : Int32) (0 : Int32) σ
theorem vX8_isTangled {ad : Nat → Nat} {Q : Option Value → vMem → Prop} {r : (Int32 × vMem)} {l1 : Int32} {σ : vMem} (h : fX8_isTangled l1 σ = some r) (hQ : Q (some (.int r.1)) r.2) : V GM mX8_isTangled ad Q 0 0 [some (.ref (ad 0)), some (.int l1), none, none] [] σ := by
  unfold fX8_isTangled at h
  refine V.iconst ic_0 dX8_isTangled_0 ?_
  refine V.istore_n dX8_isTangled_1 (by decide) rfl ?_
  refine V.iconst ic_0 dX8_isTangled_2 ?_
  refine V.istore_n dX8_isTangled_3 (by decide) rfl ?_
  exact V.forget (LvX8_isTangled_4 hQ 200 _ _ _ _ h) ⟨rfl, ⟨rfl, ⟨rfl, ⟨rfl, trivial⟩⟩⟩⟩
def fX8_goesBy_326 (K279 : Int32 → Int32 → vMem → Option vMem) (l1 : Int32) (l2 : Int32) (σ : vMem) : Option vMem :=
  K279 l1 (l2 + (1 : Int32)) σ
theorem vX8_goesBy_326 {ad : Nat → Nat} {Q : Option Value → vMem → Prop} {r : vMem} {K279 : Int32 → Int32 → vMem → Option vMem} (hK279 : ∀ (l1 : Int32) (l2 : Int32) (σ : vMem), K279 l1 l2 σ = some r → V GM mX8_goesBy ad Q 2 279 [some (.ref (ad 0)), some (.int l1), some (.int l2), none, none] [] σ) {l1 : Int32} {l2 : Int32} {σ : vMem} (h : fX8_goesBy_326 K279 l1 l2 σ = some r) (hQ : Q none r) : V GM mX8_goesBy ad Q 2 326 [some (.ref (ad 0)), some (.int l1), some (.int l2), none, none] [] σ := by
  unfold fX8_goesBy_326 at h
  refine V.iinc dX8_goesBy_326 rfl (ii_1 _) (by decide) rfl ?_
  refine V.goto (tgt := 279) dX8_goesBy_329 (by decide) ?_
  exact V.forget (hK279 _ _ _ h) ⟨rfl, ⟨rfl, ⟨rfl, trivial⟩⟩⟩
def fX8_goesBy_279 (K279 : Int32 → Int32 → vMem → Option vMem) (l1 : Int32) (l2 : Int32) (σ : vMem) : Option vMem :=
  if (σ.1 0 6) ≤ l2 then (some σ) else
  (if l2 < 0 ∨ 8 ≤ l2.toNatClampNeg then none else (fX8_in (σ.1 12 l2.toNatClampNeg) (0 : Int32) ((σ.1 0 2) - (1 : Int32)) σ).bind fun q1 => if q1.1 = 0 then (fX8_goesBy_326 K279 l1 l2 q1.2) else
  (if (((8 : Int32) * l1) + l2) < 0 ∨ 320 ≤ (((8 : Int32) * l1) + l2).toNatClampNeg then none else if (q1.2.1 25 (((8 : Int32) * l1) + l2).toNatClampNeg) = 0 then ((fX8_goesUp l2 l1 q1.2).bind fun q2 => fX8_goesBy_326 K279 l1 l2 q2) else
  (fX8_goesBy_326 K279 l1 l2 q1.2)))
theorem vX8_goesBy_279 {ad : Nat → Nat} {Q : Option Value → vMem → Prop} {r : vMem} {K279 : Int32 → Int32 → vMem → Option vMem} (hK279 : ∀ (l1 : Int32) (l2 : Int32) (σ : vMem), K279 l1 l2 σ = some r → V GM mX8_goesBy ad Q 2 279 [some (.ref (ad 0)), some (.int l1), some (.int l2), none, none] [] σ) {l1 : Int32} {l2 : Int32} {σ : vMem} (h : fX8_goesBy_279 K279 l1 l2 σ = some r) (hQ : Q none r) : V GM mX8_goesBy ad Q 2 279 [some (.ref (ad 0)), some (.int l1), some (.int l2), none, none] [] σ := by
  unfold fX8_goesBy_279 at h
  refine V.iload_n dX8_goesBy_279 rfl ?_
  refine V.aload_n dX8_goesBy_280 rfl ?_
  refine V.get dX8_goesBy_281 flX8_147 nM_0 gM_0 (by decide) (eM_0_6 _ _) ?_
  rcases itc h with ⟨hc, h⟩ | ⟨hc, h⟩
  · refine V.icmp_ge (tgt := 332) dX8_goesBy_284 (by decide) (fun _ => ?_) (fun hn => absurd hc hn)
    obtain rfl := Option.some.inj h
    exact V.vret dX8_goesBy_332 rfl hQ
  · refine V.icmp_ge (tgt := 332) dX8_goesBy_284 (by decide) (fun hn => absurd hn hc) (fun _ => ?_)
    refine V.aload_n dX8_goesBy_287 rfl ?_
    refine V.get dX8_goesBy_288 flX8_43 nM_0 gM_0 (by decide) (eM_0_20 _ _) ?_
    refine V.iload_n dX8_goesBy_291 rfl ?_
    obtain ⟨hb, h⟩ := ckn h
    refine V.iald dX8_goesBy_292 nM_12 gM_12 hb ?_
    refine V.iconst ic_0 dX8_goesBy_293 ?_
    refine V.aload_n dX8_goesBy_294 rfl ?_
    refine V.get dX8_goesBy_295 flX8_144 nM_0 gM_0 (by decide) (eM_0_2 _ _) ?_
    refine V.iconst ic_1 dX8_goesBy_298 ?_
    refine V.isub dX8_goesBy_299 ?_
    obtain ⟨q1, h1, h⟩ := bdc h
    refine V.callS3 (mc := mX8_in) (d' := 0) dX8_goesBy_300 lkX8_125 hfX8_in (by decide) (Nat.le_of_ble_eq_true rfl) (Nat.le_of_ble_eq_true rfl) (vX8_in h1 ?_)
    rcases itc h with ⟨hc, h⟩ | ⟨hc, h⟩
    · refine V.if_eq (tgt := 326) dX8_goesBy_303 (by decide) (fun _ => ?_) (fun hn => absurd hc hn)
      exact V.forget (vX8_goesBy_326 hK279 h hQ) ⟨rfl, ⟨rfl, ⟨rfl, trivial⟩⟩⟩
    · refine V.if_eq (tgt := 326) dX8_goesBy_303 (by decide) (fun hn => absurd hn hc) (fun _ => ?_)
      refine V.aload_n dX8_goesBy_306 rfl ?_
      refine V.get dX8_goesBy_307 flX8_83 nM_0 gM_0 (by decide) (eM_0_35 _ _) ?_
      refine V.bipush bp_8 dX8_goesBy_310 ?_
      refine V.iload_n dX8_goesBy_312 rfl ?_
      refine V.imul dX8_goesBy_313 ?_
      refine V.iload_n dX8_goesBy_314 rfl ?_
      refine V.iadd dX8_goesBy_315 ?_
      obtain ⟨hb, h⟩ := ckn h
      refine V.zald dX8_goesBy_316 nM_25 gM_25 hb ?_
      rcases itc h with ⟨hc, h⟩ | ⟨hc, h⟩
      · refine V.if_ne (tgt := 326) dX8_goesBy_317 (by decide) (fun hn => absurd hc hn) (fun _ => ?_)
        refine V.aload_n dX8_goesBy_320 rfl ?_
        refine V.iload_n dX8_goesBy_321 rfl ?_
        refine V.iload_n dX8_goesBy_322 rfl ?_
        obtain ⟨q2, h1, h⟩ := bdc h
        refine V.callV2 (mc := mX8_goesUp) (d' := 1) dX8_goesBy_323 lkX8_235 hfX8_goesUp nM_0 gM_0 rfl (by decide) (Nat.le_of_ble_eq_true rfl) (Nat.le_of_ble_eq_true rfl) (vX8_goesUp h1 ?_)
        exact V.forget (vX8_goesBy_326 hK279 h hQ) ⟨rfl, ⟨rfl, ⟨rfl, trivial⟩⟩⟩
      · refine V.if_ne (tgt := 326) dX8_goesBy_317 (by decide) (fun _ => ?_) (fun hn => absurd hn hc)
        exact V.forget (vX8_goesBy_326 hK279 h hQ) ⟨rfl, ⟨rfl, ⟨rfl, trivial⟩⟩⟩
def LfX8_goesBy_279 : Nat → Int32 → Int32 → vMem → Option vMem
  | 0, _, _, _ => none
  | n + 1, l1, l2, σ => fX8_goesBy_279 (LfX8_goesBy_279 n) l1 l2 σ
theorem LvX8_goesBy_279 {ad : Nat → Nat} {Q : Option Value → vMem → Prop} {r : vMem} (hQ : Q none r) : ∀ (n : Nat) (l1 : Int32) (l2 : Int32) (σ : vMem), LfX8_goesBy_279 n l1 l2 σ = some r → V GM mX8_goesBy ad Q 2 279 [some (.ref (ad 0)), some (.int l1), some (.int l2), none, none] [] σ := by
  intro n
  induction n with
  | zero => intro l1 l2 σ h; cases h
  | succ n ih => intro l1 l2 σ h; exact vX8_goesBy_279 ih h hQ
def fX8_goesBy_271 (K212 : Int32 → Int32 → vMem → Option vMem) (l1 : Int32) (l2 : Int32) (σ : vMem) : Option vMem :=
  K212 l1 (l2 + (1 : Int32)) σ
theorem vX8_goesBy_271 {ad : Nat → Nat} {Q : Option Value → vMem → Prop} {r : vMem} {K212 : Int32 → Int32 → vMem → Option vMem} (hK212 : ∀ (l1 : Int32) (l2 : Int32) (σ : vMem), K212 l1 l2 σ = some r → V GM mX8_goesBy ad Q 2 212 [some (.ref (ad 0)), some (.int l1), some (.int l2), none, none] [] σ) {l1 : Int32} {l2 : Int32} {σ : vMem} (h : fX8_goesBy_271 K212 l1 l2 σ = some r) (hQ : Q none r) : V GM mX8_goesBy ad Q 2 271 [some (.ref (ad 0)), some (.int l1), some (.int l2), none, none] [] σ := by
  unfold fX8_goesBy_271 at h
  refine V.iinc dX8_goesBy_271 rfl (ii_1 _) (by decide) rfl ?_
  refine V.goto (tgt := 212) dX8_goesBy_274 (by decide) ?_
  exact V.forget (hK212 _ _ _ h) ⟨rfl, ⟨rfl, ⟨rfl, trivial⟩⟩⟩
def fX8_goesBy_254 (K212 : Int32 → Int32 → vMem → Option vMem) (l1 : Int32) (l2 : Int32) (σ : vMem) : Option vMem :=
  if l2 < 0 ∨ 8 ≤ l2.toNatClampNeg then none else if (((8 : Int32) * l1) + l2) < 0 ∨ 320 ≤ (((8 : Int32) * l1) + l2).toNatClampNeg then none else fX8_goesBy_271 K212 l1 l2 (vup σ 24 (((8 : Int32) * l1) + l2).toNatClampNeg (σ.1 14 l2.toNatClampNeg))
theorem vX8_goesBy_254 {ad : Nat → Nat} {Q : Option Value → vMem → Prop} {r : vMem} {K212 : Int32 → Int32 → vMem → Option vMem} (hK212 : ∀ (l1 : Int32) (l2 : Int32) (σ : vMem), K212 l1 l2 σ = some r → V GM mX8_goesBy ad Q 2 212 [some (.ref (ad 0)), some (.int l1), some (.int l2), none, none] [] σ) {l1 : Int32} {l2 : Int32} {σ : vMem} (h : fX8_goesBy_254 K212 l1 l2 σ = some r) (hQ : Q none r) : V GM mX8_goesBy ad Q 2 254 [some (.ref (ad 0)), some (.int l1), some (.int l2), none, none] [] σ := by
  unfold fX8_goesBy_254 at h
  refine V.aload_n dX8_goesBy_254 rfl ?_
  refine V.get dX8_goesBy_255 flX8_80 nM_0 gM_0 (by decide) (eM_0_34 _ _) ?_
  refine V.bipush bp_8 dX8_goesBy_258 ?_
  refine V.iload_n dX8_goesBy_260 rfl ?_
  refine V.imul dX8_goesBy_261 ?_
  refine V.iload_n dX8_goesBy_262 rfl ?_
  refine V.iadd dX8_goesBy_263 ?_
  refine V.aload_n dX8_goesBy_264 rfl ?_
  refine V.get dX8_goesBy_265 flX8_49 nM_0 gM_0 (by decide) (eM_0_22 _ _) ?_
  refine V.iload_n dX8_goesBy_268 rfl ?_
  obtain ⟨hb, h⟩ := ckn h
  refine V.iald dX8_goesBy_269 nM_14 gM_14 hb ?_
  obtain ⟨hb, h⟩ := ckn h
  refine V.iast dX8_goesBy_270 nM_24 gM_24 hb ?_
  exact V.forget (vX8_goesBy_271 hK212 h hQ) ⟨rfl, ⟨rfl, ⟨rfl, trivial⟩⟩⟩
def fX8_goesBy_237 (K212 : Int32 → Int32 → vMem → Option vMem) (l1 : Int32) (l2 : Int32) (σ : vMem) : Option vMem :=
  if l2 < 0 ∨ 8 ≤ l2.toNatClampNeg then none else if (((8 : Int32) * l1) + l2) < 0 ∨ 320 ≤ (((8 : Int32) * l1) + l2).toNatClampNeg then none else fX8_goesBy_254 K212 l1 l2 (vup σ 23 (((8 : Int32) * l1) + l2).toNatClampNeg (σ.1 13 l2.toNatClampNeg))
theorem vX8_goesBy_237 {ad : Nat → Nat} {Q : Option Value → vMem → Prop} {r : vMem} {K212 : Int32 → Int32 → vMem → Option vMem} (hK212 : ∀ (l1 : Int32) (l2 : Int32) (σ : vMem), K212 l1 l2 σ = some r → V GM mX8_goesBy ad Q 2 212 [some (.ref (ad 0)), some (.int l1), some (.int l2), none, none] [] σ) {l1 : Int32} {l2 : Int32} {σ : vMem} (h : fX8_goesBy_237 K212 l1 l2 σ = some r) (hQ : Q none r) : V GM mX8_goesBy ad Q 2 237 [some (.ref (ad 0)), some (.int l1), some (.int l2), none, none] [] σ := by
  unfold fX8_goesBy_237 at h
  refine V.aload_n dX8_goesBy_237 rfl ?_
  refine V.get dX8_goesBy_238 flX8_77 nM_0 gM_0 (by decide) (eM_0_33 _ _) ?_
  refine V.bipush bp_8 dX8_goesBy_241 ?_
  refine V.iload_n dX8_goesBy_243 rfl ?_
  refine V.imul dX8_goesBy_244 ?_
  refine V.iload_n dX8_goesBy_245 rfl ?_
  refine V.iadd dX8_goesBy_246 ?_
  refine V.aload_n dX8_goesBy_247 rfl ?_
  refine V.get dX8_goesBy_248 flX8_46 nM_0 gM_0 (by decide) (eM_0_21 _ _) ?_
  refine V.iload_n dX8_goesBy_251 rfl ?_
  obtain ⟨hb, h⟩ := ckn h
  refine V.iald dX8_goesBy_252 nM_13 gM_13 hb ?_
  obtain ⟨hb, h⟩ := ckn h
  refine V.iast dX8_goesBy_253 nM_23 gM_23 hb ?_
  exact V.forget (vX8_goesBy_254 hK212 h hQ) ⟨rfl, ⟨rfl, ⟨rfl, trivial⟩⟩⟩
def fX8_goesBy_212 (K212 : Int32 → Int32 → vMem → Option vMem) (l1 : Int32) (l2 : Int32) (σ : vMem) : Option vMem :=
  if (σ.1 0 6) ≤ l2 then (LfX8_goesBy_279 200 l1 (0 : Int32) σ) else
  (if l2 < 0 ∨ 8 ≤ l2.toNatClampNeg then none else if (((8 : Int32) * l1) + l2) < 0 ∨ 320 ≤ (((8 : Int32) * l1) + l2).toNatClampNeg then none else fX8_goesBy_237 K212 l1 l2 (vup σ 22 (((8 : Int32) * l1) + l2).toNatClampNeg (σ.1 12 l2.toNatClampNeg)))
theorem vX8_goesBy_212 {ad : Nat → Nat} {Q : Option Value → vMem → Prop} {r : vMem} {K212 : Int32 → Int32 → vMem → Option vMem} (hK212 : ∀ (l1 : Int32) (l2 : Int32) (σ : vMem), K212 l1 l2 σ = some r → V GM mX8_goesBy ad Q 2 212 [some (.ref (ad 0)), some (.int l1), some (.int l2), none, none] [] σ) {l1 : Int32} {l2 : Int32} {σ : vMem} (h : fX8_goesBy_212 K212 l1 l2 σ = some r) (hQ : Q none r) : V GM mX8_goesBy ad Q 2 212 [some (.ref (ad 0)), some (.int l1), some (.int l2), none, none] [] σ := by
  unfold fX8_goesBy_212 at h
  refine V.iload_n dX8_goesBy_212 rfl ?_
  refine V.aload_n dX8_goesBy_213 rfl ?_
  refine V.get dX8_goesBy_214 flX8_147 nM_0 gM_0 (by decide) (eM_0_6 _ _) ?_
  rcases itc h with ⟨hc, h⟩ | ⟨hc, h⟩
  · refine V.icmp_ge (tgt := 277) dX8_goesBy_217 (by decide) (fun _ => ?_) (fun hn => absurd hc hn)
    refine V.iconst ic_0 dX8_goesBy_277 ?_
    refine V.istore_n dX8_goesBy_278 (by decide) rfl ?_
    exact V.forget (LvX8_goesBy_279 hQ 200 _ _ _ h) ⟨rfl, ⟨rfl, ⟨rfl, trivial⟩⟩⟩
  · refine V.icmp_ge (tgt := 277) dX8_goesBy_217 (by decide) (fun hn => absurd hn hc) (fun _ => ?_)
    refine V.aload_n dX8_goesBy_220 rfl ?_
    refine V.get dX8_goesBy_221 flX8_74 nM_0 gM_0 (by decide) (eM_0_32 _ _) ?_
    refine V.bipush bp_8 dX8_goesBy_224 ?_
    refine V.iload_n dX8_goesBy_226 rfl ?_
    refine V.imul dX8_goesBy_227 ?_
    refine V.iload_n dX8_goesBy_228 rfl ?_
    refine V.iadd dX8_goesBy_229 ?_
    refine V.aload_n dX8_goesBy_230 rfl ?_
    refine V.get dX8_goesBy_231 flX8_43 nM_0 gM_0 (by decide) (eM_0_20 _ _) ?_
    refine V.iload_n dX8_goesBy_234 rfl ?_
    obtain ⟨hb, h⟩ := ckn h
    refine V.iald dX8_goesBy_235 nM_12 gM_12 hb ?_
    obtain ⟨hb, h⟩ := ckn h
    refine V.iast dX8_goesBy_236 nM_22 gM_22 hb ?_
    exact V.forget (vX8_goesBy_237 hK212 h hQ) ⟨rfl, ⟨rfl, ⟨rfl, trivial⟩⟩⟩
def LfX8_goesBy_212 : Nat → Int32 → Int32 → vMem → Option vMem
  | 0, _, _, _ => none
  | n + 1, l1, l2, σ => fX8_goesBy_212 (LfX8_goesBy_212 n) l1 l2 σ
theorem LvX8_goesBy_212 {ad : Nat → Nat} {Q : Option Value → vMem → Prop} {r : vMem} (hQ : Q none r) : ∀ (n : Nat) (l1 : Int32) (l2 : Int32) (σ : vMem), LfX8_goesBy_212 n l1 l2 σ = some r → V GM mX8_goesBy ad Q 2 212 [some (.ref (ad 0)), some (.int l1), some (.int l2), none, none] [] σ := by
  intro n
  induction n with
  | zero => intro l1 l2 σ h; cases h
  | succ n ih => intro l1 l2 σ h; exact vX8_goesBy_212 ih h hQ
def fX8_goesBy_204 (K77 : Int32 → Int32 → vMem → Option vMem) (l1 : Int32) (l2 : Int32) (σ : vMem) : Option vMem :=
  K77 l1 (l2 + (1 : Int32)) σ
theorem vX8_goesBy_204 {ad : Nat → Nat} {Q : Option Value → vMem → Prop} {r : vMem} {K77 : Int32 → Int32 → vMem → Option vMem} (hK77 : ∀ (l1 : Int32) (l2 : Int32) (σ : vMem), K77 l1 l2 σ = some r → V GM mX8_goesBy ad Q 2 77 [some (.ref (ad 0)), some (.int l1), some (.int l2), none, none] [] σ) {l1 : Int32} {l2 : Int32} {σ : vMem} (h : fX8_goesBy_204 K77 l1 l2 σ = some r) (hQ : Q none r) : V GM mX8_goesBy ad Q 2 204 [some (.ref (ad 0)), some (.int l1), some (.int l2), none, none] [] σ := by
  unfold fX8_goesBy_204 at h
  refine V.iinc dX8_goesBy_204 rfl (ii_1 _) (by decide) rfl ?_
  refine V.goto (tgt := 77) dX8_goesBy_207 (by decide) ?_
  exact V.forget (hK77 _ _ _ h) ⟨rfl, ⟨rfl, ⟨rfl, trivial⟩⟩⟩
def fX8_goesBy_192 (K77 : Int32 → Int32 → vMem → Option vMem) (l1 : Int32) (l2 : Int32) (σ : vMem) : Option vMem :=
  if l2 < 0 ∨ 8 ≤ l2.toNatClampNeg then none else (fX8_takes l2 (σ.1 12 l2.toNatClampNeg) l1 σ).bind fun q1 => fX8_goesBy_204 K77 l1 l2 q1
theorem vX8_goesBy_192 {ad : Nat → Nat} {Q : Option Value → vMem → Prop} {r : vMem} {K77 : Int32 → Int32 → vMem → Option vMem} (hK77 : ∀ (l1 : Int32) (l2 : Int32) (σ : vMem), K77 l1 l2 σ = some r → V GM mX8_goesBy ad Q 2 77 [some (.ref (ad 0)), some (.int l1), some (.int l2), none, none] [] σ) {l1 : Int32} {l2 : Int32} {σ : vMem} (h : fX8_goesBy_192 K77 l1 l2 σ = some r) (hQ : Q none r) : V GM mX8_goesBy ad Q 2 192 [some (.ref (ad 0)), some (.int l1), some (.int l2), none, none] [] σ := by
  unfold fX8_goesBy_192 at h
  refine V.aload_n dX8_goesBy_192 rfl ?_
  refine V.iload_n dX8_goesBy_193 rfl ?_
  refine V.aload_n dX8_goesBy_194 rfl ?_
  refine V.get dX8_goesBy_195 flX8_43 nM_0 gM_0 (by decide) (eM_0_20 _ _) ?_
  refine V.iload_n dX8_goesBy_198 rfl ?_
  obtain ⟨hb, h⟩ := ckn h
  refine V.iald dX8_goesBy_199 nM_12 gM_12 hb ?_
  refine V.iload_n dX8_goesBy_200 rfl ?_
  obtain ⟨q1, h1, h⟩ := bdc h
  refine V.callV3 (mc := mX8_takes) (d' := 1) dX8_goesBy_201 lkX8_231 hfX8_takes nM_0 gM_0 rfl (by decide) (Nat.le_of_ble_eq_true rfl) (Nat.le_of_ble_eq_true rfl) (vX8_takes h1 ?_)
  exact V.forget (vX8_goesBy_204 hK77 h hQ) ⟨rfl, ⟨rfl, ⟨rfl, trivial⟩⟩⟩
def fX8_goesBy_191 (K77 : Int32 → Int32 → vMem → Option vMem) (l1 : Int32) (l2 : Int32) (s1 : Int32) (s2 : Int32) (σ : vMem) : Option vMem :=
  if s1 < 0 ∨ 8 ≤ s1.toNatClampNeg then none else fX8_goesBy_192 K77 l1 l2 (vup σ 13 s1.toNatClampNeg s2)
theorem vX8_goesBy_191 {ad : Nat → Nat} {Q : Option Value → vMem → Prop} {r : vMem} {K77 : Int32 → Int32 → vMem → Option vMem} (hK77 : ∀ (l1 : Int32) (l2 : Int32) (σ : vMem), K77 l1 l2 σ = some r → V GM mX8_goesBy ad Q 2 77 [some (.ref (ad 0)), some (.int l1), some (.int l2), none, none] [] σ) {l1 : Int32} {l2 : Int32} {s1 : Int32} {s2 : Int32} {σ : vMem} (h : fX8_goesBy_191 K77 l1 l2 s1 s2 σ = some r) (hQ : Q none r) : V GM mX8_goesBy ad Q 2 191 [some (.ref (ad 0)), some (.int l1), some (.int l2), none, none] [.int s2, .int s1, .ref (ad 13)] σ := by
  unfold fX8_goesBy_191 at h
  obtain ⟨hb, h⟩ := ckn h
  refine V.iast dX8_goesBy_191 nM_13 gM_13 hb ?_
  exact V.forget (vX8_goesBy_192 hK77 h hQ) ⟨rfl, ⟨rfl, ⟨rfl, trivial⟩⟩⟩
def fX8_goesBy_185 (K77 : Int32 → Int32 → vMem → Option vMem) (l1 : Int32) (l2 : Int32) (s1 : Int32) (σ : vMem) : Option vMem :=
  if l2 < 0 ∨ 8 ≤ l2.toNatClampNeg then none else fX8_goesBy_191 K77 l1 l2 s1 (σ.1 13 l2.toNatClampNeg) σ
theorem vX8_goesBy_185 {ad : Nat → Nat} {Q : Option Value → vMem → Prop} {r : vMem} {K77 : Int32 → Int32 → vMem → Option vMem} (hK77 : ∀ (l1 : Int32) (l2 : Int32) (σ : vMem), K77 l1 l2 σ = some r → V GM mX8_goesBy ad Q 2 77 [some (.ref (ad 0)), some (.int l1), some (.int l2), none, none] [] σ) {l1 : Int32} {l2 : Int32} {s1 : Int32} {σ : vMem} (h : fX8_goesBy_185 K77 l1 l2 s1 σ = some r) (hQ : Q none r) : V GM mX8_goesBy ad Q 2 185 [some (.ref (ad 0)), some (.int l1), some (.int l2), none, none] [.int s1, .ref (ad 13)] σ := by
  unfold fX8_goesBy_185 at h
  refine V.aload_n dX8_goesBy_185 rfl ?_
  refine V.get dX8_goesBy_186 flX8_46 nM_0 gM_0 (by decide) (eM_0_21 _ _) ?_
  refine V.iload_n dX8_goesBy_189 rfl ?_
  obtain ⟨hb, h⟩ := ckn h
  refine V.iald dX8_goesBy_190 nM_13 gM_13 hb ?_
  exact V.forget (vX8_goesBy_191 hK77 h hQ) ⟨rfl, ⟨rfl, ⟨rfl, trivial⟩⟩⟩
def fX8_goesBy_134 (K77 : Int32 → Int32 → vMem → Option vMem) (l1 : Int32) (l2 : Int32) (l3 : Int32) (l4 : Int32) (σ : vMem) : Option vMem :=
  if l3 = 0 then (fX8_goesBy_204 K77 l1 l2 σ) else
  (if l4 = 0 then (if l2 < 0 ∨ 8 ≤ l2.toNatClampNeg then none else if (σ.1 12 l2.toNatClampNeg) < 0 ∨ 10 ≤ (σ.1 12 l2.toNatClampNeg).toNatClampNeg then none else if (σ.1 3 (σ.1 12 l2.toNatClampNeg).toNatClampNeg) = (3 : Int32) then ((fX8_isIn (σ.2 0 17) l1 σ).bind fun q1 => if q1.1 = 0 then (fX8_goesBy_185 K77 l1 l2 l2 q1.2) else
  (if l2 < 0 ∨ 8 ≤ l2.toNatClampNeg then none else fX8_goesBy_191 K77 l1 l2 l2 ((q1.2.1 13 l2.toNatClampNeg) / (2 : Int32)) q1.2)) else
  (fX8_goesBy_185 K77 l1 l2 l2 σ)) else
  (fX8_goesBy_204 K77 l1 l2 σ))
theorem vX8_goesBy_134 {ad : Nat → Nat} {Q : Option Value → vMem → Prop} {r : vMem} {K77 : Int32 → Int32 → vMem → Option vMem} (hK77 : ∀ (l1 : Int32) (l2 : Int32) (σ : vMem), K77 l1 l2 σ = some r → V GM mX8_goesBy ad Q 2 77 [some (.ref (ad 0)), some (.int l1), some (.int l2), none, none] [] σ) {l1 : Int32} {l2 : Int32} {l3 : Int32} {l4 : Int32} {σ : vMem} (h : fX8_goesBy_134 K77 l1 l2 l3 l4 σ = some r) (hQ : Q none r) : V GM mX8_goesBy ad Q 2 134 [some (.ref (ad 0)), some (.int l1), some (.int l2), some (.int l3), some (.int l4)] [] σ := by
  unfold fX8_goesBy_134 at h
  refine V.iload_n dX8_goesBy_134 rfl ?_
  rcases itc h with ⟨hc, h⟩ | ⟨hc, h⟩
  · refine V.if_eq (tgt := 204) dX8_goesBy_135 (by decide) (fun _ => ?_) (fun hn => absurd hc hn)
    exact V.forget (vX8_goesBy_204 hK77 h hQ) ⟨rfl, ⟨rfl, ⟨rfl, trivial⟩⟩⟩
  · refine V.if_eq (tgt := 204) dX8_goesBy_135 (by decide) (fun hn => absurd hn hc) (fun _ => ?_)
    refine V.iload dX8_goesBy_138 rfl ?_
    rcases itc h with ⟨hc, h⟩ | ⟨hc, h⟩
    · refine V.if_ne (tgt := 204) dX8_goesBy_140 (by decide) (fun hn => absurd hc hn) (fun _ => ?_)
      refine V.aload_n dX8_goesBy_143 rfl ?_
      refine V.get dX8_goesBy_144 flX8_46 nM_0 gM_0 (by decide) (eM_0_21 _ _) ?_
      refine V.iload_n dX8_goesBy_147 rfl ?_
      refine V.aload_n dX8_goesBy_148 rfl ?_
      refine V.get dX8_goesBy_149 flX8_16 nM_0 gM_0 (by decide) (eM_0_3 _ _) ?_
      refine V.aload_n dX8_goesBy_152 rfl ?_
      refine V.get dX8_goesBy_153 flX8_43 nM_0 gM_0 (by decide) (eM_0_20 _ _) ?_
      refine V.iload_n dX8_goesBy_156 rfl ?_
      obtain ⟨hb, h⟩ := ckn h
      refine V.iald dX8_goesBy_157 nM_12 gM_12 hb ?_
      obtain ⟨hb, h⟩ := ckn h
      refine V.iald dX8_goesBy_158 nM_3 gM_3 hb ?_
      refine V.iconst ic_3 dX8_goesBy_159 ?_
      rcases itc h with ⟨hc, h⟩ | ⟨hc, h⟩
      · refine V.icmp_ne (tgt := 185) dX8_goesBy_160 (by decide) (fun hn => absurd hc hn) (fun _ => ?_)
        refine V.aload_n dX8_goesBy_163 rfl ?_
        refine V.get dX8_goesBy_164 flX8_208 nM_0 gM_0 (by decide) (eM_0_17 _ _) ?_
        refine V.iload_n dX8_goesBy_167 rfl ?_
        obtain ⟨q1, h1, h⟩ := bdc h
        refine V.callS2 (mc := mX8_isIn) (d' := 0) dX8_goesBy_168 lkX8_196 hfX8_isIn (by decide) (Nat.le_of_ble_eq_true rfl) (Nat.le_of_ble_eq_true rfl) (vX8_isIn h1 ?_)
        rcases itc h with ⟨hc, h⟩ | ⟨hc, h⟩
        · refine V.if_eq (tgt := 185) dX8_goesBy_171 (by decide) (fun _ => ?_) (fun hn => absurd hc hn)
          exact V.forget (vX8_goesBy_185 hK77 h hQ) ⟨rfl, ⟨rfl, ⟨rfl, trivial⟩⟩⟩
        · refine V.if_eq (tgt := 185) dX8_goesBy_171 (by decide) (fun hn => absurd hn hc) (fun _ => ?_)
          refine V.aload_n dX8_goesBy_174 rfl ?_
          refine V.get dX8_goesBy_175 flX8_46 nM_0 gM_0 (by decide) (eM_0_21 _ _) ?_
          refine V.iload_n dX8_goesBy_178 rfl ?_
          obtain ⟨hb, h⟩ := ckn h
          refine V.iald dX8_goesBy_179 nM_13 gM_13 hb ?_
          refine V.iconst ic_2 dX8_goesBy_180 ?_
          refine V.idiv (by decide) dX8_goesBy_181 ?_
          refine V.goto (tgt := 191) dX8_goesBy_182 (by decide) ?_
          exact V.forget (vX8_goesBy_191 hK77 h hQ) ⟨rfl, ⟨rfl, ⟨rfl, trivial⟩⟩⟩
      · refine V.icmp_ne (tgt := 185) dX8_goesBy_160 (by decide) (fun _ => ?_) (fun hn => absurd hn hc)
        exact V.forget (vX8_goesBy_185 hK77 h hQ) ⟨rfl, ⟨rfl, ⟨rfl, trivial⟩⟩⟩
    · refine V.if_ne (tgt := 204) dX8_goesBy_140 (by decide) (fun _ => ?_) (fun hn => absurd hn hc)
      exact V.forget (vX8_goesBy_204 hK77 h hQ) ⟨rfl, ⟨rfl, ⟨rfl, trivial⟩⟩⟩
def fX8_goesBy_119 (K77 : Int32 → Int32 → vMem → Option vMem) (l1 : Int32) (l2 : Int32) (l3 : Int32) (s0 : Int32) (σ : vMem) : Option vMem :=
  if (((8 : Int32) * l1) + l2) < 0 ∨ 320 ≤ (((8 : Int32) * l1) + l2).toNatClampNeg then none else if ¬ (s0 = 0 ∨ s0 = 1) then none else fX8_goesBy_134 K77 l1 l2 l3 s0 (vup σ 25 (((8 : Int32) * l1) + l2).toNatClampNeg s0)
theorem vX8_goesBy_119 {ad : Nat → Nat} {Q : Option Value → vMem → Prop} {r : vMem} {K77 : Int32 → Int32 → vMem → Option vMem} (hK77 : ∀ (l1 : Int32) (l2 : Int32) (σ : vMem), K77 l1 l2 σ = some r → V GM mX8_goesBy ad Q 2 77 [some (.ref (ad 0)), some (.int l1), some (.int l2), none, none] [] σ) {l1 : Int32} {l2 : Int32} {l3 : Int32} {s0 : Int32} {σ : vMem} (h : fX8_goesBy_119 K77 l1 l2 l3 s0 σ = some r) (hQ : Q none r) : V GM mX8_goesBy ad Q 2 119 [some (.ref (ad 0)), some (.int l1), some (.int l2), some (.int l3), none] [.int s0] σ := by
  unfold fX8_goesBy_119 at h
  refine V.istore dX8_goesBy_119 (by decide) rfl ?_
  refine V.aload_n dX8_goesBy_121 rfl ?_
  refine V.get dX8_goesBy_122 flX8_83 nM_0 gM_0 (by decide) (eM_0_35 _ _) ?_
  refine V.bipush bp_8 dX8_goesBy_125 ?_
  refine V.iload_n dX8_goesBy_127 rfl ?_
  refine V.imul dX8_goesBy_128 ?_
  refine V.iload_n dX8_goesBy_129 rfl ?_
  refine V.iadd dX8_goesBy_130 ?_
  refine V.iload dX8_goesBy_131 rfl ?_
  obtain ⟨hb, h⟩ := ckn h
  obtain ⟨hz, h⟩ := ckn h
  refine V.zast dX8_goesBy_133 nM_25 gM_25 hb (Decidable.not_not.mp hz) ?_
  exact V.forget (vX8_goesBy_134 hK77 h hQ) ⟨rfl, ⟨rfl, ⟨rfl, ⟨rfl, ⟨rfl, trivial⟩⟩⟩⟩⟩
def fX8_goesBy_118 (K77 : Int32 → Int32 → vMem → Option vMem) (l1 : Int32) (l2 : Int32) (l3 : Int32) (σ : vMem) : Option vMem :=
  fX8_goesBy_119 K77 l1 l2 l3 (0 : Int32) σ
theorem vX8_goesBy_118 {ad : Nat → Nat} {Q : Option Value → vMem → Prop} {r : vMem} {K77 : Int32 → Int32 → vMem → Option vMem} (hK77 : ∀ (l1 : Int32) (l2 : Int32) (σ : vMem), K77 l1 l2 σ = some r → V GM mX8_goesBy ad Q 2 77 [some (.ref (ad 0)), some (.int l1), some (.int l2), none, none] [] σ) {l1 : Int32} {l2 : Int32} {l3 : Int32} {σ : vMem} (h : fX8_goesBy_118 K77 l1 l2 l3 σ = some r) (hQ : Q none r) : V GM mX8_goesBy ad Q 2 118 [some (.ref (ad 0)), some (.int l1), some (.int l2), some (.int l3), none] [] σ := by
  unfold fX8_goesBy_118 at h
  refine V.iconst ic_0 dX8_goesBy_118 ?_
  exact V.forget (vX8_goesBy_119 hK77 h hQ) ⟨rfl, ⟨rfl, ⟨rfl, ⟨rfl, trivial⟩⟩⟩⟩
def fX8_goesBy_77 (K77 : Int32 → Int32 → vMem → Option vMem) (l1 : Int32) (l2 : Int32) (σ : vMem) : Option vMem :=
  if (σ.1 0 6) ≤ l2 then (LfX8_goesBy_212 200 l1 (0 : Int32) σ) else
  (if l2 < 0 ∨ 8 ≤ l2.toNatClampNeg then none else (fX8_in (σ.1 12 l2.toNatClampNeg) (0 : Int32) ((σ.1 0 2) - (1 : Int32)) σ).bind fun q1 => if q1.1 = 0 then (fX8_goesBy_118 K77 l1 l2 q1.1 q1.2) else
  ((fX8_isTangled l2 q1.2).bind fun q2 => if q2.1 = 0 then (fX8_goesBy_118 K77 l1 l2 q1.1 q2.2) else
  (fX8_goesBy_119 K77 l1 l2 q1.1 (1 : Int32) q2.2)))
theorem vX8_goesBy_77 {ad : Nat → Nat} {Q : Option Value → vMem → Prop} {r : vMem} {K77 : Int32 → Int32 → vMem → Option vMem} (hK77 : ∀ (l1 : Int32) (l2 : Int32) (σ : vMem), K77 l1 l2 σ = some r → V GM mX8_goesBy ad Q 2 77 [some (.ref (ad 0)), some (.int l1), some (.int l2), none, none] [] σ) {l1 : Int32} {l2 : Int32} {σ : vMem} (h : fX8_goesBy_77 K77 l1 l2 σ = some r) (hQ : Q none r) : V GM mX8_goesBy ad Q 2 77 [some (.ref (ad 0)), some (.int l1), some (.int l2), none, none] [] σ := by
  unfold fX8_goesBy_77 at h
  refine V.iload_n dX8_goesBy_77 rfl ?_
  refine V.aload_n dX8_goesBy_78 rfl ?_
  refine V.get dX8_goesBy_79 flX8_147 nM_0 gM_0 (by decide) (eM_0_6 _ _) ?_
  rcases itc h with ⟨hc, h⟩ | ⟨hc, h⟩
  · refine V.icmp_ge (tgt := 210) dX8_goesBy_82 (by decide) (fun _ => ?_) (fun hn => absurd hc hn)
    refine V.iconst ic_0 dX8_goesBy_210 ?_
    refine V.istore_n dX8_goesBy_211 (by decide) rfl ?_
    exact V.forget (LvX8_goesBy_212 hQ 200 _ _ _ h) ⟨rfl, ⟨rfl, ⟨rfl, trivial⟩⟩⟩
  · refine V.icmp_ge (tgt := 210) dX8_goesBy_82 (by decide) (fun hn => absurd hn hc) (fun _ => ?_)
    refine V.aload_n dX8_goesBy_85 rfl ?_
    refine V.get dX8_goesBy_86 flX8_43 nM_0 gM_0 (by decide) (eM_0_20 _ _) ?_
    refine V.iload_n dX8_goesBy_89 rfl ?_
    obtain ⟨hb, h⟩ := ckn h
    refine V.iald dX8_goesBy_90 nM_12 gM_12 hb ?_
    refine V.iconst ic_0 dX8_goesBy_91 ?_
    refine V.aload_n dX8_goesBy_92 rfl ?_
    refine V.get dX8_goesBy_93 flX8_144 nM_0 gM_0 (by decide) (eM_0_2 _ _) ?_
    refine V.iconst ic_1 dX8_goesBy_96 ?_
    refine V.isub dX8_goesBy_97 ?_
    obtain ⟨q1, h1, h⟩ := bdc h
    refine V.callS3 (mc := mX8_in) (d' := 0) dX8_goesBy_98 lkX8_125 hfX8_in (by decide) (Nat.le_of_ble_eq_true rfl) (Nat.le_of_ble_eq_true rfl) (vX8_in h1 ?_)
    refine V.istore_n dX8_goesBy_101 (by decide) rfl ?_
    refine V.iload_n dX8_goesBy_102 rfl ?_
    rcases itc h with ⟨hc, h⟩ | ⟨hc, h⟩
    · refine V.if_eq (tgt := 118) dX8_goesBy_103 (by decide) (fun _ => ?_) (fun hn => absurd hc hn)
      exact V.forget (vX8_goesBy_118 hK77 h hQ) ⟨rfl, ⟨rfl, ⟨rfl, ⟨rfl, trivial⟩⟩⟩⟩
    · refine V.if_eq (tgt := 118) dX8_goesBy_103 (by decide) (fun hn => absurd hn hc) (fun _ => ?_)
      refine V.aload_n dX8_goesBy_106 rfl ?_
      refine V.iload_n dX8_goesBy_107 rfl ?_
      obtain ⟨q2, h1, h⟩ := bdc h
      refine V.callV1 (mc := mX8_isTangled) (d' := 0) dX8_goesBy_108 lkX8_228 hfX8_isTangled nM_0 gM_0 rfl (by decide) (Nat.le_of_ble_eq_true rfl) (Nat.le_of_ble_eq_true rfl) (vX8_isTangled h1 ?_)
      rcases itc h with ⟨hc, h⟩ | ⟨hc, h⟩
      · refine V.if_eq (tgt := 118) dX8_goesBy_111 (by decide) (fun _ => ?_) (fun hn => absurd hc hn)
        exact V.forget (vX8_goesBy_118 hK77 h hQ) ⟨rfl, ⟨rfl, ⟨rfl, ⟨rfl, trivial⟩⟩⟩⟩
      · refine V.if_eq (tgt := 118) dX8_goesBy_111 (by decide) (fun hn => absurd hn hc) (fun _ => ?_)
        refine V.iconst ic_1 dX8_goesBy_114 ?_
        refine V.goto (tgt := 119) dX8_goesBy_115 (by decide) ?_
        exact V.forget (vX8_goesBy_119 hK77 h hQ) ⟨rfl, ⟨rfl, ⟨rfl, ⟨rfl, trivial⟩⟩⟩⟩
def LfX8_goesBy_77 : Nat → Int32 → Int32 → vMem → Option vMem
  | 0, _, _, _ => none
  | n + 1, l1, l2, σ => fX8_goesBy_77 (LfX8_goesBy_77 n) l1 l2 σ
theorem LvX8_goesBy_77 {ad : Nat → Nat} {Q : Option Value → vMem → Prop} {r : vMem} (hQ : Q none r) : ∀ (n : Nat) (l1 : Int32) (l2 : Int32) (σ : vMem), LfX8_goesBy_77 n l1 l2 σ = some r → V GM mX8_goesBy ad Q 2 77 [some (.ref (ad 0)), some (.int l1), some (.int l2), none, none] [] σ := by
  intro n
  induction n with
  | zero => intro l1 l2 σ h; cases h
  | succ n ih => intro l1 l2 σ h; exact vX8_goesBy_77 ih h hQ
def fX8_goesBy_69 (K2 : Int32 → Int32 → vMem → Option vMem) (l1 : Int32) (l2 : Int32) (σ : vMem) : Option vMem :=
  K2 l1 (l2 + (1 : Int32)) σ
theorem vX8_goesBy_69 {ad : Nat → Nat} {Q : Option Value → vMem → Prop} {r : vMem} {K2 : Int32 → Int32 → vMem → Option vMem} (hK2 : ∀ (l1 : Int32) (l2 : Int32) (σ : vMem), K2 l1 l2 σ = some r → V GM mX8_goesBy ad Q 2 2 [some (.ref (ad 0)), some (.int l1), some (.int l2), none, none] [] σ) {l1 : Int32} {l2 : Int32} {σ : vMem} (h : fX8_goesBy_69 K2 l1 l2 σ = some r) (hQ : Q none r) : V GM mX8_goesBy ad Q 2 69 [some (.ref (ad 0)), some (.int l1), some (.int l2), none, none] [] σ := by
  unfold fX8_goesBy_69 at h
  refine V.iinc dX8_goesBy_69 rfl (ii_1 _) (by decide) rfl ?_
  refine V.goto (tgt := 2) dX8_goesBy_72 (by decide) ?_
  exact V.forget (hK2 _ _ _ h) ⟨rfl, ⟨rfl, ⟨rfl, trivial⟩⟩⟩
def fX8_goesBy_68 (K2 : Int32 → Int32 → vMem → Option vMem) (l1 : Int32) (l2 : Int32) (s1 : Int32) (s2 : Int32) (σ : vMem) : Option vMem :=
  if s1 < 0 ∨ 8 ≤ s1.toNatClampNeg then none else fX8_goesBy_69 K2 l1 l2 (vup σ 18 s1.toNatClampNeg s2)
theorem vX8_goesBy_68 {ad : Nat → Nat} {Q : Option Value → vMem → Prop} {r : vMem} {K2 : Int32 → Int32 → vMem → Option vMem} (hK2 : ∀ (l1 : Int32) (l2 : Int32) (σ : vMem), K2 l1 l2 σ = some r → V GM mX8_goesBy ad Q 2 2 [some (.ref (ad 0)), some (.int l1), some (.int l2), none, none] [] σ) {l1 : Int32} {l2 : Int32} {s1 : Int32} {s2 : Int32} {σ : vMem} (h : fX8_goesBy_68 K2 l1 l2 s1 s2 σ = some r) (hQ : Q none r) : V GM mX8_goesBy ad Q 2 68 [some (.ref (ad 0)), some (.int l1), some (.int l2), none, none] [.int s2, .int s1, .ref (ad 18)] σ := by
  unfold fX8_goesBy_68 at h
  obtain ⟨hb, h⟩ := ckn h
  refine V.iast dX8_goesBy_68 nM_18 gM_18 hb ?_
  exact V.forget (vX8_goesBy_69 hK2 h hQ) ⟨rfl, ⟨rfl, ⟨rfl, trivial⟩⟩⟩
def fX8_goesBy_62 (K2 : Int32 → Int32 → vMem → Option vMem) (l1 : Int32) (l2 : Int32) (s1 : Int32) (σ : vMem) : Option vMem :=
  if l2 < 0 ∨ 8 ≤ l2.toNatClampNeg then none else fX8_goesBy_68 K2 l1 l2 s1 (σ.1 18 l2.toNatClampNeg) σ
theorem vX8_goesBy_62 {ad : Nat → Nat} {Q : Option Value → vMem → Prop} {r : vMem} {K2 : Int32 → Int32 → vMem → Option vMem} (hK2 : ∀ (l1 : Int32) (l2 : Int32) (σ : vMem), K2 l1 l2 σ = some r → V GM mX8_goesBy ad Q 2 2 [some (.ref (ad 0)), some (.int l1), some (.int l2), none, none] [] σ) {l1 : Int32} {l2 : Int32} {s1 : Int32} {σ : vMem} (h : fX8_goesBy_62 K2 l1 l2 s1 σ = some r) (hQ : Q none r) : V GM mX8_goesBy ad Q 2 62 [some (.ref (ad 0)), some (.int l1), some (.int l2), none, none] [.int s1, .ref (ad 18)] σ := by
  unfold fX8_goesBy_62 at h
  refine V.aload_n dX8_goesBy_62 rfl ?_
  refine V.get dX8_goesBy_63 flX8_62 nM_0 gM_0 (by decide) (eM_0_26 _ _) ?_
  refine V.iload_n dX8_goesBy_66 rfl ?_
  obtain ⟨hb, h⟩ := ckn h
  refine V.iald dX8_goesBy_67 nM_18 gM_18 hb ?_
  exact V.forget (vX8_goesBy_68 hK2 h hQ) ⟨rfl, ⟨rfl, ⟨rfl, trivial⟩⟩⟩
def fX8_goesBy_36 (K2 : Int32 → Int32 → vMem → Option vMem) (l1 : Int32) (l2 : Int32) (σ : vMem) : Option vMem :=
  if l2 < 0 ∨ 9 ≤ l2.toNatClampNeg then none else if (σ.1 6 l2.toNatClampNeg) = l1 then (if (σ.1 0 2) = 0 then (fX8_goesBy_68 K2 l1 l2 l2 l1 σ) else
  (fX8_goesBy_62 K2 l1 l2 l2 σ)) else
  (fX8_goesBy_62 K2 l1 l2 l2 σ)
theorem vX8_goesBy_36 {ad : Nat → Nat} {Q : Option Value → vMem → Prop} {r : vMem} {K2 : Int32 → Int32 → vMem → Option vMem} (hK2 : ∀ (l1 : Int32) (l2 : Int32) (σ : vMem), K2 l1 l2 σ = some r → V GM mX8_goesBy ad Q 2 2 [some (.ref (ad 0)), some (.int l1), some (.int l2), none, none] [] σ) {l1 : Int32} {l2 : Int32} {σ : vMem} (h : fX8_goesBy_36 K2 l1 l2 σ = some r) (hQ : Q none r) : V GM mX8_goesBy ad Q 2 36 [some (.ref (ad 0)), some (.int l1), some (.int l2), none, none] [] σ := by
  unfold fX8_goesBy_36 at h
  refine V.aload_n dX8_goesBy_36 rfl ?_
  refine V.get dX8_goesBy_37 flX8_62 nM_0 gM_0 (by decide) (eM_0_26 _ _) ?_
  refine V.iload_n dX8_goesBy_40 rfl ?_
  refine V.aload_n dX8_goesBy_41 rfl ?_
  refine V.get dX8_goesBy_42 flX8_25 nM_0 gM_0 (by decide) (eM_0_7 _ _) ?_
  refine V.iload_n dX8_goesBy_45 rfl ?_
  obtain ⟨hb, h⟩ := ckn h
  refine V.iald dX8_goesBy_46 nM_6 gM_6 hb ?_
  refine V.iload_n dX8_goesBy_47 rfl ?_
  rcases itc h with ⟨hc, h⟩ | ⟨hc, h⟩
  · refine V.icmp_ne (tgt := 62) dX8_goesBy_48 (by decide) (fun hn => absurd hc hn) (fun _ => ?_)
    refine V.aload_n dX8_goesBy_51 rfl ?_
    refine V.get dX8_goesBy_52 flX8_144 nM_0 gM_0 (by decide) (eM_0_2 _ _) ?_
    rcases itc h with ⟨hc, h⟩ | ⟨hc, h⟩
    · refine V.if_ne (tgt := 62) dX8_goesBy_55 (by decide) (fun hn => absurd hc hn) (fun _ => ?_)
      refine V.iload_n dX8_goesBy_58 rfl ?_
      refine V.goto (tgt := 68) dX8_goesBy_59 (by decide) ?_
      exact V.forget (vX8_goesBy_68 hK2 h hQ) ⟨rfl, ⟨rfl, ⟨rfl, trivial⟩⟩⟩
    · refine V.if_ne (tgt := 62) dX8_goesBy_55 (by decide) (fun _ => ?_) (fun hn => absurd hn hc)
      exact V.forget (vX8_goesBy_62 hK2 h hQ) ⟨rfl, ⟨rfl, ⟨rfl, trivial⟩⟩⟩
  · refine V.icmp_ne (tgt := 62) dX8_goesBy_48 (by decide) (fun _ => ?_) (fun hn => absurd hn hc)
    exact V.forget (vX8_goesBy_62 hK2 h hQ) ⟨rfl, ⟨rfl, ⟨rfl, trivial⟩⟩⟩
def fX8_goesBy_35 (K2 : Int32 → Int32 → vMem → Option vMem) (l1 : Int32) (l2 : Int32) (s1 : Int32) (s2 : Int32) (σ : vMem) : Option vMem :=
  if s1 < 0 ∨ 8 ≤ s1.toNatClampNeg then none else fX8_goesBy_36 K2 l1 l2 (vup σ 12 s1.toNatClampNeg s2)
theorem vX8_goesBy_35 {ad : Nat → Nat} {Q : Option Value → vMem → Prop} {r : vMem} {K2 : Int32 → Int32 → vMem → Option vMem} (hK2 : ∀ (l1 : Int32) (l2 : Int32) (σ : vMem), K2 l1 l2 σ = some r → V GM mX8_goesBy ad Q 2 2 [some (.ref (ad 0)), some (.int l1), some (.int l2), none, none] [] σ) {l1 : Int32} {l2 : Int32} {s1 : Int32} {s2 : Int32} {σ : vMem} (h : fX8_goesBy_35 K2 l1 l2 s1 s2 σ = some r) (hQ : Q none r) : V GM mX8_goesBy ad Q 2 35 [some (.ref (ad 0)), some (.int l1), some (.int l2), none, none] [.int s2, .int s1, .ref (ad 12)] σ := by
  unfold fX8_goesBy_35 at h
  obtain ⟨hb, h⟩ := ckn h
  refine V.iast dX8_goesBy_35 nM_12 gM_12 hb ?_
  exact V.forget (vX8_goesBy_36 hK2 h hQ) ⟨rfl, ⟨rfl, ⟨rfl, trivial⟩⟩⟩
def fX8_goesBy_2 (K2 : Int32 → Int32 → vMem → Option vMem) (l1 : Int32) (l2 : Int32) (σ : vMem) : Option vMem :=
  if (σ.1 0 6) ≤ l2 then (LfX8_goesBy_77 200 l1 (0 : Int32) σ) else
  (if l2 < 0 ∨ 9 ≤ l2.toNatClampNeg then none else if (σ.1 6 l2.toNatClampNeg) = l1 then (fX8_goesBy_35 K2 l1 l2 l2 (0 : Int32) σ) else
  (if l2 < 0 ∨ 8 ≤ l2.toNatClampNeg then none else fX8_goesBy_35 K2 l1 l2 l2 (σ.1 12 l2.toNatClampNeg) σ))
theorem vX8_goesBy_2 {ad : Nat → Nat} {Q : Option Value → vMem → Prop} {r : vMem} {K2 : Int32 → Int32 → vMem → Option vMem} (hK2 : ∀ (l1 : Int32) (l2 : Int32) (σ : vMem), K2 l1 l2 σ = some r → V GM mX8_goesBy ad Q 2 2 [some (.ref (ad 0)), some (.int l1), some (.int l2), none, none] [] σ) {l1 : Int32} {l2 : Int32} {σ : vMem} (h : fX8_goesBy_2 K2 l1 l2 σ = some r) (hQ : Q none r) : V GM mX8_goesBy ad Q 2 2 [some (.ref (ad 0)), some (.int l1), some (.int l2), none, none] [] σ := by
  unfold fX8_goesBy_2 at h
  refine V.iload_n dX8_goesBy_2 rfl ?_
  refine V.aload_n dX8_goesBy_3 rfl ?_
  refine V.get dX8_goesBy_4 flX8_147 nM_0 gM_0 (by decide) (eM_0_6 _ _) ?_
  rcases itc h with ⟨hc, h⟩ | ⟨hc, h⟩
  · refine V.icmp_ge (tgt := 75) dX8_goesBy_7 (by decide) (fun _ => ?_) (fun hn => absurd hc hn)
    refine V.iconst ic_0 dX8_goesBy_75 ?_
    refine V.istore_n dX8_goesBy_76 (by decide) rfl ?_
    exact V.forget (LvX8_goesBy_77 hQ 200 _ _ _ h) ⟨rfl, ⟨rfl, ⟨rfl, trivial⟩⟩⟩
  · refine V.icmp_ge (tgt := 75) dX8_goesBy_7 (by decide) (fun hn => absurd hn hc) (fun _ => ?_)
    refine V.aload_n dX8_goesBy_10 rfl ?_
    refine V.get dX8_goesBy_11 flX8_43 nM_0 gM_0 (by decide) (eM_0_20 _ _) ?_
    refine V.iload_n dX8_goesBy_14 rfl ?_
    refine V.aload_n dX8_goesBy_15 rfl ?_
    refine V.get dX8_goesBy_16 flX8_25 nM_0 gM_0 (by decide) (eM_0_7 _ _) ?_
    refine V.iload_n dX8_goesBy_19 rfl ?_
    obtain ⟨hb, h⟩ := ckn h
    refine V.iald dX8_goesBy_20 nM_6 gM_6 hb ?_
    refine V.iload_n dX8_goesBy_21 rfl ?_
    rcases itc h with ⟨hc, h⟩ | ⟨hc, h⟩
    · refine V.icmp_ne (tgt := 29) dX8_goesBy_22 (by decide) (fun hn => absurd hc hn) (fun _ => ?_)
      refine V.iconst ic_0 dX8_goesBy_25 ?_
      refine V.goto (tgt := 35) dX8_goesBy_26 (by decide) ?_
      exact V.forget (vX8_goesBy_35 hK2 h hQ) ⟨rfl, ⟨rfl, ⟨rfl, trivial⟩⟩⟩
    · refine V.icmp_ne (tgt := 29) dX8_goesBy_22 (by decide) (fun _ => ?_) (fun hn => absurd hn hc)
      refine V.aload_n dX8_goesBy_29 rfl ?_
      refine V.get dX8_goesBy_30 flX8_43 nM_0 gM_0 (by decide) (eM_0_20 _ _) ?_
      refine V.iload_n dX8_goesBy_33 rfl ?_
      obtain ⟨hb, h⟩ := ckn h
      refine V.iald dX8_goesBy_34 nM_12 gM_12 hb ?_
      exact V.forget (vX8_goesBy_35 hK2 h hQ) ⟨rfl, ⟨rfl, ⟨rfl, trivial⟩⟩⟩
def LfX8_goesBy_2 : Nat → Int32 → Int32 → vMem → Option vMem
  | 0, _, _, _ => none
  | n + 1, l1, l2, σ => fX8_goesBy_2 (LfX8_goesBy_2 n) l1 l2 σ
theorem LvX8_goesBy_2 {ad : Nat → Nat} {Q : Option Value → vMem → Prop} {r : vMem} (hQ : Q none r) : ∀ (n : Nat) (l1 : Int32) (l2 : Int32) (σ : vMem), LfX8_goesBy_2 n l1 l2 σ = some r → V GM mX8_goesBy ad Q 2 2 [some (.ref (ad 0)), some (.int l1), some (.int l2), none, none] [] σ := by
  intro n
  induction n with
  | zero => intro l1 l2 σ h; cases h
  | succ n ih => intro l1 l2 σ h; exact vX8_goesBy_2 ih h hQ
def fX8_goesBy (l1 : Int32) (σ : vMem) : Option vMem :=
  LfX8_goesBy_2 200 l1 (0 : Int32) σ
theorem vX8_goesBy {ad : Nat → Nat} {Q : Option Value → vMem → Prop} {r : vMem} {l1 : Int32} {σ : vMem} (h : fX8_goesBy l1 σ = some r) (hQ : Q none r) : V GM mX8_goesBy ad Q 2 0 [some (.ref (ad 0)), some (.int l1), none, none, none] [] σ := by
  unfold fX8_goesBy at h
  refine V.iconst ic_0 dX8_goesBy_0 ?_
  refine V.istore_n dX8_goesBy_1 (by decide) rfl ?_
  exact V.forget (LvX8_goesBy_2 hQ 200 _ _ _ h) ⟨rfl, ⟨rfl, ⟨rfl, trivial⟩⟩⟩
def fX8_runs_156 (K156 : Int32 → vMem → Option vMem) (l1 : Int32) (σ : vMem) : Option vMem :=
  if (40 : Int32) ≤ l1 then (some σ) else
  ((fX8_goesBy l1 σ).bind fun q1 => K156 (l1 + (1 : Int32)) q1)
theorem vX8_runs_156 {ad : Nat → Nat} {Q : Option Value → vMem → Prop} {r : vMem} {K156 : Int32 → vMem → Option vMem} (hK156 : ∀ (l1 : Int32) (σ : vMem), K156 l1 σ = some r → V GM mX8_runs ad Q 3 156 [some (.ref (ad 0)), some (.int l1), none] [] σ) {l1 : Int32} {σ : vMem} (h : fX8_runs_156 K156 l1 σ = some r) (hQ : Q none r) : V GM mX8_runs ad Q 3 156 [some (.ref (ad 0)), some (.int l1), none] [] σ := by
  unfold fX8_runs_156 at h
  refine V.iload_n dX8_runs_156 rfl ?_
  refine V.bipush bp_40 dX8_runs_157 ?_
  rcases itc h with ⟨hc, h⟩ | ⟨hc, h⟩
  · refine V.icmp_ge (tgt := 173) dX8_runs_159 (by decide) (fun _ => ?_) (fun hn => absurd hc hn)
    obtain rfl := Option.some.inj h
    exact V.vret dX8_runs_173 rfl hQ
  · refine V.icmp_ge (tgt := 173) dX8_runs_159 (by decide) (fun hn => absurd hn hc) (fun _ => ?_)
    refine V.aload_n dX8_runs_162 rfl ?_
    refine V.iload_n dX8_runs_163 rfl ?_
    obtain ⟨q1, h1, h⟩ := bdc h
    refine V.callV1 (mc := mX8_goesBy) (d' := 2) dX8_runs_164 lkX8_239 hfX8_goesBy nM_0 gM_0 rfl (by decide) (Nat.le_of_ble_eq_true rfl) (Nat.le_of_ble_eq_true rfl) (vX8_goesBy h1 ?_)
    refine V.iinc dX8_runs_167 rfl (ii_1 _) (by decide) rfl ?_
    refine V.goto (tgt := 156) dX8_runs_170 (by decide) ?_
    exact V.forget (hK156 _ _ h) ⟨rfl, ⟨rfl, trivial⟩⟩
def LfX8_runs_156 : Nat → Int32 → vMem → Option vMem
  | 0, _, _ => none
  | n + 1, l1, σ => fX8_runs_156 (LfX8_runs_156 n) l1 σ
theorem LvX8_runs_156 {ad : Nat → Nat} {Q : Option Value → vMem → Prop} {r : vMem} (hQ : Q none r) : ∀ (n : Nat) (l1 : Int32) (σ : vMem), LfX8_runs_156 n l1 σ = some r → V GM mX8_runs ad Q 3 156 [some (.ref (ad 0)), some (.int l1), none] [] σ := by
  intro n
  induction n with
  | zero => intro l1 σ h; cases h
  | succ n ih => intro l1 σ h; exact vX8_runs_156 ih h hQ
def fX8_runs_154 (σ : vMem) : Option vMem :=
  LfX8_runs_156 200 (0 : Int32) σ
theorem vX8_runs_154 {ad : Nat → Nat} {Q : Option Value → vMem → Prop} {r : vMem} {σ : vMem} (h : fX8_runs_154 σ = some r) (hQ : Q none r) : V GM mX8_runs ad Q 3 154 [some (.ref (ad 0)), none, none] [] σ := by
  unfold fX8_runs_154 at h
  refine V.iconst ic_0 dX8_runs_154 ?_
  refine V.istore_n dX8_runs_155 (by decide) rfl ?_
  exact V.forget (LvX8_runs_156 hQ 200 _ _ h) ⟨rfl, ⟨rfl, trivial⟩⟩
def fX8_runs_149 (σ : vMem) : Option vMem :=
  fX8_runs_154 (vup σ 0 31 (-1 : Int32))
theorem vX8_runs_149 {ad : Nat → Nat} {Q : Option Value → vMem → Prop} {r : vMem} {σ : vMem} (h : fX8_runs_149 σ = some r) (hQ : Q none r) : V GM mX8_runs ad Q 3 149 [some (.ref (ad 0)), none, none] [] σ := by
  unfold fX8_runs_149 at h
  refine V.aload_n dX8_runs_149 rfl ?_
  refine V.iconst ic_m1 dX8_runs_150 ?_
  refine V.putI dX8_runs_151 fpX8_221 nM_0 gM_0 (by decide) rfl ?_
  exact V.forget (vX8_runs_154 h hQ) ⟨rfl, trivial⟩
def fX8_runs_138 (K109 : Int32 → vMem → Option vMem) (l1 : Int32) (σ : vMem) : Option vMem :=
  K109 (l1 + (1 : Int32)) σ
theorem vX8_runs_138 {ad : Nat → Nat} {Q : Option Value → vMem → Prop} {r : vMem} {K109 : Int32 → vMem → Option vMem} (hK109 : ∀ (l1 : Int32) (σ : vMem), K109 l1 σ = some r → V GM mX8_runs ad Q 3 109 [some (.ref (ad 0)), some (.int l1), none] [] σ) {l1 : Int32} {σ : vMem} (h : fX8_runs_138 K109 l1 σ = some r) (hQ : Q none r) : V GM mX8_runs ad Q 3 138 [some (.ref (ad 0)), some (.int l1), none] [] σ := by
  unfold fX8_runs_138 at h
  refine V.iinc dX8_runs_138 rfl (ii_1 _) (by decide) rfl ?_
  refine V.goto (tgt := 109) dX8_runs_141 (by decide) ?_
  exact V.forget (hK109 _ _ h) ⟨rfl, ⟨rfl, trivial⟩⟩
def fX8_runs_131 (K109 : Int32 → vMem → Option vMem) (l1 : Int32) (σ : vMem) : Option vMem :=
  if l1 < 0 ∨ 9 ≤ l1.toNatClampNeg then none else fX8_runs_138 K109 l1 (vup σ 21 l1.toNatClampNeg (0 : Int32))
theorem vX8_runs_131 {ad : Nat → Nat} {Q : Option Value → vMem → Prop} {r : vMem} {K109 : Int32 → vMem → Option vMem} (hK109 : ∀ (l1 : Int32) (σ : vMem), K109 l1 σ = some r → V GM mX8_runs ad Q 3 109 [some (.ref (ad 0)), some (.int l1), none] [] σ) {l1 : Int32} {σ : vMem} (h : fX8_runs_131 K109 l1 σ = some r) (hQ : Q none r) : V GM mX8_runs ad Q 3 131 [some (.ref (ad 0)), some (.int l1), none] [] σ := by
  unfold fX8_runs_131 at h
  refine V.aload_n dX8_runs_131 rfl ?_
  refine V.get dX8_runs_132 flX8_71 nM_0 gM_0 (by decide) (eM_0_29 _ _) ?_
  refine V.iload_n dX8_runs_135 rfl ?_
  refine V.iconst ic_0 dX8_runs_136 ?_
  obtain ⟨hb, h⟩ := ckn h
  refine V.iast dX8_runs_137 nM_21 gM_21 hb ?_
  exact V.forget (vX8_runs_138 hK109 h hQ) ⟨rfl, ⟨rfl, trivial⟩⟩
def fX8_runs_124 (K109 : Int32 → vMem → Option vMem) (l1 : Int32) (σ : vMem) : Option vMem :=
  if l1 < 0 ∨ 9 ≤ l1.toNatClampNeg then none else fX8_runs_131 K109 l1 (vup σ 20 l1.toNatClampNeg (0 : Int32))
theorem vX8_runs_124 {ad : Nat → Nat} {Q : Option Value → vMem → Prop} {r : vMem} {K109 : Int32 → vMem → Option vMem} (hK109 : ∀ (l1 : Int32) (σ : vMem), K109 l1 σ = some r → V GM mX8_runs ad Q 3 109 [some (.ref (ad 0)), some (.int l1), none] [] σ) {l1 : Int32} {σ : vMem} (h : fX8_runs_124 K109 l1 σ = some r) (hQ : Q none r) : V GM mX8_runs ad Q 3 124 [some (.ref (ad 0)), some (.int l1), none] [] σ := by
  unfold fX8_runs_124 at h
  refine V.aload_n dX8_runs_124 rfl ?_
  refine V.get dX8_runs_125 flX8_68 nM_0 gM_0 (by decide) (eM_0_28 _ _) ?_
  refine V.iload_n dX8_runs_128 rfl ?_
  refine V.iconst ic_0 dX8_runs_129 ?_
  obtain ⟨hb, h⟩ := ckn h
  refine V.iast dX8_runs_130 nM_20 gM_20 hb ?_
  exact V.forget (vX8_runs_131 hK109 h hQ) ⟨rfl, ⟨rfl, trivial⟩⟩
def fX8_runs_109 (K109 : Int32 → vMem → Option vMem) (l1 : Int32) (σ : vMem) : Option vMem :=
  if (σ.1 0 2) ≤ l1 then (fX8_runs_149 (vup σ 0 30 (-1 : Int32))) else
  (if l1 < 0 ∨ 9 ≤ l1.toNatClampNeg then none else fX8_runs_124 K109 l1 (vup σ 19 l1.toNatClampNeg (-1 : Int32)))
theorem vX8_runs_109 {ad : Nat → Nat} {Q : Option Value → vMem → Prop} {r : vMem} {K109 : Int32 → vMem → Option vMem} (hK109 : ∀ (l1 : Int32) (σ : vMem), K109 l1 σ = some r → V GM mX8_runs ad Q 3 109 [some (.ref (ad 0)), some (.int l1), none] [] σ) {l1 : Int32} {σ : vMem} (h : fX8_runs_109 K109 l1 σ = some r) (hQ : Q none r) : V GM mX8_runs ad Q 3 109 [some (.ref (ad 0)), some (.int l1), none] [] σ := by
  unfold fX8_runs_109 at h
  refine V.iload_n dX8_runs_109 rfl ?_
  refine V.aload_n dX8_runs_110 rfl ?_
  refine V.get dX8_runs_111 flX8_144 nM_0 gM_0 (by decide) (eM_0_2 _ _) ?_
  rcases itc h with ⟨hc, h⟩ | ⟨hc, h⟩
  · refine V.icmp_ge (tgt := 144) dX8_runs_114 (by decide) (fun _ => ?_) (fun hn => absurd hc hn)
    refine V.aload_n dX8_runs_144 rfl ?_
    refine V.iconst ic_m1 dX8_runs_145 ?_
    refine V.putI dX8_runs_146 fpX8_218 nM_0 gM_0 (by decide) rfl ?_
    exact V.forget (vX8_runs_149 h hQ) ⟨rfl, trivial⟩
  · refine V.icmp_ge (tgt := 144) dX8_runs_114 (by decide) (fun hn => absurd hn hc) (fun _ => ?_)
    refine V.aload_n dX8_runs_117 rfl ?_
    refine V.get dX8_runs_118 flX8_65 nM_0 gM_0 (by decide) (eM_0_27 _ _) ?_
    refine V.iload_n dX8_runs_121 rfl ?_
    refine V.iconst ic_m1 dX8_runs_122 ?_
    obtain ⟨hb, h⟩ := ckn h
    refine V.iast dX8_runs_123 nM_19 gM_19 hb ?_
    exact V.forget (vX8_runs_124 hK109 h hQ) ⟨rfl, ⟨rfl, trivial⟩⟩
def LfX8_runs_109 : Nat → Int32 → vMem → Option vMem
  | 0, _, _ => none
  | n + 1, l1, σ => fX8_runs_109 (LfX8_runs_109 n) l1 σ
theorem LvX8_runs_109 {ad : Nat → Nat} {Q : Option Value → vMem → Prop} {r : vMem} (hQ : Q none r) : ∀ (n : Nat) (l1 : Int32) (σ : vMem), LfX8_runs_109 n l1 σ = some r → V GM mX8_runs ad Q 3 109 [some (.ref (ad 0)), some (.int l1), none] [] σ := by
  intro n
  induction n with
  | zero => intro l1 σ h; cases h
  | succ n ih => intro l1 σ h; exact vX8_runs_109 ih h hQ
def fX8_runs_95 (K2 : Int32 → vMem → Option vMem) (K64 : Int32 → Int32 → vMem → Option vMem) (l1 : Int32) (l2 : Int32) (σ : vMem) : Option vMem :=
  K64 l1 (l2 + (1 : Int32)) σ
theorem vX8_runs_95 {ad : Nat → Nat} {Q : Option Value → vMem → Prop} {r : vMem} {K2 : Int32 → vMem → Option vMem} (hK2 : ∀ (l1 : Int32) (σ : vMem), K2 l1 σ = some r → V GM mX8_runs ad Q 3 2 [some (.ref (ad 0)), some (.int l1), none] [] σ) {K64 : Int32 → Int32 → vMem → Option vMem} (hK64 : ∀ (l1 : Int32) (l2 : Int32) (σ : vMem), K64 l1 l2 σ = some r → V GM mX8_runs ad Q 3 64 [some (.ref (ad 0)), some (.int l1), some (.int l2)] [] σ) {l1 : Int32} {l2 : Int32} {σ : vMem} (h : fX8_runs_95 K2 K64 l1 l2 σ = some r) (hQ : Q none r) : V GM mX8_runs ad Q 3 95 [some (.ref (ad 0)), some (.int l1), some (.int l2)] [] σ := by
  unfold fX8_runs_95 at h
  refine V.iinc dX8_runs_95 rfl (ii_1 _) (by decide) rfl ?_
  refine V.goto (tgt := 64) dX8_runs_98 (by decide) ?_
  exact V.forget (hK64 _ _ _ h) ⟨rfl, ⟨rfl, ⟨rfl, trivial⟩⟩⟩
def fX8_runs_64 (K2 : Int32 → vMem → Option vMem) (K64 : Int32 → Int32 → vMem → Option vMem) (l1 : Int32) (l2 : Int32) (σ : vMem) : Option vMem :=
  if l1 < 0 ∨ 9 ≤ l1.toNatClampNeg then none else if (σ.1 8 l1.toNatClampNeg) ≤ l2 then (K2 (l1 + (1 : Int32)) σ) else
  (if (((3 : Int32) * l1) + l2) < 0 ∨ 27 ≤ (((3 : Int32) * l1) + l2).toNatClampNeg then none else if (((24 : Int32) * l1) + l2) < 0 ∨ 192 ≤ (((24 : Int32) * l1) + l2).toNatClampNeg then none else fX8_runs_95 K2 K64 l1 l2 (vup σ 15 (((24 : Int32) * l1) + l2).toNatClampNeg (σ.1 9 (((3 : Int32) * l1) + l2).toNatClampNeg)))
theorem vX8_runs_64 {ad : Nat → Nat} {Q : Option Value → vMem → Prop} {r : vMem} {K2 : Int32 → vMem → Option vMem} (hK2 : ∀ (l1 : Int32) (σ : vMem), K2 l1 σ = some r → V GM mX8_runs ad Q 3 2 [some (.ref (ad 0)), some (.int l1), none] [] σ) {K64 : Int32 → Int32 → vMem → Option vMem} (hK64 : ∀ (l1 : Int32) (l2 : Int32) (σ : vMem), K64 l1 l2 σ = some r → V GM mX8_runs ad Q 3 64 [some (.ref (ad 0)), some (.int l1), some (.int l2)] [] σ) {l1 : Int32} {l2 : Int32} {σ : vMem} (h : fX8_runs_64 K2 K64 l1 l2 σ = some r) (hQ : Q none r) : V GM mX8_runs ad Q 3 64 [some (.ref (ad 0)), some (.int l1), some (.int l2)] [] σ := by
  unfold fX8_runs_64 at h
  refine V.iload_n dX8_runs_64 rfl ?_
  refine V.aload_n dX8_runs_65 rfl ?_
  refine V.get dX8_runs_66 flX8_31 nM_0 gM_0 (by decide) (eM_0_9 _ _) ?_
  refine V.iload_n dX8_runs_69 rfl ?_
  obtain ⟨hb, h⟩ := ckn h
  refine V.iald dX8_runs_70 nM_8 gM_8 hb ?_
  rcases itc h with ⟨hc, h⟩ | ⟨hc, h⟩
  · refine V.icmp_ge (tgt := 101) dX8_runs_71 (by decide) (fun _ => ?_) (fun hn => absurd hc hn)
    refine V.iinc dX8_runs_101 rfl (ii_1 _) (by decide) rfl ?_
    refine V.goto (tgt := 2) dX8_runs_104 (by decide) ?_
    exact V.forget (hK2 _ _ h) ⟨rfl, ⟨rfl, trivial⟩⟩
  · refine V.icmp_ge (tgt := 101) dX8_runs_71 (by decide) (fun hn => absurd hn hc) (fun _ => ?_)
    refine V.aload_n dX8_runs_74 rfl ?_
    refine V.get dX8_runs_75 flX8_52 nM_0 gM_0 (by decide) (eM_0_23 _ _) ?_
    refine V.bipush bp_24 dX8_runs_78 ?_
    refine V.iload_n dX8_runs_80 rfl ?_
    refine V.imul dX8_runs_81 ?_
    refine V.iload_n dX8_runs_82 rfl ?_
    refine V.iadd dX8_runs_83 ?_
    refine V.aload_n dX8_runs_84 rfl ?_
    refine V.get dX8_runs_85 flX8_34 nM_0 gM_0 (by decide) (eM_0_10 _ _) ?_
    refine V.iconst ic_3 dX8_runs_88 ?_
    refine V.iload_n dX8_runs_89 rfl ?_
    refine V.imul dX8_runs_90 ?_
    refine V.iload_n dX8_runs_91 rfl ?_
    refine V.iadd dX8_runs_92 ?_
    obtain ⟨hb, h⟩ := ckn h
    refine V.iald dX8_runs_93 nM_9 gM_9 hb ?_
    obtain ⟨hb, h⟩ := ckn h
    refine V.iast dX8_runs_94 nM_15 gM_15 hb ?_
    exact V.forget (vX8_runs_95 hK2 hK64 h hQ) ⟨rfl, ⟨rfl, ⟨rfl, trivial⟩⟩⟩
def LfX8_runs_64 (K2 : Int32 → vMem → Option vMem) : Nat → Int32 → Int32 → vMem → Option vMem
  | 0, _, _, _ => none
  | n + 1, l1, l2, σ => fX8_runs_64 K2 (LfX8_runs_64 K2 n) l1 l2 σ
theorem LvX8_runs_64 {ad : Nat → Nat} {Q : Option Value → vMem → Prop} {r : vMem} {K2 : Int32 → vMem → Option vMem} (hK2 : ∀ (l1 : Int32) (σ : vMem), K2 l1 σ = some r → V GM mX8_runs ad Q 3 2 [some (.ref (ad 0)), some (.int l1), none] [] σ) (hQ : Q none r) : ∀ (n : Nat) (l1 : Int32) (l2 : Int32) (σ : vMem), LfX8_runs_64 K2 n l1 l2 σ = some r → V GM mX8_runs ad Q 3 64 [some (.ref (ad 0)), some (.int l1), some (.int l2)] [] σ := by
  intro n
  induction n with
  | zero => intro l1 l2 σ h; cases h
  | succ n ih => intro l1 l2 σ h; exact vX8_runs_64 hK2 ih h hQ
def fX8_runs_62 (K2 : Int32 → vMem → Option vMem) (l1 : Int32) (σ : vMem) : Option vMem :=
  LfX8_runs_64 K2 200 l1 (0 : Int32) σ
theorem vX8_runs_62 {ad : Nat → Nat} {Q : Option Value → vMem → Prop} {r : vMem} {K2 : Int32 → vMem → Option vMem} (hK2 : ∀ (l1 : Int32) (σ : vMem), K2 l1 σ = some r → V GM mX8_runs ad Q 3 2 [some (.ref (ad 0)), some (.int l1), none] [] σ) {l1 : Int32} {σ : vMem} (h : fX8_runs_62 K2 l1 σ = some r) (hQ : Q none r) : V GM mX8_runs ad Q 3 62 [some (.ref (ad 0)), some (.int l1), none] [] σ := by
  unfold fX8_runs_62 at h
  refine V.iconst ic_0 dX8_runs_62 ?_
  refine V.istore_n dX8_runs_63 (by decide) rfl ?_
  exact V.forget (LvX8_runs_64 hK2 hQ 200 _ _ _ h) ⟨rfl, ⟨rfl, ⟨rfl, trivial⟩⟩⟩
def fX8_runs_55 (K2 : Int32 → vMem → Option vMem) (l1 : Int32) (σ : vMem) : Option vMem :=
  if l1 < 0 ∨ 8 ≤ l1.toNatClampNeg then none else fX8_runs_62 K2 l1 (vup σ 18 l1.toNatClampNeg (-1 : Int32))
theorem vX8_runs_55 {ad : Nat → Nat} {Q : Option Value → vMem → Prop} {r : vMem} {K2 : Int32 → vMem → Option vMem} (hK2 : ∀ (l1 : Int32) (σ : vMem), K2 l1 σ = some r → V GM mX8_runs ad Q 3 2 [some (.ref (ad 0)), some (.int l1), none] [] σ) {l1 : Int32} {σ : vMem} (h : fX8_runs_55 K2 l1 σ = some r) (hQ : Q none r) : V GM mX8_runs ad Q 3 55 [some (.ref (ad 0)), some (.int l1), none] [] σ := by
  unfold fX8_runs_55 at h
  refine V.aload_n dX8_runs_55 rfl ?_
  refine V.get dX8_runs_56 flX8_62 nM_0 gM_0 (by decide) (eM_0_26 _ _) ?_
  refine V.iload_n dX8_runs_59 rfl ?_
  refine V.iconst ic_m1 dX8_runs_60 ?_
  obtain ⟨hb, h⟩ := ckn h
  refine V.iast dX8_runs_61 nM_18 gM_18 hb ?_
  exact V.forget (vX8_runs_62 hK2 h hQ) ⟨rfl, ⟨rfl, trivial⟩⟩
def fX8_runs_48 (K2 : Int32 → vMem → Option vMem) (l1 : Int32) (σ : vMem) : Option vMem :=
  if l1 < 0 ∨ 8 ≤ l1.toNatClampNeg then none else fX8_runs_55 K2 l1 (vup σ 17 l1.toNatClampNeg (0 : Int32))
theorem vX8_runs_48 {ad : Nat → Nat} {Q : Option Value → vMem → Prop} {r : vMem} {K2 : Int32 → vMem → Option vMem} (hK2 : ∀ (l1 : Int32) (σ : vMem), K2 l1 σ = some r → V GM mX8_runs ad Q 3 2 [some (.ref (ad 0)), some (.int l1), none] [] σ) {l1 : Int32} {σ : vMem} (h : fX8_runs_48 K2 l1 σ = some r) (hQ : Q none r) : V GM mX8_runs ad Q 3 48 [some (.ref (ad 0)), some (.int l1), none] [] σ := by
  unfold fX8_runs_48 at h
  refine V.aload_n dX8_runs_48 rfl ?_
  refine V.get dX8_runs_49 flX8_59 nM_0 gM_0 (by decide) (eM_0_25 _ _) ?_
  refine V.iload_n dX8_runs_52 rfl ?_
  refine V.iconst ic_0 dX8_runs_53 ?_
  obtain ⟨hb, h⟩ := ckn h
  refine V.iast dX8_runs_54 nM_17 gM_17 hb ?_
  exact V.forget (vX8_runs_55 hK2 h hQ) ⟨rfl, ⟨rfl, trivial⟩⟩
def fX8_runs_41 (K2 : Int32 → vMem → Option vMem) (l1 : Int32) (σ : vMem) : Option vMem :=
  if l1 < 0 ∨ 8 ≤ l1.toNatClampNeg then none else fX8_runs_48 K2 l1 (vup σ 16 l1.toNatClampNeg (0 : Int32))
theorem vX8_runs_41 {ad : Nat → Nat} {Q : Option Value → vMem → Prop} {r : vMem} {K2 : Int32 → vMem → Option vMem} (hK2 : ∀ (l1 : Int32) (σ : vMem), K2 l1 σ = some r → V GM mX8_runs ad Q 3 2 [some (.ref (ad 0)), some (.int l1), none] [] σ) {l1 : Int32} {σ : vMem} (h : fX8_runs_41 K2 l1 σ = some r) (hQ : Q none r) : V GM mX8_runs ad Q 3 41 [some (.ref (ad 0)), some (.int l1), none] [] σ := by
  unfold fX8_runs_41 at h
  refine V.aload_n dX8_runs_41 rfl ?_
  refine V.get dX8_runs_42 flX8_55 nM_0 gM_0 (by decide) (eM_0_24 _ _) ?_
  refine V.iload_n dX8_runs_45 rfl ?_
  refine V.iconst ic_0 dX8_runs_46 ?_
  obtain ⟨hb, h⟩ := ckn h
  refine V.zast dX8_runs_47 nM_16 gM_16 hb (Or.inl rfl) ?_
  exact V.forget (vX8_runs_48 hK2 h hQ) ⟨rfl, ⟨rfl, trivial⟩⟩
def fX8_runs_29 (K2 : Int32 → vMem → Option vMem) (l1 : Int32) (σ : vMem) : Option vMem :=
  if l1 < 0 ∨ 9 ≤ l1.toNatClampNeg then none else if l1 < 0 ∨ 8 ≤ l1.toNatClampNeg then none else fX8_runs_41 K2 l1 (vup σ 14 l1.toNatClampNeg (σ.1 8 l1.toNatClampNeg))
theorem vX8_runs_29 {ad : Nat → Nat} {Q : Option Value → vMem → Prop} {r : vMem} {K2 : Int32 → vMem → Option vMem} (hK2 : ∀ (l1 : Int32) (σ : vMem), K2 l1 σ = some r → V GM mX8_runs ad Q 3 2 [some (.ref (ad 0)), some (.int l1), none] [] σ) {l1 : Int32} {σ : vMem} (h : fX8_runs_29 K2 l1 σ = some r) (hQ : Q none r) : V GM mX8_runs ad Q 3 29 [some (.ref (ad 0)), some (.int l1), none] [] σ := by
  unfold fX8_runs_29 at h
  refine V.aload_n dX8_runs_29 rfl ?_
  refine V.get dX8_runs_30 flX8_49 nM_0 gM_0 (by decide) (eM_0_22 _ _) ?_
  refine V.iload_n dX8_runs_33 rfl ?_
  refine V.aload_n dX8_runs_34 rfl ?_
  refine V.get dX8_runs_35 flX8_31 nM_0 gM_0 (by decide) (eM_0_9 _ _) ?_
  refine V.iload_n dX8_runs_38 rfl ?_
  obtain ⟨hb, h⟩ := ckn h
  refine V.iald dX8_runs_39 nM_8 gM_8 hb ?_
  obtain ⟨hb, h⟩ := ckn h
  refine V.iast dX8_runs_40 nM_14 gM_14 hb ?_
  exact V.forget (vX8_runs_41 hK2 h hQ) ⟨rfl, ⟨rfl, trivial⟩⟩
def fX8_runs_17 (K2 : Int32 → vMem → Option vMem) (l1 : Int32) (σ : vMem) : Option vMem :=
  if l1 < 0 ∨ 9 ≤ l1.toNatClampNeg then none else if l1 < 0 ∨ 8 ≤ l1.toNatClampNeg then none else fX8_runs_29 K2 l1 (vup σ 13 l1.toNatClampNeg (σ.1 7 l1.toNatClampNeg))
theorem vX8_runs_17 {ad : Nat → Nat} {Q : Option Value → vMem → Prop} {r : vMem} {K2 : Int32 → vMem → Option vMem} (hK2 : ∀ (l1 : Int32) (σ : vMem), K2 l1 σ = some r → V GM mX8_runs ad Q 3 2 [some (.ref (ad 0)), some (.int l1), none] [] σ) {l1 : Int32} {σ : vMem} (h : fX8_runs_17 K2 l1 σ = some r) (hQ : Q none r) : V GM mX8_runs ad Q 3 17 [some (.ref (ad 0)), some (.int l1), none] [] σ := by
  unfold fX8_runs_17 at h
  refine V.aload_n dX8_runs_17 rfl ?_
  refine V.get dX8_runs_18 flX8_46 nM_0 gM_0 (by decide) (eM_0_21 _ _) ?_
  refine V.iload_n dX8_runs_21 rfl ?_
  refine V.aload_n dX8_runs_22 rfl ?_
  refine V.get dX8_runs_23 flX8_28 nM_0 gM_0 (by decide) (eM_0_8 _ _) ?_
  refine V.iload_n dX8_runs_26 rfl ?_
  obtain ⟨hb, h⟩ := ckn h
  refine V.iald dX8_runs_27 nM_7 gM_7 hb ?_
  obtain ⟨hb, h⟩ := ckn h
  refine V.iast dX8_runs_28 nM_13 gM_13 hb ?_
  exact V.forget (vX8_runs_29 hK2 h hQ) ⟨rfl, ⟨rfl, trivial⟩⟩
def fX8_runs_2 (K2 : Int32 → vMem → Option vMem) (l1 : Int32) (σ : vMem) : Option vMem :=
  if (σ.1 0 6) ≤ l1 then (LfX8_runs_109 200 (0 : Int32) σ) else
  (if l1 < 0 ∨ 8 ≤ l1.toNatClampNeg then none else fX8_runs_17 K2 l1 (vup σ 12 l1.toNatClampNeg (-1 : Int32)))
theorem vX8_runs_2 {ad : Nat → Nat} {Q : Option Value → vMem → Prop} {r : vMem} {K2 : Int32 → vMem → Option vMem} (hK2 : ∀ (l1 : Int32) (σ : vMem), K2 l1 σ = some r → V GM mX8_runs ad Q 3 2 [some (.ref (ad 0)), some (.int l1), none] [] σ) {l1 : Int32} {σ : vMem} (h : fX8_runs_2 K2 l1 σ = some r) (hQ : Q none r) : V GM mX8_runs ad Q 3 2 [some (.ref (ad 0)), some (.int l1), none] [] σ := by
  unfold fX8_runs_2 at h
  refine V.iload_n dX8_runs_2 rfl ?_
  refine V.aload_n dX8_runs_3 rfl ?_
  refine V.get dX8_runs_4 flX8_147 nM_0 gM_0 (by decide) (eM_0_6 _ _) ?_
  rcases itc h with ⟨hc, h⟩ | ⟨hc, h⟩
  · refine V.icmp_ge (tgt := 107) dX8_runs_7 (by decide) (fun _ => ?_) (fun hn => absurd hc hn)
    refine V.iconst ic_0 dX8_runs_107 ?_
    refine V.istore_n dX8_runs_108 (by decide) rfl ?_
    exact V.forget (LvX8_runs_109 hQ 200 _ _ h) ⟨rfl, ⟨rfl, trivial⟩⟩
  · refine V.icmp_ge (tgt := 107) dX8_runs_7 (by decide) (fun hn => absurd hn hc) (fun _ => ?_)
    refine V.aload_n dX8_runs_10 rfl ?_
    refine V.get dX8_runs_11 flX8_43 nM_0 gM_0 (by decide) (eM_0_20 _ _) ?_
    refine V.iload_n dX8_runs_14 rfl ?_
    refine V.iconst ic_m1 dX8_runs_15 ?_
    obtain ⟨hb, h⟩ := ckn h
    refine V.iast dX8_runs_16 nM_12 gM_12 hb ?_
    exact V.forget (vX8_runs_17 hK2 h hQ) ⟨rfl, ⟨rfl, trivial⟩⟩
def LfX8_runs_2 : Nat → Int32 → vMem → Option vMem
  | 0, _, _ => none
  | n + 1, l1, σ => fX8_runs_2 (LfX8_runs_2 n) l1 σ
theorem LvX8_runs_2 {ad : Nat → Nat} {Q : Option Value → vMem → Prop} {r : vMem} (hQ : Q none r) : ∀ (n : Nat) (l1 : Int32) (σ : vMem), LfX8_runs_2 n l1 σ = some r → V GM mX8_runs ad Q 3 2 [some (.ref (ad 0)), some (.int l1), none] [] σ := by
  intro n
  induction n with
  | zero => intro l1 σ h; cases h
  | succ n ih => intro l1 σ h; exact vX8_runs_2 ih h hQ
def fX8_runs (σ : vMem) : Option vMem :=
  LfX8_runs_2 200 (0 : Int32) σ
theorem vX8_runs {ad : Nat → Nat} {Q : Option Value → vMem → Prop} {r : vMem} {σ : vMem} (h : fX8_runs σ = some r) (hQ : Q none r) : V GM mX8_runs ad Q 3 0 [some (.ref (ad 0)), none, none] [] σ := by
  unfold fX8_runs at h
  refine V.iconst ic_0 dX8_runs_0 ?_
  refine V.istore_n dX8_runs_1 (by decide) rfl ?_
  exact V.forget (LvX8_runs_2 hQ 200 _ _ h) ⟨rfl, ⟨rfl, trivial⟩⟩
