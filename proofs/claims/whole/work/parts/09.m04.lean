def fX8_copy_14 (σ : vMem) : Option (Int32 × vMem) :=
  some ((-2 : Int32), σ)
theorem vX8_copy_14 {ad : Nat → Nat} {Q : Option Value → vMem → Prop} {r : (Int32 × vMem)} {σ : vMem} (h : fX8_copy_14 σ = some r) (hQ : Q (some (.int r.1)) r.2) : V GM mX8_copy ad Q 2 14 [none, none, none, none, none, none, none] [] σ := by
  unfold fX8_copy_14 at h
  refine V.bipush bp_m2 dX8_copy_14 ?_
  obtain rfl := Option.some.inj h
  exact V.iret dX8_copy_16 rfl hQ
def fX8_copy_35 (σ : vMem) : Option (Int32 × vMem) :=
  (fX8_meets (1 : Int32) σ).bind fun q1 => some (q1.1, q1.2)
theorem vX8_copy_35 {ad : Nat → Nat} {Q : Option Value → vMem → Prop} {r : (Int32 × vMem)} {σ : vMem} (h : fX8_copy_35 σ = some r) (hQ : Q (some (.int r.1)) r.2) : V GM mX8_copy ad Q 2 35 [some (.ref (ad 0)), none, none, none, none, none, none] [] σ := by
  unfold fX8_copy_35 at h
  refine V.aload_n dX8_copy_35 rfl ?_
  refine V.iconst ic_1 dX8_copy_36 ?_
  obtain ⟨q1, h1, h⟩ := bdc h
  refine V.callV1 (mc := mX8_meets) (d' := 0) dX8_copy_37 lkX8_190 hfX8_meets nM_0 gM_0 rfl (by decide) (Nat.le_of_ble_eq_true rfl) (Nat.le_of_ble_eq_true rfl) (vX8_meets h1 ?_)
  obtain rfl := Option.some.inj h
  exact V.iret dX8_copy_40 rfl hQ
def fX8_copy_111 (σ : vMem) : Option (Int32 × vMem) :=
  (fX8_meets (2 : Int32) σ).bind fun q1 => some (q1.1, q1.2)
theorem vX8_copy_111 {ad : Nat → Nat} {Q : Option Value → vMem → Prop} {r : (Int32 × vMem)} {σ : vMem} (h : fX8_copy_111 σ = some r) (hQ : Q (some (.int r.1)) r.2) : V GM mX8_copy ad Q 2 111 [some (.ref (ad 0)), none, none, none, none, none, none] [] σ := by
  unfold fX8_copy_111 at h
  refine V.aload_n dX8_copy_111 rfl ?_
  refine V.iconst ic_2 dX8_copy_112 ?_
  obtain ⟨q1, h1, h⟩ := bdc h
  refine V.callV1 (mc := mX8_meets) (d' := 0) dX8_copy_113 lkX8_190 hfX8_meets nM_0 gM_0 rfl (by decide) (Nat.le_of_ble_eq_true rfl) (Nat.le_of_ble_eq_true rfl) (vX8_meets h1 ?_)
  obtain rfl := Option.some.inj h
  exact V.iret dX8_copy_116 rfl hQ
def fX8_copy_186 (K157 : Int32 → Int32 → Int32 → Int32 → vMem → Option (Int32 × vMem)) (l3 : Int32) (l4 : Int32) (l5 : Int32) (l6 : Int32) (σ : vMem) : Option (Int32 × vMem) :=
  K157 l3 l4 l5 (l6 + (1 : Int32)) σ
theorem vX8_copy_186 {ad : Nat → Nat} {Q : Option Value → vMem → Prop} {r : (Int32 × vMem)} {K157 : Int32 → Int32 → Int32 → Int32 → vMem → Option (Int32 × vMem)} (hK157 : ∀ (l3 : Int32) (l4 : Int32) (l5 : Int32) (l6 : Int32) (σ : vMem), K157 l3 l4 l5 l6 σ = some r → V GM mX8_copy ad Q 2 157 [some (.ref (ad 0)), none, none, some (.int l3), some (.int l4), some (.int l5), some (.int l6)] [] σ) {l3 : Int32} {l4 : Int32} {l5 : Int32} {l6 : Int32} {σ : vMem} (h : fX8_copy_186 K157 l3 l4 l5 l6 σ = some r) (hQ : Q (some (.int r.1)) r.2) : V GM mX8_copy ad Q 2 186 [some (.ref (ad 0)), none, none, some (.int l3), some (.int l4), some (.int l5), some (.int l6)] [] σ := by
  unfold fX8_copy_186 at h
  refine V.iinc dX8_copy_186 rfl (ii_1 _) (by decide) rfl ?_
  refine V.goto (tgt := 157) dX8_copy_189 (by decide) ?_
  exact V.forget (hK157 _ _ _ _ _ h) ⟨rfl, ⟨rfl, ⟨rfl, ⟨rfl, ⟨rfl, trivial⟩⟩⟩⟩⟩
def fX8_copy_157 (K157 : Int32 → Int32 → Int32 → Int32 → vMem → Option (Int32 × vMem)) (l3 : Int32) (l4 : Int32) (l5 : Int32) (l6 : Int32) (σ : vMem) : Option (Int32 × vMem) :=
  if l5 ≤ l6 then (some ((1 : Int32), σ)) else
  (if l6 < 0 ∨ 60 ≤ l6.toNatClampNeg then none else if ((((60 : Int32) * l3) + l4) + l6) < 0 ∨ 240 ≤ ((((60 : Int32) * l3) + l4) + l6).toNatClampNeg then none else fX8_copy_186 K157 l3 l4 l5 l6 (vup σ 34 ((((60 : Int32) * l3) + l4) + l6).toNatClampNeg (σ.1 35 l6.toNatClampNeg)))
theorem vX8_copy_157 {ad : Nat → Nat} {Q : Option Value → vMem → Prop} {r : (Int32 × vMem)} {K157 : Int32 → Int32 → Int32 → Int32 → vMem → Option (Int32 × vMem)} (hK157 : ∀ (l3 : Int32) (l4 : Int32) (l5 : Int32) (l6 : Int32) (σ : vMem), K157 l3 l4 l5 l6 σ = some r → V GM mX8_copy ad Q 2 157 [some (.ref (ad 0)), none, none, some (.int l3), some (.int l4), some (.int l5), some (.int l6)] [] σ) {l3 : Int32} {l4 : Int32} {l5 : Int32} {l6 : Int32} {σ : vMem} (h : fX8_copy_157 K157 l3 l4 l5 l6 σ = some r) (hQ : Q (some (.int r.1)) r.2) : V GM mX8_copy ad Q 2 157 [some (.ref (ad 0)), none, none, some (.int l3), some (.int l4), some (.int l5), some (.int l6)] [] σ := by
  unfold fX8_copy_157 at h
  refine V.iload dX8_copy_157 rfl ?_
  refine V.iload dX8_copy_159 rfl ?_
  rcases itc h with ⟨hc, h⟩ | ⟨hc, h⟩
  · refine V.icmp_ge (tgt := 192) dX8_copy_161 (by decide) (fun _ => ?_) (fun hn => absurd hc hn)
    refine V.iconst ic_1 dX8_copy_192 ?_
    obtain rfl := Option.some.inj h
    exact V.iret dX8_copy_193 rfl hQ
  · refine V.icmp_ge (tgt := 192) dX8_copy_161 (by decide) (fun hn => absurd hn hc) (fun _ => ?_)
    refine V.aload_n dX8_copy_164 rfl ?_
    refine V.get dX8_copy_165 flX8_110 nM_0 gM_0 (by decide) (eM_0_45 _ _) ?_
    refine V.bipush bp_60 dX8_copy_168 ?_
    refine V.iload_n dX8_copy_170 rfl ?_
    refine V.imul dX8_copy_171 ?_
    refine V.iload dX8_copy_172 rfl ?_
    refine V.iadd dX8_copy_174 ?_
    refine V.iload dX8_copy_175 rfl ?_
    refine V.iadd dX8_copy_177 ?_
    refine V.aload_n dX8_copy_178 rfl ?_
    refine V.get dX8_copy_179 flX8_113 nM_0 gM_0 (by decide) (eM_0_46 _ _) ?_
    refine V.iload dX8_copy_182 rfl ?_
    obtain ⟨hb, h⟩ := ckn h
    refine V.iald dX8_copy_184 nM_35 gM_35 hb ?_
    obtain ⟨hb, h⟩ := ckn h
    refine V.iast dX8_copy_185 nM_34 gM_34 hb ?_
    exact V.forget (vX8_copy_186 hK157 h hQ) ⟨rfl, ⟨rfl, ⟨rfl, ⟨rfl, ⟨rfl, trivial⟩⟩⟩⟩⟩
def LfX8_copy_157 : Nat → Int32 → Int32 → Int32 → Int32 → vMem → Option (Int32 × vMem)
  | 0, _, _, _, _, _ => none
  | n + 1, l3, l4, l5, l6, σ => fX8_copy_157 (LfX8_copy_157 n) l3 l4 l5 l6 σ
theorem LvX8_copy_157 {ad : Nat → Nat} {Q : Option Value → vMem → Prop} {r : (Int32 × vMem)} (hQ : Q (some (.int r.1)) r.2) : ∀ (n : Nat) (l3 : Int32) (l4 : Int32) (l5 : Int32) (l6 : Int32) (σ : vMem), LfX8_copy_157 n l3 l4 l5 l6 σ = some r → V GM mX8_copy ad Q 2 157 [some (.ref (ad 0)), none, none, some (.int l3), some (.int l4), some (.int l5), some (.int l6)] [] σ := by
  intro n
  induction n with
  | zero => intro l3 l4 l5 l6 σ h; cases h
  | succ n ih => intro l3 l4 l5 l6 σ h; exact vX8_copy_157 ih h hQ
def fX8_copy_148 (K120 : Int32 → Int32 → Int32 → Int32 → Int32 → Int32 → vMem → Option (Int32 × vMem)) (l1 : Int32) (l2 : Int32) (l3 : Int32) (l4 : Int32) (l5 : Int32) (l6 : Int32) (σ : vMem) : Option (Int32 × vMem) :=
  K120 l1 l2 l3 l4 l5 (l6 + (1 : Int32)) σ
theorem vX8_copy_148 {ad : Nat → Nat} {Q : Option Value → vMem → Prop} {r : (Int32 × vMem)} {K120 : Int32 → Int32 → Int32 → Int32 → Int32 → Int32 → vMem → Option (Int32 × vMem)} (hK120 : ∀ (l1 : Int32) (l2 : Int32) (l3 : Int32) (l4 : Int32) (l5 : Int32) (l6 : Int32) (σ : vMem), K120 l1 l2 l3 l4 l5 l6 σ = some r → V GM mX8_copy ad Q 2 120 [some (.ref (ad 0)), some (.int l1), some (.int l2), some (.int l3), some (.int l4), some (.int l5), some (.int l6)] [] σ) {l1 : Int32} {l2 : Int32} {l3 : Int32} {l4 : Int32} {l5 : Int32} {l6 : Int32} {σ : vMem} (h : fX8_copy_148 K120 l1 l2 l3 l4 l5 l6 σ = some r) (hQ : Q (some (.int r.1)) r.2) : V GM mX8_copy ad Q 2 148 [some (.ref (ad 0)), some (.int l1), some (.int l2), some (.int l3), some (.int l4), some (.int l5), some (.int l6)] [] σ := by
  unfold fX8_copy_148 at h
  refine V.iinc dX8_copy_148 rfl (ii_1 _) (by decide) rfl ?_
  refine V.goto (tgt := 120) dX8_copy_151 (by decide) ?_
  exact V.forget (hK120 _ _ _ _ _ _ _ h) ⟨rfl, ⟨rfl, ⟨rfl, ⟨rfl, ⟨rfl, ⟨rfl, ⟨rfl, trivial⟩⟩⟩⟩⟩⟩⟩
def fX8_copy_120 (K120 : Int32 → Int32 → Int32 → Int32 → Int32 → Int32 → vMem → Option (Int32 × vMem)) (l1 : Int32) (l2 : Int32) (l3 : Int32) (l4 : Int32) (l5 : Int32) (l6 : Int32) (σ : vMem) : Option (Int32 × vMem) :=
  if l5 ≤ l6 then (LfX8_copy_157 200 l3 l4 l5 (0 : Int32) σ) else
  (if ((((60 : Int32) * l1) + l2) + l6) < 0 ∨ 240 ≤ ((((60 : Int32) * l1) + l2) + l6).toNatClampNeg then none else if l6 < 0 ∨ 60 ≤ l6.toNatClampNeg then none else fX8_copy_148 K120 l1 l2 l3 l4 l5 l6 (vup σ 35 l6.toNatClampNeg (σ.1 34 ((((60 : Int32) * l1) + l2) + l6).toNatClampNeg)))
theorem vX8_copy_120 {ad : Nat → Nat} {Q : Option Value → vMem → Prop} {r : (Int32 × vMem)} {K120 : Int32 → Int32 → Int32 → Int32 → Int32 → Int32 → vMem → Option (Int32 × vMem)} (hK120 : ∀ (l1 : Int32) (l2 : Int32) (l3 : Int32) (l4 : Int32) (l5 : Int32) (l6 : Int32) (σ : vMem), K120 l1 l2 l3 l4 l5 l6 σ = some r → V GM mX8_copy ad Q 2 120 [some (.ref (ad 0)), some (.int l1), some (.int l2), some (.int l3), some (.int l4), some (.int l5), some (.int l6)] [] σ) {l1 : Int32} {l2 : Int32} {l3 : Int32} {l4 : Int32} {l5 : Int32} {l6 : Int32} {σ : vMem} (h : fX8_copy_120 K120 l1 l2 l3 l4 l5 l6 σ = some r) (hQ : Q (some (.int r.1)) r.2) : V GM mX8_copy ad Q 2 120 [some (.ref (ad 0)), some (.int l1), some (.int l2), some (.int l3), some (.int l4), some (.int l5), some (.int l6)] [] σ := by
  unfold fX8_copy_120 at h
  refine V.iload dX8_copy_120 rfl ?_
  refine V.iload dX8_copy_122 rfl ?_
  rcases itc h with ⟨hc, h⟩ | ⟨hc, h⟩
  · refine V.icmp_ge (tgt := 154) dX8_copy_124 (by decide) (fun _ => ?_) (fun hn => absurd hc hn)
    refine V.iconst ic_0 dX8_copy_154 ?_
    refine V.istore dX8_copy_155 (by decide) rfl ?_
    exact V.forget (LvX8_copy_157 hQ 200 _ _ _ _ _ h) ⟨rfl, ⟨rfl, ⟨rfl, ⟨rfl, ⟨rfl, trivial⟩⟩⟩⟩⟩
  · refine V.icmp_ge (tgt := 154) dX8_copy_124 (by decide) (fun hn => absurd hn hc) (fun _ => ?_)
    refine V.aload_n dX8_copy_127 rfl ?_
    refine V.get dX8_copy_128 flX8_113 nM_0 gM_0 (by decide) (eM_0_46 _ _) ?_
    refine V.iload dX8_copy_131 rfl ?_
    refine V.aload_n dX8_copy_133 rfl ?_
    refine V.get dX8_copy_134 flX8_110 nM_0 gM_0 (by decide) (eM_0_45 _ _) ?_
    refine V.bipush bp_60 dX8_copy_137 ?_
    refine V.iload_n dX8_copy_139 rfl ?_
    refine V.imul dX8_copy_140 ?_
    refine V.iload_n dX8_copy_141 rfl ?_
    refine V.iadd dX8_copy_142 ?_
    refine V.iload dX8_copy_143 rfl ?_
    refine V.iadd dX8_copy_145 ?_
    obtain ⟨hb, h⟩ := ckn h
    refine V.iald dX8_copy_146 nM_34 gM_34 hb ?_
    obtain ⟨hb, h⟩ := ckn h
    refine V.iast dX8_copy_147 nM_35 gM_35 hb ?_
    exact V.forget (vX8_copy_148 hK120 h hQ) ⟨rfl, ⟨rfl, ⟨rfl, ⟨rfl, ⟨rfl, ⟨rfl, ⟨rfl, trivial⟩⟩⟩⟩⟩⟩⟩
def LfX8_copy_120 : Nat → Int32 → Int32 → Int32 → Int32 → Int32 → Int32 → vMem → Option (Int32 × vMem)
  | 0, _, _, _, _, _, _, _ => none
  | n + 1, l1, l2, l3, l4, l5, l6, σ => fX8_copy_120 (LfX8_copy_120 n) l1 l2 l3 l4 l5 l6 σ
theorem LvX8_copy_120 {ad : Nat → Nat} {Q : Option Value → vMem → Prop} {r : (Int32 × vMem)} (hQ : Q (some (.int r.1)) r.2) : ∀ (n : Nat) (l1 : Int32) (l2 : Int32) (l3 : Int32) (l4 : Int32) (l5 : Int32) (l6 : Int32) (σ : vMem), LfX8_copy_120 n l1 l2 l3 l4 l5 l6 σ = some r → V GM mX8_copy ad Q 2 120 [some (.ref (ad 0)), some (.int l1), some (.int l2), some (.int l3), some (.int l4), some (.int l5), some (.int l6)] [] σ := by
  intro n
  induction n with
  | zero => intro l1 l2 l3 l4 l5 l6 σ h; cases h
  | succ n ih => intro l1 l2 l3 l4 l5 l6 σ h; exact vX8_copy_120 ih h hQ
def fX8_copy (l1 : Int32) (l2 : Int32) (l3 : Int32) (l4 : Int32) (l5 : Int32) (σ : vMem) : Option (Int32 × vMem) :=
  (fX8_isSheet l1 σ).bind fun q1 => if q1.1 = 0 then (fX8_copy_14 q1.2) else
  ((fX8_isSheet l3 q1.2).bind fun q2 => if q2.1 = 0 then (fX8_copy_14 q2.2) else
  (if l1 < 0 ∨ 4 ≤ l1.toNatClampNeg then none else if (q2.2.1 31 l1.toNatClampNeg) = 0 then (fX8_copy_35 q2.2) else
  (if l3 < 0 ∨ 4 ≤ l3.toNatClampNeg then none else if (q2.2.1 31 l3.toNatClampNeg) = 0 then (fX8_copy_35 q2.2) else
  (if l1 < 0 ∨ 4 ≤ l1.toNatClampNeg then none else if l3 < 0 ∨ 4 ≤ l3.toNatClampNeg then none else if (q2.2.1 32 l1.toNatClampNeg) = (q2.2.1 32 l3.toNatClampNeg) then (if l2 < 0 then (fX8_copy_111 q2.2) else
  (if l4 < 0 then (fX8_copy_111 q2.2) else
  (if l5 < 0 then (fX8_copy_111 q2.2) else
  (if l1 < 0 ∨ 4 ≤ l1.toNatClampNeg then none else if 0 < (lg_cmp ((l2.toInt64) + (l5.toInt64)) ((q2.2.1 33 l1.toNatClampNeg).toInt64)) then (fX8_copy_111 q2.2) else
  (if l3 < 0 ∨ 4 ≤ l3.toNatClampNeg then none else if (lg_cmp ((l4.toInt64) + (l5.toInt64)) ((q2.2.1 33 l3.toNatClampNeg).toInt64)) ≤ 0 then (LfX8_copy_120 200 l1 l2 l3 l4 l5 (0 : Int32) q2.2) else
  (fX8_copy_111 q2.2)))))) else
  ((fX8_meets (4 : Int32) q2.2).bind fun q3 => some (q3.1, q3.2))))))
theorem vX8_copy {ad : Nat → Nat} {Q : Option Value → vMem → Prop} {r : (Int32 × vMem)} {l1 : Int32} {l2 : Int32} {l3 : Int32} {l4 : Int32} {l5 : Int32} {σ : vMem} (h : fX8_copy l1 l2 l3 l4 l5 σ = some r) (hQ : Q (some (.int r.1)) r.2) : V GM mX8_copy ad Q 2 0 [some (.ref (ad 0)), some (.int l1), some (.int l2), some (.int l3), some (.int l4), some (.int l5), none] [] σ := by
  unfold fX8_copy at h
  refine V.iload_n dX8_copy_0 rfl ?_
  obtain ⟨q1, h1, h⟩ := bdc h
  refine V.callS1 (mc := mX8_isSheet) (d' := 1) dX8_copy_1 lkX8_187 hfX8_isSheet (by decide) (Nat.le_of_ble_eq_true rfl) (Nat.le_of_ble_eq_true rfl) (vX8_isSheet h1 ?_)
  rcases itc h with ⟨hc, h⟩ | ⟨hc, h⟩
  · refine V.if_eq (tgt := 14) dX8_copy_4 (by decide) (fun _ => ?_) (fun hn => absurd hc hn)
    exact V.forget (vX8_copy_14 h hQ) trivial
  · refine V.if_eq (tgt := 14) dX8_copy_4 (by decide) (fun hn => absurd hn hc) (fun _ => ?_)
    refine V.iload_n dX8_copy_7 rfl ?_
    obtain ⟨q2, h1, h⟩ := bdc h
    refine V.callS1 (mc := mX8_isSheet) (d' := 1) dX8_copy_8 lkX8_187 hfX8_isSheet (by decide) (Nat.le_of_ble_eq_true rfl) (Nat.le_of_ble_eq_true rfl) (vX8_isSheet h1 ?_)
    rcases itc h with ⟨hc, h⟩ | ⟨hc, h⟩
    · refine V.if_ne (tgt := 17) dX8_copy_11 (by decide) (fun hn => absurd hc hn) (fun _ => ?_)
      exact V.forget (vX8_copy_14 h hQ) trivial
    · refine V.if_ne (tgt := 17) dX8_copy_11 (by decide) (fun _ => ?_) (fun hn => absurd hn hc)
      refine V.aload_n dX8_copy_17 rfl ?_
      refine V.get dX8_copy_18 flX8_101 nM_0 gM_0 (by decide) (eM_0_42 _ _) ?_
      refine V.iload_n dX8_copy_21 rfl ?_
      obtain ⟨hb, h⟩ := ckn h
      refine V.zald dX8_copy_22 nM_31 gM_31 hb ?_
      rcases itc h with ⟨hc, h⟩ | ⟨hc, h⟩
      · refine V.if_eq (tgt := 35) dX8_copy_23 (by decide) (fun _ => ?_) (fun hn => absurd hc hn)
        exact V.forget (vX8_copy_35 h hQ) ⟨rfl, trivial⟩
      · refine V.if_eq (tgt := 35) dX8_copy_23 (by decide) (fun hn => absurd hn hc) (fun _ => ?_)
        refine V.aload_n dX8_copy_26 rfl ?_
        refine V.get dX8_copy_27 flX8_101 nM_0 gM_0 (by decide) (eM_0_42 _ _) ?_
        refine V.iload_n dX8_copy_30 rfl ?_
        obtain ⟨hb, h⟩ := ckn h
        refine V.zald dX8_copy_31 nM_31 gM_31 hb ?_
        rcases itc h with ⟨hc, h⟩ | ⟨hc, h⟩
        · refine V.if_ne (tgt := 41) dX8_copy_32 (by decide) (fun hn => absurd hc hn) (fun _ => ?_)
          exact V.forget (vX8_copy_35 h hQ) ⟨rfl, trivial⟩
        · refine V.if_ne (tgt := 41) dX8_copy_32 (by decide) (fun _ => ?_) (fun hn => absurd hn hc)
          refine V.aload_n dX8_copy_41 rfl ?_
          refine V.get dX8_copy_42 flX8_104 nM_0 gM_0 (by decide) (eM_0_43 _ _) ?_
          refine V.iload_n dX8_copy_45 rfl ?_
          obtain ⟨hb, h⟩ := ckn h
          refine V.iald dX8_copy_46 nM_32 gM_32 hb ?_
          refine V.aload_n dX8_copy_47 rfl ?_
          refine V.get dX8_copy_48 flX8_104 nM_0 gM_0 (by decide) (eM_0_43 _ _) ?_
          refine V.iload_n dX8_copy_51 rfl ?_
          obtain ⟨hb, h⟩ := ckn h
          refine V.iald dX8_copy_52 nM_32 gM_32 hb ?_
          rcases itc h with ⟨hc, h⟩ | ⟨hc, h⟩
          · refine V.icmp_eq (tgt := 62) dX8_copy_53 (by decide) (fun _ => ?_) (fun hn => absurd hc hn)
            refine V.iload_n dX8_copy_62 rfl ?_
            rcases itc h with ⟨hc, h⟩ | ⟨hc, h⟩
            · refine V.if_lt (tgt := 111) dX8_copy_63 (by decide) (fun _ => ?_) (fun hn => absurd hc hn)
              exact V.forget (vX8_copy_111 h hQ) ⟨rfl, trivial⟩
            · refine V.if_lt (tgt := 111) dX8_copy_63 (by decide) (fun hn => absurd hn hc) (fun _ => ?_)
              refine V.iload dX8_copy_66 rfl ?_
              rcases itc h with ⟨hc, h⟩ | ⟨hc, h⟩
              · refine V.if_lt (tgt := 111) dX8_copy_68 (by decide) (fun _ => ?_) (fun hn => absurd hc hn)
                exact V.forget (vX8_copy_111 h hQ) ⟨rfl, trivial⟩
              · refine V.if_lt (tgt := 111) dX8_copy_68 (by decide) (fun hn => absurd hn hc) (fun _ => ?_)
                refine V.iload dX8_copy_71 rfl ?_
                rcases itc h with ⟨hc, h⟩ | ⟨hc, h⟩
                · refine V.if_lt (tgt := 111) dX8_copy_73 (by decide) (fun _ => ?_) (fun hn => absurd hc hn)
                  exact V.forget (vX8_copy_111 h hQ) ⟨rfl, trivial⟩
                · refine V.if_lt (tgt := 111) dX8_copy_73 (by decide) (fun hn => absurd hn hc) (fun _ => ?_)
                  refine V.iload_n dX8_copy_76 rfl ?_
                  refine V.i2l dX8_copy_77 ?_
                  refine V.iload dX8_copy_78 rfl ?_
                  refine V.i2l dX8_copy_80 ?_
                  refine V.ladd dX8_copy_81 ?_
                  refine V.aload_n dX8_copy_82 rfl ?_
                  refine V.get dX8_copy_83 flX8_107 nM_0 gM_0 (by decide) (eM_0_44 _ _) ?_
                  refine V.iload_n dX8_copy_86 rfl ?_
                  obtain ⟨hb, h⟩ := ckn h
                  refine V.iald dX8_copy_87 nM_33 gM_33 hb ?_
                  refine V.i2l dX8_copy_88 ?_
                  refine V.lcmp dX8_copy_89 ?_
                  rcases itc h with ⟨hc, h⟩ | ⟨hc, h⟩
                  · refine V.if_gt (tgt := 111) dX8_copy_90 (by decide) (fun _ => ?_) (fun hn => absurd hc hn)
                    exact V.forget (vX8_copy_111 h hQ) ⟨rfl, trivial⟩
                  · refine V.if_gt (tgt := 111) dX8_copy_90 (by decide) (fun hn => absurd hn hc) (fun _ => ?_)
                    refine V.iload dX8_copy_93 rfl ?_
                    refine V.i2l dX8_copy_95 ?_
                    refine V.iload dX8_copy_96 rfl ?_
                    refine V.i2l dX8_copy_98 ?_
                    refine V.ladd dX8_copy_99 ?_
                    refine V.aload_n dX8_copy_100 rfl ?_
                    refine V.get dX8_copy_101 flX8_107 nM_0 gM_0 (by decide) (eM_0_44 _ _) ?_
                    refine V.iload_n dX8_copy_104 rfl ?_
                    obtain ⟨hb, h⟩ := ckn h
                    refine V.iald dX8_copy_105 nM_33 gM_33 hb ?_
                    refine V.i2l dX8_copy_106 ?_
                    refine V.lcmp dX8_copy_107 ?_
                    rcases itc h with ⟨hc, h⟩ | ⟨hc, h⟩
                    · refine V.if_le (tgt := 117) dX8_copy_108 (by decide) (fun _ => ?_) (fun hn => absurd hc hn)
                      refine V.iconst ic_0 dX8_copy_117 ?_
                      refine V.istore dX8_copy_118 (by decide) rfl ?_
                      exact V.forget (LvX8_copy_120 hQ 200 _ _ _ _ _ _ _ h) ⟨rfl, ⟨rfl, ⟨rfl, ⟨rfl, ⟨rfl, ⟨rfl, ⟨rfl, trivial⟩⟩⟩⟩⟩⟩⟩
                    · refine V.if_le (tgt := 117) dX8_copy_108 (by decide) (fun hn => absurd hn hc) (fun _ => ?_)
                      exact V.forget (vX8_copy_111 h hQ) ⟨rfl, trivial⟩
          · refine V.icmp_eq (tgt := 62) dX8_copy_53 (by decide) (fun hn => absurd hn hc) (fun _ => ?_)
            refine V.aload_n dX8_copy_56 rfl ?_
            refine V.iconst ic_4 dX8_copy_57 ?_
            obtain ⟨q3, h1, h⟩ := bdc h
            refine V.callV1 (mc := mX8_meets) (d' := 0) dX8_copy_58 lkX8_190 hfX8_meets nM_0 gM_0 rfl (by decide) (Nat.le_of_ble_eq_true rfl) (Nat.le_of_ble_eq_true rfl) (vX8_meets h1 ?_)
            obtain rfl := Option.some.inj h
            exact V.iret dX8_copy_61 rfl hQ
def fX8_write_15 (σ : vMem) : Option (Int32 × vMem) :=
  some ((-2 : Int32), σ)
theorem vX8_write_15 {ad : Nat → Nat} {Q : Option Value → vMem → Prop} {r : (Int32 × vMem)} {σ : vMem} (h : fX8_write_15 σ = some r) (hQ : Q (some (.int r.1)) r.2) : V GM mX8_write ad Q 8 15 [none, none, none, none] [] σ := by
  unfold fX8_write_15 at h
  refine V.bipush bp_m2 dX8_write_15 ?_
  obtain rfl := Option.some.inj h
  exact V.iret dX8_write_17 rfl hQ
def fX8_write_82 (l3 : Int32) (σ : vMem) : Option (Int32 × vMem) :=
  some (l3, σ)
theorem vX8_write_82 {ad : Nat → Nat} {Q : Option Value → vMem → Prop} {r : (Int32 × vMem)} {l3 : Int32} {σ : vMem} (h : fX8_write_82 l3 σ = some r) (hQ : Q (some (.int r.1)) r.2) : V GM mX8_write ad Q 8 82 [none, none, none, some (.int l3)] [] σ := by
  unfold fX8_write_82 at h
  refine V.iload_n dX8_write_82 rfl ?_
  obtain rfl := Option.some.inj h
  exact V.iret dX8_write_83 rfl hQ
def fX8_write_39 (K39 : Int32 → Int32 → Int32 → vMem → Option (Int32 × vMem)) (l1 : Int32) (l2 : Int32) (l3 : Int32) (σ : vMem) : Option (Int32 × vMem) :=
  if l2 < 0 ∨ 4 ≤ l2.toNatClampNeg then none else if (σ.1 33 l2.toNatClampNeg) ≤ l3 then (fX8_write_82 l3 σ) else
  (if l1 < 0 ∨ 8 ≤ l1.toNatClampNeg then none else if (σ.1 14 l1.toNatClampNeg) ≤ l3 then (fX8_write_82 l3 σ) else
  (if (((24 : Int32) * l1) + l3) < 0 ∨ 192 ≤ (((24 : Int32) * l1) + l3).toNatClampNeg then none else (fX8_keep l2 l3 (σ.1 15 (((24 : Int32) * l1) + l3).toNatClampNeg) σ).bind fun q1 => K39 l1 l2 (l3 + (1 : Int32)) q1))
theorem vX8_write_39 {ad : Nat → Nat} {Q : Option Value → vMem → Prop} {r : (Int32 × vMem)} {K39 : Int32 → Int32 → Int32 → vMem → Option (Int32 × vMem)} (hK39 : ∀ (l1 : Int32) (l2 : Int32) (l3 : Int32) (σ : vMem), K39 l1 l2 l3 σ = some r → V GM mX8_write ad Q 8 39 [some (.ref (ad 0)), some (.int l1), some (.int l2), some (.int l3)] [] σ) {l1 : Int32} {l2 : Int32} {l3 : Int32} {σ : vMem} (h : fX8_write_39 K39 l1 l2 l3 σ = some r) (hQ : Q (some (.int r.1)) r.2) : V GM mX8_write ad Q 8 39 [some (.ref (ad 0)), some (.int l1), some (.int l2), some (.int l3)] [] σ := by
  unfold fX8_write_39 at h
  refine V.iload_n dX8_write_39 rfl ?_
  refine V.aload_n dX8_write_40 rfl ?_
  refine V.get dX8_write_41 flX8_107 nM_0 gM_0 (by decide) (eM_0_44 _ _) ?_
  refine V.iload_n dX8_write_44 rfl ?_
  obtain ⟨hb, h⟩ := ckn h
  refine V.iald dX8_write_45 nM_33 gM_33 hb ?_
  rcases itc h with ⟨hc, h⟩ | ⟨hc, h⟩
  · refine V.icmp_ge (tgt := 82) dX8_write_46 (by decide) (fun _ => ?_) (fun hn => absurd hc hn)
    exact V.forget (vX8_write_82 h hQ) ⟨rfl, trivial⟩
  · refine V.icmp_ge (tgt := 82) dX8_write_46 (by decide) (fun hn => absurd hn hc) (fun _ => ?_)
    refine V.iload_n dX8_write_49 rfl ?_
    refine V.aload_n dX8_write_50 rfl ?_
    refine V.get dX8_write_51 flX8_49 nM_0 gM_0 (by decide) (eM_0_22 _ _) ?_
    refine V.iload_n dX8_write_54 rfl ?_
    obtain ⟨hb, h⟩ := ckn h
    refine V.iald dX8_write_55 nM_14 gM_14 hb ?_
    rcases itc h with ⟨hc, h⟩ | ⟨hc, h⟩
    · refine V.icmp_ge (tgt := 82) dX8_write_56 (by decide) (fun _ => ?_) (fun hn => absurd hc hn)
      exact V.forget (vX8_write_82 h hQ) ⟨rfl, trivial⟩
    · refine V.icmp_ge (tgt := 82) dX8_write_56 (by decide) (fun hn => absurd hn hc) (fun _ => ?_)
      refine V.aload_n dX8_write_59 rfl ?_
      refine V.iload_n dX8_write_60 rfl ?_
      refine V.iload_n dX8_write_61 rfl ?_
      refine V.aload_n dX8_write_62 rfl ?_
      refine V.get dX8_write_63 flX8_52 nM_0 gM_0 (by decide) (eM_0_23 _ _) ?_
      refine V.bipush bp_24 dX8_write_66 ?_
      refine V.iload_n dX8_write_68 rfl ?_
      refine V.imul dX8_write_69 ?_
      refine V.iload_n dX8_write_70 rfl ?_
      refine V.iadd dX8_write_71 ?_
      obtain ⟨hb, h⟩ := ckn h
      refine V.iald dX8_write_72 nM_15 gM_15 hb ?_
      obtain ⟨q1, h1, h⟩ := bdc h
      refine V.callV3 (mc := mX8_keep) (d' := 0) dX8_write_73 lkX8_335 hfX8_keep nM_0 gM_0 rfl (by decide) (Nat.le_of_ble_eq_true rfl) (Nat.le_of_ble_eq_true rfl) (vX8_keep h1 ?_)
      refine V.iinc dX8_write_76 rfl (ii_1 _) (by decide) rfl ?_
      refine V.goto (tgt := 39) dX8_write_79 (by decide) ?_
      exact V.forget (hK39 _ _ _ _ h) ⟨rfl, ⟨rfl, ⟨rfl, ⟨rfl, trivial⟩⟩⟩⟩
def LfX8_write_39 : Nat → Int32 → Int32 → Int32 → vMem → Option (Int32 × vMem)
  | 0, _, _, _, _ => none
  | n + 1, l1, l2, l3, σ => fX8_write_39 (LfX8_write_39 n) l1 l2 l3 σ
theorem LvX8_write_39 {ad : Nat → Nat} {Q : Option Value → vMem → Prop} {r : (Int32 × vMem)} (hQ : Q (some (.int r.1)) r.2) : ∀ (n : Nat) (l1 : Int32) (l2 : Int32) (l3 : Int32) (σ : vMem), LfX8_write_39 n l1 l2 l3 σ = some r → V GM mX8_write ad Q 8 39 [some (.ref (ad 0)), some (.int l1), some (.int l2), some (.int l3)] [] σ := by
  intro n
  induction n with
  | zero => intro l1 l2 l3 σ h; cases h
  | succ n ih => intro l1 l2 l3 σ h; exact vX8_write_39 ih h hQ
def fX8_write (l1 : Int32) (l2 : Int32) (σ : vMem) : Option (Int32 × vMem) :=
  (fX8_isBasket l1 σ).bind fun q1 => if q1.1 = 0 then (fX8_write_15 q1.2) else
  ((fX8_isSheet l2 q1.2).bind fun q2 => if q2.1 = 0 then (fX8_write_15 q2.2) else
  (if l2 < 0 ∨ 4 ≤ l2.toNatClampNeg then none else if (q2.2.1 31 l2.toNatClampNeg) = 0 then ((fX8_meets (1 : Int32) q2.2).bind fun q4 => some (q4.1, q4.2)) else
  ((fX8_runsTold q2.2).bind fun q3 => LfX8_write_39 200 l1 l2 (0 : Int32) q3)))
theorem vX8_write {ad : Nat → Nat} {Q : Option Value → vMem → Prop} {r : (Int32 × vMem)} {l1 : Int32} {l2 : Int32} {σ : vMem} (h : fX8_write l1 l2 σ = some r) (hQ : Q (some (.int r.1)) r.2) : V GM mX8_write ad Q 8 0 [some (.ref (ad 0)), some (.int l1), some (.int l2), none] [] σ := by
  unfold fX8_write at h
  refine V.aload_n dX8_write_0 rfl ?_
  refine V.iload_n dX8_write_1 rfl ?_
  obtain ⟨q1, h1, h⟩ := bdc h
  refine V.callV1 (mc := mX8_isBasket) (d' := 6) dX8_write_2 lkX8_172 hfX8_isBasket nM_0 gM_0 rfl (by decide) (Nat.le_of_ble_eq_true rfl) (Nat.le_of_ble_eq_true rfl) (vX8_isBasket h1 ?_)
  rcases itc h with ⟨hc, h⟩ | ⟨hc, h⟩
  · refine V.if_eq (tgt := 15) dX8_write_5 (by decide) (fun _ => ?_) (fun hn => absurd hc hn)
    exact V.forget (vX8_write_15 h hQ) trivial
  · refine V.if_eq (tgt := 15) dX8_write_5 (by decide) (fun hn => absurd hn hc) (fun _ => ?_)
    refine V.iload_n dX8_write_8 rfl ?_
    obtain ⟨q2, h1, h⟩ := bdc h
    refine V.callS1 (mc := mX8_isSheet) (d' := 1) dX8_write_9 lkX8_187 hfX8_isSheet (by decide) (Nat.le_of_ble_eq_true rfl) (Nat.le_of_ble_eq_true rfl) (vX8_isSheet h1 ?_)
    rcases itc h with ⟨hc, h⟩ | ⟨hc, h⟩
    · refine V.if_ne (tgt := 18) dX8_write_12 (by decide) (fun hn => absurd hc hn) (fun _ => ?_)
      exact V.forget (vX8_write_15 h hQ) trivial
    · refine V.if_ne (tgt := 18) dX8_write_12 (by decide) (fun _ => ?_) (fun hn => absurd hn hc)
      refine V.aload_n dX8_write_18 rfl ?_
      refine V.get dX8_write_19 flX8_101 nM_0 gM_0 (by decide) (eM_0_42 _ _) ?_
      refine V.iload_n dX8_write_22 rfl ?_
      obtain ⟨hb, h⟩ := ckn h
      refine V.zald dX8_write_23 nM_31 gM_31 hb ?_
      rcases itc h with ⟨hc, h⟩ | ⟨hc, h⟩
      · refine V.if_ne (tgt := 33) dX8_write_24 (by decide) (fun hn => absurd hc hn) (fun _ => ?_)
        refine V.aload_n dX8_write_27 rfl ?_
        refine V.iconst ic_1 dX8_write_28 ?_
        obtain ⟨q4, h1, h⟩ := bdc h
        refine V.callV1 (mc := mX8_meets) (d' := 0) dX8_write_29 lkX8_190 hfX8_meets nM_0 gM_0 rfl (by decide) (Nat.le_of_ble_eq_true rfl) (Nat.le_of_ble_eq_true rfl) (vX8_meets h1 ?_)
        obtain rfl := Option.some.inj h
        exact V.iret dX8_write_32 rfl hQ
      · refine V.if_ne (tgt := 33) dX8_write_24 (by decide) (fun _ => ?_) (fun hn => absurd hn hc)
        refine V.aload_n dX8_write_33 rfl ?_
        obtain ⟨q3, h1, h⟩ := bdc h
        refine V.callV0 (mc := mX8_runsTold) (d' := 7) dX8_write_34 lkX8_248 hfX8_runsTold nM_0 gM_0 rfl (by decide) (Nat.le_of_ble_eq_true rfl) (Nat.le_of_ble_eq_true rfl) (vX8_runsTold h1 ?_)
        refine V.iconst ic_0 dX8_write_37 ?_
        refine V.istore_n dX8_write_38 (by decide) rfl ?_
        exact V.forget (LvX8_write_39 hQ 200 _ _ _ _ h) ⟨rfl, ⟨rfl, ⟨rfl, ⟨rfl, trivial⟩⟩⟩⟩
def fX8_sumOf_31 (s0 : Int32) (σ : vMem) : Option (Int32 × vMem) :=
  some (s0, σ)
theorem vX8_sumOf_31 {ad : Nat → Nat} {Q : Option Value → vMem → Prop} {r : (Int32 × vMem)} {s0 : Int32} {σ : vMem} (h : fX8_sumOf_31 s0 σ = some r) (hQ : Q (some (.int r.1)) r.2) : V GM mX8_sumOf ad Q 8 31 [none, none] [.int s0] σ := by
  unfold fX8_sumOf_31 at h
  obtain rfl := Option.some.inj h
  exact V.iret dX8_sumOf_31 rfl hQ
def fX8_sumOf (l1 : Int32) (σ : vMem) : Option (Int32 × vMem) :=
  (fX8_runsTold σ).bind fun q1 => if l1 = 0 then (fX8_sumOf_31 (q1.1 0 2) q1) else
  (if l1 = (1 : Int32) then (fX8_sumOf_31 (q1.1 0 6) q1) else
  ((fX8_bitesAll q1).bind fun q2 => fX8_sumOf_31 q2.1 q2.2))
theorem vX8_sumOf {ad : Nat → Nat} {Q : Option Value → vMem → Prop} {r : (Int32 × vMem)} {l1 : Int32} {σ : vMem} (h : fX8_sumOf l1 σ = some r) (hQ : Q (some (.int r.1)) r.2) : V GM mX8_sumOf ad Q 8 0 [some (.ref (ad 0)), some (.int l1)] [] σ := by
  unfold fX8_sumOf at h
  refine V.aload_n dX8_sumOf_0 rfl ?_
  obtain ⟨q1, h1, h⟩ := bdc h
  refine V.callV0 (mc := mX8_runsTold) (d' := 7) dX8_sumOf_1 lkX8_248 hfX8_runsTold nM_0 gM_0 rfl (by decide) (Nat.le_of_ble_eq_true rfl) (Nat.le_of_ble_eq_true rfl) (vX8_runsTold h1 ?_)
  refine V.iload_n dX8_sumOf_4 rfl ?_
  rcases itc h with ⟨hc, h⟩ | ⟨hc, h⟩
  · refine V.if_ne (tgt := 15) dX8_sumOf_5 (by decide) (fun hn => absurd hc hn) (fun _ => ?_)
    refine V.aload_n dX8_sumOf_8 rfl ?_
    refine V.get dX8_sumOf_9 flX8_144 nM_0 gM_0 (by decide) (eM_0_2 _ _) ?_
    refine V.goto (tgt := 31) dX8_sumOf_12 (by decide) ?_
    exact V.forget (vX8_sumOf_31 h hQ) trivial
  · refine V.if_ne (tgt := 15) dX8_sumOf_5 (by decide) (fun _ => ?_) (fun hn => absurd hn hc)
    refine V.iload_n dX8_sumOf_15 rfl ?_
    refine V.iconst ic_1 dX8_sumOf_16 ?_
    rcases itc h with ⟨hc, h⟩ | ⟨hc, h⟩
    · refine V.icmp_ne (tgt := 27) dX8_sumOf_17 (by decide) (fun hn => absurd hc hn) (fun _ => ?_)
      refine V.aload_n dX8_sumOf_20 rfl ?_
      refine V.get dX8_sumOf_21 flX8_147 nM_0 gM_0 (by decide) (eM_0_6 _ _) ?_
      refine V.goto (tgt := 31) dX8_sumOf_24 (by decide) ?_
      exact V.forget (vX8_sumOf_31 h hQ) trivial
    · refine V.icmp_ne (tgt := 27) dX8_sumOf_17 (by decide) (fun _ => ?_) (fun hn => absurd hn hc)
      refine V.aload_n dX8_sumOf_27 rfl ?_
      obtain ⟨q2, h1, h⟩ := bdc h
      refine V.callV0 (mc := mX8_bitesAll) (d' := 0) dX8_sumOf_28 lkX8_323 hfX8_bitesAll nM_0 gM_0 rfl (by decide) (Nat.le_of_ble_eq_true rfl) (Nat.le_of_ble_eq_true rfl) (vX8_bitesAll h1 ?_)
      exact V.forget (vX8_sumOf_31 h hQ) trivial
def fX8_count (l1 : Int32) (σ : vMem) : Option (Int32 × vMem) :=
  if l1 = 0 then ((fX8_sumOf l1 σ).bind fun q1 => some (q1.1, q1.2)) else
  (if l1 = 1 then ((fX8_sumOf l1 σ).bind fun q2 => some (q2.1, q2.2)) else
  (if l1 = 2 then (if (l1 - (2 : Int32)) < 0 ∨ 2 ≤ (l1 - (2 : Int32)).toNatClampNeg then none else some ((σ.1 1 (l1 - (2 : Int32)).toNatClampNeg), σ)) else
  (if l1 = 3 then (if (l1 - (2 : Int32)) < 0 ∨ 2 ≤ (l1 - (2 : Int32)).toNatClampNeg then none else some ((σ.1 1 (l1 - (2 : Int32)).toNatClampNeg), σ)) else
  (if l1 = 4 then (some ((σ.1 0 13), σ)) else
  (if l1 = 5 then (some ((σ.1 0 15), σ)) else
  (if l1 = 6 then ((fX8_sumOf l1 σ).bind fun q3 => some (q3.1, q3.2)) else
  (if l1 = 7 then (some ((σ.1 0 37), σ)) else
  (if l1 = 8 then (some ((σ.1 0 47), σ)) else
  (some ((-2 : Int32), σ))))))))))
theorem vX8_count {ad : Nat → Nat} {Q : Option Value → vMem → Prop} {r : (Int32 × vMem)} {l1 : Int32} {σ : vMem} (h : fX8_count l1 σ = some r) (hQ : Q (some (.int r.1)) r.2) : V GM mX8_count ad Q 9 0 [some (.ref (ad 0)), some (.int l1)] [] σ := by
  unfold fX8_count at h
  refine V.iload_n dX8_count_0 rfl ?_
  rcases itc h with ⟨hc, h⟩ | ⟨hs0, h⟩
  · refine V.tableIn (off := 51) (tgt := 52) dX8_count_1 (by rw [hc]; decide) (by rw [hc]; decide) (by rw [hc]; rfl) (by decide) ?_
    refine V.aload_n dX8_count_52 rfl ?_
    refine V.iload_n dX8_count_53 rfl ?_
    obtain ⟨q1, h1, h⟩ := bdc h
    refine V.callV1 (mc := mX8_sumOf) (d' := 8) dX8_count_54 lkX8_339 hfX8_sumOf nM_0 gM_0 rfl (by decide) (Nat.le_of_ble_eq_true rfl) (Nat.le_of_ble_eq_true rfl) (vX8_sumOf h1 ?_)
    obtain rfl := Option.some.inj h
    exact V.iret dX8_count_57 rfl hQ
  · rcases itc h with ⟨hc, h⟩ | ⟨hs1, h⟩
    · refine V.tableIn (off := 51) (tgt := 52) dX8_count_1 (by rw [hc]; decide) (by rw [hc]; decide) (by rw [hc]; rfl) (by decide) ?_
      refine V.aload_n dX8_count_52 rfl ?_
      refine V.iload_n dX8_count_53 rfl ?_
      obtain ⟨q2, h1, h⟩ := bdc h
      refine V.callV1 (mc := mX8_sumOf) (d' := 8) dX8_count_54 lkX8_339 hfX8_sumOf nM_0 gM_0 rfl (by decide) (Nat.le_of_ble_eq_true rfl) (Nat.le_of_ble_eq_true rfl) (vX8_sumOf h1 ?_)
      obtain rfl := Option.some.inj h
      exact V.iret dX8_count_57 rfl hQ
    · rcases itc h with ⟨hc, h⟩ | ⟨hs2, h⟩
      · refine V.tableIn (off := 57) (tgt := 58) dX8_count_1 (by rw [hc]; decide) (by rw [hc]; decide) (by rw [hc]; rfl) (by decide) ?_
        refine V.aload_n dX8_count_58 rfl ?_
        refine V.get dX8_count_59 flX8_7 nM_0 gM_0 (by decide) (eM_0_0 _ _) ?_
        refine V.iload_n dX8_count_62 rfl ?_
        refine V.iconst ic_2 dX8_count_63 ?_
        refine V.isub dX8_count_64 ?_
        obtain ⟨hb, h⟩ := ckn h
        refine V.iald dX8_count_65 nM_1 gM_1 hb ?_
        obtain rfl := Option.some.inj h
        exact V.iret dX8_count_66 rfl hQ
      · rcases itc h with ⟨hc, h⟩ | ⟨hs3, h⟩
        · refine V.tableIn (off := 57) (tgt := 58) dX8_count_1 (by rw [hc]; decide) (by rw [hc]; decide) (by rw [hc]; rfl) (by decide) ?_
          refine V.aload_n dX8_count_58 rfl ?_
          refine V.get dX8_count_59 flX8_7 nM_0 gM_0 (by decide) (eM_0_0 _ _) ?_
          refine V.iload_n dX8_count_62 rfl ?_
          refine V.iconst ic_2 dX8_count_63 ?_
          refine V.isub dX8_count_64 ?_
          obtain ⟨hb, h⟩ := ckn h
          refine V.iald dX8_count_65 nM_1 gM_1 hb ?_
          obtain rfl := Option.some.inj h
          exact V.iret dX8_count_66 rfl hQ
        · rcases itc h with ⟨hc, h⟩ | ⟨hs4, h⟩
          · refine V.tableIn (off := 66) (tgt := 67) dX8_count_1 (by rw [hc]; decide) (by rw [hc]; decide) (by rw [hc]; rfl) (by decide) ?_
            refine V.aload_n dX8_count_67 rfl ?_
            refine V.get dX8_count_68 flX8_181 nM_0 gM_0 (by decide) (eM_0_13 _ _) ?_
            obtain rfl := Option.some.inj h
            exact V.iret dX8_count_71 rfl hQ
          · rcases itc h with ⟨hc, h⟩ | ⟨hs5, h⟩
            · refine V.tableIn (off := 71) (tgt := 72) dX8_count_1 (by rw [hc]; decide) (by rw [hc]; decide) (by rw [hc]; rfl) (by decide) ?_
              refine V.aload_n dX8_count_72 rfl ?_
              refine V.get dX8_count_73 flX8_184 nM_0 gM_0 (by decide) (eM_0_15 _ _) ?_
              obtain rfl := Option.some.inj h
              exact V.iret dX8_count_76 rfl hQ
            · rcases itc h with ⟨hc, h⟩ | ⟨hs6, h⟩
              · refine V.tableIn (off := 51) (tgt := 52) dX8_count_1 (by rw [hc]; decide) (by rw [hc]; decide) (by rw [hc]; rfl) (by decide) ?_
                refine V.aload_n dX8_count_52 rfl ?_
                refine V.iload_n dX8_count_53 rfl ?_
                obtain ⟨q3, h1, h⟩ := bdc h
                refine V.callV1 (mc := mX8_sumOf) (d' := 8) dX8_count_54 lkX8_339 hfX8_sumOf nM_0 gM_0 rfl (by decide) (Nat.le_of_ble_eq_true rfl) (Nat.le_of_ble_eq_true rfl) (vX8_sumOf h1 ?_)
                obtain rfl := Option.some.inj h
                exact V.iret dX8_count_57 rfl hQ
              · rcases itc h with ⟨hc, h⟩ | ⟨hs7, h⟩
                · refine V.tableIn (off := 76) (tgt := 77) dX8_count_1 (by rw [hc]; decide) (by rw [hc]; decide) (by rw [hc]; rfl) (by decide) ?_
                  refine V.aload_n dX8_count_77 rfl ?_
                  refine V.get dX8_count_78 flX8_295 nM_0 gM_0 (by decide) (eM_0_37 _ _) ?_
                  obtain rfl := Option.some.inj h
                  exact V.iret dX8_count_81 rfl hQ
                · rcases itc h with ⟨hc, h⟩ | ⟨hs8, h⟩
                  · refine V.tableIn (off := 81) (tgt := 82) dX8_count_1 (by rw [hc]; decide) (by rw [hc]; decide) (by rw [hc]; rfl) (by decide) ?_
                    refine V.aload_n dX8_count_82 rfl ?_
                    refine V.get dX8_count_83 flX8_329 nM_0 gM_0 (by decide) (eM_0_47 _ _) ?_
                    obtain rfl := Option.some.inj h
                    exact V.iret dX8_count_86 rfl hQ
                  · refine V.tableOut (tgt := 87) dX8_count_1 (by have hs0t : ¬ l1.toInt = 0 := lv_neT hs0 rfl; have hs1t : ¬ l1.toInt = 1 := lv_neT hs1 rfl; have hs2t : ¬ l1.toInt = 2 := lv_neT hs2 rfl; have hs3t : ¬ l1.toInt = 3 := lv_neT hs3 rfl; have hs4t : ¬ l1.toInt = 4 := lv_neT hs4 rfl; have hs5t : ¬ l1.toInt = 5 := lv_neT hs5 rfl; have hs6t : ¬ l1.toInt = 6 := lv_neT hs6 rfl; have hs7t : ¬ l1.toInt = 7 := lv_neT hs7 rfl; have hs8t : ¬ l1.toInt = 8 := lv_neT hs8 rfl; omega) (by decide) ?_
                    refine V.bipush bp_m2 dX8_count_87 ?_
                    obtain rfl := Option.some.inj h
                    exact V.iret dX8_count_89 rfl hQ
def fX8_hourDigest_6 (K6 : Int32 → Int32 → Int64 → Int32 → vMem → Option (Int64 × vMem)) (l3 : Int32) (l4 : Int32) (l5 : Int64) (l7 : Int32) (σ : vMem) : Option (Int64 × vMem) :=
  if (4 : Int32) ≤ l7 then (some (l5, σ)) else
  ((fX8_atOf l3 l4 l7 σ).bind fun q1 => K6 l3 l4 (((31 : Int64) * l5) + (q1.1.toInt64)) (l7 + (1 : Int32)) q1.2)
theorem vX8_hourDigest_6 {ad : Nat → Nat} {Q : Option Value → vMem → Prop} {r : (Int64 × vMem)} {K6 : Int32 → Int32 → Int64 → Int32 → vMem → Option (Int64 × vMem)} (hK6 : ∀ (l3 : Int32) (l4 : Int32) (l5 : Int64) (l7 : Int32) (σ : vMem), K6 l3 l4 l5 l7 σ = some r → V GM mX8_hourDigest ad Q 9 6 [some (.ref (ad 0)), none, none, some (.int l3), some (.int l4), some (.long l5), none, some (.int l7)] [] σ) {l3 : Int32} {l4 : Int32} {l5 : Int64} {l7 : Int32} {σ : vMem} (h : fX8_hourDigest_6 K6 l3 l4 l5 l7 σ = some r) (hQ : Q (some (.long r.1)) r.2) : V GM mX8_hourDigest ad Q 9 6 [some (.ref (ad 0)), none, none, some (.int l3), some (.int l4), some (.long l5), none, some (.int l7)] [] σ := by
  unfold fX8_hourDigest_6 at h
  refine V.iload dX8_hourDigest_6 rfl ?_
  refine V.iconst ic_4 dX8_hourDigest_8 ?_
  rcases itc h with ⟨hc, h⟩ | ⟨hc, h⟩
  · refine V.icmp_ge (tgt := 37) dX8_hourDigest_9 (by decide) (fun _ => ?_) (fun hn => absurd hc hn)
    refine V.lload dX8_hourDigest_37 rfl ?_
    obtain rfl := Option.some.inj h
    exact V.lret dX8_hourDigest_39 rfl hQ
  · refine V.icmp_ge (tgt := 37) dX8_hourDigest_9 (by decide) (fun hn => absurd hn hc) (fun _ => ?_)
    refine V.ldc2 dX8_hourDigest_12 ctX8_342 ?_
    refine V.lload dX8_hourDigest_15 rfl ?_
    refine V.lmul dX8_hourDigest_17 ?_
    refine V.aload_n dX8_hourDigest_18 rfl ?_
    refine V.iload_n dX8_hourDigest_19 rfl ?_
    refine V.iload dX8_hourDigest_20 rfl ?_
    refine V.iload dX8_hourDigest_22 rfl ?_
    obtain ⟨q1, h1, h⟩ := bdc h
    refine V.callV3 (mc := mX8_atOf) (d' := 8) dX8_hourDigest_24 lkX8_251 hfX8_atOf nM_0 gM_0 rfl (by decide) (Nat.le_of_ble_eq_true rfl) (Nat.le_of_ble_eq_true rfl) (vX8_atOf h1 ?_)
    refine V.i2l dX8_hourDigest_27 ?_
    refine V.ladd dX8_hourDigest_28 ?_
    refine V.lstore dX8_hourDigest_29 (by decide) rfl ?_
    refine V.iinc dX8_hourDigest_31 rfl (ii_1 _) (by decide) rfl ?_
    refine V.goto (tgt := 6) dX8_hourDigest_34 (by decide) ?_
    exact V.forget (hK6 _ _ _ _ _ h) ⟨rfl, ⟨rfl, ⟨rfl, ⟨rfl, ⟨rfl, trivial⟩⟩⟩⟩⟩
def LfX8_hourDigest_6 : Nat → Int32 → Int32 → Int64 → Int32 → vMem → Option (Int64 × vMem)
  | 0, _, _, _, _, _ => none
  | n + 1, l3, l4, l5, l7, σ => fX8_hourDigest_6 (LfX8_hourDigest_6 n) l3 l4 l5 l7 σ
theorem LvX8_hourDigest_6 {ad : Nat → Nat} {Q : Option Value → vMem → Prop} {r : (Int64 × vMem)} (hQ : Q (some (.long r.1)) r.2) : ∀ (n : Nat) (l3 : Int32) (l4 : Int32) (l5 : Int64) (l7 : Int32) (σ : vMem), LfX8_hourDigest_6 n l3 l4 l5 l7 σ = some r → V GM mX8_hourDigest ad Q 9 6 [some (.ref (ad 0)), none, none, some (.int l3), some (.int l4), some (.long l5), none, some (.int l7)] [] σ := by
  intro n
  induction n with
  | zero => intro l3 l4 l5 l7 σ h; cases h
  | succ n ih => intro l3 l4 l5 l7 σ h; exact vX8_hourDigest_6 ih h hQ
def fX8_hourDigest (l1 : Int64) (l3 : Int32) (l4 : Int32) (σ : vMem) : Option (Int64 × vMem) :=
  LfX8_hourDigest_6 200 l3 l4 l1 (0 : Int32) σ
theorem vX8_hourDigest {ad : Nat → Nat} {Q : Option Value → vMem → Prop} {r : (Int64 × vMem)} {l1 : Int64} {l3 : Int32} {l4 : Int32} {σ : vMem} (h : fX8_hourDigest l1 l3 l4 σ = some r) (hQ : Q (some (.long r.1)) r.2) : V GM mX8_hourDigest ad Q 9 0 [some (.ref (ad 0)), some (.long l1), none, some (.int l3), some (.int l4), none, none, none] [] σ := by
  unfold fX8_hourDigest at h
  refine V.lload_n dX8_hourDigest_0 rfl ?_
  refine V.lstore dX8_hourDigest_1 (by decide) rfl ?_
  refine V.iconst ic_0 dX8_hourDigest_3 ?_
  refine V.istore dX8_hourDigest_4 (by decide) rfl ?_
  exact V.forget (LvX8_hourDigest_6 hQ 200 _ _ _ _ _ h) ⟨rfl, ⟨rfl, ⟨rfl, ⟨rfl, ⟨rfl, trivial⟩⟩⟩⟩⟩
def fX8_basketDigest_96 (K96 : Int32 → Int64 → Int32 → vMem → Option (Int64 × vMem)) (l3 : Int32) (l4 : Int64) (l6 : Int32) (σ : vMem) : Option (Int64 × vMem) :=
  if (4 : Int32) ≤ l6 then ((fX8_sendOf l3 (0 : Int32) σ).bind fun q1 => (fX8_sendOf l3 (1 : Int32) q1.2).bind fun q2 => (fX8_loafOf l3 (5 : Int32) q2.2).bind fun q3 => (fX8_feedBy l3 q3.2).bind fun q4 => (fX8_ofRow q4.1 (0 : Int32) q4.2).bind fun q5 => (fX8_gustOf (5 : Int32) l3 (3 : Int32) (0 : Int32) q5.2).bind fun q6 => (fX8_gustOf (5 : Int32) l3 (3 : Int32) (1 : Int32) q6.2).bind fun q7 => some ((((31 : Int64) * (((31 : Int64) * (((31 : Int64) * (((31 : Int64) * (((31 : Int64) * (((31 : Int64) * (((31 : Int64) * l4) + (q1.1.toInt64))) + (q2.1.toInt64))) + (q3.1.toInt64))) + (q4.1.toInt64))) + (q5.1.toInt64))) + q6.1)) + q7.1), q7.2)) else
  ((fX8_noteOf l3 l6 σ).bind fun q8 => K96 l3 (((31 : Int64) * l4) + (q8.1.toInt64)) (l6 + (1 : Int32)) q8.2)
theorem vX8_basketDigest_96 {ad : Nat → Nat} {Q : Option Value → vMem → Prop} {r : (Int64 × vMem)} {K96 : Int32 → Int64 → Int32 → vMem → Option (Int64 × vMem)} (hK96 : ∀ (l3 : Int32) (l4 : Int64) (l6 : Int32) (σ : vMem), K96 l3 l4 l6 σ = some r → V GM mX8_basketDigest ad Q 10 96 [some (.ref (ad 0)), none, none, some (.int l3), some (.long l4), none, some (.int l6)] [] σ) {l3 : Int32} {l4 : Int64} {l6 : Int32} {σ : vMem} (h : fX8_basketDigest_96 K96 l3 l4 l6 σ = some r) (hQ : Q (some (.long r.1)) r.2) : V GM mX8_basketDigest ad Q 10 96 [some (.ref (ad 0)), none, none, some (.int l3), some (.long l4), none, some (.int l6)] [] σ := by
  unfold fX8_basketDigest_96 at h
  refine V.iload dX8_basketDigest_96 rfl ?_
  refine V.iconst ic_4 dX8_basketDigest_98 ?_
  rcases itc h with ⟨hc, h⟩ | ⟨hc, h⟩
  · refine V.icmp_ge (tgt := 125) dX8_basketDigest_99 (by decide) (fun _ => ?_) (fun hn => absurd hc hn)
    refine V.ldc2 dX8_basketDigest_125 ctX8_342 ?_
    refine V.lload dX8_basketDigest_128 rfl ?_
    refine V.lmul dX8_basketDigest_130 ?_
    refine V.aload_n dX8_basketDigest_131 rfl ?_
    refine V.iload_n dX8_basketDigest_132 rfl ?_
    refine V.iconst ic_0 dX8_basketDigest_133 ?_
    obtain ⟨q1, h1, h⟩ := bdc h
    refine V.callV2 (mc := mX8_sendOf) (d' := 7) dX8_basketDigest_134 lkX8_277 hfX8_sendOf nM_0 gM_0 rfl (by decide) (Nat.le_of_ble_eq_true rfl) (Nat.le_of_ble_eq_true rfl) (vX8_sendOf h1 ?_)
    refine V.i2l dX8_basketDigest_137 ?_
    refine V.ladd dX8_basketDigest_138 ?_
    refine V.lstore dX8_basketDigest_139 (by decide) rfl ?_
    refine V.ldc2 dX8_basketDigest_141 ctX8_342 ?_
    refine V.lload dX8_basketDigest_144 rfl ?_
    refine V.lmul dX8_basketDigest_146 ?_
    refine V.aload_n dX8_basketDigest_147 rfl ?_
    refine V.iload_n dX8_basketDigest_148 rfl ?_
    refine V.iconst ic_1 dX8_basketDigest_149 ?_
    obtain ⟨q2, h1, h⟩ := bdc h
    refine V.callV2 (mc := mX8_sendOf) (d' := 7) dX8_basketDigest_150 lkX8_277 hfX8_sendOf nM_0 gM_0 rfl (by decide) (Nat.le_of_ble_eq_true rfl) (Nat.le_of_ble_eq_true rfl) (vX8_sendOf h1 ?_)
    refine V.i2l dX8_basketDigest_153 ?_
    refine V.ladd dX8_basketDigest_154 ?_
    refine V.lstore dX8_basketDigest_155 (by decide) rfl ?_
    refine V.ldc2 dX8_basketDigest_157 ctX8_342 ?_
    refine V.lload dX8_basketDigest_160 rfl ?_
    refine V.lmul dX8_basketDigest_162 ?_
    refine V.aload_n dX8_basketDigest_163 rfl ?_
    refine V.iload_n dX8_basketDigest_164 rfl ?_
    refine V.iconst ic_5 dX8_basketDigest_165 ?_
    obtain ⟨q3, h1, h⟩ := bdc h
    refine V.callV2 (mc := mX8_loafOf) (d' := 7) dX8_basketDigest_166 lkX8_280 hfX8_loafOf nM_0 gM_0 rfl (by decide) (Nat.le_of_ble_eq_true rfl) (Nat.le_of_ble_eq_true rfl) (vX8_loafOf h1 ?_)
    refine V.i2l dX8_basketDigest_169 ?_
    refine V.ladd dX8_basketDigest_170 ?_
    refine V.lstore dX8_basketDigest_171 (by decide) rfl ?_
    refine V.aload_n dX8_basketDigest_173 rfl ?_
    refine V.iload_n dX8_basketDigest_174 rfl ?_
    obtain ⟨q4, h1, h⟩ := bdc h
    refine V.callV1 (mc := mX8_feedBy) (d' := 7) dX8_basketDigest_175 lkX8_286 hfX8_feedBy nM_0 gM_0 rfl (by decide) (Nat.le_of_ble_eq_true rfl) (Nat.le_of_ble_eq_true rfl) (vX8_feedBy h1 ?_)
    refine V.istore dX8_basketDigest_178 (by decide) rfl ?_
    refine V.ldc2 dX8_basketDigest_180 ctX8_342 ?_
    refine V.lload dX8_basketDigest_183 rfl ?_
    refine V.lmul dX8_basketDigest_185 ?_
    refine V.iload dX8_basketDigest_186 rfl ?_
    refine V.i2l dX8_basketDigest_188 ?_
    refine V.ladd dX8_basketDigest_189 ?_
    refine V.lstore dX8_basketDigest_190 (by decide) rfl ?_
    refine V.ldc2 dX8_basketDigest_192 ctX8_342 ?_
    refine V.lload dX8_basketDigest_195 rfl ?_
    refine V.lmul dX8_basketDigest_197 ?_
    refine V.aload_n dX8_basketDigest_198 rfl ?_
    refine V.iload dX8_basketDigest_199 rfl ?_
    refine V.iconst ic_0 dX8_basketDigest_201 ?_
    obtain ⟨q5, h1, h⟩ := bdc h
    refine V.callV2 (mc := mX8_ofRow) (d' := 0) dX8_basketDigest_202 lkX8_289 hfX8_ofRow nM_0 gM_0 rfl (by decide) (Nat.le_of_ble_eq_true rfl) (Nat.le_of_ble_eq_true rfl) (vX8_ofRow h1 ?_)
    refine V.i2l dX8_basketDigest_205 ?_
    refine V.ladd dX8_basketDigest_206 ?_
    refine V.lstore dX8_basketDigest_207 (by decide) rfl ?_
    refine V.ldc2 dX8_basketDigest_209 ctX8_342 ?_
    refine V.lload dX8_basketDigest_212 rfl ?_
    refine V.lmul dX8_basketDigest_214 ?_
    refine V.aload_n dX8_basketDigest_215 rfl ?_
    refine V.iconst ic_5 dX8_basketDigest_216 ?_
    refine V.iload_n dX8_basketDigest_217 rfl ?_
    refine V.iconst ic_3 dX8_basketDigest_218 ?_
    refine V.iconst ic_0 dX8_basketDigest_219 ?_
    obtain ⟨q6, h1, h⟩ := bdc h
    refine V.callV4 (mc := mX8_gustOf) (d' := 7) dX8_basketDigest_220 lkX8_315 hfX8_gustOf nM_0 gM_0 rfl (by decide) (Nat.le_of_ble_eq_true rfl) (Nat.le_of_ble_eq_true rfl) (vX8_gustOf h1 ?_)
    refine V.ladd dX8_basketDigest_223 ?_
    refine V.lstore dX8_basketDigest_224 (by decide) rfl ?_
    refine V.ldc2 dX8_basketDigest_226 ctX8_342 ?_
    refine V.lload dX8_basketDigest_229 rfl ?_
    refine V.lmul dX8_basketDigest_231 ?_
    refine V.aload_n dX8_basketDigest_232 rfl ?_
    refine V.iconst ic_5 dX8_basketDigest_233 ?_
    refine V.iload_n dX8_basketDigest_234 rfl ?_
    refine V.iconst ic_3 dX8_basketDigest_235 ?_
    refine V.iconst ic_1 dX8_basketDigest_236 ?_
    obtain ⟨q7, h1, h⟩ := bdc h
    refine V.callV4 (mc := mX8_gustOf) (d' := 7) dX8_basketDigest_237 lkX8_315 hfX8_gustOf nM_0 gM_0 rfl (by decide) (Nat.le_of_ble_eq_true rfl) (Nat.le_of_ble_eq_true rfl) (vX8_gustOf h1 ?_)
    refine V.ladd dX8_basketDigest_240 ?_
    obtain rfl := Option.some.inj h
    exact V.lret dX8_basketDigest_241 rfl hQ
  · refine V.icmp_ge (tgt := 125) dX8_basketDigest_99 (by decide) (fun hn => absurd hn hc) (fun _ => ?_)
    refine V.ldc2 dX8_basketDigest_102 ctX8_342 ?_
    refine V.lload dX8_basketDigest_105 rfl ?_
    refine V.lmul dX8_basketDigest_107 ?_
    refine V.aload_n dX8_basketDigest_108 rfl ?_
    refine V.iload_n dX8_basketDigest_109 rfl ?_
    refine V.iload dX8_basketDigest_110 rfl ?_
    obtain ⟨q8, h1, h⟩ := bdc h
    refine V.callV2 (mc := mX8_noteOf) (d' := 8) dX8_basketDigest_112 lkX8_255 hfX8_noteOf nM_0 gM_0 rfl (by decide) (Nat.le_of_ble_eq_true rfl) (Nat.le_of_ble_eq_true rfl) (vX8_noteOf h1 ?_)
    refine V.i2l dX8_basketDigest_115 ?_
    refine V.ladd dX8_basketDigest_116 ?_
    refine V.lstore dX8_basketDigest_117 (by decide) rfl ?_
    refine V.iinc dX8_basketDigest_119 rfl (ii_1 _) (by decide) rfl ?_
    refine V.goto (tgt := 96) dX8_basketDigest_122 (by decide) ?_
    exact V.forget (hK96 _ _ _ _ h) ⟨rfl, ⟨rfl, ⟨rfl, ⟨rfl, trivial⟩⟩⟩⟩
def LfX8_basketDigest_96 : Nat → Int32 → Int64 → Int32 → vMem → Option (Int64 × vMem)
  | 0, _, _, _, _ => none
  | n + 1, l3, l4, l6, σ => fX8_basketDigest_96 (LfX8_basketDigest_96 n) l3 l4 l6 σ
theorem LvX8_basketDigest_96 {ad : Nat → Nat} {Q : Option Value → vMem → Prop} {r : (Int64 × vMem)} (hQ : Q (some (.long r.1)) r.2) : ∀ (n : Nat) (l3 : Int32) (l4 : Int64) (l6 : Int32) (σ : vMem), LfX8_basketDigest_96 n l3 l4 l6 σ = some r → V GM mX8_basketDigest ad Q 10 96 [some (.ref (ad 0)), none, none, some (.int l3), some (.long l4), none, some (.int l6)] [] σ := by
  intro n
  induction n with
  | zero => intro l3 l4 l6 σ h; cases h
  | succ n ih => intro l3 l4 l6 σ h; exact vX8_basketDigest_96 ih h hQ
def fX8_basketDigest_6 (K6 : Int32 → Int64 → Int32 → vMem → Option (Int64 × vMem)) (l3 : Int32) (l4 : Int64) (l6 : Int32) (σ : vMem) : Option (Int64 × vMem) :=
  if (6 : Int32) ≤ l6 then ((fX8_hourDigest l4 (0 : Int32) l3 σ).bind fun q1 => (fX8_hourDigest q1.1 (5 : Int32) l3 q1.2).bind fun q2 => (fX8_hourDigest q2.1 (12 : Int32) l3 q2.2).bind fun q3 => (fX8_hourDigest q3.1 (39 : Int32) l3 q3.2).bind fun q4 => (fX8_comesOf l3 q4.2).bind fun q5 => LfX8_basketDigest_96 200 l3 (((31 : Int64) * q4.1) + (q5.1.toInt64)) (0 : Int32) q5.2) else
  ((fX8_basketOf l3 l6 σ).bind fun q6 => K6 l3 (((31 : Int64) * l4) + (q6.1.toInt64)) (l6 + (1 : Int32)) q6.2)
theorem vX8_basketDigest_6 {ad : Nat → Nat} {Q : Option Value → vMem → Prop} {r : (Int64 × vMem)} {K6 : Int32 → Int64 → Int32 → vMem → Option (Int64 × vMem)} (hK6 : ∀ (l3 : Int32) (l4 : Int64) (l6 : Int32) (σ : vMem), K6 l3 l4 l6 σ = some r → V GM mX8_basketDigest ad Q 10 6 [some (.ref (ad 0)), none, none, some (.int l3), some (.long l4), none, some (.int l6)] [] σ) {l3 : Int32} {l4 : Int64} {l6 : Int32} {σ : vMem} (h : fX8_basketDigest_6 K6 l3 l4 l6 σ = some r) (hQ : Q (some (.long r.1)) r.2) : V GM mX8_basketDigest ad Q 10 6 [some (.ref (ad 0)), none, none, some (.int l3), some (.long l4), none, some (.int l6)] [] σ := by
  unfold fX8_basketDigest_6 at h
  refine V.iload dX8_basketDigest_6 rfl ?_
  refine V.bipush bp_6 dX8_basketDigest_8 ?_
  rcases itc h with ⟨hc, h⟩ | ⟨hc, h⟩
  · refine V.icmp_ge (tgt := 36) dX8_basketDigest_10 (by decide) (fun _ => ?_) (fun hn => absurd hc hn)
    refine V.aload_n dX8_basketDigest_36 rfl ?_
    refine V.lload dX8_basketDigest_37 rfl ?_
    refine V.iconst ic_0 dX8_basketDigest_39 ?_
    refine V.iload_n dX8_basketDigest_40 rfl ?_
    obtain ⟨q1, h1, h⟩ := bdc h
    refine V.callV3 (mc := mX8_hourDigest) (d' := 9) dX8_basketDigest_41 lkX8_344 hfX8_hourDigest nM_0 gM_0 rfl (by decide) (Nat.le_of_ble_eq_true rfl) (Nat.le_of_ble_eq_true rfl) (vX8_hourDigest h1 ?_)
    refine V.lstore dX8_basketDigest_44 (by decide) rfl ?_
    refine V.aload_n dX8_basketDigest_46 rfl ?_
    refine V.lload dX8_basketDigest_47 rfl ?_
    refine V.iconst ic_5 dX8_basketDigest_49 ?_
    refine V.iload_n dX8_basketDigest_50 rfl ?_
    obtain ⟨q2, h1, h⟩ := bdc h
    refine V.callV3 (mc := mX8_hourDigest) (d' := 9) dX8_basketDigest_51 lkX8_344 hfX8_hourDigest nM_0 gM_0 rfl (by decide) (Nat.le_of_ble_eq_true rfl) (Nat.le_of_ble_eq_true rfl) (vX8_hourDigest h1 ?_)
    refine V.lstore dX8_basketDigest_54 (by decide) rfl ?_
    refine V.aload_n dX8_basketDigest_56 rfl ?_
    refine V.lload dX8_basketDigest_57 rfl ?_
    refine V.bipush bp_12 dX8_basketDigest_59 ?_
    refine V.iload_n dX8_basketDigest_61 rfl ?_
    obtain ⟨q3, h1, h⟩ := bdc h
    refine V.callV3 (mc := mX8_hourDigest) (d' := 9) dX8_basketDigest_62 lkX8_344 hfX8_hourDigest nM_0 gM_0 rfl (by decide) (Nat.le_of_ble_eq_true rfl) (Nat.le_of_ble_eq_true rfl) (vX8_hourDigest h1 ?_)
    refine V.lstore dX8_basketDigest_65 (by decide) rfl ?_
    refine V.aload_n dX8_basketDigest_67 rfl ?_
    refine V.lload dX8_basketDigest_68 rfl ?_
    refine V.bipush bp_39 dX8_basketDigest_70 ?_
    refine V.iload_n dX8_basketDigest_72 rfl ?_
    obtain ⟨q4, h1, h⟩ := bdc h
    refine V.callV3 (mc := mX8_hourDigest) (d' := 9) dX8_basketDigest_73 lkX8_344 hfX8_hourDigest nM_0 gM_0 rfl (by decide) (Nat.le_of_ble_eq_true rfl) (Nat.le_of_ble_eq_true rfl) (vX8_hourDigest h1 ?_)
    refine V.lstore dX8_basketDigest_76 (by decide) rfl ?_
    refine V.ldc2 dX8_basketDigest_78 ctX8_342 ?_
    refine V.lload dX8_basketDigest_81 rfl ?_
    refine V.lmul dX8_basketDigest_83 ?_
    refine V.aload_n dX8_basketDigest_84 rfl ?_
    refine V.iload_n dX8_basketDigest_85 rfl ?_
    obtain ⟨q5, h1, h⟩ := bdc h
    refine V.callV1 (mc := mX8_comesOf) (d' := 8) dX8_basketDigest_86 lkX8_258 hfX8_comesOf nM_0 gM_0 rfl (by decide) (Nat.le_of_ble_eq_true rfl) (Nat.le_of_ble_eq_true rfl) (vX8_comesOf h1 ?_)
    refine V.i2l dX8_basketDigest_89 ?_
    refine V.ladd dX8_basketDigest_90 ?_
    refine V.lstore dX8_basketDigest_91 (by decide) rfl ?_
    refine V.iconst ic_0 dX8_basketDigest_93 ?_
    refine V.istore dX8_basketDigest_94 (by decide) rfl ?_
    exact V.forget (LvX8_basketDigest_96 hQ 200 _ _ _ _ h) ⟨rfl, ⟨rfl, ⟨rfl, ⟨rfl, trivial⟩⟩⟩⟩
  · refine V.icmp_ge (tgt := 36) dX8_basketDigest_10 (by decide) (fun hn => absurd hn hc) (fun _ => ?_)
    refine V.ldc2 dX8_basketDigest_13 ctX8_342 ?_
    refine V.lload dX8_basketDigest_16 rfl ?_
    refine V.lmul dX8_basketDigest_18 ?_
    refine V.aload_n dX8_basketDigest_19 rfl ?_
    refine V.iload_n dX8_basketDigest_20 rfl ?_
    refine V.iload dX8_basketDigest_21 rfl ?_
    obtain ⟨q6, h1, h⟩ := bdc h
    refine V.callV2 (mc := mX8_basketOf) (d' := 0) dX8_basketDigest_23 lkX8_175 hfX8_basketOf nM_0 gM_0 rfl (by decide) (Nat.le_of_ble_eq_true rfl) (Nat.le_of_ble_eq_true rfl) (vX8_basketOf h1 ?_)
    refine V.i2l dX8_basketDigest_26 ?_
    refine V.ladd dX8_basketDigest_27 ?_
    refine V.lstore dX8_basketDigest_28 (by decide) rfl ?_
    refine V.iinc dX8_basketDigest_30 rfl (ii_1 _) (by decide) rfl ?_
    refine V.goto (tgt := 6) dX8_basketDigest_33 (by decide) ?_
    exact V.forget (hK6 _ _ _ _ h) ⟨rfl, ⟨rfl, ⟨rfl, ⟨rfl, trivial⟩⟩⟩⟩
def LfX8_basketDigest_6 : Nat → Int32 → Int64 → Int32 → vMem → Option (Int64 × vMem)
  | 0, _, _, _, _ => none
  | n + 1, l3, l4, l6, σ => fX8_basketDigest_6 (LfX8_basketDigest_6 n) l3 l4 l6 σ
theorem LvX8_basketDigest_6 {ad : Nat → Nat} {Q : Option Value → vMem → Prop} {r : (Int64 × vMem)} (hQ : Q (some (.long r.1)) r.2) : ∀ (n : Nat) (l3 : Int32) (l4 : Int64) (l6 : Int32) (σ : vMem), LfX8_basketDigest_6 n l3 l4 l6 σ = some r → V GM mX8_basketDigest ad Q 10 6 [some (.ref (ad 0)), none, none, some (.int l3), some (.long l4), none, some (.int l6)] [] σ := by
  intro n
  induction n with
  | zero => intro l3 l4 l6 σ h; cases h
  | succ n ih => intro l3 l4 l6 σ h; exact vX8_basketDigest_6 ih h hQ
def fX8_basketDigest (l1 : Int64) (l3 : Int32) (σ : vMem) : Option (Int64 × vMem) :=
  LfX8_basketDigest_6 200 l3 l1 (0 : Int32) σ
theorem vX8_basketDigest {ad : Nat → Nat} {Q : Option Value → vMem → Prop} {r : (Int64 × vMem)} {l1 : Int64} {l3 : Int32} {σ : vMem} (h : fX8_basketDigest l1 l3 σ = some r) (hQ : Q (some (.long r.1)) r.2) : V GM mX8_basketDigest ad Q 10 0 [some (.ref (ad 0)), some (.long l1), none, some (.int l3), none, none, none] [] σ := by
  unfold fX8_basketDigest at h
  refine V.lload_n dX8_basketDigest_0 rfl ?_
  refine V.lstore dX8_basketDigest_1 (by decide) rfl ?_
  refine V.iconst ic_0 dX8_basketDigest_3 ?_
  refine V.istore dX8_basketDigest_4 (by decide) rfl ?_
  exact V.forget (LvX8_basketDigest_6 hQ 200 _ _ _ _ h) ⟨rfl, ⟨rfl, ⟨rfl, ⟨rfl, trivial⟩⟩⟩⟩
def fX8_floorDigest_6 (K6 : Int32 → Int64 → Int32 → vMem → Option (Int64 × vMem)) (l3 : Int32) (l4 : Int64) (l6 : Int32) (σ : vMem) : Option (Int64 × vMem) :=
  if (3 : Int32) ≤ l6 then ((fX8_bitesOf l3 (0 : Int32) σ).bind fun q1 => (fX8_bitesOf l3 (1 : Int32) q1.2).bind fun q2 => (fX8_wasOf l3 (0 : Int32) q2.2).bind fun q3 => (fX8_wasOf l3 (1 : Int32) q3.2).bind fun q4 => (fX8_askOf l3 q4.2).bind fun q5 => some ((((31 : Int64) * (((31 : Int64) * (((31 : Int64) * (((31 : Int64) * (((31 : Int64) * l4) + (q1.1.toInt64))) + (q2.1.toInt64))) + (q3.1.toInt64))) + (q4.1.toInt64))) + (q5.1.toInt64)), q5.2)) else
  ((fX8_floorOf l3 l6 σ).bind fun q6 => K6 l3 (((31 : Int64) * l4) + (q6.1.toInt64)) (l6 + (1 : Int32)) q6.2)
theorem vX8_floorDigest_6 {ad : Nat → Nat} {Q : Option Value → vMem → Prop} {r : (Int64 × vMem)} {K6 : Int32 → Int64 → Int32 → vMem → Option (Int64 × vMem)} (hK6 : ∀ (l3 : Int32) (l4 : Int64) (l6 : Int32) (σ : vMem), K6 l3 l4 l6 σ = some r → V GM mX8_floorDigest ad Q 9 6 [some (.ref (ad 0)), none, none, some (.int l3), some (.long l4), none, some (.int l6)] [] σ) {l3 : Int32} {l4 : Int64} {l6 : Int32} {σ : vMem} (h : fX8_floorDigest_6 K6 l3 l4 l6 σ = some r) (hQ : Q (some (.long r.1)) r.2) : V GM mX8_floorDigest ad Q 9 6 [some (.ref (ad 0)), none, none, some (.int l3), some (.long l4), none, some (.int l6)] [] σ := by
  unfold fX8_floorDigest_6 at h
  refine V.iload dX8_floorDigest_6 rfl ?_
  refine V.iconst ic_3 dX8_floorDigest_8 ?_
  rcases itc h with ⟨hc, h⟩ | ⟨hc, h⟩
  · refine V.icmp_ge (tgt := 35) dX8_floorDigest_9 (by decide) (fun _ => ?_) (fun hn => absurd hc hn)
    refine V.ldc2 dX8_floorDigest_35 ctX8_342 ?_
    refine V.lload dX8_floorDigest_38 rfl ?_
    refine V.lmul dX8_floorDigest_40 ?_
    refine V.aload_n dX8_floorDigest_41 rfl ?_
    refine V.iload_n dX8_floorDigest_42 rfl ?_
    refine V.iconst ic_0 dX8_floorDigest_43 ?_
    obtain ⟨q1, h1, h⟩ := bdc h
    refine V.callV2 (mc := mX8_bitesOf) (d' := 8) dX8_floorDigest_44 lkX8_261 hfX8_bitesOf nM_0 gM_0 rfl (by decide) (Nat.le_of_ble_eq_true rfl) (Nat.le_of_ble_eq_true rfl) (vX8_bitesOf h1 ?_)
    refine V.i2l dX8_floorDigest_47 ?_
    refine V.ladd dX8_floorDigest_48 ?_
    refine V.lstore dX8_floorDigest_49 (by decide) rfl ?_
    refine V.ldc2 dX8_floorDigest_51 ctX8_342 ?_
    refine V.lload dX8_floorDigest_54 rfl ?_
    refine V.lmul dX8_floorDigest_56 ?_
    refine V.aload_n dX8_floorDigest_57 rfl ?_
    refine V.iload_n dX8_floorDigest_58 rfl ?_
    refine V.iconst ic_1 dX8_floorDigest_59 ?_
    obtain ⟨q2, h1, h⟩ := bdc h
    refine V.callV2 (mc := mX8_bitesOf) (d' := 8) dX8_floorDigest_60 lkX8_261 hfX8_bitesOf nM_0 gM_0 rfl (by decide) (Nat.le_of_ble_eq_true rfl) (Nat.le_of_ble_eq_true rfl) (vX8_bitesOf h1 ?_)
    refine V.i2l dX8_floorDigest_63 ?_
    refine V.ladd dX8_floorDigest_64 ?_
    refine V.lstore dX8_floorDigest_65 (by decide) rfl ?_
    refine V.ldc2 dX8_floorDigest_67 ctX8_342 ?_
    refine V.lload dX8_floorDigest_70 rfl ?_
    refine V.lmul dX8_floorDigest_72 ?_
    refine V.aload_n dX8_floorDigest_73 rfl ?_
    refine V.iload_n dX8_floorDigest_74 rfl ?_
    refine V.iconst ic_0 dX8_floorDigest_75 ?_
    obtain ⟨q3, h1, h⟩ := bdc h
    refine V.callV2 (mc := mX8_wasOf) (d' := 7) dX8_floorDigest_76 lkX8_305 hfX8_wasOf nM_0 gM_0 rfl (by decide) (Nat.le_of_ble_eq_true rfl) (Nat.le_of_ble_eq_true rfl) (vX8_wasOf h1 ?_)
    refine V.i2l dX8_floorDigest_79 ?_
    refine V.ladd dX8_floorDigest_80 ?_
    refine V.lstore dX8_floorDigest_81 (by decide) rfl ?_
    refine V.ldc2 dX8_floorDigest_83 ctX8_342 ?_
    refine V.lload dX8_floorDigest_86 rfl ?_
    refine V.lmul dX8_floorDigest_88 ?_
    refine V.aload_n dX8_floorDigest_89 rfl ?_
    refine V.iload_n dX8_floorDigest_90 rfl ?_
    refine V.iconst ic_1 dX8_floorDigest_91 ?_
    obtain ⟨q4, h1, h⟩ := bdc h
    refine V.callV2 (mc := mX8_wasOf) (d' := 7) dX8_floorDigest_92 lkX8_305 hfX8_wasOf nM_0 gM_0 rfl (by decide) (Nat.le_of_ble_eq_true rfl) (Nat.le_of_ble_eq_true rfl) (vX8_wasOf h1 ?_)
    refine V.i2l dX8_floorDigest_95 ?_
    refine V.ladd dX8_floorDigest_96 ?_
    refine V.lstore dX8_floorDigest_97 (by decide) rfl ?_
    refine V.ldc2 dX8_floorDigest_99 ctX8_342 ?_
    refine V.lload dX8_floorDigest_102 rfl ?_
    refine V.lmul dX8_floorDigest_104 ?_
    refine V.aload_n dX8_floorDigest_105 rfl ?_
    refine V.iload_n dX8_floorDigest_106 rfl ?_
    obtain ⟨q5, h1, h⟩ := bdc h
    refine V.callV1 (mc := mX8_askOf) (d' := 8) dX8_floorDigest_107 lkX8_308 hfX8_askOf nM_0 gM_0 rfl (by decide) (Nat.le_of_ble_eq_true rfl) (Nat.le_of_ble_eq_true rfl) (vX8_askOf h1 ?_)
    refine V.i2l dX8_floorDigest_110 ?_
    refine V.ladd dX8_floorDigest_111 ?_
    obtain rfl := Option.some.inj h
    exact V.lret dX8_floorDigest_112 rfl hQ
  · refine V.icmp_ge (tgt := 35) dX8_floorDigest_9 (by decide) (fun hn => absurd hn hc) (fun _ => ?_)
    refine V.ldc2 dX8_floorDigest_12 ctX8_342 ?_
    refine V.lload dX8_floorDigest_15 rfl ?_
    refine V.lmul dX8_floorDigest_17 ?_
    refine V.aload_n dX8_floorDigest_18 rfl ?_
    refine V.iload_n dX8_floorDigest_19 rfl ?_
    refine V.iload dX8_floorDigest_20 rfl ?_
    obtain ⟨q6, h1, h⟩ := bdc h
    refine V.callV2 (mc := mX8_floorOf) (d' := 0) dX8_floorDigest_22 lkX8_169 hfX8_floorOf nM_0 gM_0 rfl (by decide) (Nat.le_of_ble_eq_true rfl) (Nat.le_of_ble_eq_true rfl) (vX8_floorOf h1 ?_)
    refine V.i2l dX8_floorDigest_25 ?_
    refine V.ladd dX8_floorDigest_26 ?_
    refine V.lstore dX8_floorDigest_27 (by decide) rfl ?_
    refine V.iinc dX8_floorDigest_29 rfl (ii_1 _) (by decide) rfl ?_
    refine V.goto (tgt := 6) dX8_floorDigest_32 (by decide) ?_
    exact V.forget (hK6 _ _ _ _ h) ⟨rfl, ⟨rfl, ⟨rfl, ⟨rfl, trivial⟩⟩⟩⟩
def LfX8_floorDigest_6 : Nat → Int32 → Int64 → Int32 → vMem → Option (Int64 × vMem)
  | 0, _, _, _, _ => none
  | n + 1, l3, l4, l6, σ => fX8_floorDigest_6 (LfX8_floorDigest_6 n) l3 l4 l6 σ
theorem LvX8_floorDigest_6 {ad : Nat → Nat} {Q : Option Value → vMem → Prop} {r : (Int64 × vMem)} (hQ : Q (some (.long r.1)) r.2) : ∀ (n : Nat) (l3 : Int32) (l4 : Int64) (l6 : Int32) (σ : vMem), LfX8_floorDigest_6 n l3 l4 l6 σ = some r → V GM mX8_floorDigest ad Q 9 6 [some (.ref (ad 0)), none, none, some (.int l3), some (.long l4), none, some (.int l6)] [] σ := by
  intro n
  induction n with
  | zero => intro l3 l4 l6 σ h; cases h
  | succ n ih => intro l3 l4 l6 σ h; exact vX8_floorDigest_6 ih h hQ
def fX8_floorDigest (l1 : Int64) (l3 : Int32) (σ : vMem) : Option (Int64 × vMem) :=
  LfX8_floorDigest_6 200 l3 l1 (0 : Int32) σ
theorem vX8_floorDigest {ad : Nat → Nat} {Q : Option Value → vMem → Prop} {r : (Int64 × vMem)} {l1 : Int64} {l3 : Int32} {σ : vMem} (h : fX8_floorDigest l1 l3 σ = some r) (hQ : Q (some (.long r.1)) r.2) : V GM mX8_floorDigest ad Q 9 0 [some (.ref (ad 0)), some (.long l1), none, some (.int l3), none, none, none] [] σ := by
  unfold fX8_floorDigest at h
  refine V.lload_n dX8_floorDigest_0 rfl ?_
  refine V.lstore dX8_floorDigest_1 (by decide) rfl ?_
  refine V.iconst ic_0 dX8_floorDigest_3 ?_
  refine V.istore dX8_floorDigest_4 (by decide) rfl ?_
  exact V.forget (LvX8_floorDigest_6 hQ 200 _ _ _ _ h) ⟨rfl, ⟨rfl, ⟨rfl, ⟨rfl, trivial⟩⟩⟩⟩
def fX8_digest_82 (K82 : Int64 → Int32 → vMem → Option (Int64 × vMem)) (l1 : Int64) (l3 : Int32) (σ : vMem) : Option (Int64 × vMem) :=
  if (σ.1 0 6) ≤ l3 then ((fX8_famineNow σ).bind fun q1 => (fX8_firstOf (0 : Int32) q1.2).bind fun q2 => (fX8_firstOf (1 : Int32) q2.2).bind fun q3 => (fX8_greedyNow q3.2).bind fun q4 => (fX8_stillOf (0 : Int32) q4.2).bind fun q5 => (fX8_stillOf (1 : Int32) q5.2).bind fun q6 => (fX8_neverNow q6.2).bind fun q7 => (fX8_weekOf (7 : Int32) (5 : Int32) (0 : Int32) q7.2).bind fun q8 => (fX8_weekOf (7 : Int32) (5 : Int32) (1 : Int32) q8.2).bind fun q9 => some ((((31 : Int64) * (((31 : Int64) * (((31 : Int64) * (((31 : Int64) * (((31 : Int64) * (((31 : Int64) * (((31 : Int64) * (((31 : Int64) * (((31 : Int64) * l1) + (q1.1.toInt64))) + (q2.1.toInt64))) + (q3.1.toInt64))) + (q4.1.toInt64))) + (q5.1.toInt64))) + (q6.1.toInt64))) + (q7.1.toInt64))) + (q8.1.toInt64))) + (q9.1.toInt64)), q9.2)) else
  ((fX8_basketDigest l1 l3 σ).bind fun q10 => K82 q10.1 (l3 + (1 : Int32)) q10.2)
theorem vX8_digest_82 {ad : Nat → Nat} {Q : Option Value → vMem → Prop} {r : (Int64 × vMem)} {K82 : Int64 → Int32 → vMem → Option (Int64 × vMem)} (hK82 : ∀ (l1 : Int64) (l3 : Int32) (σ : vMem), K82 l1 l3 σ = some r → V GM mX8_digest ad Q 11 82 [some (.ref (ad 0)), some (.long l1), none, some (.int l3)] [] σ) {l1 : Int64} {l3 : Int32} {σ : vMem} (h : fX8_digest_82 K82 l1 l3 σ = some r) (hQ : Q (some (.long r.1)) r.2) : V GM mX8_digest ad Q 11 82 [some (.ref (ad 0)), some (.long l1), none, some (.int l3)] [] σ := by
  unfold fX8_digest_82 at h
  refine V.iload_n dX8_digest_82 rfl ?_
  refine V.aload_n dX8_digest_83 rfl ?_
  refine V.get dX8_digest_84 flX8_147 nM_0 gM_0 (by decide) (eM_0_6 _ _) ?_
  rcases itc h with ⟨hc, h⟩ | ⟨hc, h⟩
  · refine V.icmp_ge (tgt := 103) dX8_digest_87 (by decide) (fun _ => ?_) (fun hn => absurd hc hn)
    refine V.ldc2 dX8_digest_103 ctX8_342 ?_
    refine V.lload_n dX8_digest_106 rfl ?_
    refine V.lmul dX8_digest_107 ?_
    refine V.aload_n dX8_digest_108 rfl ?_
    obtain ⟨q1, h1, h⟩ := bdc h
    refine V.callV0 (mc := mX8_famineNow) (d' := 8) dX8_digest_109 lkX8_268 hfX8_famineNow nM_0 gM_0 rfl (by decide) (Nat.le_of_ble_eq_true rfl) (Nat.le_of_ble_eq_true rfl) (vX8_famineNow h1 ?_)
    refine V.i2l dX8_digest_112 ?_
    refine V.ladd dX8_digest_113 ?_
    refine V.lstore_n dX8_digest_114 (by decide) rfl ?_
    refine V.ldc2 dX8_digest_115 ctX8_342 ?_
    refine V.lload_n dX8_digest_118 rfl ?_
    refine V.lmul dX8_digest_119 ?_
    refine V.aload_n dX8_digest_120 rfl ?_
    refine V.iconst ic_0 dX8_digest_121 ?_
    obtain ⟨q2, h1, h⟩ := bdc h
    refine V.callV1 (mc := mX8_firstOf) (d' := 8) dX8_digest_122 lkX8_271 hfX8_firstOf nM_0 gM_0 rfl (by decide) (Nat.le_of_ble_eq_true rfl) (Nat.le_of_ble_eq_true rfl) (vX8_firstOf h1 ?_)
    refine V.i2l dX8_digest_125 ?_
    refine V.ladd dX8_digest_126 ?_
    refine V.lstore_n dX8_digest_127 (by decide) rfl ?_
    refine V.ldc2 dX8_digest_128 ctX8_342 ?_
    refine V.lload_n dX8_digest_131 rfl ?_
    refine V.lmul dX8_digest_132 ?_
    refine V.aload_n dX8_digest_133 rfl ?_
    refine V.iconst ic_1 dX8_digest_134 ?_
    obtain ⟨q3, h1, h⟩ := bdc h
    refine V.callV1 (mc := mX8_firstOf) (d' := 8) dX8_digest_135 lkX8_271 hfX8_firstOf nM_0 gM_0 rfl (by decide) (Nat.le_of_ble_eq_true rfl) (Nat.le_of_ble_eq_true rfl) (vX8_firstOf h1 ?_)
    refine V.i2l dX8_digest_138 ?_
    refine V.ladd dX8_digest_139 ?_
    refine V.lstore_n dX8_digest_140 (by decide) rfl ?_
    refine V.ldc2 dX8_digest_141 ctX8_342 ?_
    refine V.lload_n dX8_digest_144 rfl ?_
    refine V.lmul dX8_digest_145 ?_
    refine V.aload_n dX8_digest_146 rfl ?_
    obtain ⟨q4, h1, h⟩ := bdc h
    refine V.callV0 (mc := mX8_greedyNow) (d' := 8) dX8_digest_147 lkX8_274 hfX8_greedyNow nM_0 gM_0 rfl (by decide) (Nat.le_of_ble_eq_true rfl) (Nat.le_of_ble_eq_true rfl) (vX8_greedyNow h1 ?_)
    refine V.i2l dX8_digest_150 ?_
    refine V.ladd dX8_digest_151 ?_
    refine V.lstore_n dX8_digest_152 (by decide) rfl ?_
    refine V.ldc2 dX8_digest_153 ctX8_342 ?_
    refine V.lload_n dX8_digest_156 rfl ?_
    refine V.lmul dX8_digest_157 ?_
    refine V.aload_n dX8_digest_158 rfl ?_
    refine V.iconst ic_0 dX8_digest_159 ?_
    obtain ⟨q5, h1, h⟩ := bdc h
    refine V.callV1 (mc := mX8_stillOf) (d' := 7) dX8_digest_160 lkX8_292 hfX8_stillOf nM_0 gM_0 rfl (by decide) (Nat.le_of_ble_eq_true rfl) (Nat.le_of_ble_eq_true rfl) (vX8_stillOf h1 ?_)
    refine V.i2l dX8_digest_163 ?_
    refine V.ladd dX8_digest_164 ?_
    refine V.lstore_n dX8_digest_165 (by decide) rfl ?_
    refine V.ldc2 dX8_digest_166 ctX8_342 ?_
    refine V.lload_n dX8_digest_169 rfl ?_
    refine V.lmul dX8_digest_170 ?_
    refine V.aload_n dX8_digest_171 rfl ?_
    refine V.iconst ic_1 dX8_digest_172 ?_
    obtain ⟨q6, h1, h⟩ := bdc h
    refine V.callV1 (mc := mX8_stillOf) (d' := 7) dX8_digest_173 lkX8_292 hfX8_stillOf nM_0 gM_0 rfl (by decide) (Nat.le_of_ble_eq_true rfl) (Nat.le_of_ble_eq_true rfl) (vX8_stillOf h1 ?_)
    refine V.i2l dX8_digest_176 ?_
    refine V.ladd dX8_digest_177 ?_
    refine V.lstore_n dX8_digest_178 (by decide) rfl ?_
    refine V.ldc2 dX8_digest_179 ctX8_342 ?_
    refine V.lload_n dX8_digest_182 rfl ?_
    refine V.lmul dX8_digest_183 ?_
    refine V.aload_n dX8_digest_184 rfl ?_
    obtain ⟨q7, h1, h⟩ := bdc h
    refine V.callV0 (mc := mX8_neverNow) (d' := 7) dX8_digest_185 lkX8_302 hfX8_neverNow nM_0 gM_0 rfl (by decide) (Nat.le_of_ble_eq_true rfl) (Nat.le_of_ble_eq_true rfl) (vX8_neverNow h1 ?_)
    refine V.i2l dX8_digest_188 ?_
    refine V.ladd dX8_digest_189 ?_
    refine V.lstore_n dX8_digest_190 (by decide) rfl ?_
    refine V.ldc2 dX8_digest_191 ctX8_342 ?_
    refine V.lload_n dX8_digest_194 rfl ?_
    refine V.lmul dX8_digest_195 ?_
    refine V.aload_n dX8_digest_196 rfl ?_
    refine V.bipush bp_7 dX8_digest_197 ?_
    refine V.iconst ic_5 dX8_digest_199 ?_
    refine V.iconst ic_0 dX8_digest_200 ?_
    obtain ⟨q8, h1, h⟩ := bdc h
    refine V.callV3 (mc := mX8_weekOf) (d' := 7) dX8_digest_201 lkX8_326 hfX8_weekOf nM_0 gM_0 rfl (by decide) (Nat.le_of_ble_eq_true rfl) (Nat.le_of_ble_eq_true rfl) (vX8_weekOf h1 ?_)
    refine V.i2l dX8_digest_204 ?_
    refine V.ladd dX8_digest_205 ?_
    refine V.lstore_n dX8_digest_206 (by decide) rfl ?_
    refine V.ldc2 dX8_digest_207 ctX8_342 ?_
    refine V.lload_n dX8_digest_210 rfl ?_
    refine V.lmul dX8_digest_211 ?_
    refine V.aload_n dX8_digest_212 rfl ?_
    refine V.bipush bp_7 dX8_digest_213 ?_
    refine V.iconst ic_5 dX8_digest_215 ?_
    refine V.iconst ic_1 dX8_digest_216 ?_
    obtain ⟨q9, h1, h⟩ := bdc h
    refine V.callV3 (mc := mX8_weekOf) (d' := 7) dX8_digest_217 lkX8_326 hfX8_weekOf nM_0 gM_0 rfl (by decide) (Nat.le_of_ble_eq_true rfl) (Nat.le_of_ble_eq_true rfl) (vX8_weekOf h1 ?_)
    refine V.i2l dX8_digest_220 ?_
    refine V.ladd dX8_digest_221 ?_
    obtain rfl := Option.some.inj h
    exact V.lret dX8_digest_222 rfl hQ
  · refine V.icmp_ge (tgt := 103) dX8_digest_87 (by decide) (fun hn => absurd hn hc) (fun _ => ?_)
    refine V.aload_n dX8_digest_90 rfl ?_
    refine V.lload_n dX8_digest_91 rfl ?_
    refine V.iload_n dX8_digest_92 rfl ?_
    obtain ⟨q10, h1, h⟩ := bdc h
    refine V.callV2 (mc := mX8_basketDigest) (d' := 10) dX8_digest_93 lkX8_356 hfX8_basketDigest nM_0 gM_0 rfl (by decide) (Nat.le_of_ble_eq_true rfl) (Nat.le_of_ble_eq_true rfl) (vX8_basketDigest h1 ?_)
    refine V.lstore_n dX8_digest_96 (by decide) rfl ?_
    refine V.iinc dX8_digest_97 rfl (ii_1 _) (by decide) rfl ?_
    refine V.goto (tgt := 82) dX8_digest_100 (by decide) ?_
    exact V.forget (hK82 _ _ _ h) ⟨rfl, ⟨rfl, ⟨rfl, trivial⟩⟩⟩
def LfX8_digest_82 : Nat → Int64 → Int32 → vMem → Option (Int64 × vMem)
  | 0, _, _, _ => none
  | n + 1, l1, l3, σ => fX8_digest_82 (LfX8_digest_82 n) l1 l3 σ
theorem LvX8_digest_82 {ad : Nat → Nat} {Q : Option Value → vMem → Prop} {r : (Int64 × vMem)} (hQ : Q (some (.long r.1)) r.2) : ∀ (n : Nat) (l1 : Int64) (l3 : Int32) (σ : vMem), LfX8_digest_82 n l1 l3 σ = some r → V GM mX8_digest ad Q 11 82 [some (.ref (ad 0)), some (.long l1), none, some (.int l3)] [] σ := by
  intro n
  induction n with
  | zero => intro l1 l3 σ h; cases h
  | succ n ih => intro l1 l3 σ h; exact vX8_digest_82 ih h hQ
def fX8_digest_59 (K59 : Int64 → Int32 → vMem → Option (Int64 × vMem)) (l1 : Int64) (l3 : Int32) (σ : vMem) : Option (Int64 × vMem) :=
  if (σ.1 0 2) ≤ l3 then (LfX8_digest_82 200 l1 (0 : Int32) σ) else
  ((fX8_floorDigest l1 l3 σ).bind fun q1 => K59 q1.1 (l3 + (1 : Int32)) q1.2)
theorem vX8_digest_59 {ad : Nat → Nat} {Q : Option Value → vMem → Prop} {r : (Int64 × vMem)} {K59 : Int64 → Int32 → vMem → Option (Int64 × vMem)} (hK59 : ∀ (l1 : Int64) (l3 : Int32) (σ : vMem), K59 l1 l3 σ = some r → V GM mX8_digest ad Q 11 59 [some (.ref (ad 0)), some (.long l1), none, some (.int l3)] [] σ) {l1 : Int64} {l3 : Int32} {σ : vMem} (h : fX8_digest_59 K59 l1 l3 σ = some r) (hQ : Q (some (.long r.1)) r.2) : V GM mX8_digest ad Q 11 59 [some (.ref (ad 0)), some (.long l1), none, some (.int l3)] [] σ := by
  unfold fX8_digest_59 at h
  refine V.iload_n dX8_digest_59 rfl ?_
  refine V.aload_n dX8_digest_60 rfl ?_
  refine V.get dX8_digest_61 flX8_144 nM_0 gM_0 (by decide) (eM_0_2 _ _) ?_
  rcases itc h with ⟨hc, h⟩ | ⟨hc, h⟩
  · refine V.icmp_ge (tgt := 80) dX8_digest_64 (by decide) (fun _ => ?_) (fun hn => absurd hc hn)
    refine V.iconst ic_0 dX8_digest_80 ?_
    refine V.istore_n dX8_digest_81 (by decide) rfl ?_
    exact V.forget (LvX8_digest_82 hQ 200 _ _ _ h) ⟨rfl, ⟨rfl, ⟨rfl, trivial⟩⟩⟩
  · refine V.icmp_ge (tgt := 80) dX8_digest_64 (by decide) (fun hn => absurd hn hc) (fun _ => ?_)
    refine V.aload_n dX8_digest_67 rfl ?_
    refine V.lload_n dX8_digest_68 rfl ?_
    refine V.iload_n dX8_digest_69 rfl ?_
    obtain ⟨q1, h1, h⟩ := bdc h
    refine V.callV2 (mc := mX8_floorDigest) (d' := 9) dX8_digest_70 lkX8_353 hfX8_floorDigest nM_0 gM_0 rfl (by decide) (Nat.le_of_ble_eq_true rfl) (Nat.le_of_ble_eq_true rfl) (vX8_floorDigest h1 ?_)
    refine V.lstore_n dX8_digest_73 (by decide) rfl ?_
    refine V.iinc dX8_digest_74 rfl (ii_1 _) (by decide) rfl ?_
    refine V.goto (tgt := 59) dX8_digest_77 (by decide) ?_
    exact V.forget (hK59 _ _ _ h) ⟨rfl, ⟨rfl, ⟨rfl, trivial⟩⟩⟩
def LfX8_digest_59 : Nat → Int64 → Int32 → vMem → Option (Int64 × vMem)
  | 0, _, _, _ => none
  | n + 1, l1, l3, σ => fX8_digest_59 (LfX8_digest_59 n) l1 l3 σ
theorem LvX8_digest_59 {ad : Nat → Nat} {Q : Option Value → vMem → Prop} {r : (Int64 × vMem)} (hQ : Q (some (.long r.1)) r.2) : ∀ (n : Nat) (l1 : Int64) (l3 : Int32) (σ : vMem), LfX8_digest_59 n l1 l3 σ = some r → V GM mX8_digest ad Q 11 59 [some (.ref (ad 0)), some (.long l1), none, some (.int l3)] [] σ := by
  intro n
  induction n with
  | zero => intro l1 l3 σ h; cases h
  | succ n ih => intro l1 l3 σ h; exact vX8_digest_59 ih h hQ
def fX8_digest_6 (K6 : Int64 → Int32 → vMem → Option (Int64 × vMem)) (l1 : Int64) (l3 : Int32) (σ : vMem) : Option (Int64 × vMem) :=
  if (8 : Int32) ≤ l3 then ((fX8_faultOf (0 : Int32) σ).bind fun q1 => (fX8_faultOf (1 : Int32) q1.2).bind fun q2 => LfX8_digest_59 200 (((31 : Int64) * (((31 : Int64) * l1) + (q1.1.toInt64))) + (q2.1.toInt64)) (0 : Int32) q2.2) else
  ((fX8_count l3 σ).bind fun q3 => K6 (((31 : Int64) * l1) + (q3.1.toInt64)) (l3 + (1 : Int32)) q3.2)
theorem vX8_digest_6 {ad : Nat → Nat} {Q : Option Value → vMem → Prop} {r : (Int64 × vMem)} {K6 : Int64 → Int32 → vMem → Option (Int64 × vMem)} (hK6 : ∀ (l1 : Int64) (l3 : Int32) (σ : vMem), K6 l1 l3 σ = some r → V GM mX8_digest ad Q 11 6 [some (.ref (ad 0)), some (.long l1), none, some (.int l3)] [] σ) {l1 : Int64} {l3 : Int32} {σ : vMem} (h : fX8_digest_6 K6 l1 l3 σ = some r) (hQ : Q (some (.long r.1)) r.2) : V GM mX8_digest ad Q 11 6 [some (.ref (ad 0)), some (.long l1), none, some (.int l3)] [] σ := by
  unfold fX8_digest_6 at h
  refine V.iload_n dX8_digest_6 rfl ?_
  refine V.bipush bp_8 dX8_digest_7 ?_
  rcases itc h with ⟨hc, h⟩ | ⟨hc, h⟩
  · refine V.icmp_ge (tgt := 31) dX8_digest_9 (by decide) (fun _ => ?_) (fun hn => absurd hc hn)
    refine V.ldc2 dX8_digest_31 ctX8_342 ?_
    refine V.lload_n dX8_digest_34 rfl ?_
    refine V.lmul dX8_digest_35 ?_
    refine V.aload_n dX8_digest_36 rfl ?_
    refine V.iconst ic_0 dX8_digest_37 ?_
    obtain ⟨q1, h1, h⟩ := bdc h
    refine V.callV1 (mc := mX8_faultOf) (d' := 4) dX8_digest_38 lkX8_160 hfX8_faultOf nM_0 gM_0 rfl (by decide) (Nat.le_of_ble_eq_true rfl) (Nat.le_of_ble_eq_true rfl) (vX8_faultOf h1 ?_)
    refine V.i2l dX8_digest_41 ?_
    refine V.ladd dX8_digest_42 ?_
    refine V.lstore_n dX8_digest_43 (by decide) rfl ?_
    refine V.ldc2 dX8_digest_44 ctX8_342 ?_
    refine V.lload_n dX8_digest_47 rfl ?_
    refine V.lmul dX8_digest_48 ?_
    refine V.aload_n dX8_digest_49 rfl ?_
    refine V.iconst ic_1 dX8_digest_50 ?_
    obtain ⟨q2, h1, h⟩ := bdc h
    refine V.callV1 (mc := mX8_faultOf) (d' := 4) dX8_digest_51 lkX8_160 hfX8_faultOf nM_0 gM_0 rfl (by decide) (Nat.le_of_ble_eq_true rfl) (Nat.le_of_ble_eq_true rfl) (vX8_faultOf h1 ?_)
    refine V.i2l dX8_digest_54 ?_
    refine V.ladd dX8_digest_55 ?_
    refine V.lstore_n dX8_digest_56 (by decide) rfl ?_
    refine V.iconst ic_0 dX8_digest_57 ?_
    refine V.istore_n dX8_digest_58 (by decide) rfl ?_
    exact V.forget (LvX8_digest_59 hQ 200 _ _ _ h) ⟨rfl, ⟨rfl, ⟨rfl, trivial⟩⟩⟩
  · refine V.icmp_ge (tgt := 31) dX8_digest_9 (by decide) (fun hn => absurd hn hc) (fun _ => ?_)
    refine V.ldc2 dX8_digest_12 ctX8_342 ?_
    refine V.lload_n dX8_digest_15 rfl ?_
    refine V.lmul dX8_digest_16 ?_
    refine V.aload_n dX8_digest_17 rfl ?_
    refine V.iload_n dX8_digest_18 rfl ?_
    obtain ⟨q3, h1, h⟩ := bdc h
    refine V.callV1 (mc := mX8_count) (d' := 9) dX8_digest_19 lkX8_350 hfX8_count nM_0 gM_0 rfl (by decide) (Nat.le_of_ble_eq_true rfl) (Nat.le_of_ble_eq_true rfl) (vX8_count h1 ?_)
    refine V.i2l dX8_digest_22 ?_
    refine V.ladd dX8_digest_23 ?_
    refine V.lstore_n dX8_digest_24 (by decide) rfl ?_
    refine V.iinc dX8_digest_25 rfl (ii_1 _) (by decide) rfl ?_
    refine V.goto (tgt := 6) dX8_digest_28 (by decide) ?_
    exact V.forget (hK6 _ _ _ h) ⟨rfl, ⟨rfl, ⟨rfl, trivial⟩⟩⟩
def LfX8_digest_6 : Nat → Int64 → Int32 → vMem → Option (Int64 × vMem)
  | 0, _, _, _ => none
  | n + 1, l1, l3, σ => fX8_digest_6 (LfX8_digest_6 n) l1 l3 σ
theorem LvX8_digest_6 {ad : Nat → Nat} {Q : Option Value → vMem → Prop} {r : (Int64 × vMem)} (hQ : Q (some (.long r.1)) r.2) : ∀ (n : Nat) (l1 : Int64) (l3 : Int32) (σ : vMem), LfX8_digest_6 n l1 l3 σ = some r → V GM mX8_digest ad Q 11 6 [some (.ref (ad 0)), some (.long l1), none, some (.int l3)] [] σ := by
  intro n
  induction n with
  | zero => intro l1 l3 σ h; cases h
  | succ n ih => intro l1 l3 σ h; exact vX8_digest_6 ih h hQ
def fX8_digest (σ : vMem) : Option (Int64 × vMem) :=
  LfX8_digest_6 200 (17 : Int64) (0 : Int32) σ
theorem vX8_digest {ad : Nat → Nat} {Q : Option Value → vMem → Prop} {r : (Int64 × vMem)} {σ : vMem} (h : fX8_digest σ = some r) (hQ : Q (some (.long r.1)) r.2) : V GM mX8_digest ad Q 11 0 [some (.ref (ad 0)), none, none, none] [] σ := by
  unfold fX8_digest at h
  refine V.ldc2 dX8_digest_0 ctX8_348 ?_
  refine V.lstore_n dX8_digest_3 (by decide) rfl ?_
  refine V.iconst ic_0 dX8_digest_4 ?_
  refine V.istore_n dX8_digest_5 (by decide) rfl ?_
  exact V.forget (LvX8_digest_6 hQ 200 _ _ _ h) ⟨rfl, ⟨rfl, ⟨rfl, trivial⟩⟩⟩
