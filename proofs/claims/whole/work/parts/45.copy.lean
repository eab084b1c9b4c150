/-! copy -/
def hasB (z : Nat) (x n : Int32) : Bool := decide (¬ x < 0 ∧ ¬ n < 0 ∧ x.toNatClampNeg + n.toNatClampNeg ≤ z)
theorem hasB_ex {z : Nat} {x n : Int32} (h : hasB z x n = true) : ∃ k m, x = nI k ∧ n = nI m ∧ k + m ≤ z ∧ k < 2 ^ 31 ∧ m < 2 ^ 31 := by
  unfold hasB at h
  obtain ⟨h1, h2, h3⟩ := of_decide_eq_true h
  obtain ⟨k, hk, rfl⟩ := nI_of h1
  obtain ⟨m, hm, rfl⟩ := nI_of h2
  rw [nI_clamp hk, nI_clamp hm] at h3
  exact ⟨k, m, rfl, rfl, h3, hk, hm⟩
theorem c_has {σ : vMem} {s z : Nat} (hs : s < 4) (hz : z ≤ 60) (h : σ.1 35 s = nI z) (x n : Int32) : fX2_hasItems (nI s) x n σ = some (b2 (hasB z x n), σ) := by
  unfold fX2_hasItems fX2_hasItems_34 fX2_hasItems_35 hasB
  simp only [nI_clamp (show s < 2 ^ 31 by omega), ixF hs (by decide), ↓reduceIte, h]
  by_cases x0 : x < 0
  · simp [x0]
  · by_cases n0 : n < 0
    · simp [n0]
    · obtain ⟨k, hk, rfl⟩ := nI_of x0
      obtain ⟨m, hm, rfl⟩ := nI_of n0
      rw [nI_clamp hk, nI_clamp hm]
      simp only [x0, n0, ↓reduceIte, not_false_eq_true, true_and]
      by_cases q : z < m
      · rw [if_pos ((nI_ltI (by omega) hm).mpr q), decide_eq_false (by omega)]; rfl
      · rw [if_neg (fun w => q ((nI_ltI (by omega) hm).mp w)), pk_sub (by omega)]
        by_cases p : z - m < k
        · rw [if_pos ((nI_ltI (by omega) hk).mpr p), decide_eq_false (by omega)]; rfl
        · rw [if_neg (fun w => p ((nI_ltI (by omega) hk).mp w)), decide_eq_true (by omega)]; rfl
theorem m_chain {α : Type} {z z' : Nat} (hz : z ≤ 60) (hz' : z' ≤ 60) (x y n : Int32) (L E : α) : (if x < 0 then E else if y < 0 then E else if n < 0 then E else if 0 < lg_cmp (x.toInt64 + n.toInt64) (nI z).toInt64 then E else if lg_cmp (y.toInt64 + n.toInt64) (nI z').toInt64 ≤ 0 then L else E) = if hasB z x n = true ∧ hasB z' y n = true then L else E := by
  unfold hasB
  by_cases x0 : x < 0
  · simp [x0]
  · by_cases y0 : y < 0
    · simp [y0]
    · by_cases n0 : n < 0
      · simp [n0]
      · obtain ⟨k, hk, rfl⟩ := nI_of x0
        obtain ⟨j, hj, rfl⟩ := nI_of y0
        obtain ⟨m, hm, rfl⟩ := nI_of n0
        rw [nI_clamp hk, nI_clamp hm, nI_clamp hj, nI_l hk, nI_l hj, nI_l hm, nI_l (show z < 2 ^ 31 by omega), nI_l (show z' < 2 ^ 31 by omega), lN_add, lN_add]
        simp only [x0, y0, n0, ↓reduceIte, not_false_eq_true, true_and, decide_eq_true_eq, lg_cmp_gt, lg_cmp_le, pk_lLT (show z < 2 ^ 63 by omega) (show k + m < 2 ^ 63 by omega), pk_lLE (show j + m < 2 ^ 63 by omega) (show z' < 2 ^ 63 by omega)]
        by_cases p : z < k + m
        · rw [if_pos p, if_neg (by omega)]
        · rw [if_neg p]
          by_cases q : j + m ≤ z'
          · rw [if_pos q, if_pos (by omega)]
          · rw [if_neg q, if_neg (by omega)]
theorem m_copy2 {t j m : Nat} (ht : t < 4) (hm : j + m ≤ 60) : ∀ (d n i : Nat) (σ : vMem), i + d = m → d < n → ∃ σ', LfX8_copy_157 n (nI t) (nI j) (nI m) (nI i) σ = some (1, σ') ∧ (∀ a, a ≠ 34 → σ'.1 a = σ.1 a) ∧ ∀ q, σ'.1 34 q = if 60 * t + j + i ≤ q ∧ q < 60 * t + j + m then σ.1 35 (q - (60 * t + j)) else σ.1 34 q := by
  intro d
  induction d with
  | zero =>
    intro n i σ hik hn
    obtain ⟨n, rfl⟩ : ∃ j, n = j + 1 := ⟨n - 1, by omega⟩
    have : i = m := by omega
    subst this
    refine ⟨σ, ?_, fun _ _ => rfl, fun q => by rw [if_neg (by omega)]⟩
    show fX8_copy_157 _ _ _ _ _ _ = _
    unfold fX8_copy_157
    rw [if_pos (Int32.le_refl _)]
  | succ d ih =>
    intro n i σ hik hn
    obtain ⟨n, rfl⟩ : ∃ j, n = j + 1 := ⟨n - 1, by omega⟩
    have hlt : (nI m ≤ nI i) = False := eq_false (fun z => by have := (nI_leI (by omega) (by omega)).mp z; omega)
    obtain ⟨σ', a1, a2, a3⟩ := ih n (i + 1) (vup σ 34 (60 * t + j + i) (σ.1 35 i)) (by omega) (by omega)
    refine ⟨σ', ?_, fun a ha => (a2 a ha).trans (vup_ne _ _ ha), fun q => ?_⟩
    · show fX8_copy_157 _ _ _ _ _ _ = _
      unfold fX8_copy_157 fX8_copy_186
      have e2 : 60 * nI t + nI j + nI i = nI (60 * t + j + i) := by rw [show (60 : Int32) = nI 60 from rfl, pk_mul, nI_add, nI_add]
      simp only [hlt, ↓reduceIte, e2, nI_clamp (show i < 2 ^ 31 by omega), ixF (show i < 60 by omega) (by decide), nI_clamp (show 60 * t + j + i < 2 ^ 31 by omega), ixF (show 60 * t + j + i < 240 by omega) (by decide), nI_1]
      exact a1
    · rw [a3 q]
      simp only [vup_rd, Nat.reduceEqDiff, ↓reduceIte]
      by_cases w : q = 60 * t + j + i
      · rw [if_neg (by omega), if_pos w, if_pos (by omega), show q - (60 * t + j) = i by omega]
      · rw [if_neg w]
        by_cases v : 60 * t + j + (i + 1) ≤ q ∧ q < 60 * t + j + m
        · rw [if_pos v, if_pos (by omega)]
        · rw [if_neg v, if_neg (by omega)]
theorem m_copy1 {s k t j m : Nat} (hs : s < 4) (hm : k + m ≤ 60) : ∀ (d n i : Nat) (σ : vMem), i + d = m → d < n → ∃ σ', LfX8_copy_120 n (nI s) (nI k) (nI t) (nI j) (nI m) (nI i) σ = LfX8_copy_157 200 (nI t) (nI j) (nI m) 0 σ' ∧ (∀ a, a ≠ 35 → σ'.1 a = σ.1 a) ∧ ∀ q, σ'.1 35 q = if i ≤ q ∧ q < m then σ.1 34 (60 * s + k + q) else σ.1 35 q := by
  intro d
  induction d with
  | zero =>
    intro n i σ hik hn
    obtain ⟨n, rfl⟩ : ∃ j, n = j + 1 := ⟨n - 1, by omega⟩
    have : i = m := by omega
    subst this
    refine ⟨σ, ?_, fun _ _ => rfl, fun q => by rw [if_neg (by omega)]⟩
    show fX8_copy_120 _ _ _ _ _ _ _ _ = _
    unfold fX8_copy_120
    rw [if_pos (Int32.le_refl _)]
  | succ d ih =>
    intro n i σ hik hn
    obtain ⟨n, rfl⟩ : ∃ j, n = j + 1 := ⟨n - 1, by omega⟩
    have hlt : (nI m ≤ nI i) = False := eq_false (fun z => by have := (nI_leI (by omega) (by omega)).mp z; omega)
    obtain ⟨σ', a1, a2, a3⟩ := ih n (i + 1) (vup σ 35 i (σ.1 34 (60 * s + k + i))) (by omega) (by omega)
    refine ⟨σ', ?_, fun a ha => (a2 a ha).trans (vup_ne _ _ ha), fun q => ?_⟩
    · show fX8_copy_120 _ _ _ _ _ _ _ _ = _
      unfold fX8_copy_120 fX8_copy_148
      have e2 : 60 * nI s + nI k + nI i = nI (60 * s + k + i) := by rw [show (60 : Int32) = nI 60 from rfl, pk_mul, nI_add, nI_add]
      simp only [hlt, ↓reduceIte, e2, nI_clamp (show i < 2 ^ 31 by omega), ixF (show i < 60 by omega) (by decide), nI_clamp (show 60 * s + k + i < 2 ^ 31 by omega), ixF (show 60 * s + k + i < 240 by omega) (by decide), nI_1]
      exact a1
    · rw [a3 q]
      simp only [vup_rd, Nat.reduceEqDiff, ↓reduceIte]
      by_cases w : q = i
      · rw [if_neg (by omega), if_pos w, if_pos (by omega), w]
      · rw [if_neg w]
        by_cases v : i + 1 ≤ q ∧ q < m
        · rw [if_pos v, if_pos (by omega)]
        · rw [if_neg v, if_neg (by omega)]
theorem q_copy {A : vA} (hA : WA A) (x u y v n : Int32) : vJ A (fX7_copy x u y v n) (fX8_copy x u y v n) := by
  by_cases p : inR 4 x = true
  · obtain ⟨s, hs, rfl⟩ := inR_ex (by omega) p
    by_cases q : inR 4 y = true
    · obtain ⟨t, ht, rfl⟩ := inR_ex (by omega) q
      rcases w1 : asy A s with _ | ⟨f, z, it⟩
      · refine ⟨-11, aF A 1, hA, fun σ h => ?_, fun σ h => ?_⟩
        · obtain ⟨σ', a1, a2⟩ := c_found 1 σ h
          refine ⟨σ', ?_, a2⟩
          unfold fX7_copy fX7_copy_39
          rw [c_isSheet, p]
          simp only [Option.bind, b2_0, Bool.true_eq_false, ↓reduceIte]
          rw [c_isSheet, q]
          simp only [b2_0, Bool.true_eq_false, ↓reduceIte]
          rw [c_isLost hA h hs, w1]
          simp only [Option.isNone_none, b2_0, Bool.true_eq_false, ↓reduceIte, a1]
          rfl
        · obtain ⟨σ', a1, a2⟩ := m_meets 1 σ h
          refine ⟨σ', ?_, a2⟩
          unfold fX8_copy fX8_copy_35
          rw [m_isSheet, p]
          simp only [Option.bind, b2_0, Bool.true_eq_false, ↓reduceIte]
          rw [m_isSheet, q]
          simp only [b2_0, Bool.true_eq_false, ↓reduceIte, nI_clamp (show s < 2 ^ 31 by omega), ixF hs (by decide), m_lost h hs, w1, Option.isNone_none, a1]
          rfl
      · obtain ⟨f2, z60⟩ := hA.2.2.2.2.2.2 s hs f z it w1
        rcases w2 : asy A t with _ | ⟨f', z', it'⟩
        · refine ⟨-11, aF A 1, hA, fun σ h => ?_, fun σ h => ?_⟩
          · obtain ⟨σ', a1, a2⟩ := c_found 1 σ h
            refine ⟨σ', ?_, a2⟩
            unfold fX7_copy fX7_copy_39
            rw [c_isSheet, p]
            simp only [Option.bind, b2_0, Bool.true_eq_false, ↓reduceIte]
            rw [c_isSheet, q]
            simp only [b2_0, Bool.true_eq_false, ↓reduceIte]
            rw [c_isLost hA h hs, w1]
            simp only [Option.isNone_some, b2_0, ↓reduceIte]
            rw [c_isLost hA h ht, w2]
            simp only [Option.isNone_none, b2_0, Bool.true_eq_false, ↓reduceIte, a1]
            rfl
          · obtain ⟨σ', a1, a2⟩ := m_meets 1 σ h
            refine ⟨σ', ?_, a2⟩
            unfold fX8_copy fX8_copy_35
            rw [m_isSheet, p]
            simp only [Option.bind, b2_0, Bool.true_eq_false, ↓reduceIte]
            rw [m_isSheet, q]
            simp only [b2_0, Bool.true_eq_false, ↓reduceIte, nI_clamp (show s < 2 ^ 31 by omega), ixF hs (by decide), nI_clamp (show t < 2 ^ 31 by omega), ixF ht (by decide), m_lost h hs, m_lost h ht, w1, w2, Option.isNone_none, Option.isNone_some, Bool.false_eq_true, a1]
            rfl
        · obtain ⟨f2', z60'⟩ := hA.2.2.2.2.2.2 t ht f' z' it' w2
          have cc : ∀ σ, RC A σ → fX7_copy (nI s) u (nI t) v n σ = if nI f = nI f' then (if hasB z u n = true ∧ hasB z' v n = true then (if ((nI s * 60) + u) < 0 ∨ ((nI t * 60) + v) < 0 ∨ n < 0 ∨ 240 < ((nI s * 60) + u).toNatClampNeg + n.toNatClampNeg ∨ 240 < ((nI t * 60) + v).toNatClampNeg + n.toNatClampNeg then none else fX7_copy_139 (vcp σ 36 36 ((nI s * 60) + u).toNatClampNeg ((nI t * 60) + v).toNatClampNeg n.toNatClampNeg)) else fX7_copy_101 σ) else ((fX7_found 4 σ).bind fun q7 => some (q7.1, q7.2)) := by
            intro σ h
            have e := h.sh hs
            rw [w1] at e
            obtain ⟨e1, e2, e3⟩ := e.2 f z it rfl
            have d := h.sh ht
            rw [w2] at d
            obtain ⟨d1, d2, d3⟩ := d.2 f' z' it' rfl
            unfold fX7_copy
            rw [c_isSheet, p]
            simp only [Option.bind, b2_0, Bool.true_eq_false, ↓reduceIte]
            rw [c_isSheet, q]
            simp only [b2_0, Bool.true_eq_false, ↓reduceIte]
            rw [c_isLost hA h hs, w1]
            simp only [Option.isNone_some, b2_0, ↓reduceIte]
            rw [c_isLost hA h ht, w2]
            simp only [Option.isNone_some, b2_0, ↓reduceIte, nI_clamp (show s < 2 ^ 31 by omega), ixF hs (by decide), nI_clamp (show t < 2 ^ 31 by omega), ixF ht (by decide), e1, d1]
            rw [c_has hs z60 e2]
            simp only [b2_0]
            rw [c_has ht z60' d2]
            simp only [b2_0]
            by_cases g : nI f = nI f'
            · rw [if_pos g, if_pos g]
              by_cases b1 : hasB z u n = true
              · rw [b1]
                by_cases b2 : hasB z' v n = true
                · rw [b2]; rfl
                · rw [Bool.not_eq_true] at b2
                  rw [b2]; rfl
              · rw [Bool.not_eq_true] at b1
                rw [b1]; rfl
            · rw [if_neg g, if_neg g]
          have mm : ∀ σ, RM A σ → fX8_copy (nI s) u (nI t) v n σ = if nI f = nI f' then (if hasB z u n = true ∧ hasB z' v n = true then LfX8_copy_120 200 (nI s) u (nI t) v n 0 σ else fX8_copy_111 σ) else ((fX8_meets 4 σ).bind fun q7 => some (q7.1, q7.2)) := by
            intro σ h
            have e := h.sh hs
            rw [w1] at e
            obtain ⟨e0, e1, e2, e3⟩ := e.2 f z it rfl
            have d := h.sh ht
            rw [w2] at d
            obtain ⟨d0, d1, d2, d3⟩ := d.2 f' z' it' rfl
            unfold fX8_copy
            rw [m_isSheet, p]
            simp only [Option.bind, b2_0, Bool.true_eq_false, ↓reduceIte]
            rw [m_isSheet, q]
            simp only [b2_0, Bool.true_eq_false, ↓reduceIte, nI_clamp (show s < 2 ^ 31 by omega), ixF hs (by decide), nI_clamp (show t < 2 ^ 31 by omega), ixF ht (by decide), m_lost h hs, m_lost h ht, w1, w2, Option.isNone_some, Bool.false_eq_true, e1, d1, e2, d2]
            rw [m_chain z60 z60']
          by_cases g : f = f'
          · subst g
            by_cases b : hasB z u n = true ∧ hasB z' v n = true
            · obtain ⟨k, m, rfl, rfl, hkm, hk, hm⟩ := hasB_ex b.1
              obtain ⟨j, m', rfl, em, hjm, hj, hm'⟩ := hasB_ex b.2
              have em : m = m' := (nI_eq hm hm').mp em
              subst em
              refine ⟨1, aY A (va_up (asy A) t (some (f, z', fun i => if j ≤ i ∧ i < j + m then it (k + (i - j)) else it' i))), hA.sheets (fun _ _ _ w => by cases w; exact ⟨f2, z60'⟩), fun σ h => ?_, fun σ h => ?_⟩
              · have e := h.sh hs
                rw [w1] at e
                obtain ⟨e1, e2, e3⟩ := e.2 f z it rfl
                have d := h.sh ht
                rw [w2] at d
                obtain ⟨d1, d2, d3⟩ := d.2 f z' it' rfl
                refine ⟨vcp σ 36 36 (60 * s + k) (60 * t + j) m, ?_, ?_⟩
                · rw [cc σ h, if_pos rfl, if_pos b]
                  have e5 : nI s * 60 + nI k = nI (60 * s + k) := by rw [show (60 : Int32) = nI 60 from rfl, pk_mul, nI_add, Nat.mul_comm]
                  have e6 : nI t * 60 + nI j = nI (60 * t + j) := by rw [show (60 : Int32) = nI 60 from rfl, pk_mul, nI_add, Nat.mul_comm]
                  rw [e5, e6, nI_clamp (show 60 * s + k < 2 ^ 31 by omega), nI_clamp (show 60 * t + j < 2 ^ 31 by omega), nI_clamp hm, if_neg]
                  · rfl
                  · rintro (w | w | w | w | w)
                    · exact nI_pos (by omega) w
                    · exact nI_pos (by omega) w
                    · exact nI_pos (by omega) w
                    · omega
                    · omega
                · refine h.sheet1 hA (fun a _ _ h3 => vcp_ne _ h3) (fun j _ => by rw [vcp_ne _ (by decide)]) (fun j _ => by rw [vcp_ne _ (by decide)]) (fun i hi => by rw [vcp_rd, if_pos rfl, if_neg (by omega)]) ⟨(fun w => nomatch w), fun f' z' it' w => ?_⟩
                  cases w
                  refine ⟨by rw [vcp_ne _ (by decide)]; exact d1, by rw [vcp_ne _ (by decide)]; exact d2, fun i hi => ?_⟩
                  show _ = if j ≤ i ∧ i < j + m then it (k + (i - j)) else it' i
                  rw [vcp_rd, if_pos rfl]
                  by_cases c : j ≤ i ∧ i < j + m
                  · rw [if_pos (by omega), if_pos c, show 60 * s + k + (60 * t + i - (60 * t + j)) = 60 * s + (k + (i - j)) by omega]
                    exact e3 _ (by omega)
                  · rw [if_neg (by omega), if_neg c]; exact d3 i hi
              · have e := h.sh hs
                rw [w1] at e
                obtain ⟨e0, e1, e2, e3⟩ := e.2 f z it rfl
                have d := h.sh ht
                rw [w2] at d
                obtain ⟨d0, d1, d2, d3⟩ := d.2 f z' it' rfl
                obtain ⟨σ1, a1, a2, a3⟩ := m_copy1 (s := s) (k := k) (t := t) (j := j) (m := m) hs (by omega) m 200 0 σ (by omega) (by omega)
                obtain ⟨σ', b1, b2, b3⟩ := m_copy2 (t := t) (j := j) (m := m) ht (by omega) m 200 0 σ1 (by omega) (by omega)
                refine ⟨σ', ?_, ?_⟩
                · rw [mm σ h, if_pos rfl, if_pos b]
                  exact a1.trans b1
                · have fr : ∀ a, a ≠ 34 → a ≠ 35 → σ'.1 a = σ.1 a := fun a h1 h2 => (b2 a h1).trans (a2 a h2)
                  have g34 : ∀ i, σ'.1 34 i = if 60 * t + j ≤ i ∧ i < 60 * t + j + m then σ.1 34 (60 * s + k + (i - (60 * t + j))) else σ.1 34 i := fun i => by
                    rw [b3 i, a2 34 (by decide)]
                    by_cases c : 60 * t + j ≤ i ∧ i < 60 * t + j + m
                    · rw [if_pos (by omega), if_pos c, a3, if_pos (by omega)]
                    · rw [if_neg (by omega), if_neg c]
                  refine h.sheet1 hA (fun a _ _ _ _ h4 h5 => fr a h4 h5) (fun i => by rw [fr 0 (by decide) (by decide)]) (fun i _ => by rw [fr 31 (by decide) (by decide)]) (fun i _ => by rw [fr 32 (by decide) (by decide)]) (fun i _ => by rw [fr 33 (by decide) (by decide)]) (fun i hi => by rw [g34, if_neg (by omega)]) ⟨(fun w => nomatch w), fun f' z' it' w => ?_⟩
                  cases w
                  refine ⟨by rw [fr 31 (by decide) (by decide)]; exact d0, by rw [fr 32 (by decide) (by decide)]; exact d1, by rw [fr 33 (by decide) (by decide)]; exact d2, fun i hi => ?_⟩
                  show _ = if j ≤ i ∧ i < j + m then it (k + (i - j)) else it' i
                  rw [g34]
                  by_cases c : j ≤ i ∧ i < j + m
                  · rw [if_pos (by omega), if_pos c, show 60 * s + k + (60 * t + i - (60 * t + j)) = 60 * s + (k + (i - j)) by omega]
                    exact e3 _ (by omega)
                  · rw [if_neg (by omega), if_neg c]; exact d3 i hi
            · refine ⟨-12, aF A 2, hA, fun σ h => ?_, fun σ h => ?_⟩
              · obtain ⟨σ', a1, a2⟩ := c_found 2 σ h
                refine ⟨σ', ?_, a2⟩
                rw [cc σ h, if_pos rfl, if_neg b]
                unfold fX7_copy_101
                rw [a1]
                rfl
              · obtain ⟨σ', a1, a2⟩ := m_meets 2 σ h
                refine ⟨σ', ?_, a2⟩
                rw [mm σ h, if_pos rfl, if_neg b]
                unfold fX8_copy_111
                rw [a1]
                rfl
          · have gn : ¬ nI f = nI f' := fun w => g ((nI_eq (by omega) (by omega)).mp w)
            refine ⟨-14, aF A 4, hA, fun σ h => ?_, fun σ h => ?_⟩
            · obtain ⟨σ', a1, a2⟩ := c_found 4 σ h
              refine ⟨σ', ?_, a2⟩
              rw [cc σ h, if_neg gn, a1]
              rfl
            · obtain ⟨σ', a1, a2⟩ := m_meets 4 σ h
              refine ⟨σ', ?_, a2⟩
              rw [mm σ h, if_neg gn, a1]
              rfl
    · have q := inR_F q
      refine ⟨-2, A, hA, fun σ h => ⟨σ, ?_, h⟩, fun σ h => ⟨σ, ?_, h⟩⟩
      · unfold fX7_copy
        rw [c_isSheet, p]
        simp only [Option.bind, b2_0, Bool.true_eq_false, ↓reduceIte]
        rw [c_isSheet, q]
        rfl
      · unfold fX8_copy
        rw [m_isSheet, p]
        simp only [Option.bind, b2_0, Bool.true_eq_false, ↓reduceIte]
        rw [m_isSheet, q]
        rfl
  · have p := inR_F p
    refine ⟨-2, A, hA, fun σ h => ⟨σ, ?_, h⟩, fun σ h => ⟨σ, ?_, h⟩⟩
    · unfold fX7_copy
      rw [c_isSheet, p]
      rfl
    · unfold fX8_copy
      rw [m_isSheet, p]
      rfl
