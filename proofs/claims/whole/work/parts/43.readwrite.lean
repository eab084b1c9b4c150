/-! read, write -/
def rdS (it : Nat → Int32) : Nat → Nat → vA → Nat × vA
  | 0, i, A => (i, A)
  | k + 1, i, A => if inR 40 (it i) = true ∧ awn A < 6 then rdS it k (i + 1) (windA A (it i)) else (i, A)
theorem rdS_WA (it : Nat → Int32) : ∀ k i A, WA A → WA (rdS it k i A).2
  | 0, _, _, h => h
  | k + 1, i, A, h => by
    rw [rdS]
    split
    · exact rdS_WA it k (i + 1) _ (windA_WA h _)
    · exact h
theorem windA_asy (A : vA) (x : Int32) : asy (windA A x) = asy A := by
  unfold windA
  split <;> rfl
theorem windR_neg {A : vA} (hA : WA A) (x : Int32) : (windR A x < 0) = ¬ (inR 40 x = true ∧ awn A < 6) := by
  have h6 := hA.2.2.2.1.1
  unfold windR
  by_cases q : inR 40 x = true
  · by_cases z : awn A < 6
    · simp only [q, z, ↓reduceIte, and_self, not_true_eq_false, nI_lt0 (show awn A + 1 < 2 ^ 31 by omega)]
    · simp only [q, z, ↓reduceIte, and_false, not_false_eq_true]
      decide
  · simp only [q, Bool.false_eq_true, ↓reduceIte, false_and, not_false_eq_true]
    decide
theorem windR_le0 {A : vA} (hA : WA A) (x : Int32) : (windR A x ≤ 0) = ¬ (inR 40 x = true ∧ awn A < 6) := by
  have h6 := hA.2.2.2.1.1
  unfold windR
  by_cases q : inR 40 x = true
  · by_cases z : awn A < 6
    · have : ¬ nI (awn A + 1) ≤ 0 := fun w => by have := (nI_le0 (show awn A + 1 < 2 ^ 31 by omega)).mp w; omega
      simp only [q, z, ↓reduceIte, and_self, not_true_eq_false, this]
    · simp only [q, z, ↓reduceIte, and_false, not_false_eq_true]
      decide
  · simp only [q, Bool.false_eq_true, ↓reduceIte, false_and, not_false_eq_true]
    decide
theorem windA_no {A : vA} {x : Int32} (h : ¬ (inR 40 x = true ∧ awn A < 6)) : windA A x = A := if_neg h
theorem c_readL {s f z : Nat} {it : Nat → Int32} (hs : s < 4) (hz : z ≤ 60) : ∀ (k n i : Nat) (B : vA) (σ : vMem), i + k = z → k < n → WA B → RC B σ → asy B s = some (f, z, it) → ∃ σ', LfX7_read_29 n (nI s) (nI i) σ = some (nI (rdS it k i B).1, σ') ∧ RC (rdS it k i B).2 σ' := by
  intro k
  induction k with
  | zero =>
    intro n i B σ hik hn hB h hy
    obtain ⟨n, rfl⟩ : ∃ j, n = j + 1 := ⟨n - 1, by omega⟩
    have : i = z := by omega
    subst this
    have e := h.sh hs
    rw [hy] at e
    refine ⟨σ, ?_, h⟩
    show fX7_read_29 _ _ _ _ = _
    unfold fX7_read_29 fX7_read_67
    simp only [nI_clamp (show s < 2 ^ 31 by omega), ixF hs (by decide), ↓reduceIte, (e.2 f i it rfl).2.1, Int32.le_refl]
    rfl
  | succ k ih =>
    intro n i B σ hik hn hB h hy
    obtain ⟨n, rfl⟩ : ∃ j, n = j + 1 := ⟨n - 1, by omega⟩
    have e := h.sh hs
    rw [hy] at e
    obtain ⟨e1, e2, e3⟩ := e.2 f z it rfl
    have hlt : (nI z ≤ nI i) = False := eq_false (fun z => by have := (nI_leI (by omega) (by omega)).mp z; omega)
    have em : nI s * 60 + nI i = nI (60 * s + i) := by rw [show (60 : Int32) = nI 60 from rfl, pk_mul, nI_add, Nat.mul_comm]
    obtain ⟨τ, a1, a2⟩ := c_wind hB (it i) σ h
    rw [rdS]
    by_cases q : inR 40 (it i) = true ∧ awn B < 6
    · obtain ⟨σ', b1, b2⟩ := ih n (i + 1) (windA B (it i)) τ (by omega) (by omega) (windA_WA hB _) a2 (by rw [windA_asy]; exact hy)
      rw [if_pos q]
      refine ⟨σ', ?_, b2⟩
      show fX7_read_29 _ _ _ _ = _
      unfold fX7_read_29 fX2_item
      simp only [nI_clamp (show s < 2 ^ 31 by omega), ixF hs (by decide), ↓reduceIte, e2, hlt, em, nI_clamp (show 60 * s + i < 2 ^ 31 by omega), ixF (show 60 * s + i < 240 by omega) (by decide), e3 i (by omega), Option.bind, a1, windR_neg hB, q, and_self, not_true_eq_false, nI_1]
      exact b1
    · rw [if_neg q]
      rw [windA_no q] at a2
      refine ⟨τ, ?_, a2⟩
      show fX7_read_29 _ _ _ _ = _
      unfold fX7_read_29 fX7_read_67 fX2_item
      simp only [nI_clamp (show s < 2 ^ 31 by omega), ixF hs (by decide), ↓reduceIte, e2, hlt, em, nI_clamp (show 60 * s + i < 2 ^ 31 by omega), ixF (show 60 * s + i < 240 by omega) (by decide), e3 i (by omega), Option.bind, a1, windR_neg hB, q, not_false_eq_true]
theorem m_readL {s f z : Nat} {it : Nat → Int32} (hs : s < 4) (hz : z ≤ 60) : ∀ (k n i : Nat) (B : vA) (σ : vMem), i + k = z → k < n → WA B → RM B σ → asy B s = some (f, z, it) → ∃ σ', LfX8_read_27 n (nI s) (nI i) σ = some (nI (rdS it k i B).1, σ') ∧ RM (rdS it k i B).2 σ' := by
  intro k
  induction k with
  | zero =>
    intro n i B σ hik hn hB h hy
    obtain ⟨n, rfl⟩ : ∃ j, n = j + 1 := ⟨n - 1, by omega⟩
    have : i = z := by omega
    subst this
    have e := h.sh hs
    rw [hy] at e
    refine ⟨σ, ?_, h⟩
    show fX8_read_27 _ _ _ _ = _
    unfold fX8_read_27 fX8_read_61
    simp only [nI_clamp (show s < 2 ^ 31 by omega), ixF hs (by decide), ↓reduceIte, (e.2 f i it rfl).2.2.1, Int32.le_refl]
    rfl
  | succ k ih =>
    intro n i B σ hik hn hB h hy
    obtain ⟨n, rfl⟩ : ∃ j, n = j + 1 := ⟨n - 1, by omega⟩
    have e := h.sh hs
    rw [hy] at e
    obtain ⟨e0, e1, e2, e3⟩ := e.2 f z it rfl
    have hlt : (nI z ≤ nI i) = False := eq_false (fun z => by have := (nI_leI (by omega) (by omega)).mp z; omega)
    have em : 60 * nI s + nI i = nI (60 * s + i) := by rw [show (60 : Int32) = nI 60 from rfl, pk_mul, nI_add]
    obtain ⟨τ, a1, a2⟩ := m_wind hB (it i) σ h
    rw [rdS]
    by_cases q : inR 40 (it i) = true ∧ awn B < 6
    · obtain ⟨σ', b1, b2⟩ := ih n (i + 1) (windA B (it i)) τ (by omega) (by omega) (windA_WA hB _) a2 (by rw [windA_asy]; exact hy)
      rw [if_pos q]
      refine ⟨σ', ?_, b2⟩
      show fX8_read_27 _ _ _ _ = _
      unfold fX8_read_27
      simp only [nI_clamp (show s < 2 ^ 31 by omega), ixF hs (by decide), ↓reduceIte, e2, hlt, em, nI_clamp (show 60 * s + i < 2 ^ 31 by omega), ixF (show 60 * s + i < 240 by omega) (by decide), e3 i (by omega), Option.bind, a1, windR_le0 hB, q, and_self, not_true_eq_false, nI_1]
      exact b1
    · rw [if_neg q]
      rw [windA_no q] at a2
      refine ⟨τ, ?_, a2⟩
      show fX8_read_27 _ _ _ _ = _
      unfold fX8_read_27 fX8_read_61
      simp only [nI_clamp (show s < 2 ^ 31 by omega), ixF hs (by decide), ↓reduceIte, e2, hlt, em, nI_clamp (show 60 * s + i < 2 ^ 31 by omega), ixF (show 60 * s + i < 240 by omega) (by decide), e3 i (by omega), Option.bind, a1, windR_le0 hB, q, not_false_eq_true]
theorem q_read {A : vA} (hA : WA A) (x : Int32) : vJ A (fX7_read x) (fX8_read x) := by
  by_cases q : inR 4 x = true
  · obtain ⟨s, hs, rfl⟩ := inR_ex (by omega) q
    rcases w : asy A s with _ | ⟨f, n, it⟩
    · refine ⟨-11, aF A 1, hA, fun σ h => ?_, fun σ h => ?_⟩
      · obtain ⟨σ', a1, a2⟩ := c_found 1 σ h
        refine ⟨σ', ?_, a2⟩
        unfold fX7_read
        rw [c_isSheet, q]
        simp only [Option.bind, b2_0, Bool.true_eq_false, ↓reduceIte]
        rw [c_isLost hA h hs, w]
        simp only [Option.isNone_none, b2_0, Bool.true_eq_false, ↓reduceIte, a1]
        rfl
      · obtain ⟨σ', a1, a2⟩ := m_meets 1 σ h
        refine ⟨σ', ?_, a2⟩
        unfold fX8_read
        rw [m_isSheet, q]
        simp only [Option.bind, b2_0, Bool.true_eq_false, ↓reduceIte, nI_clamp (show s < 2 ^ 31 by omega), ixF hs (by decide), m_lost h hs, w, Option.isNone_none, a1]
        rfl
    · have n60 := hA.sz hs f n it w
      refine ⟨nI (rdS it n 0 A).1, (rdS it n 0 A).2, rdS_WA it n 0 A hA, fun σ h => ?_, fun σ h => ?_⟩
      · obtain ⟨σ', a1, a2⟩ := c_readL hs n60 n 200 0 A σ (by omega) (by omega) hA h w
        refine ⟨σ', ?_, a2⟩
        unfold fX7_read
        rw [c_isSheet, q]
        simp only [Option.bind, b2_0, Bool.true_eq_false, ↓reduceIte]
        rw [c_isLost hA h hs, w]
        exact a1
      · obtain ⟨σ', a1, a2⟩ := m_readL hs n60 n 200 0 A σ (by omega) (by omega) hA h w
        refine ⟨σ', ?_, a2⟩
        unfold fX8_read
        rw [m_isSheet, q]
        simp only [Option.bind, b2_0, Bool.true_eq_false, ↓reduceIte, nI_clamp (show s < 2 ^ 31 by omega), ixF hs (by decide), m_lost h hs, w, Option.isNone_some, Bool.false_eq_true]
        exact a1
  · have q := inR_F q
    refine ⟨-2, A, hA, fun σ h => ⟨σ, ?_, h⟩, fun σ h => ⟨σ, ?_, h⟩⟩
    · unfold fX7_read
      rw [c_isSheet, q]
      rfl
    · unfold fX8_read
      rw [m_isSheet, q]
      rfl
