/-! the sheets -/
theorem RC.sh {A : vA} {σ : vMem} (h : RC A σ) {s : Nat} (hs : s < 4) : shC (asy A s) s σ := h.2.2.2.2.2.2.1 s hs
theorem RM.sh {A : vA} {σ : vMem} (h : RM A σ) {s : Nat} (hs : s < 4) : shM (asy A s) s σ := h.2.2.2.2.2.1 s hs
theorem shC.of {o : Option (Nat × Nat × (Nat → Int32))} {s : Nat} {σ τ : vMem} (h : shC o s σ) (hz : ∀ f z it, o = some (f, z, it) → z ≤ 60) (e1 : τ.1 34 s = σ.1 34 s) (e2 : τ.1 35 s = σ.1 35 s) (e3 : ∀ i, i < 60 → τ.1 36 (60 * s + i) = σ.1 36 (60 * s + i)) : shC o s τ := by
  refine ⟨fun q => e2.trans (h.1 q), fun f z it q => ?_⟩
  obtain ⟨a1, a2, a3⟩ := h.2 f z it q
  have := hz f z it q
  exact ⟨e1.trans a1, e2.trans a2, fun i hi => (e3 i (by omega)).trans (a3 i hi)⟩
theorem shM.of {o : Option (Nat × Nat × (Nat → Int32))} {s : Nat} {σ τ : vMem} (h : shM o s σ) (hz : ∀ f z it, o = some (f, z, it) → z ≤ 60) (e0 : τ.1 31 s = σ.1 31 s) (e1 : τ.1 32 s = σ.1 32 s) (e2 : τ.1 33 s = σ.1 33 s) (e3 : ∀ i, i < 60 → τ.1 34 (60 * s + i) = σ.1 34 (60 * s + i)) : shM o s τ := by
  refine ⟨fun q => e0.trans (h.1 q), fun f z it q => ?_⟩
  obtain ⟨a0, a1, a2, a3⟩ := h.2 f z it q
  have := hz f z it q
  exact ⟨e0.trans a0, e1.trans a1, e2.trans a2, fun i hi => (e3 i (by omega)).trans (a3 i hi)⟩
theorem WA.sz {A : vA} (hA : WA A) {s : Nat} (hs : s < 4) : ∀ f z it, asy A s = some (f, z, it) → z ≤ 60 := fun f z it q => (hA.2.2.2.2.2.2 s hs f z it q).2
theorem WA.sheets {A : vA} (h : WA A) {s : Nat} {o : Option (Nat × Nat × (Nat → Int32))} (ho : ∀ f z it, o = some (f, z, it) → f ≤ 2 ∧ z ≤ 60) : WA (aY A (va_up (asy A) s o)) := by
  refine ⟨h.1, h.2.1, h.2.2.1, h.2.2.2.1, h.2.2.2.2.1, h.2.2.2.2.2.1, fun r hr f z it q => ?_⟩
  have q : va_up (asy A) s o r = some (f, z, it) := q
  unfold va_up at q
  by_cases e : r = s
  · rw [if_pos e] at q; exact ho f z it q
  · rw [if_neg e] at q; exact h.2.2.2.2.2.2 r hr f z it q
/-- one sheet is changed: the class -/
theorem RC.sheet1 {A : vA} (hA : WA A) {σ τ : vMem} (h : RC A σ) {s : Nat} {o : Option (Nat × Nat × (Nat → Int32))} (f : ∀ a, a ≠ 34 → a ≠ 35 → a ≠ 36 → τ.1 a = σ.1 a) (f1 : ∀ k, k ≠ s → τ.1 34 k = σ.1 34 k) (f2 : ∀ k, k ≠ s → τ.1 35 k = σ.1 35 k) (f3 : ∀ k, k < 60 * s ∨ 60 * s + 60 ≤ k → τ.1 36 k = σ.1 36 k) (e : shC o s τ) : RC (aY A (va_up (asy A) s o)) τ := by
  refine h.sheets f (fun r hr => ?_)
  unfold va_up
  by_cases q : r = s
  · subst q; rw [if_pos rfl]; exact e
  · rw [if_neg q]
    exact (h.sh hr).of (hA.sz hr) (f1 r q) (f2 r q) (fun i hi => f3 _ (by omega))
theorem RM.sheet1 {A : vA} (hA : WA A) {σ τ : vMem} (h : RM A σ) {s : Nat} {o : Option (Nat × Nat × (Nat → Int32))} (f : ∀ a, a ≠ 0 → a ≠ 31 → a ≠ 32 → a ≠ 33 → a ≠ 34 → a ≠ 35 → τ.1 a = σ.1 a) (g : ∀ k, τ.1 0 k = σ.1 0 k) (f0 : ∀ k, k ≠ s → τ.1 31 k = σ.1 31 k) (f1 : ∀ k, k ≠ s → τ.1 32 k = σ.1 32 k) (f2 : ∀ k, k ≠ s → τ.1 33 k = σ.1 33 k) (f3 : ∀ k, k < 60 * s ∨ 60 * s + 60 ≤ k → τ.1 34 k = σ.1 34 k) (e : shM o s τ) : RM (aY A (va_up (asy A) s o)) τ := by
  refine h.sheets f g (fun r hr => ?_)
  unfold va_up
  by_cases q : r = s
  · subst q; rw [if_pos rfl]; exact e
  · rw [if_neg q]
    exact (h.sh hr).of (hA.sz hr) (f0 r q) (f1 r q) (f2 r q) (fun i hi => f3 _ (by omega))
theorem c_isLost {A : vA} (hA : WA A) {σ : vMem} (h : RC A σ) {s : Nat} (hs : s < 4) : fX2_isLost (nI s) σ = some (b2 (asy A s).isNone, σ) := by
  unfold fX2_isLost fX2_isLost_15
  simp only [nI_clamp (show s < 2 ^ 31 by omega), ixF hs (by decide), ↓reduceIte]
  have hh := h.sh hs
  have hz := hA.sz hs
  rcases q : asy A s with _ | ⟨f, z, it⟩
  · rw [q] at hh
    rw [hh.1 rfl]
    rfl
  · rw [q] at hh
    have := hz f z it q
    rw [(hh.2 f z it rfl).2.1, if_neg (nI_m1 (by omega))]
    rfl
theorem m_lost {A : vA} {σ : vMem} (h : RM A σ) {s : Nat} (hs : s < 4) : (σ.1 31 s = 0) = ((asy A s).isNone = true) := by
  have hh := h.sh hs
  rcases q : asy A s with _ | ⟨f, z, it⟩
  · rw [q] at hh
    rw [hh.1 rfl]
    simp
  · rw [q] at hh
    rw [(hh.2 f z it rfl).1]
    simp
theorem c_found {A : vA} (x : Int32) : QC A (aF A x) (fX7_found x) (-10 - x) := fun σ h => ⟨vup σ 0 14 x, rfl, h.finding (fun a ha => vup_ne _ _ ha) (by simp [vup_rd])⟩
theorem m_meets {A : vA} (x : Int32) : QM A (aF A x) (fX8_meets x) (-10 - x) := fun σ h => ⟨vup σ 0 47 x, rfl, h.finding (fun a ha => vup_ne _ _ ha) (fun k hk => by simp [vup_rd, hk]) (by simp [vup_rd])⟩
theorem q_lose {A : vA} (hA : WA A) (x : Int32) : vJ A (fX7_lose x) (fX8_lose x) := by
  by_cases q : inR 4 x = true
  · obtain ⟨s, hs, rfl⟩ := inR_ex (by omega) q
    by_cases z : (asy A s).isNone = true
    · refine ⟨-11, aF A 1, hA, fun σ h => ?_, fun σ h => ?_⟩
      · obtain ⟨σ', a1, a2⟩ := c_found 1 σ h
        refine ⟨σ', ?_, a2⟩
        unfold fX7_lose
        rw [c_isSheet, q]
        simp only [Option.bind, b2_0, Bool.true_eq_false, ↓reduceIte]
        rw [c_isLost hA h hs, z]
        simp only [b2_0, Bool.true_eq_false, ↓reduceIte, a1]
        rfl
      · obtain ⟨σ', a1, a2⟩ := m_meets 1 σ h
        refine ⟨σ', ?_, a2⟩
        unfold fX8_lose
        rw [m_isSheet, q]
        simp only [Option.bind, b2_0, Bool.true_eq_false, ↓reduceIte, nI_clamp (show s < 2 ^ 31 by omega), ixF hs (by decide), m_lost h hs, z, a1]
        rfl
    · rcases w : asy A s with _ | ⟨f, n, it⟩
      · rw [w] at z; exact absurd rfl z
      · have n60 := hA.sz hs f n it w
        refine ⟨nI n, aY A (va_up (asy A) s none), hA.sheets (fun _ _ _ q => nomatch q), fun σ h => ⟨vup σ 35 s (-1), ?_, ?_⟩, fun σ h => ⟨vup σ 31 s 0, ?_, ?_⟩⟩
        · have e := h.sh hs
          rw [w] at e
          unfold fX7_lose fX7_lose_47
          rw [c_isSheet, q]
          simp only [Option.bind, b2_0, Bool.true_eq_false, ↓reduceIte]
          rw [c_isLost hA h hs, w]
          simp only [Option.isNone_some, b2_0, ↓reduceIte, nI_clamp (show s < 2 ^ 31 by omega), ixF hs (by decide), (e.2 f n it rfl).2.1]
        · exact h.sheet1 hA (fun a _ h2 _ => vup_ne _ _ h2) (fun k _ => by simp [vup_rd]) (fun k hk => by simp [vup_rd, hk]) (fun k _ => by simp [vup_rd]) ⟨fun _ => by simp [vup_rd], fun _ _ _ q => nomatch q⟩
        · have e := h.sh hs
          rw [w] at e
          unfold fX8_lose fX8_lose_32
          rw [m_isSheet, q]
          have e2 : (vup σ 31 s 0).1 33 s = nI n := by
            simp only [vup_rd, Nat.reduceEqDiff, ↓reduceIte]
            exact (e.2 f n it rfl).2.2.1
          simp only [Option.bind, b2_0, Bool.true_eq_false, ↓reduceIte, nI_clamp (show s < 2 ^ 31 by omega), ixF hs (by decide), m_lost h hs, w, Option.isNone_some, Bool.false_eq_true, e2]
        · exact h.sheet1 hA (fun a _ h1 _ _ _ _ => vup_ne _ _ h1) (fun k => by simp [vup_rd]) (fun k hk => by simp [vup_rd, hk]) (fun k _ => by simp [vup_rd]) (fun k _ => by simp [vup_rd]) (fun k _ => by simp [vup_rd]) ⟨fun _ => by simp [vup_rd], fun _ _ _ q => nomatch q⟩
  · have q := inR_F q
    refine ⟨-2, A, hA, fun σ h => ⟨σ, ?_, h⟩, fun σ h => ⟨σ, ?_, h⟩⟩
    · unfold fX7_lose
      rw [c_isSheet, q]
      rfl
    · unfold fX8_lose
      rw [m_isSheet, q]
      rfl
