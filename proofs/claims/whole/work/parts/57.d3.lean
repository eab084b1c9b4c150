/-! digest: the class -/
theorem c_fault0 {A : vA} {σ : vMem} (h : RC A σ) : fX7_fault 0 σ = some (fF (t0 A) (n0 A), σ) := by
  unfold fX7_fault fX7_fault_31
  rw [c_isText, show inR 2 0 = true from by decide]
  simp only [Option.bind, b2_0, Bool.true_eq_false, ↓reduceIte, h.2.1.1]
theorem c_fault1 {A : vA} {σ : vMem} (h : RC A σ) : fX7_fault 1 σ = some ((fB (t1 A) (n1 A)).1, σ) := by
  unfold fX7_fault fX7_fault_31
  rw [c_isText, show inR 2 1 = true from by decide]
  simp only [Option.bind, b2_0, Bool.true_eq_false, ↓reduceIte, h.2.1.2.1, if_neg (show ¬ (1 : Int32) = 0 by decide)]
theorem c_digestEnd {A : vA} (hA : WA A) {σ : vMem} (h : RC A σ) (x : Int64) (K : Int64 → Int32 → vMem → Option (Int64 × vMem)) : ∃ σ', fX7_digest_77 K x (nI (nbA A)) σ = some (dEnd A x, σ') ∧ RC A σ' := by
  obtain ⟨σ1, a1, a2⟩ := c_famineR hA h
  obtain ⟨σ2, b1, b2⟩ := c_firstR hA a2 (y := 0) (by decide)
  obtain ⟨σ3, c1, c2⟩ := c_firstR hA b2 (y := 1) (by decide)
  obtain ⟨σ4, d1, d2⟩ := c_greedyR hA c2
  obtain ⟨σ5, e1, e2, e3, e4⟩ := c_findStill hA d2
  rw [← rStill_0] at e3
  rw [← rStill_1] at e4
  obtain ⟨σ6, f1, f2⟩ := c_neverR hA e2
  obtain ⟨σ7, g1, g2⟩ := c_weekR hA f2 7 (n := 5) (by omega) (y := 0) (by decide)
  obtain ⟨σ8, i1, i2⟩ := c_weekR hA g2 7 (n := 5) (by omega) (y := 1) (by decide)
  have g1 : fX7_week 7 5 0 σ6 = some (rWeek A 7 5 0, σ7) := g1
  have i1 : fX7_week 7 5 1 σ7 = some (rWeek A 7 5 1, σ8) := i1
  refine ⟨σ8, ?_, i2⟩
  unfold fX7_digest_77 dEnd
  rw [h.nb, if_pos (Int32.le_refl _), a1, Option.bind_some, c_mixed, Option.bind_some, b1, Option.bind_some, c_mixed, Option.bind_some, c1, Option.bind_some, c_mixed, Option.bind_some, d1, Option.bind_some, c_mixed, Option.bind_some, e1, Option.bind_some, c_mixed, Option.bind_some, e3, c_mixed, Option.bind_some, e4, f1, Option.bind_some, c_mixed, Option.bind_some, g1, Option.bind_some, c_mixed, Option.bind_some, i1, Option.bind_some, c_mixed, Option.bind_some]
theorem c_digest77 {A : vA} (hA : WA A) (x : Int64) : ∀ (k n i : Nat) (τ : vMem), i + k = nbA A → k < n → RC A τ → ∃ σ', LfX7_digest_77 n (iter (fun h b => dPlans A (dWay A h b) b) i x) (nI i) τ = some (dEnd A (iter (fun h b => dPlans A (dWay A h b) b) (nbA A) x), σ') ∧ RC A σ' := by
  have h8 := nbA_le hA
  intro k
  induction k with
  | zero =>
    intro n i τ hik hn hR
    obtain ⟨n, rfl⟩ : ∃ j, n = j + 1 := ⟨n - 1, by omega⟩
    have : i = nbA A := by omega
    subst this
    exact c_digestEnd hA hR _ (LfX7_digest_77 n)
  | succ k ih =>
    intro n i τ hik hn hR
    obtain ⟨n, rfl⟩ : ∃ j, n = j + 1 := ⟨n - 1, by omega⟩
    have hlt : ¬ nI (nbA A) ≤ nI i := fun z => by have := (nI_leI (by omega) (by omega)).mp z; omega
    obtain ⟨τ1, a1, a2⟩ := c_mixedWay hA hR (show i < nbA A by omega) (iter (fun h b => dPlans A (dWay A h b) b) i x)
    obtain ⟨τ2, b1, b2⟩ := c_mixedPlans hA a2 (show i < nbA A by omega) (dWay A (iter (fun h b => dPlans A (dWay A h b) b) i x) i)
    obtain ⟨σ', c1, c2⟩ := ih n (i + 1) τ2 (by omega) (by omega) b2
    refine ⟨σ', ?_, c2⟩
    show fX7_digest_77 _ _ _ _ = _
    unfold fX7_digest_77
    rw [hR.nb, if_neg hlt, a1, Option.bind_some, b1, Option.bind_some, nI_1]
    rw [iter_s] at c1
    exact c1
theorem c_digest51 {A : vA} (hA : WA A) (x : Int64) : ∀ (k n i : Nat) (τ : vMem), i + k = nfA A → k < n → RC A τ → ∃ σ', LfX7_digest_51 n (iter (fun h f => dFloor A h f) i x) (nI i) τ = some (dEnd A (iter (fun h b => dPlans A (dWay A h b) b) (nbA A) (iter (fun h f => dFloor A h f) (nfA A) x)), σ') ∧ RC A σ' := by
  have h8 := nbA_le hA
  have h9 := nfA_le hA
  intro k
  induction k with
  | zero =>
    intro n i τ hik hn hR
    obtain ⟨n, rfl⟩ : ∃ j, n = j + 1 := ⟨n - 1, by omega⟩
    have : i = nfA A := by omega
    subst this
    obtain ⟨σ', a1, a2⟩ := c_digest77 hA (iter (fun h f => dFloor A h f) (nfA A) x) (nbA A) 200 0 τ (by omega) (by omega) hR
    refine ⟨σ', ?_, a2⟩
    show fX7_digest_51 _ _ _ _ = _
    unfold fX7_digest_51
    rw [hR.nf, if_pos (Int32.le_refl _)]
    rw [iter_0] at a1
    exact a1
  | succ k ih =>
    intro n i τ hik hn hR
    obtain ⟨n, rfl⟩ : ∃ j, n = j + 1 := ⟨n - 1, by omega⟩
    have hlt : ¬ nI (nfA A) ≤ nI i := fun z => by have := (nI_leI (by omega) (by omega)).mp z; omega
    obtain ⟨τ1, a1, a2⟩ := c_mixedFloor hA hR (show i < nfA A by omega) (iter (fun h f => dFloor A h f) i x)
    obtain ⟨σ', c1, c2⟩ := ih n (i + 1) τ1 (by omega) (by omega) a2
    refine ⟨σ', ?_, c2⟩
    show fX7_digest_51 _ _ _ _ = _
    unfold fX7_digest_51
    rw [hR.nf, if_neg hlt, a1, Option.bind_some, nI_1]
    rw [iter_s] at c1
    exact c1
theorem c_headEnd {A : vA} (hA : WA A) {τ : vMem} (hR : RC A τ) (x : Int64) (K : Int64 → Int32 → vMem → Option (Int64 × vMem)) : ∃ σ', fX7_digest_6 K x (nI 8) τ = some (dEnd A (iter (fun h b => dPlans A (dWay A h b) b) (nbA A) (iter (fun h f => dFloor A h f) (nfA A) (mx (mx x (fF (t0 A) (n0 A)).toInt64) (fB (t1 A) (n1 A)).1.toInt64))), σ') ∧ RC A σ' := by
  have h9 := nfA_le hA
  obtain ⟨σ', a1, a2⟩ := c_digest51 hA (mx (mx x (fF (t0 A) (n0 A)).toInt64) (fB (t1 A) (n1 A)).1.toInt64) (nfA A) 200 0 τ (by omega) (by omega) hR
  refine ⟨σ', ?_, a2⟩
  have c5 : (7 : Int32) < nI 8 := by decide
  unfold fX7_digest_6
  rw [if_pos c5, c_fault0 hR, Option.bind_some, c_mixed, Option.bind_some, c_fault1 hR, Option.bind_some, c_mixed, Option.bind_some]
  rw [iter_0] at a1
  exact a1
theorem c_digestR {A : vA} (hA : WA A) {σ : vMem} (h : RC A σ) : ∃ σ', fX7_digest σ = some (rDigest A, σ') ∧ RC A σ' := by
  have key : ∀ (k n i : Nat) (τ : vMem), i + k = 8 → k < n → RC A τ → ∃ σ', LfX7_digest_6 n (iter (fun h y => mx h (rCount A (nI y)).toInt64) i 17) (nI i) τ = some (rDigest A, σ') ∧ RC A σ' := by
    intro k
    induction k with
    | zero =>
      intro n i τ hik hn hR
      obtain ⟨n, rfl⟩ : ∃ j, n = j + 1 := ⟨n - 1, by omega⟩
      have : i = 8 := by omega
      subst this
      unfold rDigest dHead
      exact c_headEnd hA hR _ (LfX7_digest_6 n)
    | succ k ih =>
      intro n i τ hik hn hR
      obtain ⟨n, rfl⟩ : ∃ j, n = j + 1 := ⟨n - 1, by omega⟩
      have hlt : ¬ (7 : Int32) < nI i := fun z => by have := (nI_ltI (a := 7) (by decide) (by omega)).mp z; omega
      obtain ⟨τ1, a1, a2⟩ := c_countR hA (nI i) τ hR
      obtain ⟨σ', c1, c2⟩ := ih n (i + 1) τ1 (by omega) (by omega) a2
      refine ⟨σ', ?_, c2⟩
      show fX7_digest_6 _ _ _ _ = _
      unfold fX7_digest_6
      rw [if_neg hlt, a1, Option.bind_some, c_mixed, Option.bind_some, nI_1]
      rw [iter_s] at c1
      exact c1
  obtain ⟨σ', a1, a2⟩ := key 8 200 0 σ (by omega) (by omega) h
  rw [iter_0] at a1
  exact ⟨σ', a1, a2⟩
