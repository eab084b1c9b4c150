/-! digest, piece 1 -/
theorem c_way76 {A : vA} (hA : WA A) {b : Nat} (hb : b < nbA A) (x2 : Int64) : ∀ (k n i : Nat) (τ : vMem), i + k = 4 → k < n → RC A τ → ∃ σ', LfX7_mixedWay_76 n (iter (fun h y => mx h (rNote (TT A) b y).toInt64) i x2) (nI b) (nI i) τ = some (iter (fun h y => mx h (rNote (TT A) b y).toInt64) 4 x2, σ') ∧ RC A σ' := by
  intro k
  induction k with
  | zero =>
    intro n i τ hik hn hR
    obtain ⟨n, rfl⟩ : ∃ j, n = j + 1 := ⟨n - 1, by omega⟩
    have : i = 4 := by omega
    subst this
    refine ⟨τ, ?_, hR⟩
    show fX7_mixedWay_76 _ _ _ _ _ = _
    unfold fX7_mixedWay_76
    rw [if_pos (by decide)]
  | succ k ih =>
    intro n i τ hik hn hR
    obtain ⟨n, rfl⟩ : ∃ j, n = j + 1 := ⟨n - 1, by omega⟩
    have hlt : ¬ (3 : Int32) < nI i := fun z => by have := (nI_ltI (a := 3) (by decide) (by omega)).mp z; omega
    obtain ⟨τ1, a1, a2⟩ := c_noteR hA hR hb (show i < 12 by omega)
    obtain ⟨σ', b1, b2⟩ := ih n (i + 1) τ1 (by omega) (by omega) a2
    refine ⟨σ', ?_, b2⟩
    show fX7_mixedWay_76 _ _ _ _ _ = _
    unfold fX7_mixedWay_76
    rw [if_neg hlt]
    simp only [a1, Option.bind_some, c_mixed, nI_1]
    rw [iter_s] at b1
    exact b1
theorem c_wayEnd {A : vA} (hA : WA A) {b : Nat} (hb : b < nbA A) (x1 : Int64) {τ : vMem} (hR : RC A τ) (K : Int64 → Int32 → Int32 → vMem → Option (Int64 × vMem)) : ∃ σ', fX7_mixedWay_3 K x1 (nI b) (nI 6) τ = some (iter (fun h y => mx h (rNote (TT A) b y).toInt64) 4 (mx (dHour A 39 b (dHour A 12 b (dHour A 5 b (dHour A 0 b x1)))) (rComes A b).toInt64), σ') ∧ RC A σ' := by
  obtain ⟨τ1, a1, a2⟩ := c_mixedHour hA hR (t := 0) (by omega) hb x1
  obtain ⟨τ2, b1, b2⟩ := c_mixedHour hA a2 (t := 5) (by omega) hb (dHour A 0 b x1)
  obtain ⟨τ3, c1, c2⟩ := c_mixedHour hA b2 (t := 12) (by omega) hb (dHour A 5 b (dHour A 0 b x1))
  obtain ⟨τ4, d1, d2⟩ := c_mixedHour hA c2 (t := 39) (by omega) hb (dHour A 12 b (dHour A 5 b (dHour A 0 b x1)))
  obtain ⟨τ5, e1, e2⟩ := c_comesR hA d2 hb
  obtain ⟨σ', f1, f2⟩ := c_way76 hA hb (mx (dHour A 39 b (dHour A 12 b (dHour A 5 b (dHour A 0 b x1)))) (rComes A b).toInt64) 4 200 0 τ5 (by omega) (by omega) e2
  refine ⟨σ', ?_, f2⟩
  have c5 : (5 : Int32) < nI 6 := by decide
  unfold fX7_mixedWay_3
  rw [if_pos c5, show (0 : Int32) = nI 0 from rfl, show (5 : Int32) = nI 5 from rfl, show (12 : Int32) = nI 12 from rfl, show (39 : Int32) = nI 39 from rfl, a1]
  simp only [Option.bind_some]
  rw [b1]
  simp only [Option.bind_some]
  rw [c1]
  simp only [Option.bind_some]
  rw [d1]
  simp only [Option.bind_some]
  rw [e1]
  simp only [Option.bind_some]
  rw [c_mixed, Option.bind_some]
  rw [iter_0] at f1
  exact f1
theorem c_mixedWay {A : vA} (hA : WA A) {σ : vMem} (h : RC A σ) {b : Nat} (hb : b < nbA A) (x : Int64) : ∃ σ', fX7_mixedWay x (nI b) σ = some (dWay A x b, σ') ∧ RC A σ' := by
  have key : ∀ (k n i : Nat) (τ : vMem), i + k = 6 → k < n → RC A τ → ∃ σ', LfX7_mixedWay_3 n (iter (fun h y => mx h (rBasket A b y).toInt64) i x) (nI b) (nI i) τ = some (dWay A x b, σ') ∧ RC A σ' := by
    intro k
    induction k with
    | zero =>
      intro n i τ hik hn hR
      obtain ⟨n, rfl⟩ : ∃ j, n = j + 1 := ⟨n - 1, by omega⟩
      have : i = 6 := by omega
      subst this
      unfold dWay
      exact c_wayEnd hA hb _ hR _
    | succ k ih =>
      intro n i τ hik hn hR
      obtain ⟨n, rfl⟩ : ∃ j, n = j + 1 := ⟨n - 1, by omega⟩
      have hlt : ¬ (5 : Int32) < nI i := fun z => by have := (nI_ltI (a := 5) (by decide) (by omega)).mp z; omega
      have a1 := c_basketR hA hR hb (show i < 6 by omega)
      obtain ⟨σ', b1, b2⟩ := ih n (i + 1) τ (by omega) (by omega) hR
      refine ⟨σ', ?_, b2⟩
      show fX7_mixedWay_3 _ _ _ _ _ = _
      unfold fX7_mixedWay_3
      rw [if_neg hlt]
      simp only [a1, Option.bind_some, c_mixed, nI_1]
      rw [iter_s] at b1
      exact b1
  obtain ⟨σ', a1, a2⟩ := key 6 200 0 σ (by omega) (by omega) h
  rw [iter_0] at a1
  exact ⟨σ', a1, a2⟩
