/-! digest: plans, floors -/
theorem c_mixedPlans {A : vA} (hA : WA A) {σ : vMem} (h : RC A σ) {b : Nat} (hb : b < nbA A) (x : Int64) : ∃ σ', fX7_mixedPlans x (nI b) σ = some (dPlans A x b, σ') ∧ RC A σ' := by
  obtain ⟨σ1, a1, a2, a3, a4⟩ := c_findHour hA h hb
  rw [← rSend_0] at a3
  rw [← rSend_1] at a4
  obtain ⟨σ2, b1, b2⟩ := c_loafR hA a2 hb (m := 5) (by omega)
  have b1 : fX7_loaf (nI b) 5 σ1 = some (rLoaf A b 5, σ2) := b1
  obtain ⟨σ3, c1, c2, c3⟩ := c_findFed hA b2 hb
  obtain ⟨σ4, d1, d2, d3, d4⟩ := c_findChance hA c2 (c := 5) (m := 3) (by omega) hb (by omega)
  have d1 : fX7_findChance 5 (nI b) 3 σ3 = some σ4 := d1
  refine ⟨σ4, ?_, d2⟩
  unfold fX7_mixedPlans dPlans
  rw [a1, Option.bind_some, c_mixed, Option.bind_some, a3, c_mixed, Option.bind_some, a4, b1, Option.bind_some, c_mixed, Option.bind_some, c1, Option.bind_some, c_mixed, Option.bind_some, c3.1, c_fedAt (rFed_in A b) c3 (Or.inl rfl), Option.bind_some, c_mixed, Option.bind_some, d1, Option.bind_some, c_mixed, Option.bind_some, d3, c_mixed, Option.bind_some, d4]
theorem c_floorEnd {A : vA} (hA : WA A) {σ : vMem} (h : RC A σ) {f : Nat} (hf : f < nfA A) (x : Int64) (K : Int64 → Int32 → Int32 → vMem → Option (Int64 × vMem)) : ∃ σ', fX7_mixedFloor_3 K x (nI f) (nI 3) σ = some (mx (mx (mx (mx (mx x (rBites A f 0).toInt64) (rBites A f 1).toInt64) (rWas A f 0).toInt64) (rWas A f 1).toInt64) (rAsk A f).toInt64, σ') ∧ RC A σ' := by
  obtain ⟨τ1, a1, a2⟩ := c_bitesR hA h hf (y := 0) (by decide)
  obtain ⟨τ2, b1, b2⟩ := c_bitesR hA a2 hf (y := 1) (by decide)
  obtain ⟨τ3, c1, c2⟩ := c_wasR hA b2 hf (y := 0) (by decide)
  obtain ⟨τ4, d1, d2⟩ := c_wasR hA c2 hf (y := 1) (by decide)
  obtain ⟨τ5, e1, e2⟩ := c_askR hA d2 hf
  refine ⟨τ5, ?_, e2⟩
  have c5 : (2 : Int32) < nI 3 := by decide
  unfold fX7_mixedFloor_3
  rw [if_pos c5, a1, Option.bind_some, c_mixed, Option.bind_some, b1, Option.bind_some, c_mixed, Option.bind_some, c1, Option.bind_some, c_mixed, Option.bind_some, d1, Option.bind_some, c_mixed, Option.bind_some, e1, Option.bind_some, c_mixed, Option.bind_some]
theorem c_mixedFloor {A : vA} (hA : WA A) {σ : vMem} (h : RC A σ) {f : Nat} (hf : f < nfA A) (x : Int64) : ∃ σ', fX7_mixedFloor x (nI f) σ = some (dFloor A x f, σ') ∧ RC A σ' := by
  have key : ∀ (k n i : Nat) (τ : vMem), i + k = 3 → k < n → RC A τ → ∃ σ', LfX7_mixedFloor_3 n (iter (fun h y => mx h (rFloor A f (nI y)).toInt64) i x) (nI f) (nI i) τ = some (dFloor A x f, σ') ∧ RC A σ' := by
    intro k
    induction k with
    | zero =>
      intro n i τ hik hn hR
      obtain ⟨n, rfl⟩ : ∃ j, n = j + 1 := ⟨n - 1, by omega⟩
      have : i = 3 := by omega
      subst this
      unfold dFloor
      exact c_floorEnd hA hR hf _ _
    | succ k ih =>
      intro n i τ hik hn hR
      obtain ⟨n, rfl⟩ : ∃ j, n = j + 1 := ⟨n - 1, by omega⟩
      have hlt : ¬ (2 : Int32) < nI i := fun z => by have := (nI_ltI (a := 2) (by decide) (by omega)).mp z; omega
      have a1 := c_floorR hA hR hf (y := nI i) (inR_nI (by omega) (by omega))
      obtain ⟨σ', b1, b2⟩ := ih n (i + 1) τ (by omega) (by omega) hR
      refine ⟨σ', ?_, b2⟩
      show fX7_mixedFloor_3 _ _ _ _ _ = _
      unfold fX7_mixedFloor_3
      rw [if_neg hlt, a1, Option.bind_some, c_mixed, Option.bind_some, nI_1]
      rw [iter_s] at b1
      exact b1
  obtain ⟨σ', a1, a2⟩ := key 3 200 0 σ (by omega) (by omega) h
  rw [iter_0] at a1
  exact ⟨σ', a1, a2⟩
