/-! the calls that only look -/
theorem inR_F {n : Nat} {x : Int32} (h : ¬ inR n x = true) : inR n x = false := by simpa using h
theorem b2F : b2 false = 0 := rfl
theorem b2T : b2 true = 1 := rfl
theorem q_fault {A : vA} (hA : WA A) (x : Int32) : vJ A (fX7_fault x) (fX8_fault x) := by
  refine ⟨if inR 2 x = true then (if x = 0 then fF (t0 A) (n0 A) else (fB (t1 A) (n1 A)).1) else -2, A, hA, fun σ h => ?_, fun σ h => ?_⟩
  · unfold fX7_fault fX7_fault_31
    rw [c_isText]
    simp only [Option.bind, b2_0, h.2.1.1, h.2.1.2.1]
    refine ⟨σ, ?_, h⟩
    by_cases q : inR 2 x = true
    · simp only [q, Bool.true_eq_false, ↓reduceIte]; split <;> rfl
    · simp only [inR_F q, Bool.false_eq_true, ↓reduceIte]
  · obtain ⟨σ', a1, a2, -⟩ := m_faultOf hA h x
    unfold fX8_fault fX8_fault_17
    rw [m_isText]
    simp only [Option.bind, b2_0]
    by_cases q : inR 2 x = true
    · refine ⟨σ', ?_, h.fr a2⟩
      simp only [q, a1, Bool.true_eq_false, ↓reduceIte]
    · refine ⟨σ, ?_, h⟩
      simp only [inR_F q, Bool.false_eq_true, ↓reduceIte]
/-- a floor's sort, bite, word -/
noncomputable def rFloor (A : vA) (k : Nat) (y : Int32) : Int32 := if y = 0 then sortI (t0 A (4 * k)) else if y = 1 then nI (t0 A (4 * k + 1) - 48).toNatClampNeg else t0 A (4 * k + 2) - 97
theorem m_floorOf {A : vA} (hA : WA A) {σ : vMem} (h : MD A σ) {k : Nat} (hk : k < nfA A) (y : Int32) : fX8_floorOf (nI k) y σ = some (rFloor A k y, σ) := by
  have := nfA_le hA
  obtain ⟨e1, e2, e3⟩ := h.2.1 k hk
  have hck : (nI k).toNatClampNeg = k := nI_clamp (by omega)
  have hx := ixF (show k < 10 by omega) (by decide)
  unfold fX8_floorOf fX8_floorOf_33 rFloor
  simp only [hck, hx, ↓reduceIte, e1, e2, e3]
  by_cases y0 : y = 0
  · simp only [y0, ↓reduceIte]
  · by_cases y1 : y = 1 <;> simp only [y0, y1, ↓reduceIte]
    simp
theorem in3 {y : Int32} (h : inR 3 y = true) : y = 0 ∨ y = 1 ∨ y = 2 := by
  obtain ⟨k, hk, rfl⟩ := inR_ex (by decide) h
  rcases (show k = 0 ∨ k = 1 ∨ k = 2 by omega) with rfl | rfl | rfl
  · exact Or.inl rfl
  · exact Or.inr (Or.inl rfl)
  · exact Or.inr (Or.inr rfl)
theorem in2 {y : Int32} (h : inR 2 y = true) : y = 0 ∨ y = 1 := by
  obtain ⟨k, hk, rfl⟩ := inR_ex (by decide) h
  rcases (show k = 0 ∨ k = 1 by omega) with rfl | rfl
  · exact Or.inl rfl
  · exact Or.inr rfl
theorem in3F {y : Int32} (h : inR 3 y = false) : ¬ y = 0 ∧ ¬ y = 1 ∧ ¬ y = 2 := by
  refine ⟨?_, ?_, ?_⟩ <;> (rintro rfl; exact absurd h (by decide))
theorem in2F {y : Int32} (h : inR 2 y = false) : ¬ y = 0 ∧ ¬ y = 1 := by
  refine ⟨?_, ?_⟩ <;> (rintro rfl; exact absurd h (by decide))
theorem c_floorR {A : vA} (hA : WA A) {σ : vMem} (h : RC A σ) {k : Nat} (hk : k < nfA A) {y : Int32} (hy : inR 3 y = true) : fX7_floor (nI k) y σ = some (rFloor A k y, σ) := by
  have h9 := nfA_le hA
  have hck : (nI k).toNatClampNeg = k := nI_clamp (by omega)
  have hx := ixF (show k < 9 by omega) (by decide)
  obtain ⟨e1, e2, e3⟩ := (h.2.1.2.2 (fun _ => true) (fun _ => true)).2.1 k hk
  unfold fX7_floor rFloor
  rw [c_isFloor h, inR_nI (by omega) hk]
  simp only [Option.bind, b2_0, Bool.true_eq_false, ↓reduceIte, hck, hx, e1, e2, e3]
  rcases in3 hy with rfl | rfl | rfl
  · rfl
  · rfl
  · rfl
theorem q_floor {A : vA} (hA : WA A) (x y : Int32) : vJ A (fX7_floor x y) (fX8_floor x y) := by
  have h9 := nfA_le hA
  by_cases q : inR (nfA A) x = true
  · obtain ⟨k, hk, rfl⟩ := inR_ex (by omega) q
    by_cases z : inR 3 y = true
    · refine ⟨rFloor A k y, A, hA, fun σ h => ⟨σ, c_floorR hA h hk z, h⟩, fun σ h => ?_⟩
      obtain ⟨σ', a1, a2, a3⟩ := m_isFloor hA h (nI k)
      refine ⟨σ', ?_, a2⟩
      unfold fX8_floor fX8_floor_28
      rw [a1, q]
      simp only [Option.bind, b2_0, Bool.true_eq_false, ↓reduceIte]
      rw [m_in2, z]
      simp only [b2_0, Bool.true_eq_false, ↓reduceIte]
      rw [m_floorOf hA a3 hk]
    · have z := inR_F z
      refine ⟨-2, A, hA, fun σ h => ⟨σ, ?_, h⟩, fun σ h => ?_⟩
      · obtain ⟨z0, z1, z2⟩ := in3F z
        unfold fX7_floor
        rw [c_isFloor h, q]
        simp only [Option.bind, b2_0, Bool.true_eq_false, ↓reduceIte, z0, z1, z2]
      · obtain ⟨σ', a1, a2, a3⟩ := m_isFloor hA h (nI k)
        refine ⟨σ', ?_, a2⟩
        unfold fX8_floor fX8_floor_26 fX8_floor_28
        rw [a1, q]
        simp only [Option.bind, b2_0, Bool.true_eq_false, ↓reduceIte]
        rw [m_in2, z]
        rfl
  · have q := inR_F q
    refine ⟨-2, A, hA, fun σ h => ⟨σ, ?_, h⟩, fun σ h => ?_⟩
    · unfold fX7_floor
      rw [c_isFloor h, q]
      rfl
    · obtain ⟨σ', a1, a2, a3⟩ := m_isFloor hA h x
      refine ⟨σ', ?_, a2⟩
      unfold fX8_floor fX8_floor_26 fX8_floor_28
      rw [a1, q]
      rfl
/-- the trip as told, at its end -/
noncomputable abbrev TT (A : vA) : vT := tRun (PT A) 40
noncomputable def rComes (A : vA) (k : Nat) : Int32 := tup (TT A) k
theorem c_comesR {A : vA} (hA : WA A) {σ : vMem} (h : RC A σ) {k : Nat} (hk : k < nbA A) : ∃ σ', fX7_comes (nI k) σ = some (rComes A k, σ') ∧ RC A σ' := by
  have h8 := nbA_le hA
  obtain ⟨σ', a1, a2, w, y, sn, a3⟩ := c_told hA h
  refine ⟨σ', ?_, a2⟩
  unfold fX7_comes
  rw [c_isBasket h, inR_nI (by omega) hk]
  simp only [Option.bind, b2_0, Bool.true_eq_false, ↓reduceIte, nI_clamp (show k < 2 ^ 31 by omega), ixF (show k < 8 by omega) (by decide), a1]
  rw [a3.2.2.2.2.1 k hk]
  rfl
theorem m_comesOf {A : vA} (hA : WA A) {σ : vMem} (h : RM A σ) {k : Nat} (hk : k < nbA A) : ∃ σ', fX8_comesOf (nI k) σ = some (rComes A k, σ') ∧ RM A σ' ∧ MD A σ' := by
  have h8 := nbA_le hA
  obtain ⟨σ0, σ', a1, a2, a3⟩ := m_told hA h
  refine ⟨σ', ?_, a2.1, a2.2.1⟩
  unfold fX8_comesOf
  rw [a1]
  simp only [Option.bind, ↓reduceIte, nI_clamp (show k < 2 ^ 31 by omega), ixF (show k < 8 by omega) (by decide)]
  rw [a3.1.2.2.2.2.2.2.2.1 k hk]
  rfl
theorem q_comes {A : vA} (hA : WA A) (x : Int32) : vJ A (fX7_comes x) (fX8_comes x) := by
  have h8 := nbA_le hA
  by_cases q : inR (nbA A) x = true
  · obtain ⟨k, hk, rfl⟩ := inR_ex (by omega) q
    refine ⟨rComes A k, A, hA, fun σ h => c_comesR hA h hk, fun σ h => ?_⟩
    obtain ⟨σ1, a1, a2, a3⟩ := m_isBasket hA h (nI k)
    obtain ⟨σ', b1, b2, b3⟩ := m_comesOf hA a2 hk
    refine ⟨σ', ?_, b2⟩
    unfold fX8_comes fX8_comes_18
    rw [a1, q]
    simp only [Option.bind, b2_0, Bool.true_eq_false, ↓reduceIte, b1]
  · have q := inR_F q
    refine ⟨-2, A, hA, fun σ h => ⟨σ, ?_, h⟩, fun σ h => ?_⟩
    · unfold fX7_comes
      rw [c_isBasket h, q]
      rfl
    · obtain ⟨σ', a1, a2, a3⟩ := m_isBasket hA h x
      refine ⟨σ', ?_, a2⟩
      unfold fX8_comes fX8_comes_18
      rw [a1, q]
      rfl
noncomputable def rBites (A : vA) (k : Nat) (y : Int32) : Int32 := if y = 0 then tof (TT A) k else nI (tea (TT A) k)
theorem c_bitesR {A : vA} (hA : WA A) {σ : vMem} (h : RC A σ) {k : Nat} (hk : k < nfA A) {y : Int32} (hy : inR 2 y = true) : ∃ σ', fX7_bites (nI k) y σ = some (rBites A k y, σ') ∧ RC A σ' := by
  have h8 := nfA_le hA
  obtain ⟨σ', a1, a2, w, z, sn, a3⟩ := c_told hA h
  refine ⟨σ', ?_, a2⟩
  have e1 := a3.2.2.2.2.2.2.2.2.2.2.1 k hk
  have e2 := a3.2.2.2.2.2.2.2.2.2.2.2.1 k hk
  unfold fX7_bites fX7_bites_20 fX7_bites_49
  rw [c_isFloor h, inR_nI (by omega) hk]
  simp only [Option.bind, b2_0, Bool.true_eq_false, ↓reduceIte, nI_clamp (show k < 2 ^ 31 by omega), ixF (show k < 9 by omega) (by decide), a1, e1, e2]
  rcases in2 hy with rfl | rfl <;> rfl
theorem m_bitesOf {A : vA} (hA : WA A) {σ : vMem} (h : RM A σ) {k : Nat} (hk : k < nfA A) (y : Int32) : ∃ σ', fX8_bitesOf (nI k) y σ = some (rBites A k y, σ') ∧ RM A σ' ∧ MD A σ' := by
  have h8 := nfA_le hA
  obtain ⟨σ0, σ', a1, a2, a3⟩ := m_told hA h
  refine ⟨σ', ?_, a2.1, a2.2.1⟩
  have e1 := a3.1.2.2.2.2.2.2.2.2.2.1 k hk
  have e2 := a3.1.2.2.2.2.2.2.2.2.2.2.1 k hk
  unfold fX8_bitesOf fX8_bitesOf_23 rBites
  rw [a1]
  simp only [Option.bind, ↓reduceIte, nI_clamp (show k < 2 ^ 31 by omega), ixF (show k < 9 by omega) (by decide), e1, e2]
  by_cases y0 : y = 0 <;> simp only [y0, ↓reduceIte]
theorem q_bites {A : vA} (hA : WA A) (x y : Int32) : vJ A (fX7_bites x y) (fX8_bites x y) := by
  have h9 := nfA_le hA
  by_cases q : inR (nfA A) x = true
  · obtain ⟨k, hk, rfl⟩ := inR_ex (by omega) q
    by_cases z : inR 2 y = true
    · refine ⟨rBites A k y, A, hA, fun σ h => c_bitesR hA h hk z, fun σ h => ?_⟩
      obtain ⟨σ1, a1, a2, a3⟩ := m_isFloor hA h (nI k)
      obtain ⟨σ', b1, b2, b3⟩ := m_bitesOf hA a2 hk y
      refine ⟨σ', ?_, b2⟩
      unfold fX8_bites fX8_bites_28
      rw [a1, q]
      simp only [Option.bind, b2_0, Bool.true_eq_false, ↓reduceIte]
      rw [m_in1, z]
      simp only [b2_0, Bool.true_eq_false, ↓reduceIte, b1]
    · have z := inR_F z
      refine ⟨-2, A, hA, fun σ h => ⟨σ, ?_, h⟩, fun σ h => ?_⟩
      · obtain ⟨z0, z1⟩ := in2F z
        unfold fX7_bites fX7_bites_17
        rw [c_isFloor h, q]
        simp only [Option.bind, b2_0, Bool.true_eq_false, ↓reduceIte, z0, z1]
      · obtain ⟨σ', a1, a2, a3⟩ := m_isFloor hA h (nI k)
        refine ⟨σ', ?_, a2⟩
        unfold fX8_bites fX8_bites_26 fX8_bites_28
        rw [a1, q]
        simp only [Option.bind, b2_0, Bool.true_eq_false, ↓reduceIte]
        rw [m_in1, z]
        rfl
  · have q := inR_F q
    refine ⟨-2, A, hA, fun σ h => ⟨σ, ?_, h⟩, fun σ h => ?_⟩
    · unfold fX7_bites
      rw [c_isFloor h, q]
      rfl
    · obtain ⟨σ', a1, a2, a3⟩ := m_isFloor hA h x
      refine ⟨σ', ?_, a2⟩
      unfold fX8_bites fX8_bites_26 fX8_bites_28
      rw [a1, q]
      rfl
noncomputable def rFirst (A : vA) (y : Int32) : Int32 := if y = 0 then tfh (TT A) else tff (TT A)
theorem c_firstR {A : vA} (hA : WA A) {σ : vMem} (h : RC A σ) {y : Int32} (hy : inR 2 y = true) : ∃ σ', fX7_first y σ = some (rFirst A y, σ') ∧ RC A σ' := by
  obtain ⟨σ', a1, a2, w, z, sn, a3⟩ := c_told hA h
  refine ⟨σ', ?_, a2⟩
  have e1 := a3.2.2.2.2.2.2.2.2.2.2.2.2.2.2.1
  have e2 := a3.2.2.2.2.2.2.2.2.2.2.2.2.2.2.2
  unfold fX7_first fX7_first_12 fX7_first_37
  simp only [a1, Option.bind, e1, e2]
  rcases in2 hy with rfl | rfl <;> rfl
theorem m_firstOf {A : vA} (hA : WA A) {σ : vMem} (h : RM A σ) (y : Int32) : ∃ σ', fX8_firstOf y σ = some (rFirst A y, σ') ∧ RM A σ' ∧ MD A σ' := by
  obtain ⟨σ0, σ', a1, a2, a3⟩ := m_told hA h
  refine ⟨σ', ?_, a2.1, a2.2.1⟩
  have e1 := a3.1.2.2.2.2.2.2.2.2.2.2.2.1
  have e2 := a3.1.2.2.2.2.2.2.2.2.2.2.2.2
  unfold fX8_firstOf fX8_firstOf_19 rFirst
  rw [a1]
  simp only [Option.bind, e1, e2]
  by_cases y0 : y = 0 <;> simp only [y0, ↓reduceIte]
theorem q_first {A : vA} (hA : WA A) (y : Int32) : vJ A (fX7_first y) (fX8_first y) := by
  by_cases z : inR 2 y = true
  · refine ⟨rFirst A y, A, hA, fun σ h => c_firstR hA h z, fun σ h => ?_⟩
    obtain ⟨σ', b1, b2, b3⟩ := m_firstOf hA h y
    refine ⟨σ', ?_, b2⟩
    unfold fX8_first fX8_first_19
    rw [m_in1, z]
    simp only [Option.bind, b2_0, Bool.true_eq_false, ↓reduceIte, b1]
  · have z := inR_F z
    refine ⟨-2, A, hA, fun σ h => ⟨σ, ?_, h⟩, fun σ h => ⟨σ, ?_, h⟩⟩
    · obtain ⟨z0, z1⟩ := in2F z
      unfold fX7_first
      simp only [↓reduceIte, z0, z1]
    · unfold fX8_first fX8_first_19
      rw [m_in1, z]
      rfl
