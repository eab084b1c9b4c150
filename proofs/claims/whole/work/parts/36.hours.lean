/-! at, famine, greedy, count -/
noncomputable def rAt (A : vA) (h k y : Nat) : Int32 :=
  if y = 0 then (if pho (PT A) k ≤ h then nI (tpl (tMid (PT A) h (tRun (PT A) h)) k) else -1)
  else if y = 1 then nI (tld (tMid (PT A) h (tRun (PT A) h)) k)
  else if y = 2 then nI (tnl (tMid (PT A) h (tRun (PT A) h)) k)
  else b2 (tThere (PT A) h (tMid (PT A) h (tRun (PT A) h)) k && tTg (PT A) h (tMid (PT A) h (tRun (PT A) h)) k)
theorem c_atR {A : vA} (hA : WA A) {σ : vMem} (h : RC A σ) {t k y : Nat} (ht : t < 40) (hk : k < nbA A) (hy : y < 4) : ∃ σ', fX7_at (nI t) (nI k) (nI y) σ = some (rAt A t k y, σ') ∧ RC A σ' := by
  have h8 := nbA_le hA
  have hP := WP_PA hA (bitAt (wAll A)) (bitAt (sAll A))
  obtain ⟨σ', a1, a2, w, z, a3, a4⟩ := c_goR hA h (wAll A) (sAll A) (show t ≤ 40 by omega)
  refine ⟨σ', ?_, a2⟩
  rw [if_pos ht] at a3
  have a4 := a4 ht k hk
  have l3 : nI y ≤ 3 := (nI_leI (b := 3) (by omega) (by decide)).mpr (by omega)
  unfold fX7_at rAt
  rw [c_isHour, inR_nI (by omega) ht]
  simp only [Option.bind, b2_0, Bool.true_eq_false, ↓reduceIte]
  rw [c_isBasket h, inR_nI (by omega) hk]
  simp only [Option.bind, b2_0, Bool.true_eq_false, ↓reduceIte, nI_lt0 (show y < 2 ^ 31 by omega), l3]
  rw [c_all25 hA h]
  simp only
  rw [c_all27 hA h]
  simp only [a1, nI_clamp (show k < 2 ^ 31 by omega), ixF (show k < 8 by omega) (by decide), ↓reduceIte, a4]
  rw [a3.2.2.1 k hk, a3.2.2.2.1 k hk, c_letters hP a3 hk]
  simp only [decide_eq_true_eq]
  rcases (show y = 0 ∨ y = 1 ∨ y = 2 ∨ y = 3 by omega) with rfl | rfl | rfl | rfl
  · rfl
  · rfl
  · rfl
  · rfl
theorem m_atOf {A : vA} (hA : WA A) {σ : vMem} (h : RM A σ) {t k y : Nat} (ht : t < 40) (hk : k < nbA A) (hy : y < 4) : ∃ σ', fX8_atOf (nI t) (nI k) (nI y) σ = some (rAt A t k y, σ') ∧ RM A σ' ∧ MD A σ' := by
  have h8 := nbA_le hA
  obtain ⟨σ0, σ', a1, a2, a3⟩ := m_told hA h
  refine ⟨σ', ?_, a2.1, a2.2.1⟩
  obtain ⟨b1, b2⟩ := a3.2 t ht
  obtain ⟨e1, e2, e3⟩ := b1 k hk
  have e4 := b2 k hk
  unfold fX8_atOf fX8_atOf_71 rAt
  rw [a1]
  have e5 : 8 * nI t + nI k = nI (8 * t + k) := by
    rw [show (8 : Int32) = nI 8 from rfl, pk_mul, nI_add]
  simp only [Option.bind, e5, nI_clamp (show 8 * t + k < 2 ^ 31 by omega), ixF (show 8 * t + k < 320 by omega) (by decide), ↓reduceIte, e1, e2, e3, e4]
  rcases (show y = 0 ∨ y = 1 ∨ y = 2 ∨ y = 3 by omega) with rfl | rfl | rfl | rfl
  · rfl
  · rfl
  · rfl
  · generalize (tThere (PT A) t (tMid (PT A) t (tRun (PT A) t)) k && tTg (PT A) t (tMid (PT A) t (tRun (PT A) t)) k) = q
    cases q <;> rfl
theorem q_at {A : vA} (hA : WA A) (x y z : Int32) : vJ A (fX7_at x y z) (fX8_at x y z) := by
  have h9 := nbA_le hA
  by_cases p : inR 40 x = true
  · obtain ⟨t, ht, rfl⟩ := inR_ex (by omega) p
    by_cases q : inR (nbA A) y = true
    · obtain ⟨k, hk, rfl⟩ := inR_ex (by omega) q
      by_cases r : inR 4 z = true
      · obtain ⟨j, hj, rfl⟩ := inR_ex (by omega) r
        refine ⟨rAt A t k j, A, hA, fun σ h => c_atR hA h ht hk hj, fun σ h => ?_⟩
        obtain ⟨σ1, a1, a2, a3⟩ := m_isBasket hA h (nI k)
        obtain ⟨σ', b1, b2, b3⟩ := m_atOf hA a2 ht hk hj
        refine ⟨σ', ?_, b2⟩
        unfold fX8_at fX8_at_36
        rw [m_isHour, p]
        simp only [Option.bind, b2_0, Bool.true_eq_false, ↓reduceIte]
        rw [a1, q]
        simp only [b2_0, Bool.true_eq_false, ↓reduceIte]
        rw [m_in3, r]
        simp only [b2_0, Bool.true_eq_false, ↓reduceIte, b1]
      · have r := inR_F r
        refine ⟨-2, A, hA, fun σ h => ⟨σ, ?_, h⟩, fun σ h => ?_⟩
        · unfold fX7_at fX7_at_24
          rw [c_isHour, p]
          simp only [Option.bind, b2_0, Bool.true_eq_false, ↓reduceIte]
          rw [c_isBasket h, q]
          simp only [Option.bind, b2_0, Bool.true_eq_false, ↓reduceIte]
          rcases inR_F2 r with z1 | ⟨z1, z2⟩
          · rw [if_pos z1]
          · rw [if_neg z1, if_neg (show ¬ z ≤ (3 : Int32) from inR_le (n := 3) (by omega) z2)]
        · obtain ⟨σ', a1, a2, a3⟩ := m_isBasket hA h (nI k)
          refine ⟨σ', ?_, a2⟩
          unfold fX8_at fX8_at_34 fX8_at_36
          rw [m_isHour, p]
          simp only [Option.bind, b2_0, Bool.true_eq_false, ↓reduceIte]
          rw [a1, q]
          simp only [b2_0, Bool.true_eq_false, ↓reduceIte]
          rw [m_in3, r]
          rfl
    · have q := inR_F q
      refine ⟨-2, A, hA, fun σ h => ⟨σ, ?_, h⟩, fun σ h => ?_⟩
      · unfold fX7_at
        rw [c_isHour, p]
        simp only [Option.bind, b2_0, Bool.true_eq_false, ↓reduceIte]
        rw [c_isBasket h, q]
        rfl
      · obtain ⟨σ', a1, a2, a3⟩ := m_isBasket hA h y
        refine ⟨σ', ?_, a2⟩
        unfold fX8_at fX8_at_34 fX8_at_36
        rw [m_isHour, p]
        simp only [Option.bind, b2_0, Bool.true_eq_false, ↓reduceIte]
        rw [a1, q]
        rfl
  · have p := inR_F p
    refine ⟨-2, A, hA, fun σ h => ⟨σ, ?_, h⟩, fun σ h => ⟨σ, ?_, h⟩⟩
    · unfold fX7_at
      rw [c_isHour, p]
      rfl
    · unfold fX8_at
      rw [m_isHour, p]
      rfl
/-- what came up -/
def upS (P : vP) (T : vT) : Int32 := sumF (pnb P) (fun k => if tup T k = -1 then 0 else nI (tld T k))
theorem i32_add0 (x : Int32) : x + 0 = x := Int32.add_zero x
theorem c_loadUp {P : vP} (hP : WP P) {T : vT} {σ : vMem} (h5 : σ.1 5 5 = nI (pnb P)) (h15 : ∀ b, b < pnb P → σ.1 15 b = nI (tld T b)) (h17 : ∀ b, b < pnb P → σ.1 17 b = tup T b) : fX6_loadUp σ = some (upS P T, σ) := by
  have h8 := hP.2.1
  have key : ∀ (k n i : Nat), i + k = pnb P → k < n → LfX6_loadUp_4 n (sumF i (fun k => if tup T k = -1 then 0 else nI (tld T k))) (nI i) σ = some (upS P T, σ) := by
    intro k
    induction k with
    | zero =>
      intro n i hik hn
      obtain ⟨n, rfl⟩ : ∃ j, n = j + 1 := ⟨n - 1, by omega⟩
      have : i = pnb P := by omega
      subst this
      show fX6_loadUp_4 _ _ _ _ = _
      unfold fX6_loadUp_4
      rw [h5, if_pos (Int32.le_refl _)]
      rfl
    | succ k ih =>
      intro n i hik hn
      obtain ⟨n, rfl⟩ : ∃ j, n = j + 1 := ⟨n - 1, by omega⟩
      have hlt : (nI (pnb P) ≤ nI i) = False := eq_false (fun z => by have := (nI_leI (by omega) (by omega)).mp z; omega)
      show fX6_loadUp_4 _ _ _ _ = _
      unfold fX6_loadUp_4 fX6_loadUp_34
      simp only [h5, hlt, ↓reduceIte, nI_clamp (show i < 2 ^ 31 by omega), ixF (show i < 8 by omega) (by decide), h15 i (by omega), h17 i (by omega), nI_1]
      have := ih n (i + 1) (by omega) (by omega)
      rw [sumF] at this
      by_cases z : tup T i = -1
      · simp only [z, ↓reduceIte, i32_add0] at this ⊢
        exact this
      · simp only [z, ↓reduceIte] at this ⊢
        exact this
  exact key (pnb P) 200 0 (by omega) (by omega)
theorem m_upMuch {P : vP} (hP : WP P) {T : vT} {σ : vMem} (h5 : σ.1 0 6 = nI (pnb P)) (h15 : ∀ b, b < pnb P → σ.1 13 b = nI (tld T b)) (h17 : ∀ b, b < pnb P → σ.1 18 b = tup T b) : fX8_upMuch σ = some (upS P T, σ) := by
  have h8 := hP.2.1
  have key : ∀ (k n i : Nat), i + k = pnb P → k < n → LfX8_upMuch_4 n (sumF i (fun k => if tup T k = -1 then 0 else nI (tld T k))) (nI i) σ = some (upS P T, σ) := by
    intro k
    induction k with
    | zero =>
      intro n i hik hn
      obtain ⟨n, rfl⟩ : ∃ j, n = j + 1 := ⟨n - 1, by omega⟩
      have : i = pnb P := by omega
      subst this
      show fX8_upMuch_4 _ _ _ _ = _
      unfold fX8_upMuch_4
      rw [h5, if_pos (Int32.le_refl _)]
      rfl
    | succ k ih =>
      intro n i hik hn
      obtain ⟨n, rfl⟩ : ∃ j, n = j + 1 := ⟨n - 1, by omega⟩
      have hlt : (nI (pnb P) ≤ nI i) = False := eq_false (fun z => by have := (nI_leI (by omega) (by omega)).mp z; omega)
      show fX8_upMuch_4 _ _ _ _ = _
      unfold fX8_upMuch_4 fX8_upMuch_33
      simp only [h5, hlt, ↓reduceIte, nI_clamp (show i < 2 ^ 31 by omega), ixF (show i < 8 by omega) (by decide), h15 i (by omega), h17 i (by omega), nI_1]
      have := ih n (i + 1) (by omega) (by omega)
      rw [sumF] at this
      by_cases z : tup T i = -1
      · simp only [z, ↓reduceIte, i32_add0] at this ⊢
        exact this
      · simp only [z, ↓reduceIte] at this ⊢
        exact this
  exact key (pnb P) 200 0 (by omega) (by omega)
theorem c_inAll {P : vP} (hP : WP P) {σ : vMem} (h : DC P σ) : fX5_loadInAll σ = some (sumF (pnb P) (fun k => nI (plo P k)), σ) := by
  have h8 := hP.2.1
  have h5 := h.1.2.1
  have key : ∀ (k n i : Nat), i + k = pnb P → k < n → LfX5_loadInAll_4 n (sumF i (fun k => nI (plo P k))) (nI i) σ = some (sumF (pnb P) (fun k => nI (plo P k)), σ) := by
    intro k
    induction k with
    | zero =>
      intro n i hik hn
      obtain ⟨n, rfl⟩ : ∃ j, n = j + 1 := ⟨n - 1, by omega⟩
      have : i = pnb P := by omega
      subst this
      show fX5_loadInAll_4 _ _ _ _ = _
      unfold fX5_loadInAll_4
      rw [h5, if_pos (Int32.le_refl _)]
    | succ k ih =>
      intro n i hik hn
      obtain ⟨n, rfl⟩ : ∃ j, n = j + 1 := ⟨n - 1, by omega⟩
      have hlt : (nI (pnb P) ≤ nI i) = False := eq_false (fun z => by have := (nI_leI (by omega) (by omega)).mp z; omega)
      show fX5_loadInAll_4 _ _ _ _ = _
      unfold fX5_loadInAll_4
      simp only [h5, hlt, ↓reduceIte, nI_clamp (show i < 2 ^ 31 by omega), ixF (show i < 8 by omega) (by decide), (h.2.2 i (by omega)).2.1, nI_1]
      have := ih n (i + 1) (by omega) (by omega)
      rw [sumF] at this
      exact this
  exact key (pnb P) 200 0 (by omega) (by omega)
noncomputable def rFamine (A : vA) : Int32 := sumF (nbA A) (fun k => nI (plo (PT A) k)) - upS (PT A) (TT A)
theorem c_famineR {A : vA} (hA : WA A) {σ : vMem} (h : RC A σ) : ∃ σ', fX7_famine σ = some (rFamine A, σ') ∧ RC A σ' := by
  have hP := WP_PA hA (bitAt (wAll A)) (bitAt (sAll A))
  obtain ⟨σ', a1, a2, w, z, sn, a3⟩ := c_told hA h
  refine ⟨σ', ?_, a2⟩
  unfold fX7_famine
  rw [a1]
  simp only [Option.bind]
  rw [c_inAll hP a3.dc]
  simp only
  rw [c_loadUp (T := TT A) hP a3.dc.1.2.1 a3.2.2.2.1 a3.2.2.2.2.1]
  rfl
theorem m_famineNow {A : vA} (hA : WA A) {σ : vMem} (h : RM A σ) : ∃ σ', fX8_famineNow σ = some (rFamine A, σ') ∧ RM A σ' ∧ MD A σ' := by
  have hP := WP_PA hA (bitAt (wAll A)) (bitAt (sAll A))
  have h8 := nbA_le hA
  obtain ⟨σ0, σ', a1, a2, a3⟩ := m_told hA h
  refine ⟨σ', ?_, a2.1, a2.2.1⟩
  have h5 := a2.2.1.1.2
  have key : ∀ (k n i : Nat), i + k = nbA A → k < n → LfX8_famineNow_8 n (sumF i (fun k => nI (plo (PT A) k))) (nI i) σ' = some (rFamine A, σ') := by
    intro k
    induction k with
    | zero =>
      intro n i hik hn
      obtain ⟨n, rfl⟩ : ∃ j, n = j + 1 := ⟨n - 1, by omega⟩
      have : i = nbA A := by omega
      subst this
      show fX8_famineNow_8 _ _ _ _ = _
      unfold fX8_famineNow_8
      rw [h5, if_pos (Int32.le_refl _), m_upMuch (T := TT A) hP h5 a3.1.2.2.1 a3.1.2.2.2.2.2.2.2.1]
      rfl
    | succ k ih =>
      intro n i hik hn
      obtain ⟨n, rfl⟩ : ∃ j, n = j + 1 := ⟨n - 1, by omega⟩
      have hlt : (nI (nbA A) ≤ nI i) = False := eq_false (fun z => by have := (nI_leI (by omega) (by omega)).mp z; omega)
      have e7 : σ'.1 7 i = nI (plo (PT A) i) := (a2.2.1.2.2 i (by omega)).2.1
      show fX8_famineNow_8 _ _ _ _ = _
      unfold fX8_famineNow_8
      simp only [h5, hlt, ↓reduceIte, nI_clamp (show i < 2 ^ 31 by omega), ixF (show i < 9 by omega) (by decide), e7, nI_1]
      have := ih n (i + 1) (by omega) (by omega)
      rw [sumF] at this
      exact this
  unfold fX8_famineNow
  rw [a1]
  exact key (nbA A) 200 0 (by omega) (by omega)
theorem q_famine {A : vA} (hA : WA A) : vJ A fX7_famine fX8_famine := by
  refine ⟨rFamine A, A, hA, fun σ h => c_famineR hA h, fun σ h => ?_⟩
  obtain ⟨σ', a1, a2, a3⟩ := m_famineNow hA h
  refine ⟨σ', ?_, a2⟩
  unfold fX8_famine
  rw [a1]
  rfl
