/-! basket, note, at, famine -/
noncomputable def rTold (A : vA) (k i : Nat) : Int32 := if i < sz (t1 A) (n1 A) (sA A k) then t1 A (sA A k + 4 + i) - 97 else -1
noncomputable def rBasket (A : vA) (k y : Nat) : Int32 :=
  if y = 0 then nI (pho (PT A) k) else if y = 1 then nI (plo (PT A) k) else if y = 2 then nI (ple (PT A) k) else rTold A k (y - 3)
theorem c_toldL {A : vA} (hA : WA A) {σ : vMem} (h : RC A σ) {k i : Nat} (hk : k < nbA A) (hi : i ≤ 1000) : fX5_toldLetter (nI k) (nI i) σ = some (rTold A k i, σ) := by
  have h8 := nbA_le hA
  obtain ⟨e1, e2, e3, e4⟩ := (h.2.1.2.2 (fun _ => true) (fun _ => true)).2.2 k hk
  have hs := sz_in (t1 A) (n1 A) (sA A k)
  have e3 : σ.1 11 k = nI (sz (t1 A) (n1 A) (sA A k)) := e3
  unfold fX5_toldLetter fX5_toldLetter_27 fX5_toldLetter_28 rTold
  simp only [nI_lt0 (show i < 2 ^ 31 by omega), nI_clamp (show k < 2 ^ 31 by omega), ixF (show k < 8 by omega) (by decide), ↓reduceIte, e3]
  have hle := nI_leI (a := sz (t1 A) (n1 A) (sA A k)) (b := i) (by omega) (by omega)
  by_cases q : i < sz (t1 A) (n1 A) (sA A k)
  · have e5 : nI k * 3 + nI i = nI (3 * k + i) := by
      rw [show (3 : Int32) = nI 3 from rfl, pk_mul, nI_add, Nat.mul_comm]
    rw [if_neg (fun z => by have := hle.mp z; omega), if_pos q, e5, nI_clamp (by omega)]
    simp only [ixF (show 3 * k + i < 24 by omega) (by decide), ↓reduceIte]
    rw [e4 i q]
    rfl
  · rw [if_pos (hle.mpr (by omega)), if_neg q]
theorem in6 {y : Int32} (h : inR 6 y = true) : y = 0 ∨ y = 1 ∨ y = 2 ∨ y = 3 ∨ y = 4 ∨ y = 5 := by
  obtain ⟨k, hk, rfl⟩ := inR_ex (by decide) h
  rcases (show k = 0 ∨ k = 1 ∨ k = 2 ∨ k = 3 ∨ k = 4 ∨ k = 5 by omega) with rfl | rfl | rfl | rfl | rfl | rfl
  · exact Or.inl rfl
  · exact Or.inr (Or.inl rfl)
  · exact Or.inr (Or.inr (Or.inl rfl))
  · exact Or.inr (Or.inr (Or.inr (Or.inl rfl)))
  · exact Or.inr (Or.inr (Or.inr (Or.inr (Or.inl rfl))))
  · exact Or.inr (Or.inr (Or.inr (Or.inr (Or.inr rfl))))
theorem inR_F2 {n : Nat} {x : Int32} (h : inR n x = false) : x < 0 ∨ (¬ x < 0 ∧ nI n ≤ x) := by
  unfold inR at h
  have := of_decide_eq_false h
  by_cases q : x < 0
  · exact Or.inl q
  · exact Or.inr ⟨q, i32_lt_not.mp (fun z => this ⟨q, z⟩)⟩
theorem inR_le {n : Nat} (hn : n + 1 < 2 ^ 31) {x : Int32} (h : nI (n + 1) ≤ x) : ¬ x ≤ nI n := fun z => by
  have := Int32.le_trans h z
  have := (nI_leI (a := n + 1) (b := n) hn (by omega)).mp this
  omega
theorem c_basketR {A : vA} (hA : WA A) {σ : vMem} (h : RC A σ) {k y : Nat} (hk : k < nbA A) (hy : y < 6) : fX7_basket (nI k) (nI y) σ = some (rBasket A k y, σ) := by
  have h8 := nbA_le hA
  obtain ⟨e1, e2, e3, e4⟩ := (h.2.1.2.2 (fun _ => true) (fun _ => true)).2.2 k hk
  have e1 : σ.1 9 k = nI (pho (PT A) k) := e1
  have e2 : σ.1 10 k = nI (plo (PT A) k) := e2
  have e3 : σ.1 11 k = nI (ple (PT A) k) := e3
  have l5 : nI y ≤ 5 := (nI_leI (b := 5) (by omega) (by decide)).mpr (by omega)
  unfold fX7_basket rBasket
  rw [c_isBasket h, inR_nI (by omega) hk]
  simp only [Option.bind, b2_0, Bool.true_eq_false, ↓reduceIte, nI_clamp (show k < 2 ^ 31 by omega), ixF (show k < 8 by omega) (by decide), e1, e2, e3, nI_lt0 (show y < 2 ^ 31 by omega), l5]
  rcases (show y = 0 ∨ y = 1 ∨ y = 2 ∨ 3 ≤ y by omega) with rfl | rfl | rfl | q
  · rfl
  · rfl
  · rfl
  · rw [if_neg (fun z => by have := (nI_eq (b := 0) (by omega) (by decide)).mp z; omega), if_neg (fun z => by have := (nI_eq (b := 1) (by omega) (by decide)).mp z; omega), if_neg (fun z => by have := (nI_eq (b := 2) (by omega) (by decide)).mp z; omega)]
    rw [if_neg (show ¬ y = 0 by omega), if_neg (show ¬ y = 1 by omega), if_neg (show ¬ y = 2 by omega)]
    have e5 : nI y - 3 = nI (y - 3) := pk_sub (b := 3) q
    rw [e5, c_toldL hA h hk (by omega)]
theorem m_basketOf {A : vA} (hA : WA A) {σ : vMem} (h : MD A σ) {k y : Nat} (hk : k < nbA A) (hy : y < 6) : fX8_basketOf (nI k) (nI y) σ = some (rBasket A k y, σ) := by
  have h8 := nbA_le hA
  obtain ⟨e1, e2, e3, e4⟩ := h.2.2 k hk
  have hs := sz_in (t1 A) (n1 A) (sA A k)
  have e1 : σ.1 6 k = nI (pho (PT A) k) := e1
  have e2 : σ.1 7 k = nI (plo (PT A) k) := e2
  unfold fX8_basketOf fX8_basketOf_69 rBasket
  simp only [↓reduceIte, nI_clamp (show k < 2 ^ 31 by omega), ixF (show k < 9 by omega) (by decide), e1, e2, e3]
  rcases (show y = 0 ∨ y = 1 ∨ y = 2 ∨ 3 ≤ y by omega) with rfl | rfl | rfl | q
  · rfl
  · rfl
  · rfl
  · rw [if_neg (fun z => by have := (nI_eq (b := 0) (by omega) (by decide)).mp z; omega), if_neg (fun z => by have := (nI_eq (b := 1) (by omega) (by decide)).mp z; omega), if_neg (fun z => by have := (nI_eq (b := 2) (by omega) (by decide)).mp z; omega)]
    rw [if_neg (show ¬ y = 0 by omega), if_neg (show ¬ y = 1 by omega), if_neg (show ¬ y = 2 by omega)]
    have e5 : nI y - 3 = nI (y - 3) := pk_sub (b := 3) q
    have e6 : 3 * nI k + nI y - 3 = nI (3 * k + (y - 3)) := by
      rw [show (3 : Int32) = nI 3 from rfl, pk_mul, nI_add, pk_sub (b := 3) (by omega)]
      congr 1
      omega
    rw [e5, e6]
    unfold rTold
    have hle := nI_leI (a := sz (t1 A) (n1 A) (sA A k)) (b := y - 3) (by omega) (by omega)
    by_cases z : y - 3 < sz (t1 A) (n1 A) (sA A k)
    · rw [if_neg (fun z => by have := hle.mp z; omega), if_pos z, nI_clamp (by omega)]
      simp only [ixF (show 3 * k + (y - 3) < 27 by omega) (by decide), ↓reduceIte]
      rw [e4 _ z]
    · rw [if_pos (hle.mpr (by omega)), if_neg z]
theorem q_basket {A : vA} (hA : WA A) (x y : Int32) : vJ A (fX7_basket x y) (fX8_basket x y) := by
  have h9 := nbA_le hA
  by_cases q : inR (nbA A) x = true
  · obtain ⟨k, hk, rfl⟩ := inR_ex (by omega) q
    by_cases z : inR 6 y = true
    · obtain ⟨y, hy, rfl⟩ := inR_ex (by omega) z
      refine ⟨rBasket A k y, A, hA, fun σ h => ⟨σ, c_basketR hA h hk hy, h⟩, fun σ h => ?_⟩
      obtain ⟨σ', a1, a2, a3⟩ := m_isBasket hA h (nI k)
      refine ⟨σ', ?_, a2⟩
      unfold fX8_basket fX8_basket_28
      rw [a1, q]
      simp only [Option.bind, b2_0, Bool.true_eq_false, ↓reduceIte]
      rw [m_in5, z]
      simp only [b2_0, Bool.true_eq_false, ↓reduceIte]
      rw [m_basketOf hA a3 hk hy]
    · have z := inR_F z
      refine ⟨-2, A, hA, fun σ h => ⟨σ, ?_, h⟩, fun σ h => ?_⟩
      · unfold fX7_basket fX7_basket_17
        rw [c_isBasket h, q]
        simp only [Option.bind, b2_0, Bool.true_eq_false, ↓reduceIte]
        rcases inR_F2 z with z1 | ⟨z1, z2⟩
        · rw [if_pos z1]
        · rw [if_neg z1, if_neg (show ¬ y ≤ (5 : Int32) from inR_le (n := 5) (by omega) z2)]
      · obtain ⟨σ', a1, a2, a3⟩ := m_isBasket hA h (nI k)
        refine ⟨σ', ?_, a2⟩
        unfold fX8_basket fX8_basket_26 fX8_basket_28
        rw [a1, q]
        simp only [Option.bind, b2_0, Bool.true_eq_false, ↓reduceIte]
        rw [m_in5, z]
        rfl
  · have q := inR_F q
    refine ⟨-2, A, hA, fun σ h => ⟨σ, ?_, h⟩, fun σ h => ?_⟩
    · unfold fX7_basket
      rw [c_isBasket h, q]
      rfl
    · obtain ⟨σ', a1, a2, a3⟩ := m_isBasket hA h x
      refine ⟨σ', ?_, a2⟩
      unfold fX8_basket fX8_basket_26 fX8_basket_28
      rw [a1, q]
      rfl
/-- a note's letter at last -/
def rNote (T : vT) (k i : Nat) : Int32 := if i < tnl T k then tnt T k i else -1
theorem c_letters {σ0 : vMem} {P : vP} {w y : Bool} {sn : Nat → Bool} {T : vT} {σ : vMem} (hP : WP P) (h : CS σ0 P w y sn T σ) {k : Nat} (hk : k < pnb P) : fX6_letters (nI k) σ = some (nI (tnl T k), σ) := by
  have h8 := hP.2.1
  unfold fX6_letters
  simp only [↓reduceIte, nI_clamp (show k < 2 ^ 31 by omega), ixF (show k < 8 by omega) (by decide)]
  rw [h.2.2.2.2.2.2.1 k hk, h.2.2.2.2.2.2.2.1 k hk, pk_sub (by omega), Nat.add_sub_cancel_left]
theorem c_letter {σ0 : vMem} {P : vP} {w y : Bool} {sn : Nat → Bool} {T : vT} {σ : vMem} (hP : WP P) (h : CS σ0 P w y sn T σ) {k i : Nat} (hk : k < pnb P) (h21 : tst T k + tnl T k ≤ 21) (hi : i ≤ 1000) : fX6_letter (nI k) (nI i) σ = some (rNote T k i, σ) := by
  have h8 := hP.2.1
  unfold fX6_letter fX6_letter_34 fX6_letter_35 rNote
  rw [c_letters hP h hk]
  simp only [Option.bind, nI_lt0 (show i < 2 ^ 31 by omega), nI_clamp (show k < 2 ^ 31 by omega), ixF (show k < 8 by omega) (by decide), ↓reduceIte]
  have hle := nI_leI (a := tnl T k) (b := i) (by omega) (by omega)
  by_cases q : i < tnl T k
  · rw [if_neg (fun z => by have := hle.mp z; omega), if_pos q, h.2.2.2.2.2.2.1 k hk]
    have e5 : nI k * 21 + nI (tst T k) + nI i = nI (21 * k + tst T k + i) := by
      rw [show (21 : Int32) = nI 21 from rfl, pk_mul, nI_add, nI_add, Nat.mul_comm]
    rw [e5, nI_clamp (by omega)]
    simp only [ixF (show 21 * k + tst T k + i < 168 by omega) (by decide), ↓reduceIte]
    rw [h.2.2.2.2.2.2.2.2.1 k hk i q]
  · rw [if_pos (hle.mpr (by omega)), if_neg q]
theorem T21 {P : vP} (hP : WP P) {k : Nat} (hk : k < pnb P) : tst (tRun P 40) k + tnl (tRun P 40) k ≤ 21 ∧ 1 ≤ tnl (tRun P 40) k :=
  tk_21 (h := 0) (U := tRun P 40) hP rfl ((tRun_TI P hP 40 (Nat.le_refl _)).1 k hk) (Or.inl rfl)
theorem c_noteR {A : vA} (hA : WA A) {σ : vMem} (h : RC A σ) {k i : Nat} (hk : k < nbA A) (hi : i < 12) : ∃ σ', fX7_note (nI k) (nI i) σ = some (rNote (TT A) k i, σ') ∧ RC A σ' := by
  have h8 := nbA_le hA
  have hP := WP_PA hA (bitAt (wAll A)) (bitAt (sAll A))
  obtain ⟨σ', a1, a2, w, z, sn, a3⟩ := c_told hA h
  refine ⟨σ', ?_, a2⟩
  have l5 : nI i < 12 := (nI_ltI (b := 12) (by omega) (by decide)).mpr (by omega)
  unfold fX7_note
  rw [c_isBasket h, inR_nI (by omega) hk]
  simp only [Option.bind, b2_0, Bool.true_eq_false, ↓reduceIte, nI_lt0 (show i < 2 ^ 31 by omega), l5, a1]
  rw [c_letter hP a3 hk (T21 hP hk).1 (by omega)]
theorem m_noteOf {A : vA} (hA : WA A) {σ : vMem} (h : RM A σ) {k i : Nat} (hk : k < nbA A) (hi : i < 12) : ∃ σ', fX8_noteOf (nI k) (nI i) σ = some (rNote (TT A) k i, σ') ∧ RM A σ' ∧ MD A σ' := by
  have h8 := nbA_le hA
  have hP := WP_PA hA (bitAt (wAll A)) (bitAt (sAll A))
  obtain ⟨σ0, σ', a1, a2, a3⟩ := m_told hA h
  refine ⟨σ', ?_, a2.1, a2.2.1⟩
  have h21 : tst (TT A) k + tnl (TT A) k ≤ 21 ∧ 1 ≤ tnl (TT A) k := T21 hP hk
  unfold fX8_noteOf fX8_noteOf_29 rNote
  rw [a1]
  simp only [Option.bind, ↓reduceIte, nI_clamp (show k < 2 ^ 31 by omega), ixF (show k < 8 by omega) (by decide)]
  rw [a3.1.2.2.2.1 k hk]
  have hle := nI_leI (a := tnl (TT A) k) (b := i) (by omega) (by omega)
  by_cases q : i < tnl (TT A) k
  · have e5 : 24 * nI k + nI i = nI (24 * k + i) := by
      rw [show (24 : Int32) = nI 24 from rfl, pk_mul, nI_add]
    rw [if_neg (fun z => by have := hle.mp z; omega), if_pos q, e5, nI_clamp (by omega)]
    simp only [ixF (show 24 * k + i < 192 by omega) (by decide), ↓reduceIte]
    rw [a3.1.2.2.2.2.1 k hk i q]
  · rw [if_pos (hle.mpr (by omega)), if_neg q]
theorem q_note {A : vA} (hA : WA A) (x y : Int32) : vJ A (fX7_note x y) (fX8_note x y) := by
  have h9 := nbA_le hA
  by_cases q : inR (nbA A) x = true
  · obtain ⟨k, hk, rfl⟩ := inR_ex (by omega) q
    by_cases z : inR 12 y = true
    · obtain ⟨y, hy, rfl⟩ := inR_ex (by omega) z
      refine ⟨rNote (TT A) k y, A, hA, fun σ h => c_noteR hA h hk hy, fun σ h => ?_⟩
      obtain ⟨σ1, a1, a2, a3⟩ := m_isBasket hA h (nI k)
      obtain ⟨σ', b1, b2, b3⟩ := m_noteOf hA a2 hk hy
      refine ⟨σ', ?_, b2⟩
      unfold fX8_note fX8_note_29
      rw [a1, q]
      simp only [Option.bind, b2_0, Bool.true_eq_false, ↓reduceIte]
      rw [m_in11, z]
      simp only [b2_0, Bool.true_eq_false, ↓reduceIte]
      rw [b1]
    · have z := inR_F z
      refine ⟨-2, A, hA, fun σ h => ⟨σ, ?_, h⟩, fun σ h => ?_⟩
      · unfold fX7_note fX7_note_18
        rw [c_isBasket h, q]
        simp only [Option.bind, b2_0, Bool.true_eq_false, ↓reduceIte]
        rcases inR_F2 z with z1 | ⟨z1, z2⟩
        · rw [if_pos z1]
        · rw [if_neg z1, if_neg (show ¬ y < (12 : Int32) from i32_lt_not.mpr z2)]
      · obtain ⟨σ', a1, a2, a3⟩ := m_isBasket hA h (nI k)
        refine ⟨σ', ?_, a2⟩
        unfold fX8_note fX8_note_27 fX8_note_29
        rw [a1, q]
        simp only [Option.bind, b2_0, Bool.true_eq_false, ↓reduceIte]
        rw [m_in11, z]
        rfl
  · have q := inR_F q
    refine ⟨-2, A, hA, fun σ h => ⟨σ, ?_, h⟩, fun σ h => ?_⟩
    · unfold fX7_note
      rw [c_isBasket h, q]
      rfl
    · obtain ⟨σ', a1, a2, a3⟩ := m_isBasket hA h x
      refine ⟨σ', ?_, a2⟩
      unfold fX8_note fX8_note_27 fX8_note_29
      rw [a1, q]
      rfl
