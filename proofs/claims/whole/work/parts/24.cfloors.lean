/-! floors as a text -/
def sortI (b : Int32) : Int32 := if b = 99 then 3 else if b = 108 then 2 else if b = 109 then 1 else if b = 112 then 0 else -1
def isL (x : Int32) : Bool := decide (¬ x < 97 ∧ ¬ 104 < x)
def isF (x h : Int32) : Bool := decide (¬ x < 48 ∧ ¬ h < x)
def okF (t : Nat → Int32) (i : Nat) : Bool := if i % 4 = 0 then decide (sortI (t i) ≠ -1) else if i % 4 = 1 then isF (t i) 57 else if i % 4 = 2 then isL (t i) else decide (t i = 59)
/-- the fault of a text of floors -/
def FF (t : Nat → Int32) (n : Nat) (r : Int32) : Prop := (∃ i, i < n ∧ okF t i = false ∧ (∀ j, j < i → okF t j = true) ∧ r = nI i) ∨ ((∀ j, j < n → okF t j = true) ∧ r = if n = 0 ∨ n % 4 = 3 then -1 else nI n)
theorem FF_one {t : Nat → Int32} {n : Nat} {r s : Int32} (h : FF t n r) (h2 : FF t n s) : r = s := by
  rcases h with ⟨i, a1, a2, a3, rfl⟩ | ⟨a1, rfl⟩
  · rcases h2 with ⟨j, b1, b2, b3, rfl⟩ | ⟨b1, rfl⟩
    · have : i = j := by
        rcases Nat.lt_trichotomy i j with q | q | q
        · have := b3 i q; rw [a2] at this; cases this
        · exact q
        · have := a3 j q; rw [b2] at this; cases this
      rw [this]
    · have := b1 i a1; rw [a2] at this; cases this
  · rcases h2 with ⟨j, b1, b2, b3, rfl⟩ | ⟨b1, rfl⟩
    · have := a1 j b1; rw [b2] at this; cases this
    · rfl
theorem FF_m1 {t : Nat → Int32} {n : Nat} (hn : n ≤ 35) (h : FF t n (-1)) : (∀ j, j < n → okF t j = true) ∧ (n = 0 ∨ n % 4 = 3) := by
  rcases h with ⟨i, a1, a2, a3, e⟩ | ⟨a1, e⟩
  · exact absurd e.symm (nI_m1 (by omega))
  · refine ⟨a1, ?_⟩
    by_cases q : n = 0 ∨ n % 4 = 3
    · exact q
    · rw [if_neg q] at e
      exact absurd e.symm (nI_m1 (by omega))
theorem c_isL (x : Int32) (σ : vMem) : fX5_isLetter x σ = some (b2 (isL x), σ) := by
  unfold fX5_isLetter fX5_isLetter_16 fX5_isLetter_17 isL
  by_cases h1 : x < 97
  · simp [h1]
  · by_cases h2 : 104 < x
    · simp [h1, h2]
    · simp [h1, h2]
theorem c_isF (x : Int32) (σ : vMem) : fX5_isFigure x σ = some (b2 (isF x 57), σ) := by
  unfold fX5_isFigure fX5_isFigure_16 fX5_isFigure_17 isF
  by_cases h1 : x < 48
  · simp [h1]
  · by_cases h2 : 57 < x
    · simp [h1, h2]
    · simp [h1, h2]
theorem c_sortOf (x : Int32) (σ : vMem) : fX5_sortOf x σ = some (sortI x, σ) := by
  unfold fX5_sortOf sortI
  repeat' split
  all_goals first | rfl | (exfalso; simp_all; done)
/-- what the first i bytes of a good text have left in the tower -/
def DF (t : Nat → Int32) (i : Nat) (σ : vMem) : Prop := ∀ j, j < i → (j % 4 = 0 → σ.1 6 (j / 4) = sortI (t j)) ∧ (j % 4 = 1 → σ.1 7 (j / 4) = t j - 48) ∧ (j % 4 = 2 → σ.1 8 (j / 4) = t j - 97)
def Fr678 (σ τ : vMem) : Prop := (∀ a, a ≠ 6 → a ≠ 7 → a ≠ 8 → τ.1 a = σ.1 a) ∧ τ.2 = σ.2
theorem Fr678.up {σ τ : vMem} (h : Fr678 σ τ) {n k : Nat} {x : Int32} (hn : n = 6 ∨ n = 7 ∨ n = 8) : Fr678 σ (vup τ n k x) := ⟨fun a h1 h2 h3 => by
  rw [vup_ne _ _ (by omega)]
  exact h.1 a h1 h2 h3, h.2⟩
theorem c_floorsL {t : Nat → Int32} {n : Nat} (hn : n ≤ 35) {σ0 : vMem} (hs : σ0.1 1 1 = nI n) (hb : ∀ k, k < n → σ0.1 2 k = t k) : ∀ (k m i : Nat) (σ : vMem), i + k = n → k < m → Fr678 σ0 σ → (∀ j, j < i → okF t j = true) → DF t i σ →
    ∃ r σ', LfX5_takeFloors_2 m (nI i) σ = some (r, σ') ∧ FF t n r ∧ Fr678 σ0 σ' ∧ ((∀ j, j < n → okF t j = true) → DF t n σ') := by
  intro k
  induction k with
  | zero =>
    intro m i σ hik hm hf hok hD
    obtain ⟨m, rfl⟩ : ∃ j, m = j + 1 := ⟨m - 1, by omega⟩
    have hi : i = n := by omega
    subst hi
    have e1 : σ.1 1 1 = nI i := by rw [hf.1 1 (by decide) (by decide) (by decide)]; exact hs
    refine ⟨if i = 0 ∨ i % 4 = 3 then -1 else nI i, σ, ?_, Or.inr ⟨hok, rfl⟩, hf, fun _ => hD⟩
    show fX5_takeFloors_2 _ _ _ = _
    unfold fX5_takeFloors_2 fX5_takeFloors_154 fX5_takeFloors_162
    rw [e1, if_pos (Int32.le_refl _), show (4 : Int32) = nI 4 from rfl, pk_rem (by omega) (by decide) (by decide)]
    simp only [nI_eq0 (show i < 2 ^ 31 by omega), show (3 : Int32) = nI 3 from rfl, nI_eq (show i % 4 < 2 ^ 31 by omega) (show 3 < 2 ^ 31 by decide)]
    by_cases q1 : i = 0
    · simp [q1]
    · by_cases q2 : i % 4 = 3
      · simp [q2]
      · simp [q1, q2]
  | succ k ih =>
    intro m i σ hik hm hf hok hD
    obtain ⟨m, rfl⟩ : ∃ j, m = j + 1 := ⟨m - 1, by omega⟩
    have e1 : σ.1 1 1 = nI n := by rw [hf.1 1 (by decide) (by decide) (by decide)]; exact hs
    have e2 : σ.1 2 i = t i := by rw [hf.1 2 (by decide) (by decide) (by decide)]; exact hb i (by omega)
    have hci : (nI i).toNatClampNeg = i := nI_clamp (by omega)
    have hxi := ixF (show i < 35 by omega) (by decide)
    have hlt : (nI n ≤ nI i) = False := eq_false (fun z => by have := (nI_leI (by omega) (by omega)).mp z; omega)
    have hdv : nI i / 4 = nI (i / 4) := pk_div (d := 4) (by omega) (by decide) (by decide)
    have hrm : nI i - nI (i / 4) * 4 = nI (i % 4) := by
      rw [← hdv]
      exact pk_rem (d := 4) (by omega) (by decide) (by decide)
    have hcf : (nI (i / 4)).toNatClampNeg = i / 4 := nI_clamp (by omega)
    have hxf := ixF (show i / 4 < 9 by omega) (by decide)
    have h9 : nI (i / 4) < 9 := (nI_ltI (b := 9) (by omega) (by decide)).mpr (by omega)
    have r0 : (nI (i % 4) = 0) = (i % 4 = 0) := propext (nI_eq0 (by omega))
    have r1 : (nI (i % 4) = 1) = (i % 4 = 1) := propext (nI_eq (b := 1) (by omega) (by decide))
    have r2 : (nI (i % 4) = 2) = (i % 4 = 2) := propext (nI_eq (b := 2) (by omega) (by decide))
    have r3 : (nI (i % 4) = 3) = (i % 4 = 3) := propext (nI_eq (b := 3) (by omega) (by decide))
    have go : ∀ τ, Fr678 σ0 τ → okF t i = true → DF t (i + 1) τ → ∃ r σ', fX5_takeFloors_131 (LfX5_takeFloors_2 m) (nI i) τ = some (r, σ') ∧ FF t n r ∧ Fr678 σ0 σ' ∧ ((∀ j, j < n → okF t j = true) → DF t n σ') := by
      intro τ hτ hoi hDi
      obtain ⟨r, σ', a1, a2⟩ := ih m (i + 1) τ (by omega) (by omega) hτ (fun j hj => by
        by_cases e : j = i
        · subst e; exact hoi
        · exact hok j (by omega)) hDi
      refine ⟨r, σ', ?_, a2⟩
      unfold fX5_takeFloors_131
      rw [nI_1]
      exact a1
    have stop : okF t i = false → ∃ r σ', some (nI i, σ) = some (r, σ') ∧ FF t n r ∧ Fr678 σ0 σ' ∧ ((∀ j, j < n → okF t j = true) → DF t n σ') := fun hz => ⟨nI i, σ, rfl, Or.inl ⟨i, by omega, hz, hok, rfl⟩, hf, fun ha => by have := ha i (by omega); rw [hz] at this; cases this⟩
    have dfs : ∀ (c : Nat) (x : Int32), (i % 4 = 0 ∧ c = 6 ∧ x = sortI (t i)) ∨ (i % 4 = 1 ∧ c = 7 ∧ x = t i - 48) ∨ (i % 4 = 2 ∧ c = 8 ∧ x = t i - 97) → DF t (i + 1) (vup σ c (i / 4) x) := by
      intro c x hcx j hj
      by_cases e : j = i
      · subst e
        rcases hcx with ⟨z1, z2, z3⟩ | ⟨z1, z2, z3⟩ | ⟨z1, z2, z3⟩ <;> subst z2 <;> subst z3 <;> refine ⟨fun w => ?_, fun w => ?_, fun w => ?_⟩ <;> first | omega | (simp [vup_rd]; done)
      · have hd := hD j (by omega)
        refine ⟨fun w => ?_, fun w => ?_, fun w => ?_⟩
        · rw [vup_rd]
          by_cases q : 6 = c
          · rw [if_pos q, if_neg (by rcases hcx with ⟨z1, z2, z3⟩ | ⟨z1, z2, z3⟩ | ⟨z1, z2, z3⟩ <;> omega), ← q]
            exact hd.1 w
          · rw [if_neg q]; exact hd.1 w
        · rw [vup_rd]
          by_cases q : 7 = c
          · rw [if_pos q, if_neg (by rcases hcx with ⟨z1, z2, z3⟩ | ⟨z1, z2, z3⟩ | ⟨z1, z2, z3⟩ <;> omega), ← q]
            exact hd.2.1 w
          · rw [if_neg q]; exact hd.2.1 w
        · rw [vup_rd]
          by_cases q : 8 = c
          · rw [if_pos q, if_neg (by rcases hcx with ⟨z1, z2, z3⟩ | ⟨z1, z2, z3⟩ | ⟨z1, z2, z3⟩ <;> omega), ← q]
            exact hd.2.2 w
          · rw [if_neg q]; exact hd.2.2 w
    show ∃ r σ', fX5_takeFloors_2 _ _ _ = some (r, σ') ∧ _
    unfold fX5_takeFloors_2 fX5_takeFloors_63 fX5_takeFloors_90 fX5_takeFloors_117 fX5_takeFloors_129
    simp only [e1, e2, hci, hxi, hlt, hdv, hrm, hcf, hxf, h9, ↓reduceIte, r0, r1, r2, r3, c_isL, c_isF, c_sortOf, Option.bind, b2_0]
    have h4 : i % 4 = 0 ∨ i % 4 = 1 ∨ i % 4 = 2 ∨ i % 4 = 3 := by omega
    rcases h4 with z | z | z | z
    · simp only [z, ↓reduceIte, Nat.reduceEqDiff]
      by_cases w : sortI (t i) = -1
      · rw [if_pos w]
        exact stop (by simp [okF, z, w])
      · rw [if_neg w]
        exact go _ (hf.up (by decide)) (by simp [okF, z, w]) (dfs 6 _ (Or.inl ⟨z, rfl, rfl⟩))
    · simp only [z, ↓reduceIte, Nat.reduceEqDiff]
      by_cases w : isF (t i) 57 = false
      · rw [if_pos w]
        exact stop (by simp [okF, z, w])
      · rw [if_neg w]
        exact go _ (hf.up (by decide)) (by simp [okF, z]; simpa using w) (dfs 7 _ (Or.inr (Or.inl ⟨z, rfl, rfl⟩)))
    · simp only [z, ↓reduceIte, Nat.reduceEqDiff]
      by_cases w : isL (t i) = false
      · rw [if_pos w]
        exact stop (by simp [okF, z, w])
      · rw [if_neg w]
        exact go _ (hf.up (by decide)) (by simp [okF, z]; simpa using w) (dfs 8 _ (Or.inr (Or.inr ⟨z, rfl, rfl⟩)))
    · simp only [z, ↓reduceIte, Nat.reduceEqDiff]
      by_cases w : t i = 59
      · rw [if_pos w]
        refine go _ hf (by simp [okF, z, w]) (fun j hj => ?_)
        by_cases e : j = i
        · subst e
          exact ⟨fun _ => by omega, fun _ => by omega, fun _ => by omega⟩
        · exact hD j (by omega)
      · rw [if_neg w]
        exact stop (by simp [okF, z, w])
theorem c_readFloors {t : Nat → Int32} {n : Nat} (hn : n ≤ 35) {σ : vMem} (hs : σ.1 1 1 = nI n) (hb : ∀ k, k < n → σ.1 2 k = t k) : ∃ r σ', fX5_readFloors σ = some σ' ∧ FF t n r ∧ (∀ a, a ≠ 5 → a ≠ 6 → a ≠ 7 → a ≠ 8 → σ'.1 a = σ.1 a) ∧ σ'.2 = σ.2 ∧ (∀ k, k ≠ 0 → k ≠ 1 → σ'.1 5 k = σ.1 5 k) ∧ σ'.1 5 1 = r ∧ σ'.1 5 0 = (if r = -1 then nI ((n + 1) / 4) else 0) ∧ (r = -1 → DF t n σ') := by
  obtain ⟨r, σ1, a1, a2, a3, a4⟩ := c_floorsL hn hs hb n 200 0 σ (by omega) (by omega) ⟨fun _ _ _ _ => rfl, rfl⟩ (fun j hj => absurd hj (Nat.not_lt_zero _)) (fun j hj => absurd hj (Nat.not_lt_zero _))
  have e1 : (vup σ1 5 1 r).1 1 1 = nI n := by rw [vup_ne _ _ (by decide), a3.1 1 (by decide) (by decide) (by decide)]; exact hs
  refine ⟨r, vup (vup σ1 5 1 r) 5 0 (if r = -1 then nI ((n + 1) / 4) else 0), ?_, a2, ?_, a3.2, ?_, ?_, ?_, ?_⟩
  · unfold fX5_readFloors fX5_takeFloors
    rw [show (0 : Int32) = nI 0 from rfl, a1]
    simp only [Option.bind]
    unfold fX5_readFloors_9 fX5_readFloors_30
    rw [e1, nI_1, show (4 : Int32) = nI 4 from rfl, pk_div (by omega) (by decide) (by decide)]
    rw [show (vup σ1 5 1 r).1 5 1 = r by rw [vup_rd]; simp]
    by_cases q : r = -1
    · rw [if_pos q, if_pos q]
    · rw [if_neg q, if_neg q]; rfl
  · intro a h5 h6 h7 h8
    rw [vup_ne _ _ h5, vup_ne _ _ h5]
    exact a3.1 a h6 h7 h8
  · intro k h0 h1
    rw [vup_rd, if_pos rfl, if_neg h0, vup_rd, if_pos rfl, if_neg h1, a3.1 5 (by decide) (by decide) (by decide)]
  · simp [vup_rd]
  · simp [vup_rd]
  · intro q
    subst q
    have := a4 (FF_m1 hn a2).1
    intro j hj
    have hd := this j hj
    simpa only [vup_rd, Nat.reduceEqDiff, ↓reduceIte] using hd
