/-! gust: sums over the winds that are -/
theorem sumN_cong {g g' : Nat → Nat} : ∀ n, (∀ i, i < n → g i = g' i) → sumN n g = sumN n g'
  | 0, _ => rfl
  | n + 1, h => by rw [sumN, sumN, sumN_cong n (fun i hi => h i (by omega)), h n (by omega)]
theorem sumN_front (g : Nat → Nat) : ∀ n, sumN (n + 1) g = sumN n (fun j => g (j + 1)) + g 0
  | 0 => rfl
  | n + 1 => by
    rw [sumN, sumN_front g n, sumN]
    omega
theorem sumN_rev : ∀ (n : Nat) (g : Nat → Nat), sumN n (fun j => g (n - (j + 1))) = sumN n g
  | 0, _ => rfl
  | n + 1, g => by
    rw [sumN_front g n, ← sumN_rev n (fun j => g (j + 1)), sumN]
    rw [sumN_cong (g' := fun j => g (n - (j + 1) + 1)) n (fun i hi => by
      show g (n + 1 - (i + 1)) = g (n - (i + 1) + 1)
      congr 1
      omega)]
    show _ + g (n + 1 - (n + 1)) = _ + g 0
    rw [Nat.sub_self]
def wtN (c : Nat) (sel : Nat → Bool) : Nat → Nat
  | 0 => 1
  | k + 1 => wtN c sel k * (if sel k = true then c else 16 - c)
theorem wtN_cong {c : Nat} {s s' : Nat → Bool} : ∀ n, (∀ k, k < n → s k = s' k) → wtN c s n = wtN c s' n
  | 0, _ => rfl
  | n + 1, h => by rw [wtN, wtN, wtN_cong n (fun k hk => h k (by omega)), h n (by omega)]
theorem wtN_le {c : Nat} (hc : c ≤ 16) (s : Nat → Bool) : ∀ n, wtN c s n ≤ 16 ^ n
  | 0 => Nat.le_refl _
  | n + 1 => by
    rw [wtN, Nat.pow_succ]
    exact Nat.mul_le_mul (wtN_le hc s n) (by split <;> omega)
/-- the data with some winds -/
noncomputable abbrev PS (A : vA) (sel : Nat → Bool) : vP := PA A (bitAt (wB (awh A) sel (awn A))) (bitAt (sAll A))
noncomputable def tmN (A : vA) (c b m : Nat) (sel : Nat → Bool) : Nat := if upB (tRun (PS A sel) 40) b m = true then wtN c sel (awn A) else 0
theorem tmN_cong {A : vA} {c b m : Nat} {s s' : Nat → Bool} (h : ∀ k, k < awn A → s k = s' k) : tmN A c b m s = tmN A c b m s' := by
  have e : PS A s = PS A s' := by
    show PA A (bitAt (wB (awh A) s (awn A))) (bitAt (sAll A)) = PA A (bitAt (wB (awh A) s' (awn A))) (bitAt (sAll A))
    rw [wB_cong (awn A) h]
  unfold tmN
  rw [e, wtN_cong (awn A) h]
noncomputable def gS (A : vA) (c b m n : Nat) : Nat := sumN n (fun j => tmN A c b m (fun k => j.testBit k))
noncomputable def gS' (A : vA) (c b m n : Nat) : Nat := sumN n (fun j => tmN A c b m (fun k => !j.testBit k))
theorem gS_eq (A : vA) (c b m : Nat) : gS' A c b m (2 ^ awn A) = gS A c b m (2 ^ awn A) := by
  unfold gS gS'
  rw [← sumN_rev (2 ^ awn A) (fun j => tmN A c b m (fun k => j.testBit k))]
  refine sumN_cong _ (fun j hj => ?_)
  show tmN A c b m (fun k => !j.testBit k) = tmN A c b m (fun k => (2 ^ awn A - (j + 1)).testBit k)
  refine tmN_cong (fun k hk => ?_)
  rw [Nat.testBit_two_pow_sub_succ hj, decide_eq_true hk, Bool.true_and]
theorem p6 {n : Nat} (h : n ≤ 6) : 2 ^ n ≤ 64 ∧ 16 ^ n ≤ 16777216 ∧ 2 ^ (4 * n) ≤ 16777216 := by
  rcases (show n = 0 ∨ n = 1 ∨ n = 2 ∨ n = 3 ∨ n = 4 ∨ n = 5 ∨ n = 6 by omega) with rfl | rfl | rfl | rfl | rfl | rfl | rfl <;> decide
theorem tmN_le {A : vA} (hA : WA A) {c : Nat} (hc : c ≤ 16) (b m : Nat) (sel : Nat → Bool) : tmN A c b m sel ≤ 16777216 := by
  have h1 := wtN_le hc sel (awn A)
  have h2 := (p6 hA.2.2.2.1.1).2.1
  unfold tmN
  split <;> omega
theorem gS_le {A : vA} (hA : WA A) {c : Nat} (hc : c ≤ 16) (b m : Nat) {n : Nat} (hn : n ≤ 64) : gS A c b m n ≤ 1073741824 := by
  have := sumN_le (g := fun j => tmN A c b m (fun k => j.testBit k)) (B := 16777216) n (fun i _ => tmN_le hA hc b m _)
  unfold gS
  omega
theorem gS'_le {A : vA} (hA : WA A) {c : Nat} (hc : c ≤ 16) (b m : Nat) {n : Nat} (hn : n ≤ 64) : gS' A c b m n ≤ 1073741824 := by
  have := sumN_le (g := fun j => tmN A c b m (fun k => !j.testBit k)) (B := 16777216) n (fun i _ => tmN_le hA hc b m _)
  unfold gS'
  omega
theorem sel6 : ∀ j : Fin 64, ∀ k : Fin 6, selI (nI j.val) k.val = j.val.testBit k.val := by decide +kernel
theorem bit6 : ∀ j : Fin 64, ∀ k : Fin 6, bitAt (nI j.val).toInt64 k.val = j.val.testBit k.val := by decide +kernel
theorem shl6 : ∀ n : Fin 7, (1 : Int32) <<< (nI n.val &&& 31) = nI (2 ^ n.val) := by decide +kernel
theorem shl24 : ∀ n : Fin 7, (1 : Int64) <<< (((4 : Int32) * nI n.val).toInt64 &&& 63) = lN (2 ^ (4 * n.val)) := by decide +kernel
/-! lowest terms -/
theorem gcd_pos_r {a e : Nat} : 0 < Nat.gcd a (2 ^ e) := Nat.gcd_pos_of_pos_right _ (Nat.two_pow_pos e)
theorem gcd_low {a i j : Nat} (h : j = 0 ∨ a % 2 = 1) : Nat.gcd (a * 2 ^ i) (2 ^ j * 2 ^ i) = 2 ^ i := by
  rw [Nat.gcd_mul_right]
  have : Nat.gcd a (2 ^ j) = 1 := by
    rcases h with rfl | h
    · exact Nat.gcd_one_right a
    · refine Nat.gcd_pow_right_of_gcd_eq_one ?_
      rw [Nat.gcd_comm, Nat.gcd_rec, h]
      rfl
  rw [this, Nat.one_mul]
theorem lN_0 : (0 : Int64) = lN 0 := rfl
theorem lN_1' : (1 : Int64) = lN 1 := rfl
theorem lN_2 : (2 : Int64) = lN 2 := rfl
theorem m_lowL {S E : Nat} (hS : S < 2 ^ 62) (hE : E < 2 ^ 62) (y : Int32) (σ : vMem) : ∀ (k n x z : Nat), z < 2 ^ k → 2 * k < n → x < 2 ^ 62 → z < 2 ^ 62 → 0 < Nat.gcd x z → LfX8_lowest_6 n (lN S) (lN E) y (lN x) (lN z) σ = some (if y = 0 then lN (S / Nat.gcd x z) else lN (E / Nat.gcd x z), σ) := by
  have fin : ∀ (n x : Nat), x < 2 ^ 62 → 0 < x → LfX8_lowest_6 (n + 1) (lN S) (lN E) y (lN x) (lN 0) σ = some (if y = 0 then lN (S / Nat.gcd x 0) else lN (E / Nat.gcd x 0), σ) := by
    intro n x hx h0
    show fX8_lowest_6 _ _ _ _ _ _ _ = _
    unfold fX8_lowest_6 fX8_lowest_47
    rw [Nat.gcd_zero_right]
    have e0 : ¬ lN x = 0 := fun w => by
      rw [lN_0, pk_lEQ (by omega) (by omega)] at w
      omega
    rw [if_pos (show lg_cmp (lN 0) 0 = 0 from (lg_cmp_eq _ _).mpr rfl), if_neg e0, if_neg e0, pk_lDiv (by omega) h0 (by omega), pk_lDiv (by omega) h0 (by omega)]
    split <;> rfl
  have one : ∀ (n x z : Nat), x < 2 ^ 62 → z < 2 ^ 62 → 0 < z → LfX8_lowest_6 (n + 1) (lN S) (lN E) y (lN x) (lN z) σ = LfX8_lowest_6 n (lN S) (lN E) y (lN z) (lN (x % z)) σ := by
    intro n x z hx hz h0
    show fX8_lowest_6 _ _ _ _ _ _ _ = _
    unfold fX8_lowest_6
    have e0 : ¬ lN z = 0 := fun w => by
      rw [lN_0, pk_lEQ (by omega) (by omega)] at w
      omega
    rw [if_neg (fun w => e0 ((lg_cmp_eq _ _).mp w)), if_neg e0, pk_lRem (by omega) h0 (by omega)]
  have gc : ∀ x z : Nat, Nat.gcd x z = Nat.gcd z (x % z) := fun x z => by rw [Nat.gcd_comm x z, Nat.gcd_rec z x, Nat.gcd_comm]
  intro k
  induction k with
  | zero =>
    intro n x z hz hn hx hz2 hg
    obtain ⟨n, rfl⟩ : ∃ j, n = j + 1 := ⟨n - 1, by omega⟩
    have : z = 0 := by
      have : z < 1 := hz
      omega
    subst this
    rw [Nat.gcd_zero_right] at hg
    exact fin n x hx hg
  | succ k ih =>
    intro n x z hz hn hx hz2 hg
    obtain ⟨n, rfl⟩ : ∃ j, n = j + 1 := ⟨n - 1, by omega⟩
    obtain ⟨n, rfl⟩ : ∃ j, n = j + 1 := ⟨n - 1, by omega⟩
    by_cases z0 : z = 0
    · subst z0
      rw [Nat.gcd_zero_right] at hg
      exact fin _ x hx hg
    · have hm := Nat.mod_lt x (show 0 < z by omega)
      rw [one (n + 1) x z hx hz2 (by omega), gc x z]
      by_cases w0 : x % z = 0
      · rw [w0]
        exact fin n z hz2 (by omega)
      · have hm2 := Nat.mod_lt z (show 0 < x % z by omega)
        rw [one n z (x % z) hz2 (by omega) (by omega), gc z (x % z)]
        refine ih n (x % z) (z % (x % z)) ?_ (by omega) (by omega) (by omega) ?_
        · have h2 : 2 * (z % (x % z)) < z := by
            by_cases q : 2 * (x % z) ≤ z
            · omega
            · rw [Nat.mod_eq_sub_mod (show x % z ≤ z by omega), Nat.mod_eq_of_lt (by omega)]
              omega
          rw [Nat.pow_succ] at hz
          omega
        · rw [← gc z (x % z), ← gc x z]; exact hg
theorem m_lowest {S e : Nat} (hS : S < 2 ^ 62) (he : 2 ^ e ≤ 16777216) (y : Int32) (σ : vMem) : fX8_lowest (lN S) (lN (2 ^ e)) y σ = some (if y = 0 then lN (S / Nat.gcd S (2 ^ e)) else lN (2 ^ e / Nat.gcd S (2 ^ e)), σ) :=
  m_lowL hS (by omega) y σ 25 200 S (2 ^ e) (by omega) (by omega) hS (by omega) gcd_pos_r
theorem c_half {S e : Nat} (he : e ≤ 24) (hS : S < 2 ^ 62) : ∀ (d n i a j : Nat) (τ : vMem), i + d = 24 → d < n → a * 2 ^ i = S → j + i = e → τ.2 0 12 = lN a → τ.2 0 13 = lN (2 ^ j) → ∃ σ', LfX7_findChance_155 n (nI i) τ = some σ' ∧ σ'.1 = τ.1 ∧ σ'.2 0 12 = lN (S / Nat.gcd S (2 ^ e)) ∧ σ'.2 0 13 = lN (2 ^ e / Nat.gcd S (2 ^ e)) := by
  have fin : ∀ (i a j : Nat) (τ : vMem), a * 2 ^ i = S → j + i = e → τ.2 0 12 = lN a → τ.2 0 13 = lN (2 ^ j) → (j = 0 ∨ a % 2 = 1) → τ.2 0 12 = lN (S / Nat.gcd S (2 ^ e)) ∧ τ.2 0 13 = lN (2 ^ e / Nat.gcd S (2 ^ e)) := by
    intro i a j τ h1 h2 h3 h4 h5
    have e2 : 2 ^ e = 2 ^ j * 2 ^ i := by rw [← h2, Nat.pow_add]
    rw [e2, ← h1, gcd_low h5, Nat.mul_div_cancel _ (Nat.two_pow_pos i), Nat.mul_div_cancel _ (Nat.two_pow_pos i)]
    exact ⟨h3, h4⟩
  have jb : ∀ j, j ≤ 24 → 2 ^ j < 2 ^ 62 := fun j hj => Nat.pow_lt_pow_right (by omega) (by omega)
  intro d
  induction d with
  | zero =>
    intro n i a j τ hi hn h1 h2 h3 h4
    obtain ⟨n, rfl⟩ : ∃ j, n = j + 1 := ⟨n - 1, by omega⟩
    have : i = 24 := by omega
    subst this
    refine ⟨τ, ?_, rfl, fin 24 a j τ h1 h2 h3 h4 (Or.inl (by omega))⟩
    show fX7_findChance_155 _ _ _ = _
    unfold fX7_findChance_155 fX7_findChance_214
    rw [show (24 : Int32) = nI 24 from rfl, if_pos (Int32.le_refl _)]
  | succ d ih =>
    intro n i a j τ hi hn h1 h2 h3 h4
    obtain ⟨n, rfl⟩ : ∃ j, n = j + 1 := ⟨n - 1, by omega⟩
    have hlt : ¬ nI 24 ≤ nI i := fun z => by have := (nI_leI (by omega) (by omega)).mp z; omega
    have ha : a < 2 ^ 62 := by
      have : a * 1 ≤ a * 2 ^ i := Nat.mul_le_mul_left a (Nat.two_pow_pos i)
      omega
    have hj := jb j (by omega)
    show ∃ σ', fX7_findChance_155 _ _ _ = _ ∧ _
    unfold fX7_findChance_155 fX7_findChance_214 fX7_findChance_196 fX7_findChance_208
    rw [show (24 : Int32) = nI 24 from rfl, if_neg hlt, h3, h4]
    by_cases j0 : j = 0
    · subst j0
      refine ⟨τ, ?_, rfl, fin i a 0 τ h1 h2 h3 h4 (Or.inl rfl)⟩
      rw [if_pos ((lg_cmp_le _ _).mpr (by rw [lN_1', pk_lLE (by omega) (by omega)]; exact Nat.le_refl _))]
    · have hj2 : 2 ≤ 2 ^ j := by
        have := Nat.pow_le_pow_right (show 0 < 2 by omega) (show 1 ≤ j by omega)
        omega
      rw [if_neg (fun w => by
        have w := (lg_cmp_le _ _).mp w
        rw [lN_1', pk_lLE (by omega) (by omega)] at w
        omega)]
      rw [lN_2, pk_lRem (by omega) (by omega) (by omega), lN_0]
      by_cases q : a % 2 = 0
      · rw [q, if_pos ((lg_cmp_eq _ _).mpr rfl), pk_lDiv (by omega) (by omega) (by omega), nI_1]
        have e4 : (vupL τ 0 12 (lN (a / 2))).2 0 13 = lN (2 ^ j) := by rw [vupL_rd]; simpa using h4
        rw [e4, pk_lDiv (by omega) (by omega) (by omega)]
        obtain ⟨j, rfl⟩ : ∃ k, j = k + 1 := ⟨j - 1, by omega⟩
        have e5 : 2 ^ (j + 1) / 2 = 2 ^ j := by rw [Nat.pow_succ, Nat.mul_div_cancel _ (by omega)]
        rw [e5]
        obtain ⟨σ', x1, x2, x3⟩ := ih n (i + 1) (a / 2) j (vupL (vupL τ 0 12 (lN (a / 2))) 0 13 (lN (2 ^ j))) (by omega) (by omega) (by
          rw [Nat.pow_succ, Nat.mul_comm (2 ^ i) 2, ← Nat.mul_assoc, Nat.div_mul_cancel (Nat.dvd_of_mod_eq_zero q)]; exact h1) (by omega) (by simp [vupL_rd]) (by simp [vupL_rd])
        exact ⟨σ', x1, x2, x3⟩
      · have q1 : a % 2 = 1 := by omega
        refine ⟨τ, ?_, rfl, fin i a j τ h1 h2 h3 h4 (Or.inr q1)⟩
        rw [q1, if_neg (fun w => by
          have w := (lg_cmp_eq _ _).mp w
          rw [pk_lEQ (by omega) (by omega)] at w
          omega)]
