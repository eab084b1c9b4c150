/-! baskets as a text -/
def sz (t : Nat → Int32) (n s : Nat) : Nat := if isL (bt t n (s + 5)) = true then (if isL (bt t n (s + 6)) = true then 3 else 2) else 1
/-- where the k-th basket begins -/
def st (t : Nat → Int32) (n : Nat) : Nat → Nat
  | 0 => 0
  | k + 1 => st t n k + sz t n (st t n k) + 5
/-- how many of its first five bytes are well -/
def cd (t : Nat → Int32) (n k : Nat) : Nat :=
  if ¬ (k < 8 ∧ isF (bt t n (st t n k)) 50 = true) then 0 else if isF (bt t n (st t n k + 1)) 57 = false then 1 else if isF (bt t n (st t n k + 2)) 57 = false then 2 else if isF (bt t n (st t n k + 3)) 57 = false then 3 else if isL (bt t n (st t n k + 4)) = false then 4 else 5
def en (t : Nat → Int32) (n k : Nat) : Nat := st t n k + 4 + sz t n (st t n k)
def cont (t : Nat → Int32) (n k : Nat) : Prop := cd t n k = 5 ∧ en t n k < n ∧ t (en t n k) = 59
def resB (t : Nat → Int32) (n k : Nat) : Int32 × Nat := if n = 0 then (-1, 0) else if cd t n k < 5 then (nI (st t n k + cd t n k), 0) else if en t n k = n then (-1, k + 1) else (nI (en t n k), 0)
/-- the fault of a text of baskets, and how many there are -/
def RB (t : Nat → Int32) (n : Nat) (r : Int32) (c : Nat) : Prop := ∃ k, (∀ j, j < k → cont t n j) ∧ ¬ cont t n k ∧ (r, c) = resB t n k
theorem RB_one {t : Nat → Int32} {n : Nat} {r s : Int32} {c d : Nat} (h : RB t n r c) (h2 : RB t n s d) : r = s ∧ c = d := by
  obtain ⟨k, a1, a2, a3⟩ := h
  obtain ⟨j, b1, b2, b3⟩ := h2
  have : k = j := by
    rcases Nat.lt_trichotomy k j with q | q | q
    · exact absurd (b1 k q) a2
    · exact q
    · exact absurd (a1 j q) b2
  subst this
  have := a3.trans b3.symm
  exact ⟨congrArg Prod.fst this, congrArg Prod.snd this⟩
theorem sz_in (t : Nat → Int32) (n s : Nat) : 1 ≤ sz t n s ∧ sz t n s ≤ 3 := by
  unfold sz
  split
  · split <;> omega
  · omega
theorem bt_lt {t : Nat → Int32} {n i : Nat} (h : isL (bt t n i) = true) : i < n := by
  by_cases q : i < n
  · exact q
  · unfold bt at h; rw [if_neg q, isL_m1] at h; cases h
theorem bt_ltF {t : Nat → Int32} {n i : Nat} {h : Int32} (hh : isF (bt t n i) h = true) : i < n := by
  by_cases q : i < n
  · exact q
  · unfold bt isF at hh
    rw [if_neg q] at hh
    have : ¬ (¬ (-1 : Int32) < 48 ∧ ¬ h < -1) := fun z => z.1 (by decide)
    simp [this] at hh
/-- a good basket's bytes -/
theorem cd5 {t : Nat → Int32} {n k : Nat} (h : cd t n k = 5) : k < 8 ∧ isF (bt t n (st t n k)) 50 = true ∧ isF (bt t n (st t n k + 1)) 57 = true ∧ isF (bt t n (st t n k + 2)) 57 = true ∧ isF (bt t n (st t n k + 3)) 57 = true ∧ isL (bt t n (st t n k + 4)) = true ∧ st t n k + 4 < n ∧ en t n k ≤ n := by
  unfold cd at h
  split at h
  · omega
  · rename_i h0
    have h0 := Decidable.not_not.mp h0
    split at h
    · omega
    · rename_i h1
      split at h
      · omega
      · rename_i h2
        split at h
        · omega
        · rename_i h3
          split at h
          · omega
          · rename_i h4
            rw [Bool.not_eq_false] at h1 h2 h3 h4
            have := bt_lt h4
            refine ⟨h0.1, h0.2, h1, h2, h3, h4, this, ?_⟩
            unfold en sz
            split
            · rename_i q
              split
              · rename_i q2; have := bt_lt q2; omega
              · have := bt_lt q; omega
            · omega
theorem st_le {t : Nat → Int32} {n : Nat} : ∀ k, (∀ j, j < k → cont t n j) → st t n k ≤ n ∧ (k = 0 ∨ 0 < st t n k) ∧ k ≤ 8
  | 0, _ => ⟨Nat.zero_le _, Or.inl rfl, Nat.zero_le _⟩
  | k + 1, h => by
    obtain ⟨c1, c2, c3⟩ := h k (Nat.lt_succ_self k)
    have := (cd5 c1).1
    unfold en at c2
    refine ⟨?_, Or.inr ?_, by omega⟩
    · rw [st]; omega
    · rw [st]; omega
/-- what the first k baskets have left in the tower -/
def DB (t : Nat → Int32) (n k : Nat) (σ : vMem) : Prop := ∀ j, j < k → σ.1 9 j = 10 * (t (st t n j) - 48) + (t (st t n j + 1) - 48) ∧ σ.1 10 j = 10 * (t (st t n j + 2) - 48) + (t (st t n j + 3) - 48) ∧ σ.1 11 j = nI (sz t n (st t n j)) ∧ ∀ i, i < sz t n (st t n j) → σ.1 12 (3 * j + i) = t (st t n j + 4 + i) - 97
def Fr912 (σ τ : vMem) : Prop := (∀ a, a ≠ 5 → a < 9 ∨ 12 < a → τ.1 a = σ.1 a) ∧ (∀ k, k ≠ 5 → τ.1 5 k = σ.1 5 k) ∧ τ.2 = σ.2
theorem Fr912.up {σ τ : vMem} (h : Fr912 σ τ) {a k : Nat} {x : Int32} (h1 : 9 ≤ a) (h2 : a ≤ 12) : Fr912 σ (vup τ a k x) := ⟨fun b h0 hb => by
  rw [vup_ne _ _ (by omega)]
  exact h.1 b h0 hb, fun j h0 => by
  rw [vup_ne _ _ (by omega)]
  exact h.2.1 j h0, h.2.2⟩
theorem Fr912.up5 {σ τ : vMem} (h : Fr912 σ τ) {x : Int32} : Fr912 σ (vup τ 5 5 x) := ⟨fun b h0 hb => by
  rw [vup_ne _ _ h0]
  exact h.1 b h0 hb, fun j h0 => by
  rw [vup_rd, if_pos rfl, if_neg h0]
  exact h.2.1 j h0, h.2.2⟩
section CBk
variable {t : Nat → Int32} {n : Nat} {σ0 : vMem}
/-- a byte is taken: the figures -/
theorem c_keep {σ : vMem} {k : Nat} (hk : k < 8) (x : Int32) :
    (σ.1 5 5 = nI k → fX5_keepBasketByte 0 x σ = some (vup (vup σ 5 5 (nI (k + 1))) 9 k (10 * (x - 48)))) ∧
    (σ.1 5 5 = nI (k + 1) → fX5_keepBasketByte 1 x σ = some (vup σ 9 k (σ.1 9 k + (x - 48))) ∧ fX5_keepBasketByte 2 x σ = some (vup σ 10 k (10 * (x - 48))) ∧ fX5_keepBasketByte 3 x σ = some (vup σ 10 k (σ.1 10 k + (x - 48))) ∧ (∀ p, 4 ≤ p → p < 7 → fX5_keepBasketByte (nI p) x σ = some (vup (vup σ 11 k (nI (p - 3))) 12 (3 * k + (p - 4)) (x - 97)))) := by
  have e : nI (k + 1) - 1 = nI k := nI_pred k
  have hck : (nI k).toNatClampNeg = k := nI_clamp (by omega)
  have hxk := ixF hk (by decide)
  have h0 : (nI k < 0) = False := nI_lt0 (by omega)
  have hk8 : (8 ≤ k) = False := eq_false (by omega)
  have h8 : nI k < 8 := (nI_ltI (b := 8) (by omega) (by decide)).mpr hk
  refine ⟨fun h5 => ?_, fun h5 => ⟨?_, ?_, ?_, fun p hp1 hp2 => ?_⟩⟩
  · unfold fX5_keepBasketByte fX5_keepBasketByte_14 fX5_keepBasketByte_153
    rw [if_pos rfl, h5, nI_1]
    have e5 : (vup σ 5 5 (nI (k + 1))).1 5 5 = nI (k + 1) := by rw [vup_rd]; simp
    simp only [e5, e, hck, h0, hk8, or_self, h8, ↓reduceIte]
  · unfold fX5_keepBasketByte fX5_keepBasketByte_14 fX5_keepBasketByte_153
    rw [if_neg (by decide)]
    simp only [h5, e, hck, h0, hk8, or_self, h8, ↓reduceIte, show ¬ ((1 : Int32) = 0) by decide]
  · unfold fX5_keepBasketByte fX5_keepBasketByte_14 fX5_keepBasketByte_153
    rw [if_neg (by decide)]
    simp only [h5, e, hck, h0, hk8, or_self, h8, ↓reduceIte, show ¬ ((2 : Int32) = 0) by decide, show ¬ ((2 : Int32) = 1) by decide]
  · unfold fX5_keepBasketByte fX5_keepBasketByte_14 fX5_keepBasketByte_153
    rw [if_neg (by decide)]
    simp only [h5, e, hck, h0, hk8, or_self, h8, ↓reduceIte, show ¬ ((3 : Int32) = 0) by decide, show ¬ ((3 : Int32) = 1) by decide, show ¬ ((3 : Int32) = 2) by decide]
  · unfold fX5_keepBasketByte fX5_keepBasketByte_14 fX5_keepBasketByte_137 fX5_keepBasketByte_153
    have p0 : ¬ nI p = 0 := fun z => by have := (nI_eq0 (by omega)).mp z; omega
    have p1 : ¬ nI p = 1 := fun z => by have := (nI_eq (b := 1) (by omega) (by decide)).mp z; omega
    have p2 : ¬ nI p = 2 := fun z => by have := (nI_eq (b := 2) (by omega) (by decide)).mp z; omega
    have p3 : ¬ nI p = 3 := fun z => by have := (nI_eq (b := 3) (by omega) (by decide)).mp z; omega
    have i3 : nI k * 3 + nI p - 4 = nI (3 * k + (p - 4)) := by
      rw [show (3 : Int32) = nI 3 from rfl, pk_mul, nI_add, show (4 : Int32) = nI 4 from rfl, pk_sub (by omega)]
      congr 1
      omega
    have pm : nI p - 3 = nI (p - 3) := pk_sub (b := 3) (by omega)
    have ci : (nI (3 * k + (p - 4))).toNatClampNeg = 3 * k + (p - 4) := nI_clamp (by omega)
    have xi := ixF (k := 3 * k + (p - 4)) (N := 24) (by omega) (by decide)
    rw [if_neg p0]
    simp only [h5, e, hck, h0, hk8, or_self, h8, ↓reduceIte, p0, p1, p2, p3, i3, pm, ci, xi]
/-- does the machine take the byte -/
def tkB (p k : Nat) (x : Int32) : Bool := if p = 0 then decide (k < 8) && isF x 50 else if p < 4 then isF x 57 else decide (p < 7) && isL x
theorem c_takes {σ : vMem} {k p : Nat} (h5 : σ.1 5 5 = nI k) (hk : k ≤ 8) (hp : p ≤ 7) (x : Int32) : fX5_basketTakes (nI p) x σ = some (b2 (tkB p k x), σ) := by
  have r8 : ((8 : Int32) ≤ nI k) = (8 ≤ k) := propext (nI_leI (a := 8) (by decide) (by omega))
  have r4 : ((4 : Int32) ≤ nI p) = (4 ≤ p) := propext (nI_leI (a := 4) (by decide) (by omega))
  have r7 : ((7 : Int32) ≤ nI p) = (7 ≤ p) := propext (nI_leI (a := 7) (by decide) (by omega))
  unfold fX5_basketTakes fX5_basketTakes_29 fX5_basketTakes_30 fX5_basketTakes_60 fX5_basketTakes_61 tkB
  simp only [h5, r8, r4, r7, nI_eq0 (show p < 2 ^ 31 by omega), c_isL, c_isF, Option.bind, b2_0]
  by_cases p0 : p = 0
  · simp only [p0, ↓reduceIte]
    by_cases k8 : 8 ≤ k
    · simp [k8, show ¬ k < 8 by omega]
    · simp only [k8, ↓reduceIte, show k < 8 by omega, decide_true, Bool.true_and]
      unfold isF
      by_cases x1 : x < 48
      · simp [x1]
      · by_cases x2 : 50 < x
        · simp [x1, x2]
        · simp [x1, x2]
  · simp only [p0, ↓reduceIte]
    by_cases p4 : 4 ≤ p
    · simp only [p4, ↓reduceIte, show ¬ p < 4 by omega]
      by_cases p7 : 7 ≤ p
      · simp [p7, show ¬ p < 7 by omega]
      · simp only [p7, ↓reduceIte, show p < 7 by omega, decide_true, Bool.true_and]
        cases isL x <;> simp
    · simp only [p4, ↓reduceIte, show p < 4 by omega]
      cases isF x 57 <;> simp
/-- one byte -/
theorem c_byte (hn : n ≤ 63) {σ : vMem} {k p i m : Nat} (hi : i < n) (h3 : σ.1 3 1 = nI n) (h4 : σ.1 4 i = t i) (h5 : σ.1 5 5 = nI k) (hk : k ≤ 8) (hp : p ≤ 7) :
    LfX5_takeBaskets_4 (m + 1) (nI p) (nI i) σ = if 4 < p ∧ t i = 59 then LfX5_takeBaskets_4 m 0 (nI (i + 1)) σ else if tkB p k (t i) = false then some (nI i, σ) else (fX5_keepBasketByte (nI p) (t i) σ).bind fun τ => LfX5_takeBaskets_4 m (nI (p + 1)) (nI (i + 1)) τ := by
  show fX5_takeBaskets_4 _ _ _ _ = _
  have hci : (nI i).toNatClampNeg = i := nI_clamp (by omega)
  have hxi := ixF (show i < 63 by omega) (by decide)
  have hlt : (nI n ≤ nI i) = False := eq_false (fun z => by have := (nI_leI (by omega) (by omega)).mp z; omega)
  have r4 : (nI p ≤ (4 : Int32)) = (p ≤ 4) := propext (nI_leI (b := 4) (by omega) (by decide))
  unfold fX5_takeBaskets_4 fX5_takeBaskets_37 fX5_takeBaskets_62
  simp only [h3, h4, hci, hxi, hlt, ↓reduceIte, r4, c_takes h5 hk hp, Option.bind, b2_0, nI_1]
  by_cases q : p ≤ 4
  · rw [if_pos q, if_neg (show ¬ (4 < p ∧ t i = 59) by omega)]
  · rw [if_neg q]
    by_cases q2 : t i = 59
    · rw [if_pos q2, if_pos (show 4 < p ∧ t i = 59 from ⟨by omega, q2⟩)]
    · rw [if_neg q2, if_neg (show ¬ (4 < p ∧ t i = 59) from fun z => q2 z.2)]
/-- the text's end -/
theorem c_bend (hn : n ≤ 63) {σ : vMem} {p m : Nat} (h3 : σ.1 3 1 = nI n) (hp : p ≤ 7) : LfX5_takeBaskets_4 (m + 1) (nI p) (nI n) σ = some (if n = 0 ∨ 4 < p then -1 else nI n, σ) := by
  show fX5_takeBaskets_4 _ _ _ _ = _
  have r4 : (nI p ≤ (4 : Int32)) = (p ≤ 4) := propext (nI_leI (b := 4) (by omega) (by decide))
  unfold fX5_takeBaskets_4 fX5_takeBaskets_80 fX5_takeBaskets_88
  simp only [h3, r4, nI_eq0 (show n < 2 ^ 31 by omega)]
  rw [if_pos (Int32.le_refl _)]
  by_cases q : n = 0
  · simp [q]
  · by_cases q2 : p ≤ 4
    · simp [q, q2, show ¬ 4 < p by omega]
    · simp [q, q2, show 4 < p by omega]
end CBk
