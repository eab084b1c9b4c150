theorem c_readBaskets {t : Nat → Int32} {n : Nat} (hn : n ≤ 63) {σ : vMem} (h3 : σ.1 3 1 = nI n) (h4 : ∀ i, i < n → σ.1 4 i = t i) : ∃ r c σ', fX5_readBaskets σ = some σ' ∧ RB t n r c ∧ (∀ a, a ≠ 5 → a < 9 ∨ 12 < a → σ'.1 a = σ.1 a) ∧ σ'.2 = σ.2 ∧ (∀ k, k ≠ 5 → k ≠ 6 → σ'.1 5 k = σ.1 5 k) ∧ σ'.1 5 6 = r ∧ σ'.1 5 5 = nI (if r = -1 then c else 0) ∧ (r = -1 → DB t n c σ') := by
  obtain ⟨r, c, σ1, a1, a2, a3, a4⟩ := c_basketsL (t := t) (n := n) (σ0 := vup σ 5 5 0) hn (by rw [vup_ne _ _ (by decide)]; exact h3) (fun i hi => by rw [vup_ne _ _ (by decide)]; exact h4 i hi) 9 200 0 (vup σ 5 5 0) (by omega) (by omega) (fun j hj => absurd hj (Nat.not_lt_zero _)) ⟨fun _ _ _ => rfl, fun _ _ => rfl, rfl⟩ (by rw [vup_rd]; simp; rfl) (fun j hj => absurd hj (Nat.not_lt_zero _))
  have e6 : (vup σ1 5 6 r).1 5 6 = r := by rw [vup_rd]; simp
  have run : fX5_readBaskets σ = some (if r = -1 then vup σ1 5 6 r else vup (vup σ1 5 6 r) 5 5 0) := by
    unfold fX5_readBaskets fX5_readBaskets_5 fX5_takeBaskets
    rw [show LfX5_takeBaskets_4 200 0 0 (vup σ 5 5 0) = some (r, σ1) from a1]
    simp only [Option.bind]
    unfold fX5_readBaskets_14 fX5_readBaskets_27
    rw [e6]
    split <;> rfl
  by_cases q : r = -1
  · rw [if_pos q] at run
    refine ⟨r, c, _, run, a2, fun a h5 ha => ?_, a3.2.2, fun k k5 k6 => ?_, e6, ?_, fun _ j hj => ?_⟩
    · rw [vup_ne _ _ h5, a3.1 a h5 ha, vup_ne _ _ h5]
    · rw [vup_rd, if_pos rfl, if_neg k6, a3.2.1 k k5, vup_rd, if_pos rfl, if_neg k5]
    · rw [if_pos q, vup_rd, if_pos rfl, if_neg (by decide)]
      exact (a4 q).1
    · have := (a4 q).2 j hj
      simpa only [vup_rd, Nat.reduceEqDiff, ↓reduceIte] using this
  · rw [if_neg q] at run
    refine ⟨r, c, _, run, a2, fun a h5 ha => ?_, a3.2.2, fun k k5 k6 => ?_, ?_, ?_, fun z => absurd z q⟩
    · rw [vup_ne _ _ h5, vup_ne _ _ h5, a3.1 a h5 ha, vup_ne _ _ h5]
    · rw [vup_rd, if_pos rfl, if_neg k5, vup_rd, if_pos rfl, if_neg k6, a3.2.1 k k5, vup_rd, if_pos rfl, if_neg k5]
    · rw [vup_rd, if_pos rfl, if_neg (by decide)]; exact e6
    · rw [if_neg q, vup_rd]; simp; rfl
/-! the reference's baskets -/
def Fr69 (σ τ : vMem) : Prop := (∀ a, a ≠ 0 → a < 6 ∨ 9 < a → τ.1 a = σ.1 a) ∧ (∀ k, k ≠ 6 → τ.1 0 k = σ.1 0 k) ∧ τ.2 = σ.2
theorem Fr69.up {σ τ : vMem} (h : Fr69 σ τ) {a k : Nat} {x : Int32} (h1 : 6 ≤ a) (h2 : a ≤ 9) : Fr69 σ (vup τ a k x) := ⟨fun b h0 hb => by
  rw [vup_ne _ _ (by omega)]
  exact h.1 b h0 hb, fun j h0 => by
  rw [vup_ne _ _ (by omega)]
  exact h.2.1 j h0, h.2.2⟩
def DN (t : Nat → Int32) (n k : Nat) (σ : vMem) : Prop := ∀ j, j < k → σ.1 6 j = 10 * (t (st t n j) - 48) + (t (st t n j + 1) - 48) ∧ σ.1 7 j = 10 * (t (st t n j + 2) - 48) + (t (st t n j + 3) - 48) ∧ σ.1 8 j = nI (sz t n (st t n j)) ∧ ∀ i, i < sz t n (st t n j) → σ.1 9 (3 * j + i) = t (st t n j + 4 + i) - 97
section MB
variable {t : Nat → Int32} {n : Nat} {σ0 : vMem}
theorem i32_asc (a b c : Int32) : a + b - c = a + (b - c) := by rw [Int32.sub_eq_add_neg, Int32.sub_eq_add_neg, Int32.add_assoc]
theorem HT.fr {σ τ : vMem} (h : HT σ 1 n t) (hf : Fr69 σ τ) : HT τ 1 n t := by
  unfold HT
  rw [hf.1 1 (by decide) (by decide), hf.1 2 (by decide) (by decide)]
  exact h
theorem m_letL {k : Nat} (hn : n ≤ 63) (hk : k < 8) (h5 : cd t n k = 5) : ∀ (q m e : Nat) (σ : vMem), e + q = sz t n (st t n k) → q + 1 < m → HT σ 1 n t → Fr69 σ0 σ → DN t n k σ → σ.1 6 k = 10 * (t (st t n k) - 48) + (t (st t n k + 1) - 48) → σ.1 7 k = 10 * (t (st t n k + 2) - 48) + (t (st t n k + 3) - 48) → (∀ i, i < e → σ.1 9 (3 * k + i) = t (st t n k + 4 + i) - 97) →
    ∃ σ', LfX8_readsBasket_126 m (nI k) (nI (st t n k)) (nI e) σ = some (nI (4 + sz t n (st t n k)), σ') ∧ Fr69 σ0 σ' ∧ DN t n (k + 1) σ' ∧ σ'.1 0 = σ.1 0 := by
  obtain ⟨-, -, -, -, -, hL4, l4, len⟩ := cd5 h5
  have hsz := sz_in t n (st t n k)
  have hck : (nI k).toNatClampNeg = k := nI_clamp (by omega)
  have hxk := ixF (show k < 9 by omega) (by decide)
  have isLe : ∀ e, e < sz t n (st t n k) → isL (bt t n (st t n k + 4 + e)) = true := fun e he => by
    unfold sz at he
    have h3 : e = 0 ∨ e = 1 ∨ e = 2 ∨ 3 ≤ e := by omega
    rcases h3 with rfl | rfl | rfl | h3
    · exact hL4
    · split at he
      · rename_i y; exact y
      · omega
    · split at he
      · split at he
        · rename_i y; exact y
        · omega
      · omega
    · split at he
      · split at he <;> omega
      · omega
  have isLn : sz t n (st t n k) < 3 → isL (bt t n (st t n k + 4 + sz t n (st t n k))) = false := fun hlt => by
    by_cases y1 : isL (bt t n (st t n k + 5)) = true
    · by_cases y2 : isL (bt t n (st t n k + 6)) = true
      · have : sz t n (st t n k) = 3 := by unfold sz; rw [if_pos y1, if_pos y2]
        omega
      · have : sz t n (st t n k) = 2 := by unfold sz; rw [if_pos y1, if_neg y2]
        rw [this]
        simpa using y2
    · have : sz t n (st t n k) = 1 := by unfold sz; rw [if_neg y1]
      rw [this]
      simpa using y1
  intro q
  induction q with
  | zero =>
    intro m e σ heq hm hT fr hD h6 h7 h9
    obtain ⟨m, rfl⟩ : ∃ j, m = j + 1 := ⟨m - 1, by omega⟩
    have he : e = sz t n (st t n k) := by omega
    have fin : fX8_readsBasket_177 (nI k) (nI e) σ = some (nI (4 + sz t n (st t n k)), vup σ 8 k (nI e)) := by
      unfold fX8_readsBasket_177 fX8_readsBasket_185
      simp only [hck, hxk, ↓reduceIte]
      rw [show (4 : Int32) + nI e = nI (4 + e) from nI_add 4 e, he]
    refine ⟨vup σ 8 k (nI e), ?_, fr.up (by decide) (by decide), fun j hj => ?_, vup_ne _ _ (by decide)⟩
    · show fX8_readsBasket_126 _ _ _ _ _ = _
      unfold fX8_readsBasket_126
      have r3 : ((3 : Int32) ≤ nI e) = (3 ≤ e) := propext (nI_leI (a := 3) (by decide) (by omega))
      simp only [r3]
      by_cases y : 3 ≤ e
      · rw [if_pos y]; exact fin
      · rw [if_neg y, show nI (st t n k) + 4 + nI e = nI (st t n k + 4 + e) by rw [show nI (st t n k) + 4 = nI (st t n k + 4) from nI_add _ 4, nI_add], show (1 : Int32) = nI 1 from rfl, m_isL hT (by decide) hn (by omega)]
        simp only [Option.bind, b2_0]
        have := isLn (by omega)
        rw [← he] at this
        rw [if_pos this]
        exact fin
    · simp only [vup_rd, Nat.reduceEqDiff, ↓reduceIte]
      by_cases z : j = k
      · subst z
        refine ⟨h6, h7, by rw [if_pos rfl, he], fun i hi => h9 i (by omega)⟩
      · simp only [z, ↓reduceIte]
        exact hD j (by omega)
  | succ q ih =>
    intro m e σ heq hm hT fr hD h6 h7 h9
    obtain ⟨m, rfl⟩ : ∃ j, m = j + 1 := ⟨m - 1, by omega⟩
    have he : e < sz t n (st t n k) := by omega
    have hLe := isLe e he
    have le := bt_lt hLe
    have r3 : ((3 : Int32) ≤ nI e) = (3 ≤ e) := propext (nI_leI (a := 3) (by decide) (by omega))
    have i4 : nI (st t n k) + 4 + nI e = nI (st t n k + 4 + e) := by rw [show nI (st t n k) + 4 = nI (st t n k + 4) from nI_add _ 4, nI_add]
    have i3 : (3 : Int32) * nI k + nI e = nI (3 * k + e) := by rw [show (3 : Int32) = nI 3 from rfl, pk_mul, nI_add]
    have c3 : (nI (3 * k + e)).toNatClampNeg = 3 * k + e := nI_clamp (by omega)
    have x3 := ixF (k := 3 * k + e) (N := 27) (by omega) (by decide)
    obtain ⟨σ', a1, a2⟩ := ih m (e + 1) (vup σ 9 (3 * k + e) (t (st t n k + 4 + e) - 97)) (by omega) (by omega) (hT.up (by decide) (by decide)) (fr.up (by decide) (by decide)) (fun j hj => by
      obtain ⟨d1, d2, d3, d4⟩ := hD j hj
      simp only [vup_rd, Nat.reduceEqDiff, ↓reduceIte]
      refine ⟨d1, d2, d3, fun i hi => ?_⟩
      have := (sz_in t n (st t n j)).2
      rw [if_neg (by omega)]
      exact d4 i hi) (by rw [vup_ne _ _ (by decide)]; exact h6) (by rw [vup_ne _ _ (by decide)]; exact h7) (fun i hi => by
      rw [vup_rd, if_pos rfl]
      by_cases z : i = e
      · rw [if_pos (by omega), z]
      · rw [if_neg (by omega)]; exact h9 i (by omega))
    refine ⟨σ', ?_, a2.1, a2.2.1, a2.2.2.trans (vup_ne _ _ (by decide))⟩
    show fX8_readsBasket_126 _ _ _ _ _ = _
    unfold fX8_readsBasket_126 fX8_readsBasket_171
    rw [if_neg (show ¬ ((3 : Int32) ≤ nI e) by rw [r3]; omega), i4, show (1 : Int32) = nI 1 from rfl, m_isL hT (by decide) hn (by omega), hLe]
    simp only [Option.bind, ↓reduceIte, show ¬ (b2 true = 0) by decide]
    rw [m_byteAt hT (by decide) hn (by omega), bt_in le]
    simp only [i3, c3, x3, ↓reduceIte]
    rw [show nI 1 = (1 : Int32) from rfl, nI_1]
    exact a1
/-- one basket is read -/
theorem m_readsBasket {k : Nat} (hn : n ≤ 63) (hk : k ≤ 8) (hs : st t n k ≤ n) {σ : vMem} (hT : HT σ 1 n t) (fr : Fr69 σ0 σ) (hD : DN t n k σ) :
    (cd t n k < 5 → fX8_readsBasket (nI k) (nI (st t n k)) σ = some (-nI (cd t n k) - 1, σ)) ∧ (cd t n k = 5 → ∃ σ', fX8_readsBasket (nI k) (nI (st t n k)) σ = some (nI (4 + sz t n (st t n k)), σ') ∧ Fr69 σ0 σ' ∧ DN t n (k + 1) σ' ∧ σ'.1 0 = σ.1 0) := by
  have hck : (nI k).toNatClampNeg = k := nI_clamp (by omega)
  have r8 : ((8 : Int32) ≤ nI k) = (8 ≤ k) := propext (nI_leI (a := 8) (by decide) (by omega))
  have e48a : (48 : Int32) + 2 = 50 := by decide
  have e48b : (48 : Int32) + 9 = 57 := by decide
  have ad : ∀ d, nI (st t n k) + nI d = nI (st t n k + d) := fun d => nI_add _ _
  -- what follows the figures
  have stop : ∀ g, g < 4 → fX8_readsBasket_40 (nI k) (nI (st t n k)) (nI g) σ = some (-nI g - 1, σ) := fun g hg => by
    unfold fX8_readsBasket_40 fX8_readsBasket_56
    rw [if_pos (show nI g < (4 : Int32) from (nI_ltI (b := 4) (by omega) (by decide)).mpr hg)]
  have four : fX8_readsBasket_40 (nI k) (nI (st t n k)) (nI 4) σ = if isL (bt t n (st t n k + 4)) = false then some (-nI 4 - 1, σ) else (fX8_byteAt 1 (nI (st t n k)) σ).bind fun q2 => (fX8_byteAt 1 (nI (st t n k) + 1) q2.2).bind fun q3 => if nI k < 0 ∨ 9 ≤ (nI k).toNatClampNeg then none else fX8_readsBasket_91 (nI k) (nI (st t n k)) (vup q3.2 6 (nI k).toNatClampNeg ((((10 : Int32) * (q2.1 - 48)) + q3.1) - 48)) := by
    unfold fX8_readsBasket_40 fX8_readsBasket_56
    rw [if_neg (by decide), show nI (st t n k) + 4 = nI (st t n k + 4) from nI_add _ 4]
    rw [show fX8_isLetter 1 (nI (st t n k + 4)) σ = some (b2 (isL (bt t n (st t n k + 4))), σ) from m_isL hT (by decide) hn (by omega)]
    simp only [Option.bind, b2_0]
  have loop : ∀ (m g : Nat), g < 4 → k < 8 → LfX8_readsBasket_2 (m + 1) (nI k) (nI (st t n k)) (nI g) σ = if isF (bt t n (st t n k + g)) (if g = 0 then 50 else 57) = false then fX8_readsBasket_40 (nI k) (nI (st t n k)) (nI g) σ else LfX8_readsBasket_2 m (nI k) (nI (st t n k)) (nI (g + 1)) σ := fun m g hg hk8 => by
    show fX8_readsBasket_2 _ _ _ _ _ = _
    unfold fX8_readsBasket_2 fX8_readsBasket_28
    rw [if_neg (show ¬ ((8 : Int32) ≤ nI k) by rw [r8]; omega)]
    have r4 : ((4 : Int32) ≤ nI g) = (4 ≤ g) := propext (nI_leI (a := 4) (by decide) (by omega))
    rw [if_neg (show ¬ ((4 : Int32) ≤ nI g) by rw [r4]; omega)]
    simp only [nI_eq0 (show g < 2 ^ 31 by omega), ad, nI_1]
    have mf : ∀ w, fX8_isFigure 1 (nI (st t n k + g)) w σ = some (b2 (isF (bt t n (st t n k + g)) (48 + w)), σ) := fun w => m_isF hT (by decide) hn (by omega) w
    rw [mf, mf, e48a, e48b]
    simp only [Option.bind, b2_0]
    by_cases z : g = 0
    · simp [z]
    · simp [z]
  have l4 : ∀ m, k < 8 → LfX8_readsBasket_2 (m + 1) (nI k) (nI (st t n k)) (nI 4) σ = fX8_readsBasket_40 (nI k) (nI (st t n k)) (nI 4) σ := fun m hk8 => by
    show fX8_readsBasket_2 _ _ _ _ _ = _
    unfold fX8_readsBasket_2
    rw [if_neg (show ¬ ((8 : Int32) ≤ nI k) by rw [r8]; omega), if_pos (by decide)]
  have start : fX8_readsBasket (nI k) (nI (st t n k)) σ = LfX8_readsBasket_2 200 (nI k) (nI (st t n k)) (nI 0) σ := rfl
  by_cases hk8 : k < 8
  · have h0 := loop 199 0 (by omega) hk8
    have h1 := loop 198 1 (by omega) hk8
    have h2 := loop 197 2 (by omega) hk8
    have h3 := loop 196 3 (by omega) hk8
    have h4' := l4 195 hk8
    simp only [↓reduceIte, Nat.add_zero, Nat.reduceEqDiff, Nat.reduceAdd] at h0 h1 h2 h3 h4'
    have hcd : cd t n k = if isF (bt t n (st t n k)) 50 = false then 0 else if isF (bt t n (st t n k + 1)) 57 = false then 1 else if isF (bt t n (st t n k + 2)) 57 = false then 2 else if isF (bt t n (st t n k + 3)) 57 = false then 3 else if isL (bt t n (st t n k + 4)) = false then 4 else 5 := by
      unfold cd
      cases isF (bt t n (st t n k)) 50 <;> simp [hk8]
    rw [start, h0]
    by_cases c0 : isF (bt t n (st t n k)) 50 = false
    · rw [if_pos c0, stop 0 (by omega), hcd, if_pos c0]
      exact ⟨fun _ => rfl, fun z => by omega⟩
    · rw [if_neg c0, h1]
      rw [if_neg c0] at hcd
      by_cases c1 : isF (bt t n (st t n k + 1)) 57 = false
      · rw [if_pos c1, stop 1 (by omega), hcd, if_pos c1]
        exact ⟨fun _ => rfl, fun z => by omega⟩
      · rw [if_neg c1, h2]
        rw [if_neg c1] at hcd
        by_cases c2 : isF (bt t n (st t n k + 2)) 57 = false
        · rw [if_pos c2, stop 2 (by omega), hcd, if_pos c2]
          exact ⟨fun _ => rfl, fun z => by omega⟩
        · rw [if_neg c2, h3]
          rw [if_neg c2] at hcd
          by_cases c3 : isF (bt t n (st t n k + 3)) 57 = false
          · rw [if_pos c3, stop 3 (by omega), hcd, if_pos c3]
            exact ⟨fun _ => rfl, fun z => by omega⟩
          · rw [if_neg c3, h4', four]
            rw [if_neg c3] at hcd
            by_cases c4 : isL (bt t n (st t n k + 4)) = false
            · rw [if_pos c4, hcd, if_pos c4]
              exact ⟨fun _ => rfl, fun z => by omega⟩
            · rw [if_neg c4]
              rw [if_neg c4] at hcd
              refine ⟨fun z => by omega, fun _ => ?_⟩
              obtain ⟨-, -, -, -, -, -, le4, -⟩ := cd5 hcd
              have hxk9 := ixF (show k < 9 by omega) (by decide)
              have ba : ∀ (τ : vMem) (i : Nat), HT τ 1 n t → i < n → fX8_byteAt 1 (nI i) τ = some (t i, τ) := fun τ i hτ hi => by
                have := m_byteAt hτ (by decide) hn (k := i) (by omega)
                rw [bt_in hi] at this
                exact this
              rw [ba σ _ hT (by omega), nI_1]
              simp only [Option.bind]
              rw [ba σ _ hT (by omega)]
              simp only [hck, hxk9, ↓reduceIte]
              unfold fX8_readsBasket_91
              have hT1 : HT (vup σ 6 k (10 * (t (st t n k) - 48) + t (st t n k + 1) - 48)) 1 n t := hT.up (by decide) (by decide)
              rw [show nI (st t n k) + 2 = nI (st t n k + 2) from nI_add _ 2, ba _ _ hT1 (by omega)]
              simp only [Option.bind]
              rw [show nI (st t n k) + 3 = nI (st t n k + 3) from nI_add _ 3, ba _ _ hT1 (by omega)]
              simp only [hck, hxk9, ↓reduceIte]
              unfold fX8_readsBasket_123
              rw [i32_asc, i32_asc]
              have hsz := sz_in t n (st t n k)
              obtain ⟨σ', b1, b2, b3, b4⟩ := m_letL (σ0 := σ0) hn hk8 hcd (sz t n (st t n k)) 200 0 (vup (vup σ 6 k (10 * (t (st t n k) - 48) + (t (st t n k + 1) - 48))) 7 k (10 * (t (st t n k + 2) - 48) + (t (st t n k + 3) - 48))) (by omega) (by omega) ((hT.up (by decide) (by decide)).up (by decide) (by decide)) ((fr.up (by decide) (by decide)).up (by decide) (by decide)) (fun j hj => by
                have := hD j hj
                simpa only [vup_rd, Nat.reduceEqDiff, ↓reduceIte, show ¬ j = k by omega] using this) (by simp [vup_rd]) (by simp [vup_rd]) (fun i hi => absurd hi (Nat.not_lt_zero _))
              exact ⟨σ', b1, b2, b3, b4.trans (by rw [vup_ne _ _ (by decide), vup_ne _ _ (by decide)])⟩
  · have : cd t n k = 0 := by unfold cd; rw [if_pos (fun w => hk8 w.1)]
    rw [this]
    refine ⟨fun _ => ?_, fun z => by omega⟩
    rw [start]
    show fX8_readsBasket_2 _ _ _ _ _ = _
    unfold fX8_readsBasket_2
    rw [if_pos (show (8 : Int32) ≤ nI k by rw [r8]; omega)]
    exact stop 0 (by omega)
end MB
