/-- a text in the reference's rows -/
def HT (σ : vMem) (x n : Nat) (t : Nat → Int32) : Prop := σ.1 1 x = nI n ∧ ∀ k, k < n → σ.1 2 (63 * x + k) = t k
def bt (t : Nat → Int32) (n k : Nat) : Int32 := if k < n then t k else -1
theorem m_byteAt {σ : vMem} {x n : Nat} {t : Nat → Int32} (h : HT σ x n t) (hx : x < 2) (hn : n ≤ 63) {k : Nat} (hk : k ≤ 1000) : fX8_byteAt (nI x) (nI k) σ = some (bt t n k, σ) := by
  have hcx : (nI x).toNatClampNeg = x := nI_clamp (by omega)
  have hxx := ixF hx (by decide)
  have e1 := h.1
  unfold fX8_byteAt fX8_byteAt_25 bt
  simp only [hcx, hxx, ↓reduceIte, e1, nI_leI (show n < 2 ^ 31 by omega) (show k < 2 ^ 31 by omega)]
  by_cases q : k < n
  · rw [if_neg (by omega), if_pos q]
    have i : (63 : Int32) * nI x + nI k = nI (63 * x + k) := by rw [show (63 : Int32) = nI 63 from rfl, pk_mul, nI_add]
    have c : (nI (63 * x + k)).toNatClampNeg = 63 * x + k := nI_clamp (by omega)
    have xx := ixF (k := 63 * x + k) (N := 126) (by omega) (by decide)
    simp only [i, c, xx, ↓reduceIte, h.2 k q]
  · rw [if_pos (by omega), if_neg q]
theorem m_isL {σ : vMem} {x n : Nat} {t : Nat → Int32} (h : HT σ x n t) (hx : x < 2) (hn : n ≤ 63) {k : Nat} (hk : k ≤ 1000) : fX8_isLetter (nI x) (nI k) σ = some (b2 (isL (bt t n k)), σ) := by
  unfold fX8_isLetter
  simp only [m_byteAt h hx hn hk, Option.bind, m_in]
  unfold isL
  split
  · rename_i q; exact absurd q (by cases decide (¬ bt t n k < 97 ∧ ¬ 104 < bt t n k) <;> decide)
  · rfl
theorem m_isF {σ : vMem} {x n : Nat} {t : Nat → Int32} (h : HT σ x n t) (hx : x < 2) (hn : n ≤ 63) {k : Nat} (hk : k ≤ 1000) (w : Int32) : fX8_isFigure (nI x) (nI k) w σ = some (b2 (isF (bt t n k) (48 + w)), σ) := by
  unfold fX8_isFigure
  simp only [m_byteAt h hx hn hk, Option.bind, m_in]
  unfold isF
  split
  · rename_i q; exact absurd q (by cases decide (¬ bt t n k < 48 ∧ ¬ 48 + w < bt t n k) <;> decide)
  · rfl
theorem sort_chain {α : Type} (b : Int32) (F : Int32 → α) : (if b = 112 then F 0 else if b = 109 then F 1 else if b = 108 then F 2 else if b = 99 then F 3 else F (-1)) = F (sortI b) := by
  unfold sortI
  by_cases h1 : b = 112
  · subst h1; rfl
  · by_cases h2 : b = 109
    · subst h2; rfl
    · by_cases h3 : b = 108
      · subst h3; rfl
      · by_cases h4 : b = 99
        · subst h4; rfl
        · simp [h1, h2, h3, h4]
theorem HT.up {σ : vMem} {x n : Nat} {t : Nat → Int32} (h : HT σ x n t) {a k : Nat} {v : Int32} (ha : a ≠ 1) (hb : a ≠ 2) : HT (vup σ a k v) x n t := by
  unfold HT
  rw [vup_ne _ _ (Ne.symm ha), vup_ne _ _ (Ne.symm hb)]
  exact h
/-- one floor is read -/
theorem m_readsFloor {σ : vMem} {n : Nat} {t : Nat → Int32} (h : HT σ 0 n t) (hn : n ≤ 35) {f : Nat} (hf : f < 9) (hat : 4 * f ≤ n) :
    fX8_readsFloor (nI f) (nI (4 * f)) σ = some (if sortI (bt t n (4 * f)) = -1 then (-1, σ) else if isF (bt t n (4 * f + 1)) 57 = false then (-2, σ) else if isL (bt t n (4 * f + 2)) = false then (-3, σ) else (3, vup (vup (vup σ 3 f (sortI (bt t n (4 * f)))) 4 f (bt t n (4 * f + 1) - 48)) 5 f (bt t n (4 * f + 2) - 97))) := by
  have hcf : (nI f).toNatClampNeg = f := nI_clamp (by omega)
  have hxf := ixF (show f < 10 by omega) (by decide)
  have h9 : (nI f = 9) = False := eq_false (fun z => by have := (nI_eq (b := 9) (by omega) (by decide)).mp z; omega)
  have key : ∀ s, fX8_readsFloor_48 (nI f) (nI (4 * f)) s σ = some (if s = -1 then (-1, σ) else if isF (bt t n (4 * f + 1)) 57 = false then (-2, σ) else if isL (bt t n (4 * f + 2)) = false then (-3, σ) else (3, vup (vup (vup σ 3 f s) 4 f (bt t n (4 * f + 1) - 48)) 5 f (bt t n (4 * f + 2) - 97))) := by
    intro s
    unfold fX8_readsFloor_48 fX8_readsFloor_62 fX8_readsFloor_102 fX8_readsFloor_119 fX8_readsFloor_136
    simp only [h9, ↓reduceIte]
    by_cases c1 : s = -1
    · simp [c1]
    · rw [if_neg c1, if_neg c1]
      rw [nI_1, show nI (4 * f) + 2 = nI (4 * f + 2) from nI_add _ 2, show (0 : Int32) = nI 0 from rfl]
      rw [m_isF h (by decide) (by omega) (by omega)]
      rw [show (48 : Int32) + 9 = 57 by decide]
      simp only [Option.bind, show (b2 (isF (bt t n (4 * f + 1)) 57) = nI 0) = (isF (bt t n (4 * f + 1)) 57 = false) from propext (b2_0 _)]
      by_cases c2 : isF (bt t n (4 * f + 1)) 57 = false
      · rw [if_pos c2, if_pos c2]
      · rw [if_neg c2, if_neg c2, m_isL h (by decide) (by omega) (by omega)]
        simp only [show (b2 (isL (bt t n (4 * f + 2))) = nI 0) = (isL (bt t n (4 * f + 2)) = false) from propext (b2_0 _)]
        by_cases c3 : isL (bt t n (4 * f + 2)) = false
        · rw [if_pos c3, if_pos c3]
        · rw [if_neg c3, if_neg c3]
          have hxf0 : (nI f < nI 0 ∨ 10 ≤ f) = False := hxf
          have h1 : HT (vup σ 3 f s) 0 n t := h.up (by decide) (by decide)
          have h2 : HT (vup (vup σ 3 f s) 4 f (bt t n (4 * f + 1) - 48)) 0 n t := h1.up (by decide) (by decide)
          simp only [hcf, hxf0, ↓reduceIte]
          rw [m_byteAt h1 (by decide) (by omega) (by omega)]
          simp only []
          rw [m_byteAt h2 (by decide) (by omega) (by omega)]
  unfold fX8_readsFloor
  rw [show (0 : Int32) = nI 0 from rfl, m_byteAt h (by decide) (by omega) (by omega)]
  simp only [Option.bind]
  rw [show nI 0 = (0 : Int32) from rfl]
  have := sort_chain (bt t n (4 * f)) (fun s => fX8_readsFloor_48 (nI f) (nI (4 * f)) s σ)
  rw [this]
  exact key _
/-- the reference's frame while it reads floors -/
def Fr345 (σ τ : vMem) : Prop := (∀ a, a ≠ 0 → a ≠ 3 → a ≠ 4 → a ≠ 5 → τ.1 a = σ.1 a) ∧ (∀ k, k ≠ 2 → τ.1 0 k = σ.1 0 k) ∧ τ.2 = σ.2
def DG (t : Nat → Int32) (n : Nat) (σ : vMem) : Prop := ∀ f, f < n → σ.1 3 f = sortI (t (4 * f)) ∧ σ.1 4 f = t (4 * f + 1) - 48 ∧ σ.1 5 f = t (4 * f + 2) - 97
theorem isL_m1 : isL (-1) = false := by decide
theorem isF_m1 : isF (-1) 57 = false := by decide
theorem sortI_m1 : sortI (-1) = -1 := by decide
theorem m_partsL0 {t : Nat → Int32} {n : Nat} (hn : n ≤ 35) {σ0 : vMem} (hT : HT σ0 0 n t) : ∀ (k m f : Nat) (σ : vMem), f + k = 9 → k < m → 4 * f ≤ n → Fr345 σ0 σ → σ.1 0 2 = 0 → (∀ j, j < 4 * f → okF t j = true) → DG t f σ →
    ∃ r σ', LfX8_readsParts_37 m 0 (nI f) (nI (4 * f)) σ = some (r, σ') ∧ FF t n r ∧ Fr345 σ0 σ' ∧ σ'.1 0 2 = (if r = -1 then nI ((n + 1) / 4) else 0) ∧ (r = -1 → DG t ((n + 1) / 4) σ') := by
  intro k
  induction k with
  | zero => intro m f σ hfk hm hat; omega
  | succ k ih =>
    intro m f σ hfk hm hat hf h02 hok hD
    obtain ⟨m, rfl⟩ : ∃ j, m = j + 1 := ⟨m - 1, by omega⟩
    have hf9 : f < 9 := by omega
    have hTσ : HT σ 0 n t := by
      unfold HT
      rw [hf.1 1 (by decide) (by decide) (by decide) (by decide), hf.1 2 (by decide) (by decide) (by decide) (by decide)]
      exact hT
    have e10 : σ.1 1 0 = nI n := hTσ.1
    have x0 : ((0 : Int32) < 0 ∨ 2 ≤ (0 : Int32).toNatClampNeg) = False := eq_false (by decide)
    have c0 : (0 : Int32).toNatClampNeg = 0 := by decide
    have okI : ∀ i, okF t i = true → (i % 4 = 0 → sortI (t i) ≠ -1) ∧ (i % 4 = 1 → isF (t i) 57 = true) ∧ (i % 4 = 2 → isL (t i) = true) ∧ (i % 4 = 3 → t i = 59) := fun i h => by
      unfold okF at h
      refine ⟨fun z => ?_, fun z => ?_, fun z => ?_, fun z => ?_⟩ <;> simpa [z] using h
    have bad : ∀ i, i < n → okF t i = false → (∀ j, j < i → okF t j = true) → ∃ r σ', some (nI i, σ) = some (r, σ') ∧ FF t n r ∧ Fr345 σ0 σ' ∧ σ'.1 0 2 = (if r = -1 then nI ((n + 1) / 4) else 0) ∧ (r = -1 → DG t ((n + 1) / 4) σ') := fun i hi hz hj =>
      ⟨nI i, σ, rfl, Or.inl ⟨i, hi, hz, hj, rfl⟩, hf, by rw [if_neg (nI_m1 (by omega))]; exact h02, fun z => absurd z (nI_m1 (by omega))⟩
    have endd : ∀ i, i = n → ¬ (n = 0 ∨ n % 4 = 3) → (∀ j, j < i → okF t j = true) → ∃ r σ', some (nI i, σ) = some (r, σ') ∧ FF t n r ∧ Fr345 σ0 σ' ∧ σ'.1 0 2 = (if r = -1 then nI ((n + 1) / 4) else 0) ∧ (r = -1 → DG t ((n + 1) / 4) σ') := fun i hi hz hj =>
      ⟨nI i, σ, rfl, Or.inr ⟨by rw [← hi]; exact hj, by rw [if_neg hz, hi]⟩, hf, by rw [if_neg (nI_m1 (by omega))]; exact h02, fun z => absurd z (nI_m1 (by omega))⟩
    have neg : ∀ (i d : Nat) (s : Int32), s = -nI (d + 1) → nI i - s - 1 = nI (i + d) := fun i d s hs => by
      rw [hs, Int32.sub_neg, nI_add, show (1 : Int32) = nI 1 from rfl, pk_sub (by omega)]
      congr 1
    have body : ∃ r σ', fX8_readsParts_51 (LfX8_readsParts_37 m) 0 (nI f) (nI (4 * f)) σ = some (r, σ') ∧ (0 < n → FF t n r ∧ Fr345 σ0 σ' ∧ σ'.1 0 2 = (if r = -1 then nI ((n + 1) / 4) else 0) ∧ (r = -1 → DG t ((n + 1) / 4) σ')) := by
      unfold fX8_readsParts_51
      rw [if_pos rfl, m_readsFloor hTσ hn hf9 hat]
      simp only [Option.bind]
      by_cases c1 : sortI (bt t n (4 * f)) = -1
      · simp only [c1, ↓reduceIte]
        unfold fX8_readsParts_70
        rw [if_neg (by decide), neg (4 * f) 0 (-1) (by decide)]
        by_cases q : 4 * f < n
        · obtain ⟨r, σ', a1, a2⟩ := bad (4 * f) q (by
            unfold bt at c1
            rw [if_pos q] at c1
            simp [okF, show 4 * f % 4 = 0 by omega, c1]) hok
          exact ⟨r, σ', a1, fun _ => a2⟩
        · by_cases q0 : n = 0
          · exact ⟨_, _, rfl, fun z => by omega⟩
          · obtain ⟨r, σ', a1, a2⟩ := endd (4 * f) (by omega) (by omega) hok
            exact ⟨r, σ', a1, fun _ => a2⟩
      · have q : 4 * f < n := by
          by_cases q : 4 * f < n
          · exact q
          · unfold bt at c1; rw [if_neg q] at c1; exact absurd sortI_m1 c1
        have ok0 : okF t (4 * f) = true := by
          unfold bt at c1
          rw [if_pos q] at c1
          simp [okF, show 4 * f % 4 = 0 by omega, c1]
        have ok1 : ∀ j, j < 4 * f + 1 → okF t j = true := fun j hj => by
          by_cases e : j = 4 * f
          · rw [e]; exact ok0
          · exact hok j (by omega)
        simp only [c1, ↓reduceIte]
        by_cases c2 : isF (bt t n (4 * f + 1)) 57 = false
        · simp only [c2, ↓reduceIte]
          unfold fX8_readsParts_70
          rw [if_neg (by decide), neg (4 * f) 1 (-2) (by decide)]
          by_cases q2 : 4 * f + 1 < n
          · obtain ⟨r, σ', a1, a2⟩ := bad (4 * f + 1) q2 (by
              unfold bt at c2
              rw [if_pos q2] at c2
              simp [okF, show (4 * f + 1) % 4 = 1 by omega, c2]) ok1
            exact ⟨r, σ', a1, fun _ => a2⟩
          · obtain ⟨r, σ', a1, a2⟩ := endd (4 * f + 1) (by omega) (by omega) ok1
            exact ⟨r, σ', a1, fun _ => a2⟩
        · have q2 : 4 * f + 1 < n := by
            by_cases q2 : 4 * f + 1 < n
            · exact q2
            · unfold bt at c2; rw [if_neg q2] at c2; exact absurd isF_m1 c2
          have ok2 : ∀ j, j < 4 * f + 2 → okF t j = true := fun j hj => by
            by_cases e : j = 4 * f + 1
            · rw [e]
              unfold bt at c2
              rw [if_pos q2] at c2
              simp [okF, show (4 * f + 1) % 4 = 1 by omega]
              simpa using c2
            · exact ok1 j (by omega)
          simp only [c2, ↓reduceIte, Bool.true_eq_false]
          by_cases c3 : isL (bt t n (4 * f + 2)) = false
          · simp only [c3, ↓reduceIte]
            unfold fX8_readsParts_70
            rw [if_neg (by decide), neg (4 * f) 2 (-3) (by decide)]
            by_cases q3 : 4 * f + 2 < n
            · obtain ⟨r, σ', a1, a2⟩ := bad (4 * f + 2) q3 (by
                unfold bt at c3
                rw [if_pos q3] at c3
                simp [okF, show (4 * f + 2) % 4 = 2 by omega, c3]) ok2
              exact ⟨r, σ', a1, fun _ => a2⟩
            · obtain ⟨r, σ', a1, a2⟩ := endd (4 * f + 2) (by omega) (by omega) ok2
              exact ⟨r, σ', a1, fun _ => a2⟩
          · have q3 : 4 * f + 2 < n := by
              by_cases q3 : 4 * f + 2 < n
              · exact q3
              · unfold bt at c3; rw [if_neg q3] at c3; exact absurd isL_m1 c3
            have ok3 : ∀ j, j < 4 * f + 3 → okF t j = true := fun j hj => by
              by_cases e : j = 4 * f + 2
              · rw [e]
                unfold bt at c3
                rw [if_pos q3] at c3
                simp [okF, show (4 * f + 2) % 4 = 2 by omega]
                simpa using c3
              · exact ok2 j (by omega)
            have b0 : bt t n (4 * f) = t (4 * f) := if_pos q
            have b1 : bt t n (4 * f + 1) = t (4 * f + 1) := if_pos q2
            have b2' : bt t n (4 * f + 2) = t (4 * f + 2) := if_pos q3
            simp only [c3, ↓reduceIte, Bool.true_eq_false]
            simp only [b0, b1, b2']
            have hfr : Fr345 σ0 (vup (vup (vup σ 3 f (sortI (t (4 * f)))) 4 f (t (4 * f + 1) - 48)) 5 f (t (4 * f + 2) - 97)) := ⟨fun a h0 h3 h4 h5 => by
              rw [vup_ne _ _ h5, vup_ne _ _ h4, vup_ne _ _ h3]; exact hf.1 a h0 h3 h4 h5, fun k hk => by
              rw [vup_ne _ _ (by decide), vup_ne _ _ (by decide), vup_ne _ _ (by decide)]; exact hf.2.1 k hk, hf.2.2⟩
            have hD' : DG t (f + 1) (vup (vup (vup σ 3 f (sortI (t (4 * f)))) 4 f (t (4 * f + 1) - 48)) 5 f (t (4 * f + 2) - 97)) := fun g hg => by
              simp only [vup_rd, Nat.reduceEqDiff, ↓reduceIte]
              by_cases e : g = f
              · subst e; simp
              · simp only [e, ↓reduceIte]; exact hD g (by omega)
            have h02' : (vup (vup (vup σ 3 f (sortI (t (4 * f)))) 4 f (t (4 * f + 1) - 48)) 5 f (t (4 * f + 2) - 97)).1 0 2 = 0 := by
              rw [vup_ne _ _ (by decide), vup_ne _ _ (by decide), vup_ne _ _ (by decide)]; exact h02
            generalize vup (vup (vup σ 3 f (sortI (t (4 * f)))) 4 f (t (4 * f + 1) - 48)) 5 f (t (4 * f + 2) - 97) = τ at hfr hD' h02'
            have hTτ : HT τ 0 n t := by
              unfold HT
              rw [hfr.1 1 (by decide) (by decide) (by decide) (by decide), hfr.1 2 (by decide) (by decide) (by decide) (by decide)]
              exact hT
            unfold fX8_readsParts_70
            rw [if_pos (by decide), c0]
            simp only [show ((0 : Int32) < 0 ∨ 2 ≤ 0) = False from eq_false (by decide), ↓reduceIte]
            rw [hTτ.1, show nI (4 * f) + 3 = nI (4 * f + 3) from nI_add _ 3]
            simp only [nI_eq (show 4 * f + 3 < 2 ^ 31 by omega) (show n < 2 ^ 31 by omega)]
            by_cases q4 : 4 * f + 3 = n
            · rw [if_pos q4]
              unfold fX8_readsParts_115 fX8_readsParts_118 fX8_readsParts_132 fX8_readsParts_135
              rw [if_neg (by decide), nI_1]
              rw [vup_same _ 0 6 rfl]
              refine ⟨_, _, rfl, fun _ => ⟨Or.inr ⟨by rw [← q4]; exact ok3, by rw [if_pos (by omega)]⟩, ⟨fun a h0 h3 h4 h5 => by rw [vup_ne _ _ h0]; exact hfr.1 a h0 h3 h4 h5, fun k hk => by rw [vup_rd, if_pos rfl, if_neg hk]; exact hfr.2.1 k hk, hfr.2.2⟩, ?_, fun _ => ?_⟩⟩
              · rw [if_pos rfl, vup_rd, if_pos rfl, if_pos rfl, show (n + 1) / 4 = f + 1 by omega]
              · rw [show (n + 1) / 4 = f + 1 by omega]
                intro g hg
                have := hD' g hg
                simpa only [vup_rd, Nat.reduceEqDiff, ↓reduceIte] using this
            · rw [if_neg q4, show (0 : Int32) = nI 0 from rfl, m_byteAt hTτ (by decide) (by omega) (by omega)]
              simp only [Option.bind]
              have q5 : 4 * f + 3 < n := by omega
              have b3 : bt t n (4 * f + 3) = t (4 * f + 3) := if_pos q5
              rw [b3]
              by_cases c4 : t (4 * f + 3) = 59
              · rw [if_pos c4, nI_1, nI_1]
                obtain ⟨r, σ', a1, a2⟩ := ih m (f + 1) τ (by omega) (by omega) (by omega) hfr h02' (fun j hj => by
                  by_cases e : j = 4 * f + 3
                  · rw [e]; simp [okF, show (4 * f + 3) % 4 = 3 by omega, c4]
                  · exact ok3 j (by omega)) hD'
                exact ⟨r, σ', a1, fun _ => a2⟩
              · rw [if_neg c4]
                refine ⟨_, _, rfl, fun _ => ⟨Or.inl ⟨4 * f + 3, q5, by simp [okF, show (4 * f + 3) % 4 = 3 by omega, c4], ok3, rfl⟩, hfr, by rw [if_neg (nI_m1 (by omega))]; exact h02', fun z => absurd z (nI_m1 (by omega))⟩⟩
    show ∃ r σ', fX8_readsParts_37 _ _ _ _ _ = some (r, σ') ∧ _
    unfold fX8_readsParts_37
    simp only [x0, c0, show ((0 : Int32) < 0 ∨ 2 ≤ 0) = False from eq_false (by decide), ↓reduceIte]
    rw [e10]
    simp only [nI_ltI (show 4 * f < 2 ^ 31 by omega) (show n < 2 ^ 31 by omega), nI_le0 (show 4 * f < 2 ^ 31 by omega)]
    by_cases w1 : 4 * f < n
    · rw [if_pos w1]
      obtain ⟨r, σ', a1, a2⟩ := body
      exact ⟨r, σ', a1, a2 (by omega)⟩
    · rw [if_neg w1]
      by_cases w2 : 4 * f = 0
      · rw [if_pos w2]
        have hn0 : n = 0 := by omega
        subst hn0
        refine ⟨-1, σ, rfl, Or.inr ⟨fun j hj => absurd hj (Nat.not_lt_zero _), by simp⟩, hf, ?_, fun _ g hg => absurd hg (Nat.not_lt_zero _)⟩
        rw [if_pos rfl, h02]
        rfl
      · rw [if_neg w2]
        obtain ⟨r, σ', a1, a2⟩ := body
        exact ⟨r, σ', a1, a2 (by omega)⟩
theorem m_parts0 {t : Nat → Int32} {n : Nat} (hn : n ≤ 35) {σ : vMem} (hT : HT σ 0 n t) : ∃ r σ', fX8_readsParts 0 σ = some (r, σ') ∧ FF t n r ∧ Fr345 σ σ' ∧ σ'.1 0 2 = (if r = -1 then nI ((n + 1) / 4) else 0) ∧ (r = -1 → DG t ((n + 1) / 4) σ') := by
  have hf : Fr345 σ (vup σ 0 2 0) := ⟨fun a h0 _ _ _ => by rw [vup_ne _ _ h0], fun k hk => by rw [vup_rd, if_pos rfl, if_neg hk], rfl⟩
  obtain ⟨r, σ', a1, a2⟩ := m_partsL0 hn hT 9 200 0 (vup σ 0 2 0) (by omega) (by omega) (by omega) hf (by rw [vup_rd]; simp) (fun j hj => absurd hj (Nat.not_lt_zero _)) (fun g hg => absurd hg (Nat.not_lt_zero _))
  refine ⟨r, σ', ?_, a2⟩
  unfold fX8_readsParts fX8_readsParts_17 fX8_readsParts_20 fX8_readsParts_34
  rw [if_pos rfl, if_neg (by decide), vup_same _ 0 6 rfl]
  exact a1
