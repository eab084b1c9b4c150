/-! was -/
noncomputable abbrev PBi (A : vA) (f v : Nat) : vP := pBi (PT A) f v
noncomputable abbrev PWo (A : vA) (f v : Nat) : vP := pWo (PT A) f (nI v)
noncomputable def sWb (A : vA) (f v : Nat) : Bool := seenB A (PBi A f v) (tRun (PBi A f v) 40)
noncomputable def sWw (A : vA) (f v : Nat) : Bool := seenB A (PWo A f v) (tRun (PWo A f v) 40)
noncomputable def lw (A : vA) (f v b : Nat) : Nat := tld (tRun (PBi A f v) 40) b
theorem LtP_bi {A : vA} (hA : WA A) (f v : Nat) : LtP (PBi A f v) := LtP_PA hA (bitAt (wAll A)) (bitAt (sAll A))
theorem LtP_wo {A : vA} (hA : WA A) (f : Nat) {v : Nat} (hv : v < 8) : LtP (PWo A f v) := by
  have h := LtP_PA hA (bitAt (wAll A)) (bitAt (sAll A))
  refine ⟨fun g hg => ?_, h.2⟩
  show ∃ j, j < 8 ∧ va_up (pwo (PT A)) f (nI v) g = nI j
  unfold va_up
  split
  · exact ⟨v, hv, rfl⟩
  · exact h.1 g hg
theorem c_fitB {A : vA} (hA : WA A) {σ : vMem} (h : RC A σ) {f : Nat} (hf : f < nfA A) : ∃ σ', fX7_fittingBites (nI f) σ = some (orB (sWb A f) 10, σ') ∧ RC A σ' ∧ ∀ v, v < 10 → ∀ b, b < nbA A → σ'.1 39 (8 * v + b) = nI (lw A f v b) := by
  have h8 := nbA_le hA
  have h9 := nfA_le hA
  have key : ∀ (k n i : Nat) (τ : vMem), i + k = 10 → k < n → RX A 7 f σ τ → (∀ v, v < i → ∀ b, b < nbA A → τ.1 39 (8 * v + b) = nI (lw A f v b)) → ∃ σ', LfX7_fittingBites_15 n (nI f) (σ.1 7 f) (orB (sWb A f) i) (nI i) τ = some (orB (sWb A f) 10, σ') ∧ RC A σ' ∧ ∀ v, v < 10 → ∀ b, b < nbA A → σ'.1 39 (8 * v + b) = nI (lw A f v b) := by
    intro k
    induction k with
    | zero =>
      intro n i τ hik hn hR hl
      obtain ⟨n, rfl⟩ : ∃ j, n = j + 1 := ⟨n - 1, by omega⟩
      have : i = 10 := by omega
      subst this
      refine ⟨vup τ 7 f (σ.1 7 f), ?_, hR.back (by omega) (by omega) rfl, fun v hv b hb => by rw [vup_ne _ _ (by decide)]; exact hl v hv b hb⟩
      show fX7_fittingBites_15 _ _ _ _ _ _ = _
      unfold fX7_fittingBites_15 fX7_fittingBites_115
      rw [show (10 : Int32) = nI 10 from rfl, if_pos (Int32.le_refl _)]
      simp only [nI_clamp (show f < 2 ^ 31 by omega), ixF (show f < 9 by omega) (by decide), ↓reduceIte]
    | succ k ih =>
      intro n i τ hik hn hR hl
      obtain ⟨n, rfl⟩ : ∃ j, n = j + 1 := ⟨n - 1, by omega⟩
      have hlt : (nI 10 ≤ nI i) = False := eq_false (fun z => by have := (nI_leI (by omega) (by omega)).mp z; omega)
      have hR2 := hR.up (by omega) (by omega) (nI i)
      have hP : WP (PBi A f i) := (WP_PT hA).bi (by omega)
      obtain ⟨τ1, c1, c2, w, y, sn, c4⟩ := c_goX hR2 (by omega) (by omega) hP (hR2.bi (v := i) (by simp [vup_rd])) (wb := wAll A) (sb := sAll A) rfl rfl
      have c5 : fX3_agree τ1 = some (b2 (sWb A f i), τ1) := c_agree hA hP c4 (fun k hk => (T21 hP hk).1) (tRun_TL (LtP_bi hA f i) 40) (c2.se (by omega))
      obtain ⟨w1, w2⟩ := hR2.w25 (by omega)
      have e39 : τ1.1 39 = τ.1 39 := by rw [c4.1.2.1 39 (by decide), vup_ne _ _ (by decide)]
      let τ2 := vcp τ1 15 39 0 (8 * i) 8
      have hl2 : ∀ v, v < i + 1 → ∀ b, b < nbA A → τ2.1 39 (8 * v + b) = nI (lw A f v b) := by
        intro v hv b hb
        show (vcp τ1 15 39 0 (8 * i) 8).1 39 (8 * v + b) = _
        rw [vcp_rd, if_pos rfl]
        by_cases q : v = i
        · subst q
          rw [if_pos (by omega), show 0 + (8 * v + b - 8 * v) = b by omega]
          exact c4.2.2.2.1 b hb
        · rw [if_neg (by omega), e39]
          exact hl v (by omega) b hb
      obtain ⟨σ', e1, e2⟩ := ih n (i + 1) τ2 (by omega) (by omega) (c2.fr (by omega) (by omega) (fun a ha => vcp_ne _ (by omega))) hl2
      refine ⟨σ', ?_, e2⟩
      show fX7_fittingBites_15 _ _ _ _ _ _ = _
      unfold fX7_fittingBites_15 fX7_fittingBites_33 fX7_fittingBites_77 fX7_fittingBites_99
      have e8 : nI i * 8 = nI (8 * i) := by rw [show (8 : Int32) = nI 8 from rfl, pk_mul, Nat.mul_comm]
      rw [show (10 : Int32) = nI 10 from rfl]
      simp only [hlt, ↓reduceIte, nI_clamp (show f < 2 ^ 31 by omega), ixF (show f < 9 by omega) (by decide)]
      rw [c_all25x hA w1]
      simp only [Option.bind]
      rw [c_all27x hA w2]
      simp only
      rw [c1]
      simp only
      rw [c5]
      simp only [b2_0, nI_1, e8, nI_clamp (show 8 * i < 2 ^ 31 by omega)]
      have ck : ¬ ((0 : Int32) < 0 ∨ nI (8 * i) < 0 ∨ (8 : Int32) < 0 ∨ 8 < (0 : Int32).toNatClampNeg + (8 : Int32).toNatClampNeg ∨ 80 < 8 * i + (8 : Int32).toNatClampNeg) := by
        rintro (z | z | z | z | z)
        · exact absurd z (by decide)
        · exact nI_pos (by omega) z
        · exact absurd z (by decide)
        · exact absurd z (by decide)
        · rw [show (8 : Int32).toNatClampNeg = 8 from rfl] at z; omega
      rw [if_neg ck, if_neg ck]
      rw [orB] at e1
      by_cases q : sWb A f i = true
      · rw [if_pos q] at e1
        rw [if_neg (by rw [q]; decide)]
        exact e1
      · rw [if_neg q] at e1
        rw [if_pos (by simpa using q)]
        exact e1
  obtain ⟨σ', d1, d2⟩ := key 10 200 0 σ (by omega) (by omega) (RX.rf h) (fun v hv => absurd hv (Nat.not_lt_zero _))
  refine ⟨σ', ?_, d2⟩
  unfold fX7_fittingBites
  simp only [nI_clamp (show f < 2 ^ 31 by omega), ixF (show f < 9 by omega) (by decide), ↓reduceIte]
  exact d1
theorem c_fitW {A : vA} (hA : WA A) {σ : vMem} (h : RC A σ) {f : Nat} (hf : f < nfA A) : ∃ σ', fX7_fittingWords (nI f) σ = some (orB (sWw A f) 8, σ') ∧ RC A σ' := by
  have h8 := nbA_le hA
  have h9 := nfA_le hA
  have key : ∀ (k n i : Nat) (τ : vMem), i + k = 8 → k < n → RX A 8 f σ τ → ∃ σ', LfX7_fittingWords_15 n (nI f) (σ.1 8 f) (orB (sWw A f) i) (nI i) τ = some (orB (sWw A f) 8, σ') ∧ RC A σ' := by
    intro k
    induction k with
    | zero =>
      intro n i τ hik hn hR
      obtain ⟨n, rfl⟩ : ∃ j, n = j + 1 := ⟨n - 1, by omega⟩
      have : i = 8 := by omega
      subst this
      refine ⟨vup τ 8 f (σ.1 8 f), ?_, hR.back (by omega) (by omega) rfl⟩
      show fX7_fittingWords_15 _ _ _ _ _ _ = _
      unfold fX7_fittingWords_15 fX7_fittingWords_93
      rw [show (8 : Int32) = nI 8 from rfl, if_pos (Int32.le_refl _)]
      simp only [nI_clamp (show f < 2 ^ 31 by omega), ixF (show f < 9 by omega) (by decide), ↓reduceIte]
    | succ k ih =>
      intro n i τ hik hn hR
      obtain ⟨n, rfl⟩ : ∃ j, n = j + 1 := ⟨n - 1, by omega⟩
      have hlt : (nI 8 ≤ nI i) = False := eq_false (fun z => by have := (nI_leI (by omega) (by omega)).mp z; omega)
      have hR2 := hR.up (by omega) (by omega) (nI i)
      have hP : WP (PWo A f i) := (WP_PT hA).wo
      obtain ⟨τ1, c1, c2, w, y, sn, c4⟩ := c_goX hR2 (by omega) (by omega) hP (hR2.wo (v := nI i) (by simp [vup_rd])) (wb := wAll A) (sb := sAll A) rfl rfl
      have c5 : fX3_agree τ1 = some (b2 (sWw A f i), τ1) := c_agree hA hP c4 (fun k hk => (T21 hP hk).1) (tRun_TL (LtP_wo hA f (by omega)) 40) (c2.se (by omega))
      obtain ⟨w1, w2⟩ := hR2.w25 (by omega)
      obtain ⟨σ', e1, e2⟩ := ih n (i + 1) τ1 (by omega) (by omega) c2
      refine ⟨σ', ?_, e2⟩
      show fX7_fittingWords_15 _ _ _ _ _ _ = _
      unfold fX7_fittingWords_15 fX7_fittingWords_33 fX7_fittingWords_77
      rw [show (8 : Int32) = nI 8 from rfl]
      simp only [hlt, ↓reduceIte, nI_clamp (show f < 2 ^ 31 by omega), ixF (show f < 9 by omega) (by decide)]
      rw [c_all25x hA w1]
      simp only [Option.bind]
      rw [c_all27x hA w2]
      simp only
      rw [c1]
      simp only
      rw [c5]
      simp only [b2_0, nI_1]
      rw [orB] at e1
      by_cases q : sWw A f i = true
      · rw [if_pos q] at e1
        rw [if_neg (by rw [q]; decide)]
        exact e1
      · rw [if_neg q] at e1
        rw [if_pos (by simpa using q)]
        exact e1
  obtain ⟨σ', d1, d2⟩ := key 8 200 0 σ (by omega) (by omega) (RX.rf h)
  refine ⟨σ', ?_, d2⟩
  unfold fX7_fittingWords
  simp only [nI_clamp (show f < 2 ^ 31 by omega), ixF (show f < 9 by omega) (by decide), ↓reduceIte]
  exact d1
theorem m_isSeenX {A : vA} (hA : WA A) {w s : Int64} {c b : Nat} {σ0 σ : vMem} (h : MX A w s c b σ0 σ) (hc : 3 ≤ c) (hc2 : c ≤ 9) {P : vP} (hP : WP P) (hD : DM P σ) : ∃ σ', fX8_isSeen σ = some (b2 (seenB A P (tRun P 40)), σ') ∧ MX A w s c b σ0 σ' ∧ ME σ P σ' := by
  obtain ⟨σ', a1, a2, a3⟩ := m_runX h hc hc2 hP hD
  refine ⟨σ', ?_, a2, a3⟩
  unfold fX8_isSeen
  rw [a1]
  exact m_isSeenL hA hP a3.1.dm.1.2.1 a3.1.2.2.2.1 a3.1.2.2.2.2.1 (fun k hk => (T21 hP hk).1) a2.2.1.2.2.2.2.1
theorem m_was98 {N v : Nat} (hN : N ≤ 8) (hv : v < 10) (K : Int32 → Int32 → Int32 → Int32 → Int32 → Int32 → vMem → Option (Int32 × vMem)) (l1 l2 l3 l4 l5 : Int32) : ∀ (d n b : Nat) (τ : vMem), b + d = N → d < n → τ.1 0 6 = nI N → ∃ τ', LfX8_wasOf_98 K n l1 l2 l3 l4 l5 (nI v) (nI b) τ = K l1 l2 l3 l4 l5 (nI (v + 1)) τ' ∧ (∀ a, a ≠ 30 → τ'.1 a = τ.1 a) ∧ τ'.2 = τ.2 ∧ ∀ j, τ'.1 30 j = if 8 * v + b ≤ j ∧ j < 8 * v + N then τ.1 13 (j - 8 * v) else τ.1 30 j := by
  intro d
  induction d with
  | zero =>
    intro n b τ hb hn h6
    obtain ⟨n, rfl⟩ : ∃ j, n = j + 1 := ⟨n - 1, by omega⟩
    have : b = N := by omega
    subst this
    refine ⟨τ, ?_, fun _ _ => rfl, rfl, fun j => by rw [if_neg (by omega)]⟩
    show fX8_wasOf_98 _ _ _ _ _ _ _ _ _ _ = _
    unfold fX8_wasOf_98
    rw [h6, if_pos (Int32.le_refl _), nI_1]
  | succ d ih =>
    intro n b τ hb hn h6
    obtain ⟨n, rfl⟩ : ∃ j, n = j + 1 := ⟨n - 1, by omega⟩
    have hlt : (nI N ≤ nI b) = False := eq_false (fun z => by have := (nI_leI (by omega) (by omega)).mp z; omega)
    obtain ⟨τ', a1, a2, a3, a4⟩ := ih n (b + 1) (vup τ 30 (8 * v + b) (τ.1 13 b)) (by omega) (by omega) (by rw [vup_ne _ _ (by decide)]; exact h6)
    refine ⟨τ', ?_, fun a ha => (a2 a ha).trans (vup_ne _ _ ha), a3, fun j => ?_⟩
    · show fX8_wasOf_98 _ _ _ _ _ _ _ _ _ _ = _
      unfold fX8_wasOf_98 fX8_wasOf_127
      have e8 : 8 * nI v + nI b = nI (8 * v + b) := by rw [show (8 : Int32) = nI 8 from rfl, pk_mul, nI_add]
      simp only [h6, hlt, ↓reduceIte, e8, nI_clamp (show b < 2 ^ 31 by omega), ixF (show b < 8 by omega) (by decide), nI_clamp (show 8 * v + b < 2 ^ 31 by omega), ixF (show 8 * v + b < 80 by omega) (by decide), nI_1]
      exact a1
    · rw [a4 j]
      simp only [vup_rd, Nat.reduceEqDiff, ↓reduceIte]
      by_cases q : j = 8 * v + b
      · rw [if_neg (by omega), if_pos q, if_pos (by omega), show j - 8 * v = b by omega]
      · rw [if_neg q]
        by_cases z : 8 * v + (b + 1) ≤ j ∧ j < 8 * v + N
        · rw [if_pos z, if_pos (by omega)]
        · rw [if_neg z, if_neg (by omega)]
theorem m_wasOf0 {A : vA} (hA : WA A) {σ : vMem} (h : RM A σ) {f : Nat} (hf : f < nfA A) : ∃ σ', fX8_wasOf (nI f) 0 σ = some (orB (sWb A f) 10, σ') ∧ RM A σ' ∧ MD A σ' ∧ ∀ v, v < 10 → ∀ b, b < nbA A → σ'.1 30 (8 * v + b) = nI (lw A f v b) := by
  have h8 := nbA_le hA
  have h9 := nfA_le hA
  obtain ⟨σ1, s1, s2⟩ := m_asTold hA h
  have key : ∀ (k n i : Nat) (τ : vMem), i + k = 10 → k < n → MX A (wAll A) (sAll A) 4 f σ1 τ → (∀ v, v < i → ∀ b, b < nbA A → τ.1 30 (8 * v + b) = nI (lw A f v b)) → ∃ σ', LfX8_wasOf_25 n (nI f) 0 (σ1.1 4 f) (σ1.1 5 f) (orB (sWb A f) i) (nI i) τ = some (orB (sWb A f) 10, σ') ∧ RM A σ' ∧ MD A σ' ∧ ∀ v, v < 10 → ∀ b, b < nbA A → σ'.1 30 (8 * v + b) = nI (lw A f v b) := by
    intro k
    induction k with
    | zero =>
      intro n i τ hik hn hM hl
      obtain ⟨n, rfl⟩ : ∃ j, n = j + 1 := ⟨n - 1, by omega⟩
      have : i = 10 := by omega
      subst this
      have hT := hM.back (by omega) (by omega) rfl
      refine ⟨vup τ 4 f (σ1.1 4 f), ?_, hT.1, hT.2.1, fun v hv b hb => by rw [vup_ne _ _ (by decide)]; exact hl v hv b hb⟩
      show fX8_wasOf_25 _ _ _ _ _ _ _ _ = _
      unfold fX8_wasOf_25 fX8_wasOf_38 fX8_wasOf_146 fX8_wasOf_154
      rw [if_pos rfl, show (10 : Int32) = nI 10 from rfl, if_pos (Int32.le_refl _)]
      simp only [nI_clamp (show f < 2 ^ 31 by omega), ixF (show f < 10 by omega) (by decide), ↓reduceIte]
      rw [vup_same (vup τ 4 f (σ1.1 4 f)) 5 f (by rw [vup_ne _ _ (by decide), hM.2.2.1 5 (by omega) (by omega) (by omega)])]
    | succ k ih =>
      intro n i τ hik hn hM hl
      obtain ⟨n, rfl⟩ : ∃ j, n = j + 1 := ⟨n - 1, by omega⟩
      have hlt : (nI 10 ≤ nI i) = False := eq_false (fun z => by have := (nI_leI (by omega) (by omega)).mp z; omega)
      have hM2 := hM.up (by omega) (by omega) (nI i)
      have hP : WP (PBi A f i) := (WP_PT hA).bi (by omega)
      obtain ⟨τ1, c1, c2, c3⟩ := m_isSeenX hA hM2 (by omega) (by omega) hP (hM2.bi hA (v := i) (by omega) (by simp [vup_rd]))
      have c1 : fX8_isSeen (vup τ 4 f (nI i)) = some (b2 (sWb A f i), τ1) := c1
      have e30 : τ1.1 30 = τ.1 30 := by rw [c3.1.1.1.2.1 30 (by decide) (by decide), vup_ne _ _ (by decide)]
      have e6 : τ1.1 0 6 = nI (nbA A) := c3.1.dm.1.2.1
      obtain ⟨τ2, d1, d2, d3, d4⟩ := m_was98 (v := i) h8 (by omega) (LfX8_wasOf_25 n) (nI f) 0 (σ1.1 4 f) (σ1.1 5 f) (orB (sWb A f) (i + 1)) (nbA A) 200 0 τ1 (by omega) (by omega) e6
      have hl2 : ∀ v, v < i + 1 → ∀ b, b < nbA A → τ2.1 30 (8 * v + b) = nI (lw A f v b) := by
        intro v hv b hb
        rw [d4]
        by_cases q : v = i
        · subst q
          rw [if_pos (by omega), show 8 * v + b - 8 * v = b by omega]
          exact c3.1.2.2.1 b hb
        · rw [if_neg (by omega), e30]
          exact hl v (by omega) b hb
      obtain ⟨σ', e1, e2⟩ := ih n (i + 1) τ2 (by omega) (by omega) (c2.other (Or.inr rfl) d2 d3 (by omega)) hl2
      refine ⟨σ', ?_, e2⟩
      show fX8_wasOf_25 _ _ _ _ _ _ _ _ = _
      unfold fX8_wasOf_25 fX8_wasOf_38 fX8_wasOf_56 fX8_wasOf_57 fX8_wasOf_74 fX8_wasOf_75 fX8_wasOf_92
      rw [if_pos rfl, show (10 : Int32) = nI 10 from rfl]
      simp only [hlt, ↓reduceIte, nI_clamp (show f < 2 ^ 31 by omega), ixF (show f < 10 by omega) (by decide)]
      rw [if_neg (show ¬ (0 : Int32) = 1 by decide), vup_same (vup τ 4 f (nI i)) 5 f (by rw [vup_ne _ _ (by decide), hM.2.2.1 5 (by omega) (by omega) (by omega)]), c1]
      simp only [Option.bind, b2_0]
      rw [orB] at d1
      by_cases q : sWb A f i = true
      · rw [if_pos q] at d1
        rw [if_neg (by rw [q]; decide)]
        exact d1.trans (by rw [orB, if_pos q] at e1; exact e1)
      · rw [if_neg q] at d1
        rw [if_pos (by simpa using q), Int32.or_zero]
        exact d1.trans (by rw [orB, if_neg q] at e1; exact e1)
  obtain ⟨σ', d1, d2⟩ := key 10 200 0 σ1 (by omega) (by omega) (MX.rf s2) (fun v hv => absurd hv (Nat.not_lt_zero _))
  refine ⟨σ', ?_, d2⟩
  unfold fX8_wasOf
  rw [s1]
  simp only [Option.bind, nI_clamp (show f < 2 ^ 31 by omega), ixF (show f < 10 by omega) (by decide), ↓reduceIte]
  exact d1
theorem m_wasOf1 {A : vA} (hA : WA A) {σ : vMem} (h : RM A σ) {f : Nat} (hf : f < nfA A) : ∃ σ', fX8_wasOf (nI f) 1 σ = some (orB (sWw A f) 8, σ') ∧ RM A σ' ∧ MD A σ' := by
  have h8 := nbA_le hA
  have h9 := nfA_le hA
  obtain ⟨σ1, s1, s2⟩ := m_asTold hA h
  have key : ∀ (k n i : Nat) (τ : vMem), i + k = 8 → k < n → MX A (wAll A) (sAll A) 5 f σ1 τ → ∃ σ', LfX8_wasOf_25 n (nI f) 1 (σ1.1 4 f) (σ1.1 5 f) (orB (sWw A f) i) (nI i) τ = some (orB (sWw A f) 8, σ') ∧ RM A σ' ∧ MD A σ' := by
    intro k
    induction k with
    | zero =>
      intro n i τ hik hn hM
      obtain ⟨n, rfl⟩ : ∃ j, n = j + 1 := ⟨n - 1, by omega⟩
      have : i = 8 := by omega
      subst this
      have hT := hM.back (by omega) (by omega) rfl
      refine ⟨vup τ 5 f (σ1.1 5 f), ?_, hT.1, hT.2.1⟩
      show fX8_wasOf_25 _ _ _ _ _ _ _ _ = _
      unfold fX8_wasOf_25 fX8_wasOf_38 fX8_wasOf_146 fX8_wasOf_154
      rw [if_neg (show ¬ (1 : Int32) = 0 by decide), show (8 : Int32) = nI 8 from rfl, if_pos (Int32.le_refl _)]
      simp only [nI_clamp (show f < 2 ^ 31 by omega), ixF (show f < 10 by omega) (by decide), ↓reduceIte]
      rw [vup_same τ 4 f (by rw [hM.2.2.1 4 (by omega) (by omega) (by omega)])]
    | succ k ih =>
      intro n i τ hik hn hM
      obtain ⟨n, rfl⟩ : ∃ j, n = j + 1 := ⟨n - 1, by omega⟩
      have hlt : (nI 8 ≤ nI i) = False := eq_false (fun z => by have := (nI_leI (by omega) (by omega)).mp z; omega)
      have hM2 := hM.up (by omega) (by omega) (nI i)
      have hP : WP (PWo A f i) := (WP_PT hA).wo
      obtain ⟨τ1, c1, c2, c3⟩ := m_isSeenX hA hM2 (by omega) (by omega) hP (hM2.wo hA (v := nI i) (by simp [vup_rd]))
      have c1 : fX8_isSeen (vup τ 5 f (nI i)) = some (b2 (sWw A f i), τ1) := c1
      have e6 : τ1.1 0 6 = nI (nbA A) := c3.1.dm.1.2.1
      obtain ⟨τ2, d1, d2, d3, d4⟩ := m_was98 (v := i) h8 (by omega) (LfX8_wasOf_25 n) (nI f) 1 (σ1.1 4 f) (σ1.1 5 f) (orB (sWw A f) (i + 1)) (nbA A) 200 0 τ1 (by omega) (by omega) e6
      obtain ⟨σ', e1, e2⟩ := ih n (i + 1) τ2 (by omega) (by omega) (c2.other (Or.inr rfl) d2 d3 (by omega))
      refine ⟨σ', ?_, e2⟩
      show fX8_wasOf_25 _ _ _ _ _ _ _ _ = _
      unfold fX8_wasOf_25 fX8_wasOf_38 fX8_wasOf_56 fX8_wasOf_57 fX8_wasOf_74 fX8_wasOf_75 fX8_wasOf_92
      rw [if_neg (show ¬ (1 : Int32) = 0 by decide), show (8 : Int32) = nI 8 from rfl]
      simp only [hlt, ↓reduceIte, nI_clamp (show f < 2 ^ 31 by omega), ixF (show f < 10 by omega) (by decide), if_neg (show ¬ (1 : Int32) = 0 by decide)]
      rw [vup_same τ 4 f (by rw [hM.2.2.1 4 (by omega) (by omega) (by omega)]), c1]
      simp only [Option.bind, b2_0]
      rw [orB] at d1
      by_cases q : sWw A f i = true
      · rw [if_pos q] at d1
        rw [if_neg (by rw [q]; decide)]
        exact d1.trans (by rw [orB, if_pos q] at e1; exact e1)
      · rw [if_neg q] at d1
        rw [if_pos (by simpa using q), Int32.or_zero]
        exact d1.trans (by rw [orB, if_neg q] at e1; exact e1)
  obtain ⟨σ', d1, d2⟩ := key 8 200 0 σ1 (by omega) (by omega) (MX.rf s2)
  refine ⟨σ', ?_, d2⟩
  unfold fX8_wasOf
  rw [s1]
  simp only [Option.bind, nI_clamp (show f < 2 ^ 31 by omega), ixF (show f < 10 by omega) (by decide), ↓reduceIte]
  exact d1
noncomputable def rWas (A : vA) (f : Nat) (y : Int32) : Int32 := if y = 0 then orB (sWb A f) 10 else orB (sWw A f) 8
theorem rWas_0 (A : vA) (f : Nat) : rWas A f 0 = orB (sWb A f) 10 := if_pos rfl
theorem rWas_1 (A : vA) (f : Nat) : rWas A f 1 = orB (sWw A f) 8 := if_neg (by decide)
theorem c_wasR {A : vA} (hA : WA A) {σ : vMem} (h : RC A σ) {f : Nat} (hf : f < nfA A) {y : Int32} (hy : inR 2 y = true) : ∃ σ', fX7_was (nI f) y σ = some (rWas A f y, σ') ∧ RC A σ' := by
  have h9 := nfA_le hA
  rcases in2 hy with rfl | rfl
  · obtain ⟨σ', a1, a2, a3⟩ := c_fitB hA h hf
    refine ⟨σ', ?_, a2⟩
    rw [rWas_0]
    unfold fX7_was
    rw [c_isFloor h, inR_nI (by omega) hf]
    simp only [Option.bind, b2_0, Bool.true_eq_false, ↓reduceIte, a1]
  · obtain ⟨σ', a1, a2⟩ := c_fitW hA h hf
    refine ⟨σ', ?_, a2⟩
    rw [rWas_1]
    unfold fX7_was
    rw [c_isFloor h, inR_nI (by omega) hf]
    simp only [Option.bind, b2_0, Bool.true_eq_false, ↓reduceIte, a1, if_neg (show ¬ (1 : Int32) = 0 by decide)]
theorem m_wasOf {A : vA} (hA : WA A) {σ : vMem} (h : RM A σ) {f : Nat} (hf : f < nfA A) {y : Int32} (hy : inR 2 y = true) : ∃ σ', fX8_wasOf (nI f) y σ = some (rWas A f y, σ') ∧ RM A σ' ∧ MD A σ' := by
  rcases in2 hy with rfl | rfl
  · obtain ⟨σ', a1, a2, a3, -⟩ := m_wasOf0 hA h hf
    rw [rWas_0]
    exact ⟨σ', a1, a2, a3⟩
  · obtain ⟨σ', a1, a2, a3⟩ := m_wasOf1 hA h hf
    rw [rWas_1]
    exact ⟨σ', a1, a2, a3⟩
theorem q_was {A : vA} (hA : WA A) (x y : Int32) : vJ A (fX7_was x y) (fX8_was x y) := by
  have h9 := nfA_le hA
  by_cases q : inR (nfA A) x = true
  · obtain ⟨k, hk, rfl⟩ := inR_ex (by omega) q
    by_cases z : inR 2 y = true
    · refine ⟨rWas A k y, A, hA, fun σ h => c_wasR hA h hk z, fun σ h => ?_⟩
      obtain ⟨σ1, a1, a2, a3⟩ := m_isFloor hA h (nI k)
      obtain ⟨σ', b1, b2, b3⟩ := m_wasOf hA a2 hk z
      refine ⟨σ', ?_, b2⟩
      unfold fX8_was fX8_was_28
      rw [a1, q]
      simp only [Option.bind, b2_0, Bool.true_eq_false, ↓reduceIte]
      rw [m_in1, z]
      simp only [b2_0, Bool.true_eq_false, ↓reduceIte, b1]
    · have z := inR_F z
      refine ⟨-2, A, hA, fun σ h => ⟨σ, ?_, h⟩, fun σ h => ?_⟩
      · obtain ⟨z0, z1⟩ := in2F z
        unfold fX7_was
        rw [c_isFloor h, q]
        simp only [Option.bind, b2_0, Bool.true_eq_false, ↓reduceIte, z0, z1]
      · obtain ⟨σ', a1, a2, a3⟩ := m_isFloor hA h (nI k)
        refine ⟨σ', ?_, a2⟩
        unfold fX8_was
        rw [a1, q]
        simp only [Option.bind, b2_0, Bool.true_eq_false, ↓reduceIte]
        rw [m_in1, z]
        rfl
  · have q := inR_F q
    refine ⟨-2, A, hA, fun σ h => ⟨σ, ?_, h⟩, fun σ h => ?_⟩
    · unfold fX7_was
      rw [c_isFloor h, q]
      rfl
    · obtain ⟨σ', a1, a2, a3⟩ := m_isFloor hA h x
      refine ⟨σ', ?_, a2⟩
      unfold fX8_was
      rw [a1, q]
      rfl
