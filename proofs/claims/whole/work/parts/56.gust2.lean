/-! gust -/
noncomputable def gA (A : vA) (c b m : Nat) : Nat := gS A c b m (2 ^ awn A)
noncomputable def rGu (A : vA) (c b m : Nat) (y : Int32) : Int64 := if y = 0 then lN (gA A c b m / Nat.gcd (gA A c b m) (2 ^ (4 * awn A))) else lN (2 ^ (4 * awn A) / Nat.gcd (gA A c b m) (2 ^ (4 * awn A)))
theorem RC.long {A : vA} {σ : vMem} (h : RC A σ) (n k : Nat) (x : Int64) : RC A (vupL σ n k x) := h.fr ⟨fun _ _ => rfl, rfl, h.2.2.1⟩
theorem nI16 {c : Nat} (hc : c ≤ 16) : (16 : Int32) - nI c = nI (16 - c) := pk_sub (a := 16) hc
theorem c_gust43 {A : vA} (hA : WA A) {c b m j : Nat} (hc : c ≤ 16) (hb : b < nbA A) (hm : m < 100) (hj : j < 2 ^ awn A) {y : Int64} (K : Int32 → Int32 → Int32 → Int32 → vMem → Option vMem) {τ : vMem} (hR : RC A τ) (h12 : τ.2 0 12 = lN (gS A c b m j)) (h13 : τ.2 0 13 = y) : ∀ (d n k : Nat), k + d = awn A → d < n → ∃ τ', LfX7_findChance_43 K n (nI c) (nI b) (nI m) (nI j) (lN (wtN c (fun k => j.testBit k) k)) (nI k) τ = K (nI c) (nI b) (nI m) (nI (j + 1)) τ' ∧ RC A τ' ∧ τ'.2 0 12 = lN (gS A c b m (j + 1)) ∧ τ'.2 0 13 = y := by
  have h6 := hA.2.2.2.1.1
  have h8 := nbA_le hA
  have p2 := p6 h6
  intro d
  induction d with
  | zero =>
    intro n k hk hn
    obtain ⟨n, rfl⟩ : ∃ j, n = j + 1 := ⟨n - 1, by omega⟩
    have : k = awn A := by omega
    subst this
    have hw := wtN_le hc (fun k => j.testBit k) (awn A)
    have egs : gS A c b m (j + 1) = gS A c b m j + tmN A c b m (fun k => j.testBit k) := rfl
    show ∃ τ', fX7_findChance_43 _ _ _ _ _ _ _ _ _ = _ ∧ _
    unfold fX7_findChance_43 fX7_findChance_146
    rw [hR.2.2.2.1.1, if_pos (Int32.le_refl _)]
    by_cases w0 : wtN c (fun k => j.testBit k) (awn A) = 0
    · refine ⟨τ, ?_, hR, ?_, h13⟩
      · rw [w0, if_pos (show lg_cmp (lN 0) 0 ≤ 0 from (lg_cmp_le _ _).mpr (by rw [lN_0]; exact (pk_lLE (by omega) (by omega)).mpr (Nat.le_refl _))), nI_1]
      · have : tmN A c b m (fun k => j.testBit k) = 0 := by unfold tmN; rw [w0]; split <;> rfl
        rw [egs, this]
        exact h12
    · rw [if_neg (fun w => by
        have w := (lg_cmp_le _ _).mp w
        rw [lN_0, pk_lLE (by omega) (by omega)] at w
        omega)]
      have ew : wB (awh A) (selI (nI j)) (awn A) = wB (awh A) (fun k => j.testBit k) (awn A) := wB_cong (awn A) (fun k hk => sel6 ⟨j, by omega⟩ ⟨k, by omega⟩)
      have hP := WP_PA hA (bitAt (wB (awh A) (fun k => j.testBit k) (awn A))) (bitAt (sAll A))
      obtain ⟨τ1, c1, c2, c3⟩ := c_goR hA hR (wB (awh A) (fun k => j.testBit k) (awn A)) (sAll A) (Nat.le_refl 40)
      obtain ⟨w, z, sn, c4⟩ := c3.ct
      have l1 := ((tRun_TI (PS A (fun k => j.testBit k)) hP 40 (Nat.le_refl _)).1 b hb).1
      have l2 : plo (PS A (fun k => j.testBit k)) b ≤ 99 := (hP.2.2.2.1 b hb).2.1
      have c5 := c_brings (T := tRun (PS A (fun k => j.testBit k)) 40) (σ := τ1) (b := b) (m := m) (by omega) hm (by omega) (c4.2.2.2.1 b hb) (c4.2.2.2.2.1 b hb)
      have g12 : τ1.2 0 12 = lN (gS A c b m j) := by rw [c4.1.2.2]; exact h12
      have g13 : τ1.2 0 13 = y := by rw [c4.1.2.2]; exact h13
      refine ⟨vupL τ1 0 12 (lN (gS A c b m (j + 1))), ?_, c2.long _ _ _, by simp [vupL_rd], by rw [vupL_rd]; simpa using g13⟩
      rw [c_chos25 hA hR, ew]
      simp only [Option.bind]
      rw [c_all27 hA hR]
      simp only
      rw [show (40 : Int32) = nI 40 from rfl, c1]
      simp only
      rw [c5, g12]
      unfold fX7_findChance_142 fX7_findChance_146
      simp only [b2_0, nI_1, lN_0, lN_add]
      rw [egs]
      unfold tmN
      by_cases q : upB (tRun (PS A (fun k => j.testBit k)) 40) b m = true
      · rw [if_neg (by rw [q]; decide), if_pos q]
      · rw [if_pos (by simpa using q), if_neg q]
  | succ d ih =>
    intro n k hk hn
    obtain ⟨n, rfl⟩ : ∃ j, n = j + 1 := ⟨n - 1, by omega⟩
    have hlt : ¬ nI (awn A) ≤ nI k := fun z => by have := (nI_leI (by omega) (by omega)).mp z; omega
    obtain ⟨τ', x1, x2⟩ := ih n (k + 1) (by omega) (by omega)
    refine ⟨τ', ?_, x2⟩
    rw [wtN] at x1
    have es := sel6 ⟨j, by omega⟩ ⟨k, by omega⟩
    simp only at es
    unfold selI at es
    show fX7_findChance_43 _ _ _ _ _ _ _ _ _ = _
    unfold fX7_findChance_43 fX7_findChance_78
    rw [hR.2.2.2.1.1, if_neg hlt, nI16 hc, nI_l (show c < 2 ^ 31 by omega), nI_l (show 16 - c < 2 ^ 31 by omega), lN_mul, lN_mul, nI_1]
    by_cases q : j.testBit k = true
    · rw [if_pos q] at x1
      rw [q] at es
      rw [if_pos (of_decide_eq_true es)]
      exact x1
    · rw [if_neg q] at x1
      have q : j.testBit k = false := by simpa using q
      rw [q] at es
      rw [if_neg (of_decide_eq_false es)]
      exact x1
theorem c_findChance {A : vA} (hA : WA A) {σ : vMem} (h : RC A σ) {c b m : Nat} (hc : c ≤ 16) (hb : b < nbA A) (hm : m < 100) : ∃ σ', fX7_findChance (nI c) (nI b) (nI m) σ = some σ' ∧ RC A σ' ∧ σ'.2 0 12 = rGu A c b m 0 ∧ σ'.2 0 13 = rGu A c b m 1 := by
  have h6 := hA.2.2.2.1.1
  have p2 := p6 h6
  have e1 := shl6 ⟨awn A, by omega⟩
  have e4 := shl24 ⟨awn A, by omega⟩
  simp only at e1 e4
  have key : ∀ (d n j : Nat) (τ : vMem), j + d = 2 ^ awn A → d < n → RC A τ → τ.2 0 12 = lN (gS A c b m j) → τ.2 0 13 = lN (2 ^ (4 * awn A)) → ∃ σ', LfX7_findChance_23 n (nI c) (nI b) (nI m) (nI j) τ = some σ' ∧ RC A σ' ∧ σ'.2 0 12 = rGu A c b m 0 ∧ σ'.2 0 13 = rGu A c b m 1 := by
    intro d
    induction d with
    | zero =>
      intro n j τ hj hn hR h12 h13
      obtain ⟨n, rfl⟩ : ∃ j, n = j + 1 := ⟨n - 1, by omega⟩
      have : j = 2 ^ awn A := by omega
      subst this
      have hS := gS_le hA hc b m (n := 2 ^ awn A) (by omega)
      obtain ⟨σ', x1, x2, x3, x4⟩ := c_half (S := gA A c b m) (e := 4 * awn A) (by omega) (by show gS A c b m (2 ^ awn A) < 2 ^ 62; omega) 24 200 0 (gA A c b m) (4 * awn A) τ (by omega) (by omega) (by rw [Nat.pow_zero, Nat.mul_one]) (by omega) h12 h13
      refine ⟨σ', ?_, ?_, x3, x4⟩
      · show fX7_findChance_23 _ _ _ _ _ _ = _
        unfold fX7_findChance_23
        rw [hR.2.2.2.1.1, e1, if_pos (Int32.le_refl _)]
        exact x1
      · exact hR.fr ⟨fun a _ => by rw [x2], by rw [x2], by rw [x2]; exact hR.2.2.1⟩
    | succ d ih =>
      intro n j τ hj hn hR h12 h13
      obtain ⟨n, rfl⟩ : ∃ j, n = j + 1 := ⟨n - 1, by omega⟩
      have hlt : ¬ nI (2 ^ awn A) ≤ nI j := fun z => by have := (nI_leI (by omega) (by omega)).mp z; omega
      obtain ⟨τ', x1, x2, x3, x4⟩ := c_gust43 hA hc hb hm (show j < 2 ^ awn A by omega) (LfX7_findChance_23 n) hR h12 h13 (awn A) 200 0 (by omega) (by omega)
      obtain ⟨σ', y1, y2⟩ := ih n (j + 1) τ' (by omega) (by omega) x2 x3 x4
      refine ⟨σ', ?_, y2⟩
      show fX7_findChance_23 _ _ _ _ _ _ = _
      unfold fX7_findChance_23
      rw [hR.2.2.2.1.1, e1, if_neg hlt]
      exact x1.trans y1
  obtain ⟨σ', d1, d2⟩ := key (2 ^ awn A) 200 0 (vupL (vupL σ 0 12 0) 0 13 (lN (2 ^ (4 * awn A)))) (by omega) (by omega) ((h.long _ _ _).long _ _ _) (by simp [vupL_rd]; rfl) (by simp [vupL_rd])
  refine ⟨σ', ?_, d2⟩
  unfold fX7_findChance fX7_findChance_5 fX7_findChance_20
  rw [show (vupL σ 0 12 0).1 25 1 = nI (awn A) from h.2.2.2.1.1, e4]
  exact d1
theorem m_gust27 {A : vA} (hA : WA A) {c b m j : Nat} (hc : c ≤ 16) (hb : b < nbA A) (hm : m < 100) (hj : j < 2 ^ awn A) (y : Int32) (K : Int32 → Int32 → Int32 → Int32 → Int64 → Int32 → vMem → Option (Int64 × vMem)) {w : Int64} {τ : vMem} (hM : MTo A w (sAll A) τ) : ∀ (d n k : Nat), k + d = awn A → d < n → ∃ w' τ', LfX8_gustOf_27 K n (nI c) (nI b) (nI m) y (lN (gS' A c b m j)) (nI j) (lN (wtN c (fun k => !j.testBit k) k)) (nI k) τ = K (nI c) (nI b) (nI m) y (lN (gS' A c b m (j + 1))) (nI (j + 1)) τ' ∧ MTo A w' (sAll A) τ' := by
  have h6 := hA.2.2.2.1.1
  have h8 := nbA_le hA
  have p2 := p6 h6
  intro d
  induction d with
  | zero =>
    intro n k hk hn
    obtain ⟨n, rfl⟩ : ∃ j, n = j + 1 := ⟨n - 1, by omega⟩
    have : k = awn A := by omega
    subst this
    have egs : gS' A c b m (j + 1) = gS' A c b m j + tmN A c b m (fun k => !j.testBit k) := rfl
    have ew : wB (awh A) (fun k => !bitAt (nI j).toInt64 k) (awn A) = wB (awh A) (fun k => !j.testBit k) (awn A) := wB_cong (awn A) (fun k hk => by
      have := bit6 ⟨j, by omega⟩ ⟨k, by omega⟩
      simp only at this
      rw [this])
    have hP := WP_PA hA (bitAt (wB (awh A) (fun k => !j.testBit k) (awn A))) (bitAt (sAll A))
    obtain ⟨τ1, c1, c2, c3⟩ := m_runR hA (hM.wind (wB (awh A) (fun k => !j.testBit k) (awn A)))
    have l1 := ((tRun_TI (PS A (fun k => !j.testBit k)) hP 40 (Nat.le_refl _)).1 b hb).1
    have l2 : plo (PS A (fun k => !j.testBit k)) b ≤ 99 := (hP.2.2.2.1 b hb).2.1
    have h13 : τ1.1 13 b = nI (tld (tRun (PS A (fun k => !j.testBit k)) 40) b) := c3.1.2.2.1 b hb
    have h18 : τ1.1 18 b = tup (tRun (PS A (fun k => !j.testBit k)) 40) b := c3.1.2.2.2.2.2.2.2.1 b hb
    refine ⟨_, τ1, ?_, c2⟩
    show fX8_gustOf_27 _ _ _ _ _ _ _ _ _ _ _ = _
    unfold fX8_gustOf_27 fX8_gustOf_78 fX8_gustOf_109 fX8_gustOf_110
    rw [hM.1.2.2.1.1, if_pos (Int32.le_refl _), m_winds hA hM.1, ew]
    simp only [Option.bind]
    rw [c1]
    simp only [nI_clamp (show b < 2 ^ 31 by omega), ixF (show b < 8 by omega) (by decide), ↓reduceIte, h13, h18, nI_1, lN_0, lN_add]
    rw [egs]
    unfold tmN upB
    by_cases q : tup (tRun (PS A (fun k => !j.testBit k)) 40) b = -1
    · rw [if_pos q, if_neg (by rw [decide_eq_false (fun z => z q), Bool.false_and]; decide)]
    · rw [if_neg q]
      have hl := nI_ltI (a := tld (tRun (PS A (fun k => !j.testBit k)) 40) b) (b := m) (by omega) (by omega)
      by_cases z : m ≤ tld (tRun (PS A (fun k => !j.testBit k)) 40) b
      · rw [if_neg (fun w => by have := hl.mp w; omega), if_pos (by rw [decide_eq_true q, decide_eq_true z]; rfl)]
      · rw [if_pos (hl.mpr (by omega)), if_neg (by rw [decide_eq_false z, Bool.and_false]; decide)]
  | succ d ih =>
    intro n k hk hn
    obtain ⟨n, rfl⟩ : ∃ j, n = j + 1 := ⟨n - 1, by omega⟩
    have hlt : ¬ nI (awn A) ≤ nI k := fun z => by have := (nI_leI (by omega) (by omega)).mp z; omega
    obtain ⟨w', τ', x1, x2⟩ := ih n (k + 1) (by omega) (by omega)
    refine ⟨w', τ', ?_, x2⟩
    rw [wtN] at x1
    have es := bit6 ⟨j, by omega⟩ ⟨k, by omega⟩
    simp only at es
    show fX8_gustOf_27 _ _ _ _ _ _ _ _ _ _ _ = _
    unfold fX8_gustOf_27 fX8_gustOf_59
    rw [hM.1.2.2.1.1, if_neg hlt, m_isIn, es, nI16 hc, nI_l (show c < 2 ^ 31 by omega), nI_l (show 16 - c < 2 ^ 31 by omega)]
    simp only [Option.bind, b2_0, nI_1, lN_mul]
    by_cases q : j.testBit k = true
    · rw [if_neg (by rw [q]; decide)] at x1
      rw [if_neg (by rw [q]; decide)]
      exact x1
    · have q : j.testBit k = false := by simpa using q
      rw [if_pos (by rw [q]; rfl)] at x1
      rw [if_pos q]
      exact x1
theorem m_gustOf {A : vA} (hA : WA A) {σ : vMem} (h : RM A σ) {c b m : Nat} (hc : c ≤ 16) (hb : b < nbA A) (hm : m < 100) (y : Int32) : ∃ σ', fX8_gustOf (nI c) (nI b) (nI m) y σ = some (rGu A c b m y, σ') ∧ RM A σ' ∧ MD A σ' := by
  have h6 := hA.2.2.2.1.1
  have p2 := p6 h6
  have e1 := shl6 ⟨awn A, by omega⟩
  have e4 := shl24 ⟨awn A, by omega⟩
  simp only at e1 e4
  obtain ⟨σ1, s1, s2⟩ := m_asTold hA h
  have key : ∀ (d n j : Nat) (w : Int64) (τ : vMem), j + d = 2 ^ awn A → d < n → MTo A w (sAll A) τ → ∃ σ', LfX8_gustOf_10 n (nI c) (nI b) (nI m) y (lN (gS' A c b m j)) (nI j) τ = some (rGu A c b m y, σ') ∧ RM A σ' ∧ MD A σ' := by
    intro d
    induction d with
    | zero =>
      intro n j w τ hj hn hM
      obtain ⟨n, rfl⟩ : ∃ j, n = j + 1 := ⟨n - 1, by omega⟩
      have : j = 2 ^ awn A := by omega
      subst this
      have hS := gS_le hA hc b m (n := 2 ^ awn A) (by omega)
      refine ⟨τ, ?_, hM.1, hM.2.1⟩
      show fX8_gustOf_10 _ _ _ _ _ _ _ _ = _
      unfold fX8_gustOf_10
      rw [hM.1.2.2.1.1, e1, if_pos (Int32.le_refl _), e4, gS_eq, m_lowest (by omega) p2.2.2]
      rfl
    | succ d ih =>
      intro n j w τ hj hn hM
      obtain ⟨n, rfl⟩ : ∃ j, n = j + 1 := ⟨n - 1, by omega⟩
      have hlt : ¬ nI (2 ^ awn A) ≤ nI j := fun z => by have := (nI_leI (by omega) (by omega)).mp z; omega
      obtain ⟨w', τ', x1, x2⟩ := m_gust27 hA hc hb hm (show j < 2 ^ awn A by omega) y (LfX8_gustOf_10 n) hM (awn A) 200 0 (by omega) (by omega)
      obtain ⟨σ', y1, y2⟩ := ih n (j + 1) w' τ' (by omega) (by omega) x2
      refine ⟨σ', ?_, y2⟩
      show fX8_gustOf_10 _ _ _ _ _ _ _ _ = _
      unfold fX8_gustOf_10
      rw [hM.1.2.2.1.1, e1, if_neg hlt]
      exact x1.trans y1
  obtain ⟨σ', d1, d2⟩ := key (2 ^ awn A) 200 0 _ σ1 (by omega) (by omega) s2
  refine ⟨σ', ?_, d2⟩
  unfold fX8_gustOf
  rw [s1]
  exact d1
theorem m_in16 (x : Int32) (σ : vMem) : fX8_in x 0 16 σ = some (b2 (inR 17 x), σ) := m_inR (n := 17) (by decide) x σ
theorem q_gust {A : vA} (hA : WA A) (x y u v : Int32) : vJ A (fX7_gust x y u v) (fX8_gust x y u v) := by
  have h8 := nbA_le hA
  by_cases o : inR 17 x = true
  · obtain ⟨c, hc, rfl⟩ := inR_ex (by omega) o
    have o1 : (nI c < 0) = False := nI_lt0 (by omega)
    have o2 : ((16 : Int32) < nI c) = False := eq_false (fun z => by have := (nI_ltI (a := 16) (by decide) (by omega)).mp z; omega)
    by_cases p : inR (nbA A) y = true
    · obtain ⟨b, hb, rfl⟩ := inR_ex (by omega) p
      by_cases q : inR 100 u = true
      · obtain ⟨m, hm, rfl⟩ := inR_ex (by omega) q
        by_cases r : inR 2 v = true
        · refine ⟨rGu A c b m v, A, hA, fun σ h => ?_, fun σ h => ?_⟩
          · obtain ⟨σ', a1, a2, a3, a4⟩ := c_findChance hA h (show c ≤ 16 by omega) hb hm
            refine ⟨σ', ?_, a2⟩
            unfold fX7_gust fX7_gust_40 fX7_gust_63
            simp only [o1, o2, ↓reduceIte]
            rw [c_isBasket h, p]
            simp only [Option.bind, b2_0, Bool.true_eq_false, ↓reduceIte]
            rw [c_isLoad, q]
            simp only [b2_0, Bool.true_eq_false, ↓reduceIte]
            rw [a1]
            simp only
            rw [a3, a4]
            rcases in2 r with rfl | rfl
            · rw [if_pos rfl, if_pos rfl]
            · rw [if_neg (by decide), if_pos rfl, if_neg (by decide)]
          · obtain ⟨σ1, a1, a2, a3⟩ := m_isBasket hA h (nI b)
            obtain ⟨σ', b1, b2, b3⟩ := m_gustOf hA a2 (show c ≤ 16 by omega) hb hm v
            refine ⟨σ', ?_, b2⟩
            unfold fX8_gust fX8_gust_55
            rw [m_in16, o]
            simp only [Option.bind, b2_0, Bool.true_eq_false, ↓reduceIte]
            rw [a1, p]
            simp only [b2_0, Bool.true_eq_false, ↓reduceIte]
            rw [m_in99, q]
            simp only [b2_0, Bool.true_eq_false, ↓reduceIte]
            rw [m_in1, r]
            simp only [b2_0, Bool.true_eq_false, ↓reduceIte]
            rw [b1]
        · have r := inR_F r
          refine ⟨-9223372036854775806, A, hA, fun σ h => ⟨σ, ?_, h⟩, fun σ h => ?_⟩
          · obtain ⟨z0, z1⟩ := in2F r
            unfold fX7_gust fX7_gust_36
            simp only [o1, o2, ↓reduceIte]
            rw [c_isBasket h, p]
            simp only [Option.bind, b2_0, Bool.true_eq_false, ↓reduceIte]
            rw [c_isLoad, q]
            simp only [b2_0, Bool.true_eq_false, ↓reduceIte, z0, z1]
          · obtain ⟨σ1, a1, a2, a3⟩ := m_isBasket hA h (nI b)
            refine ⟨σ1, ?_, a2⟩
            unfold fX8_gust fX8_gust_50 fX8_gust_55 fX8_no
            rw [m_in16, o]
            simp only [Option.bind, b2_0, Bool.true_eq_false, ↓reduceIte]
            rw [a1, p]
            simp only [b2_0, Bool.true_eq_false, ↓reduceIte]
            rw [m_in99, q]
            simp only [b2_0, Bool.true_eq_false, ↓reduceIte]
            rw [m_in1, r]
            rfl
      · have q := inR_F q
        refine ⟨-9223372036854775806, A, hA, fun σ h => ⟨σ, ?_, h⟩, fun σ h => ?_⟩
        · unfold fX7_gust fX7_gust_36
          simp only [o1, o2, ↓reduceIte]
          rw [c_isBasket h, p]
          simp only [Option.bind, b2_0, Bool.true_eq_false, ↓reduceIte]
          rw [c_isLoad, q]
          rfl
        · obtain ⟨σ1, a1, a2, a3⟩ := m_isBasket hA h (nI b)
          refine ⟨σ1, ?_, a2⟩
          unfold fX8_gust fX8_gust_50 fX8_gust_55 fX8_no
          rw [m_in16, o]
          simp only [Option.bind, b2_0, Bool.true_eq_false, ↓reduceIte]
          rw [a1, p]
          simp only [b2_0, Bool.true_eq_false, ↓reduceIte]
          rw [m_in99, q]
          rfl
    · have p := inR_F p
      refine ⟨-9223372036854775806, A, hA, fun σ h => ⟨σ, ?_, h⟩, fun σ h => ?_⟩
      · unfold fX7_gust fX7_gust_36
        simp only [o1, o2, ↓reduceIte]
        rw [c_isBasket h, p]
        rfl
      · obtain ⟨σ1, a1, a2, a3⟩ := m_isBasket hA h y
        refine ⟨σ1, ?_, a2⟩
        unfold fX8_gust fX8_gust_50 fX8_gust_55 fX8_no
        rw [m_in16, o]
        simp only [Option.bind, b2_0, Bool.true_eq_false, ↓reduceIte]
        rw [a1, p]
        rfl
  · have o := inR_F o
    refine ⟨-9223372036854775806, A, hA, fun σ h => ⟨σ, ?_, h⟩, fun σ h => ⟨σ, ?_, h⟩⟩
    · unfold fX7_gust fX7_gust_36
      rcases inR_F2 o with z1 | ⟨z1, z2⟩
      · rw [if_pos z1]
      · rw [if_neg z1, if_pos (show (16 : Int32) < x from Int32.lt_of_lt_of_le (by decide) z2)]
    · unfold fX8_gust fX8_gust_50 fX8_gust_55 fX8_no
      rw [m_in16, o]
      rfl
