/-! greedy, count -/
noncomputable def rGreedy (A : vA) : Int32 := if nfA A = 0 then -1 else nI (bestF (tea (TT A)) (nfA A))
theorem tea_le {A : vA} (hA : WA A) (f : Nat) : tea (TT A) f ≤ 2880 := (tRun_TB (WP_PA hA (bitAt (wAll A)) (bitAt (sAll A))) 40).2 f
theorem nI_gt_m1 {n : Nat} (h : n < 2 ^ 31) : ¬ nI n ≤ -1 := by
  rw [Int32.le_iff_toInt_le, nI_toInt h]
  have : (-1 : Int32).toInt = -1 := by decide
  omega
/-- Best has seen n offers of g -/
def BestS (g : Nat → Nat) (n : Nat) (σ : vMem) : Prop := σ.1 37 0 = (if n = 0 then -1 else nI (bestF g n)) ∧ σ.1 37 1 = (if n = 0 then -1 else nI (g (bestF g n)))
theorem c_clear {σ : vMem} (g : Nat → Nat) : ∃ σ', fX0_clear σ = some σ' ∧ BestS g 0 σ' ∧ (∀ a, a ≠ 37 → σ'.1 a = σ.1 a) ∧ σ'.2 = σ.2 := by
  refine ⟨vup (vup σ 37 0 (-1)) 37 1 (-1), rfl, ⟨by simp [vup_rd], by simp [vup_rd]⟩, fun a ha => by rw [vup_ne _ _ ha, vup_ne _ _ ha], rfl⟩
theorem c_offer {σ : vMem} {g : Nat → Nat} {n : Nat} (hg : ∀ i, i ≤ n → g i < 2 ^ 31) (hn : n < 2 ^ 31) (h : BestS g n σ) : ∃ σ', fX0_offer (nI n) (nI (g n)) σ = some σ' ∧ BestS g (n + 1) σ' ∧ (∀ a, a ≠ 37 → σ'.1 a = σ.1 a) ∧ σ'.2 = σ.2 := by
  obtain ⟨h1, h2⟩ := h
  unfold fX0_offer fX0_offer_13 fX0_offer_18
  rw [h2]
  by_cases z : n = 0
  · subst z
    rw [if_pos rfl, if_neg (nI_gt_m1 (hg 0 (Nat.le_refl _)))]
    refine ⟨_, rfl, ⟨by simp [vup_rd, bestF], by simp [vup_rd, bestF]⟩, fun a ha => by rw [vup_ne _ _ ha, vup_ne _ _ ha], rfl⟩
  · rw [if_neg z]
    have hb := bestF_lt g n (by omega)
    have hle := nI_leI (a := g n) (b := g (bestF g n)) (hg n (Nat.le_refl _)) (hg _ (by omega))
    by_cases q : g n ≤ g (bestF g n)
    · rw [if_pos (hle.mpr q)]
      refine ⟨_, rfl, ⟨?_, ?_⟩, fun _ _ => rfl, rfl⟩
      · rw [h1, bestF]; simp [z, q]
      · rw [h2, bestF]; simp [z, q]
    · rw [if_neg (fun w => q (hle.mp w))]
      refine ⟨_, rfl, ⟨?_, ?_⟩, fun a ha => by rw [vup_ne _ _ ha, vup_ne _ _ ha], rfl⟩
      · rw [bestF]; simp [vup_rd, z, q]
      · rw [bestF]; simp [vup_rd, z, q]
theorem RC.of37 {A : vA} {σ τ : vMem} (h : RC A σ) (e : ∀ a, a ≠ 37 → τ.1 a = σ.1 a) : RC A τ := by
  refine h.fr ⟨fun a ha => e a (by omega), by rw [e 0 (by decide)], ?_⟩
  rw [e 13 (by decide)]
  exact h.2.2.1
theorem c_greedyR {A : vA} (hA : WA A) {σ : vMem} (h : RC A σ) : ∃ σ', fX7_greedy σ = some (rGreedy A, σ') ∧ RC A σ' := by
  have h9 := nfA_le hA
  obtain ⟨σ1, a1, a2, w, z, sn, a3⟩ := c_told hA h
  obtain ⟨σ2, b1, b2, b3, b4⟩ := c_clear (σ := σ1) (tea (TT A))
  have h24 : ∀ f, f < nfA A → σ1.1 24 f = nI (tea (TT A) f) := a3.2.2.2.2.2.2.2.2.2.2.2.1
  have key : ∀ (k n i : Nat) (τ : vMem), i + k = nfA A → k < n → BestS (tea (TT A)) i τ → (∀ a, a ≠ 37 → τ.1 a = σ1.1 a) → ∃ σ', LfX7_greedy_13 n (nI i) τ = some (rGreedy A, σ') ∧ RC A σ' := by
    intro k
    induction k with
    | zero =>
      intro n i τ hik hn hb he
      obtain ⟨n, rfl⟩ : ∃ j, n = j + 1 := ⟨n - 1, by omega⟩
      have : i = nfA A := by omega
      subst this
      have hR := a2.of37 he
      refine ⟨τ, ?_, hR⟩
      show fX7_greedy_13 _ _ _ = _
      unfold fX7_greedy_13 rGreedy
      rw [hR.nf, if_pos (Int32.le_refl _), hb.1]
    | succ k ih =>
      intro n i τ hik hn hb he
      obtain ⟨n, rfl⟩ : ∃ j, n = j + 1 := ⟨n - 1, by omega⟩
      have hR := a2.of37 he
      have hlt : (nI (nfA A) ≤ nI i) = False := eq_false (fun z => by have := (nI_leI (by omega) (by omega)).mp z; omega)
      obtain ⟨τ', c1, c2, c3, c4⟩ := c_offer (fun i _ => by have := tea_le hA i; omega) (by omega) hb
      obtain ⟨σ', d1, d2⟩ := ih n (i + 1) τ' (by omega) (by omega) c2 (fun a ha => (c3 a ha).trans (he a ha))
      refine ⟨σ', ?_, d2⟩
      show fX7_greedy_13 _ _ _ = _
      unfold fX7_greedy_13
      rw [hR.nf, he 24 (by decide)]
      simp only [hlt, ↓reduceIte, nI_clamp (show i < 2 ^ 31 by omega), ixF (show i < 9 by omega) (by decide), h24 i (by omega), c1, Option.bind, nI_1]
      exact d1
  obtain ⟨σ', d1, d2⟩ := key (nfA A) 200 0 σ2 (by omega) (by omega) b2 b3
  refine ⟨σ', ?_, d2⟩
  unfold fX7_greedy
  rw [a1]
  simp only [Option.bind]
  rw [b1]
  exact d1
theorem m_greedyNow {A : vA} (hA : WA A) {σ : vMem} (h : RM A σ) : ∃ σ', fX8_greedyNow σ = some (rGreedy A, σ') ∧ RM A σ' ∧ MD A σ' := by
  have h9 := nfA_le hA
  obtain ⟨σ0, σ', a1, a2, a3⟩ := m_told hA h
  refine ⟨σ', ?_, a2.1, a2.2.1⟩
  have h2 := a2.2.1.1.1
  have h21 : ∀ f, f < nfA A → σ'.1 21 f = nI (tea (TT A) f) := a3.1.2.2.2.2.2.2.2.2.2.2.1
  have key : ∀ (k n i : Nat), i + k = nfA A → k < n → LfX8_greedyNow_8 n (if i = 0 then -1 else nI (bestF (tea (TT A)) i)) (nI i) σ' = some (rGreedy A, σ') := by
    intro k
    induction k with
    | zero =>
      intro n i hik hn
      obtain ⟨n, rfl⟩ : ∃ j, n = j + 1 := ⟨n - 1, by omega⟩
      have : i = nfA A := by omega
      subst this
      show fX8_greedyNow_8 _ _ _ _ = _
      unfold fX8_greedyNow_8 rGreedy
      rw [h2, if_pos (Int32.le_refl _)]
    | succ k ih =>
      intro n i hik hn
      obtain ⟨n, rfl⟩ : ∃ j, n = j + 1 := ⟨n - 1, by omega⟩
      have hlt : (nI (nfA A) ≤ nI i) = False := eq_false (fun z => by have := (nI_leI (by omega) (by omega)).mp z; omega)
      have := ih n (i + 1) (by omega) (by omega)
      show fX8_greedyNow_8 _ _ _ _ = _
      unfold fX8_greedyNow_8 fX8_greedyNow_36 fX8_greedyNow_41
      simp only [h2, hlt, ↓reduceIte, nI_1]
      by_cases z : i = 0
      · subst z
        simp only [↓reduceIte]
        exact this
      · have hb := bestF_lt (tea (TT A)) i (by omega)
        have t1 := tea_le hA i
        have t2 := tea_le hA (bestF (tea (TT A)) i)
        simp only [z, ↓reduceIte, nI_m1 (show bestF (tea (TT A)) i < 2 ^ 31 by omega), nI_clamp (show i < 2 ^ 31 by omega), ixF (show i < 9 by omega) (by decide), nI_clamp (show bestF (tea (TT A)) i < 2 ^ 31 by omega), ixF (show bestF (tea (TT A)) i < 9 by omega) (by decide), h21 i (by omega), h21 (bestF (tea (TT A)) i) (by omega)]
        rw [if_neg (Nat.succ_ne_zero i), bestF, if_neg z] at this
        have hle := nI_leI (a := tea (TT A) i) (b := tea (TT A) (bestF (tea (TT A)) i)) (by omega) (by omega)
        by_cases q : tea (TT A) i ≤ tea (TT A) (bestF (tea (TT A)) i)
        · rw [if_pos (hle.mpr q)]
          rw [if_pos q] at this
          exact this
        · rw [if_neg (fun w => q (hle.mp w))]
          rw [if_neg q] at this
          exact this
  unfold fX8_greedyNow
  rw [a1]
  exact key (nfA A) 200 0 (by omega) (by omega)
theorem q_greedy {A : vA} (hA : WA A) : vJ A fX7_greedy fX8_greedy := by
  refine ⟨rGreedy A, A, hA, fun σ h => c_greedyR hA h, fun σ h => ?_⟩
  obtain ⟨σ', a1, a2, a3⟩ := m_greedyNow hA h
  refine ⟨σ', ?_, a2⟩
  unfold fX8_greedy
  rw [a1]
  rfl
theorem m_bitesAll {P : vP} (hP : WP P) {T : vT} {σ : vMem} (h2 : σ.1 0 2 = nI (pnf P)) (h20 : ∀ f, f < pnf P → σ.1 20 f = tof T f) : fX8_bitesAll σ = some (sumF (pnf P) (tof T), σ) := by
  have h9 := hP.1
  have key : ∀ (k n i : Nat), i + k = pnf P → k < n → LfX8_bitesAll_4 n (sumF i (tof T)) (nI i) σ = some (sumF (pnf P) (tof T), σ) := by
    intro k
    induction k with
    | zero =>
      intro n i hik hn
      obtain ⟨n, rfl⟩ : ∃ j, n = j + 1 := ⟨n - 1, by omega⟩
      have : i = pnf P := by omega
      subst this
      show fX8_bitesAll_4 _ _ _ _ = _
      unfold fX8_bitesAll_4
      rw [h2, if_pos (Int32.le_refl _)]
    | succ k ih =>
      intro n i hik hn
      obtain ⟨n, rfl⟩ : ∃ j, n = j + 1 := ⟨n - 1, by omega⟩
      have hlt : (nI (pnf P) ≤ nI i) = False := eq_false (fun z => by have := (nI_leI (by omega) (by omega)).mp z; omega)
      show fX8_bitesAll_4 _ _ _ _ = _
      unfold fX8_bitesAll_4
      simp only [h2, hlt, ↓reduceIte, nI_clamp (show i < 2 ^ 31 by omega), ixF (show i < 9 by omega) (by decide), h20 i (by omega), nI_1]
      have := ih n (i + 1) (by omega) (by omega)
      rw [sumF] at this
      exact this
  exact key (pnf P) 200 0 (by omega) (by omega)
noncomputable def rCount (A : vA) (x : Int32) : Int32 :=
  if x = 0 then nI (nfA A) else if x = 1 then nI (nbA A) else if x = 2 then nI (n0 A) else if x = 3 then nI (n1 A) else if x = 4 then nI (awn A) else if x = 5 then nI (asn A)
  else if x = 6 then tbt (TT A) else if x = 7 then nI (aen A) else if x = 8 then afi A else -2
theorem c_countR {A : vA} (hA : WA A) (x : Int32) : QC A A (fX7_count x) (rCount A x) := by
  intro σ h
  unfold fX7_count rCount
  rw [h.nf, h.nb, h.1.1.1, h.1.2.1, h.2.2.2.1.1, h.2.2.2.2.1.1, h.2.2.2.2.2.1.1, h.2.2.2.2.2.2.2]
  by_cases x6 : x = 6
  · subst x6
    obtain ⟨σ', a1, a2, w, z, sn, a3⟩ := c_told hA h
    refine ⟨σ', ?_, a2⟩
    rw [a1]
    simp only [Option.bind, a3.2.2.2.2.2.2.2.2.2.2.2.2.2.1]
    rfl
  · refine ⟨σ, ?_, h⟩
    simp only [x6, ↓reduceIte]
    repeat' split
    all_goals rfl
theorem m_countR {A : vA} (hA : WA A) (x : Int32) {σ : vMem} (h : RM A σ) : ∃ σ', fX8_count x σ = some (rCount A x, σ') ∧ RM A σ' ∧ (MD A σ → MD A σ') := by
  have hP := WP_PA hA (bitAt (wAll A)) (bitAt (sAll A))
  obtain ⟨σ0, σ', a1, a2, a3⟩ := m_told hA h
  unfold fX8_count rCount
  by_cases x0 : x = 0
  · subst x0
    refine ⟨σ', ?_, a2.1, fun _ => a2.2.1⟩
    unfold fX8_sumOf fX8_sumOf_31
    rw [a1]
    simp only [Option.bind, ↓reduceIte, a2.2.1.1.1]
  by_cases x1 : x = 1
  · subst x1
    refine ⟨σ', ?_, a2.1, fun _ => a2.2.1⟩
    unfold fX8_sumOf fX8_sumOf_31
    rw [a1]
    simp only [Option.bind, ↓reduceIte, a2.2.1.1.2, x0]
  by_cases x6 : x = 6
  · subst x6
    refine ⟨σ', ?_, a2.1, fun _ => a2.2.1⟩
    unfold fX8_sumOf fX8_sumOf_31
    rw [a1]
    simp only [Option.bind]
    rw [m_bitesAll (T := TT A) hP a2.2.1.1.1 a3.1.2.2.2.2.2.2.2.2.2.1, ← (tRun_TB hP 40).1]
    rfl
  refine ⟨σ, ?_, h, id⟩
  simp only [x0, x1, x6, ↓reduceIte]
  by_cases x2 : x = 2
  · subst x2
    simp only [↓reduceIte, show (2 : Int32) - 2 = nI 0 from rfl, nI_clamp (show 0 < 2 ^ 31 by omega), ixF (show 0 < 2 by omega) (by decide), h.1.1.1]
  by_cases x3 : x = 3
  · subst x3
    simp only [↓reduceIte, x2, show (3 : Int32) - 2 = nI 1 from rfl, nI_clamp (show 1 < 2 ^ 31 by omega), ixF (show 1 < 2 by omega) (by decide), h.1.2.1]
  simp only [x2, x3, ↓reduceIte, h.2.2.1.1, h.2.2.2.1.1, h.2.2.2.2.1.1, h.2.2.2.2.2.2]
  repeat' split
  all_goals rfl
theorem q_count {A : vA} (hA : WA A) (x : Int32) : vJ A (fX7_count x) (fX8_count x) := by
  refine ⟨rCount A x, A, hA, c_countR hA x, fun σ h => ?_⟩
  obtain ⟨σ', a1, a2, a3⟩ := m_countR hA x h
  exact ⟨σ', a1, a2⟩
