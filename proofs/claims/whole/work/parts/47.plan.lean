/-! what plans are made of: what comes up, the best, letters -/
def sumN : Nat → (Nat → Nat) → Nat
  | 0, _ => 0
  | n + 1, g => sumN n g + g n
theorem sumN_le {g : Nat → Nat} {B : Nat} : ∀ n, (∀ i, i < n → g i ≤ B) → sumN n g ≤ B * n
  | 0, _ => Nat.le_refl _
  | n + 1, h => by
    have h1 := sumN_le n (fun i hi => h i (by omega))
    have h2 := h n (by omega)
    rw [sumN, Nat.mul_succ]
    omega
theorem sumF_N (g : Nat → Nat) : ∀ n, sumF n (fun k => nI (g k)) = nI (sumN n g)
  | 0 => rfl
  | n + 1 => by rw [sumF, sumN, sumF_N g n, nI_add]
def upN (P : vP) (T : vT) : Nat := sumN (pnb P) (fun k => if tup T k = -1 then 0 else tld T k)
theorem upS_N (P : vP) (T : vT) : upS P T = nI (upN P T) := by
  unfold upS upN
  rw [← sumF_N]
  refine sumF_cong _ (fun i _ => ?_)
  show (if tup T i = -1 then (0 : Int32) else nI (tld T i)) = nI (if tup T i = -1 then 0 else tld T i)
  by_cases h : tup T i = -1
  · rw [if_pos h, if_pos h]; rfl
  · rw [if_neg h, if_neg h]
theorem upN_le {P : vP} (hP : WP P) : upN P (tRun P 40) ≤ 800 := by
  have h8 := hP.2.1
  have : upN P (tRun P 40) ≤ 99 * pnb P := sumN_le _ (fun i hi => by
    have h1 := ((tRun_TI P hP 40 (Nat.le_refl _)).1 i hi).1
    have h2 := (hP.2.2.2.1 i hi).2.1
    show (if tup (tRun P 40) i = -1 then 0 else tld (tRun P 40) i) ≤ 99
    split <;> omega)
  omega
def bW (g : Nat → Nat) (n : Nat) : Int32 := if n = 0 then -1 else nI (bestF g n)
def bM (g : Nat → Nat) (n : Nat) : Int32 := if n = 0 then -1 else nI (g (bestF g n))
theorem bW_s {g : Nat → Nat} {n : Nat} (hg : ∀ i, i ≤ n → g i < 2 ^ 31) : (if nI (g n) ≤ bM g n then bW g n else nI n) = bW g (n + 1) ∧ (if nI (g n) ≤ bM g n then bM g n else nI (g n)) = bM g (n + 1) := by
  unfold bW bM
  rw [if_neg (Nat.succ_ne_zero n), if_neg (Nat.succ_ne_zero n)]
  by_cases z : n = 0
  · subst z
    rw [if_pos rfl, if_pos rfl, if_neg (nI_gt_m1 (hg 0 (Nat.le_refl _))), if_neg (nI_gt_m1 (hg 0 (Nat.le_refl _)))]
    exact ⟨rfl, rfl⟩
  · rw [if_neg z, if_neg z, bestF, if_neg z]
    have hb := bestF_lt g n (by omega)
    have hle := nI_leI (a := g n) (b := g (bestF g n)) (hg n (Nat.le_refl _)) (hg _ (by omega))
    by_cases q : g n ≤ g (bestF g n)
    · rw [if_pos (hle.mpr q), if_pos (hle.mpr q), if_pos q]; exact ⟨rfl, rfl⟩
    · rw [if_neg (fun w => q (hle.mp w)), if_neg (fun w => q (hle.mp w)), if_neg q]; exact ⟨rfl, rfl⟩
theorem MTo.wind {A : vA} {w s : Int64} {σ : vMem} (h : MTo A w s σ) (w' : Int64) : MTo A w' s (vupL σ 0 17 w') := ⟨h.1.fr ⟨fun _ _ => rfl, fun _ _ => rfl⟩, h.2.1, by simp [vupL_rd], by simp only [vupL_rd, ↓reduceIte, Nat.reduceEqDiff]; exact h.2.2.2.1, h.2.2.2.2⟩
theorem MTo.sund {A : vA} {w s : Int64} {σ : vMem} (h : MTo A w s σ) (s' : Int64) : MTo A w s' (vupL σ 0 18 s') := ⟨h.1.fr ⟨fun _ _ => rfl, fun _ _ => rfl⟩, h.2.1, by simp only [vupL_rd, ↓reduceIte, Nat.reduceEqDiff]; exact h.2.2.1, by simp [vupL_rd], h.2.2.2.2⟩
/-- what comes up without the wind k -/
noncomputable abbrev PB (A : vA) (k : Nat) : vP := PA A (bitAt (wBut A k)) (bitAt (sAll A))
noncomputable def gSt (A : vA) (k : Nat) : Nat := upN (PB A k) (tRun (PB A k) 40)
theorem gSt_le {A : vA} (hA : WA A) (k : Nat) : gSt A k ≤ 800 := upN_le (WP_PA hA _ _)
theorem c_findStill {A : vA} (hA : WA A) {σ : vMem} (h : RC A σ) : ∃ σ', fX7_findStill σ = some σ' ∧ RC A σ' ∧ σ'.1 37 0 = bW (gSt A) (awn A) ∧ σ'.1 37 1 = bM (gSt A) (awn A) := by
  have h6 := hA.2.2.2.1.1
  obtain ⟨σ1, b1, b2, b3, b4⟩ := c_clear (σ := σ) (gSt A)
  have key : ∀ (k n i : Nat) (τ : vMem), i + k = awn A → k < n → RC A τ → BestS (gSt A) i τ → ∃ σ', LfX7_findStill_9 n (nI i) τ = some σ' ∧ RC A σ' ∧ BestS (gSt A) (awn A) σ' := by
    intro k
    induction k with
    | zero =>
      intro n i τ hik hn hR hb
      obtain ⟨n, rfl⟩ : ∃ j, n = j + 1 := ⟨n - 1, by omega⟩
      have : i = awn A := by omega
      subst this
      refine ⟨τ, ?_, hR, hb⟩
      show fX7_findStill_9 _ _ _ = _
      unfold fX7_findStill_9
      rw [hR.2.2.2.1.1, if_pos (Int32.le_refl _)]
    | succ k ih =>
      intro n i τ hik hn hR hb
      obtain ⟨n, rfl⟩ : ∃ j, n = j + 1 := ⟨n - 1, by omega⟩
      have hlt : (nI (awn A) ≤ nI i) = False := eq_false (fun z => by have := (nI_leI (by omega) (by omega)).mp z; omega)
      obtain ⟨τ1, c1, c2, c3⟩ := c_goR hA hR (wBut A i) (sAll A) (Nat.le_refl 40)
      obtain ⟨w, y, sn, c4⟩ := c3.ct
      have hb1 : BestS (gSt A) i τ1 := by
        unfold BestS
        rw [c4.1.2.1 37 (by decide)]
        exact hb
      have hP := WP_PA hA (bitAt (wBut A i)) (bitAt (sAll A))
      have c5 := c_loadUp (T := tRun (PB A i) 40) hP c4.dc.1.2.1 c4.2.2.2.1 c4.2.2.2.2.1
      rw [upS_N] at c5
      obtain ⟨τ2, d1, d2, d3, d4⟩ := c_offer (fun i _ => by have := gSt_le hA i; omega) (by omega) hb1
      obtain ⟨σ', e1, e2⟩ := ih n (i + 1) τ2 (by omega) (by omega) (c2.of37 d3) d2
      refine ⟨σ', ?_, e2⟩
      show fX7_findStill_9 _ _ _ = _
      unfold fX7_findStill_9
      rw [hR.2.2.2.1.1]
      simp only [hlt, ↓reduceIte]
      rw [c_but25 hA hR (by omega)]
      simp only [Option.bind]
      rw [c_all27 hA hR]
      simp only
      rw [show (40 : Int32) = nI 40 from rfl, c1]
      simp only
      rw [c5]
      simp only
      rw [show nI (upN (PB A i) (tRun (PB A i) 40)) = nI (gSt A i) from rfl, d1]
      simp only [nI_1]
      exact e1
  obtain ⟨σ', d1, d2, d3, d4⟩ := key (awn A) 200 0 σ1 (by omega) (by omega) (h.of37 b3) b2
  refine ⟨σ', ?_, d2, d3, d4⟩
  unfold fX7_findStill
  rw [b1]
  exact d1
noncomputable def rStill (A : vA) (y : Int32) : Int32 := if y = 0 then bW (gSt A) (awn A) else bM (gSt A) (awn A)
theorem m_stillOf {A : vA} (hA : WA A) {σ : vMem} (h : RM A σ) (y : Int32) : ∃ σ', fX8_stillOf y σ = some (rStill A y, σ') ∧ RM A σ' ∧ MD A σ' := by
  have h6 := hA.2.2.2.1.1
  obtain ⟨σ1, a1, a2⟩ := m_asTold hA h
  have key : ∀ (k n i : Nat) (w : Int64) (τ : vMem), i + k = awn A → k < n → MTo A w (sAll A) τ → ∃ σ', LfX8_stillOf_11 n y (bW (gSt A) i) (bM (gSt A) i) (nI i) τ = some (rStill A y, σ') ∧ RM A σ' ∧ MD A σ' := by
    intro k
    induction k with
    | zero =>
      intro n i w τ hik hn hM
      obtain ⟨n, rfl⟩ : ∃ j, n = j + 1 := ⟨n - 1, by omega⟩
      have : i = awn A := by omega
      subst this
      refine ⟨τ, ?_, hM.1, hM.2.1⟩
      show fX8_stillOf_11 _ _ _ _ _ _ = _
      unfold fX8_stillOf_11 fX8_stillOf_83 rStill
      rw [hM.1.2.2.1.1, if_pos (Int32.le_refl _)]
      split <;> rfl
    | succ k ih =>
      intro n i w τ hik hn hM
      obtain ⟨n, rfl⟩ : ∃ j, n = j + 1 := ⟨n - 1, by omega⟩
      have hlt : (nI (awn A) ≤ nI i) = False := eq_false (fun z => by have := (nI_leI (by omega) (by omega)).mp z; omega)
      obtain ⟨τ1, c1, c2, c3⟩ := m_runR hA (hM.wind (wBut A i))
      have hP := WP_PA hA (bitAt (wBut A i)) (bitAt (sAll A))
      have c5 := m_upMuch (T := tRun (PB A i) 40) hP c2.2.1.1.2 c3.1.2.2.1 c3.1.2.2.2.2.2.2.2.1
      rw [upS_N] at c5
      have c5 : fX8_upMuch τ1 = some (nI (gSt A i), τ1) := c5
      obtain ⟨σ', e1, e2⟩ := ih n (i + 1) _ τ1 (by omega) (by omega) c2
      refine ⟨σ', ?_, e2⟩
      show fX8_stillOf_11 _ _ _ _ _ _ = _
      unfold fX8_stillOf_11
      rw [hM.1.2.2.1.1]
      simp only [hlt, ↓reduceIte]
      rw [m_but hA hM.1 (by omega)]
      simp only [Option.bind]
      unfold fX8_stillOf_32 fX8_stillOf_54 fX8_stillOf_67
      rw [c1]
      simp only [Option.bind]
      rw [c5]
      simp only [nI_1]
      obtain ⟨s1, s2⟩ := bW_s (g := gSt A) (n := i) (fun i _ => by have := gSt_le hA i; omega)
      by_cases q : nI (gSt A i) ≤ bM (gSt A) i
      · rw [if_pos q] at s1 s2
        simp only [q, ↓reduceIte]
        rw [s1, s2]
        exact e1
      · rw [if_neg q] at s1 s2
        simp only [q, ↓reduceIte]
        rw [s1, s2]
        exact e1
  obtain ⟨σ', b1, b2⟩ := key (awn A) 200 0 _ σ1 (by omega) (by omega) a2
  refine ⟨σ', ?_, b2⟩
  unfold fX8_stillOf
  rw [a1]
  exact b1
theorem q_still {A : vA} (hA : WA A) (y : Int32) : vJ A (fX7_still y) (fX8_still y) := by
  by_cases z : inR 2 y = true
  · refine ⟨rStill A y, A, hA, fun σ h => ?_, fun σ h => ?_⟩
    · obtain ⟨σ', a1, a2, a3, a4⟩ := c_findStill hA h
      refine ⟨σ', ?_, a2⟩
      unfold fX7_still fX7_still_12 fX7_still_37 rStill
      rw [a1]
      simp only [Option.bind]
      rw [a3, a4]
      rcases in2 z with rfl | rfl <;> rfl
    · obtain ⟨σ', b1, b2, b3⟩ := m_stillOf hA h y
      refine ⟨σ', ?_, b2⟩
      unfold fX8_still fX8_still_19
      rw [m_in1, z]
      simp only [Option.bind, b2_0, Bool.true_eq_false, ↓reduceIte, b1]
  · have z := inR_F z
    refine ⟨-2, A, hA, fun σ h => ⟨σ, ?_, h⟩, fun σ h => ⟨σ, ?_, h⟩⟩
    · obtain ⟨z0, z1⟩ := in2F z
      unfold fX7_still
      simp only [↓reduceIte, z0, z1]
    · unfold fX8_still fX8_still_19
      rw [m_in1, z]
      rfl
/-! week -/
def lotE (v : Int32) : Int32 := (v.toUInt32 >>> ((16 : Int32).toUInt32 &&& Int32.toUInt32 31)).toInt32 - (v.toUInt32 >>> ((16 : Int32).toUInt32 &&& Int32.toUInt32 31)).toInt32 / (40 : Int32) * (40 : Int32)
def lotN (x : Int32) : Nat → Int32
  | 0 => x
  | k + 1 => (1103515245 : Int32) * lotN x k + (12345 : Int32)
def lotB (x : Int32) : Nat → Int64
  | 0 => 0
  | k + 1 => lotB x k ||| ((1 : Int64) <<< ((lotE (lotN x (k + 1))).toInt64 &&& 63))
theorem c_lots {N : Nat} (hN : N ≤ 6) (x : Int32) (σ : vMem) : fX7_lots x (nI N) σ = some (lotB x N, σ) := by
  have key : ∀ (k n i : Nat), i + k = N → k < n → LfX7_lots_8 n (nI N) (lotB x i) (lotN x i) (nI i) σ = some (lotB x N, σ) := by
    intro k
    induction k with
    | zero =>
      intro n i hik hn
      obtain ⟨n, rfl⟩ : ∃ j, n = j + 1 := ⟨n - 1, by omega⟩
      have : i = N := by omega
      subst this
      show fX7_lots_8 _ _ _ _ _ _ = _
      unfold fX7_lots_8
      rw [if_pos (Int32.le_refl _)]
    | succ k ih =>
      intro n i hik hn
      obtain ⟨n, rfl⟩ : ∃ j, n = j + 1 := ⟨n - 1, by omega⟩
      have hlt : ¬ nI N ≤ nI i := fun z => by have := (nI_leI (by omega) (by omega)).mp z; omega
      have := ih n (i + 1) (by omega) (by omega)
      show fX7_lots_8 _ _ _ _ _ _ = _
      unfold fX7_lots_8
      rw [if_neg hlt, nI_1]
      exact this
  exact key N 200 0 (by omega) (by omega)
noncomputable abbrev PL (A : vA) (x : Int32) (n : Nat) : vP := PA A (bitAt (wAll A)) (bitAt (lotB x n))
noncomputable def rWeek (A : vA) (x : Int32) (n : Nat) (y : Int32) : Int32 := if y = 0 then upS (PL A x n) (tRun (PL A x n) 40) else tbt (tRun (PL A x n) 40)
theorem c_weekR {A : vA} (hA : WA A) {σ : vMem} (h : RC A σ) (x : Int32) {n : Nat} (hn : n ≤ 6) {y : Int32} (hy : inR 2 y = true) : ∃ σ', fX7_week x (nI n) y σ = some (rWeek A x n y, σ') ∧ RC A σ' := by
  have hP := WP_PA hA (bitAt (wAll A)) (bitAt (lotB x n))
  obtain ⟨σ1, c1, c2, c3⟩ := c_goR hA h (wAll A) (lotB x n) (Nat.le_refl 40)
  obtain ⟨w, z, sn, c4⟩ := c3.ct
  have c5 := c_loadUp (T := tRun (PL A x n) 40) hP c4.dc.1.2.1 c4.2.2.2.1 c4.2.2.2.2.1
  have c6 : σ1.1 13 15 = tbt (tRun (PL A x n) 40) := c4.2.2.2.2.2.2.2.2.2.2.2.2.2.1
  refine ⟨σ1, ?_, c2⟩
  unfold fX7_week fX7_week_22 fX7_week_64 rWeek
  rw [if_neg (nI_pos (by omega)), if_neg (fun z => by have := (nI_ltI (a := 6) (by decide) (by omega)).mp z; omega), c_all25 hA h]
  simp only [Option.bind]
  rw [c_lots hn]
  simp only
  rw [show (40 : Int32) = nI 40 from rfl, c1]
  simp only
  rw [c5, c6]
  rcases in2 hy with rfl | rfl <;> rfl
theorem m_weekOf {A : vA} (hA : WA A) {σ : vMem} (h : RM A σ) (x : Int32) {N : Nat} (hN : N ≤ 6) (y : Int32) : ∃ σ', fX8_weekOf x (nI N) y σ = some (rWeek A x N y, σ') ∧ RM A σ' ∧ MD A σ' := by
  have hP := WP_PA hA (bitAt (wAll A)) (bitAt (lotB x N))
  obtain ⟨σ1, a1, a2⟩ := m_asTold hA h
  have key : ∀ (k n i : Nat) (τ : vMem), i + k = N → k < n → MTo A (wAll A) (lotB x i) τ → ∃ σ', LfX8_weekOf_15 n (nI N) y (lotN x i) (nI i) τ = some (rWeek A x N y, σ') ∧ RM A σ' ∧ MD A σ' := by
    intro k
    induction k with
    | zero =>
      intro n i τ hik hn hM
      obtain ⟨n, rfl⟩ : ∃ j, n = j + 1 := ⟨n - 1, by omega⟩
      have : i = N := by omega
      subst this
      obtain ⟨τ1, c1, c2, c3⟩ := m_runR hA hM
      refine ⟨τ1, ?_, c2.1, c2.2.1⟩
      have c5 := m_upMuch (T := tRun (PL A x i) 40) hP c2.2.1.1.2 c3.1.2.2.1 c3.1.2.2.2.2.2.2.2.1
      have c6 := m_bitesAll (T := tRun (PL A x i) 40) hP c2.2.1.1.1 c3.1.2.2.2.2.2.2.2.2.2.1
      rw [← (tRun_TB hP 40).1] at c6
      show fX8_weekOf_15 _ _ _ _ _ _ = _
      unfold fX8_weekOf_15 fX8_weekOf_77 rWeek
      rw [if_pos (Int32.le_refl _), c1]
      simp only [Option.bind]
      rw [c5, c6]
      split <;> rfl
    | succ k ih =>
      intro n i τ hik hn hM
      obtain ⟨n, rfl⟩ : ∃ j, n = j + 1 := ⟨n - 1, by omega⟩
      have hlt : ¬ nI N ≤ nI i := fun z => by have := (nI_leI (by omega) (by omega)).mp z; omega
      obtain ⟨σ', e1, e2⟩ := ih n (i + 1) _ (by omega) (by omega) (hM.sund (lotB x (i + 1)))
      refine ⟨σ', ?_, e2⟩
      show fX8_weekOf_15 _ _ _ _ _ _ = _
      unfold fX8_weekOf_15 fX8_weekOf_52 fX8_bitsOf
      rw [if_neg hlt, hM.2.2.2.1, nI_1]
      exact e1
  obtain ⟨σ', b1, b2⟩ := key N 200 0 (vupL σ1 0 18 0) (by omega) (by omega) (a2.sund 0)
  refine ⟨σ', ?_, b2⟩
  unfold fX8_weekOf fX8_weekOf_12
  rw [a1]
  exact b1
theorem m_in6 (x : Int32) (σ : vMem) : fX8_in x 0 6 σ = some (b2 (inR 7 x), σ) := m_inR (n := 7) (by decide) x σ
theorem q_week {A : vA} (hA : WA A) (x u y : Int32) : vJ A (fX7_week x u y) (fX8_week x u y) := by
  by_cases p : inR 7 u = true
  · obtain ⟨n, hn, rfl⟩ := inR_ex (by omega) p
    by_cases q : inR 2 y = true
    · refine ⟨rWeek A x n y, A, hA, fun σ h => c_weekR hA h x (by omega) q, fun σ h => ?_⟩
      obtain ⟨σ', b1, b2, b3⟩ := m_weekOf hA h x (N := n) (by omega) y
      refine ⟨σ', ?_, b2⟩
      unfold fX8_week fX8_week_31
      rw [m_in6, p]
      simp only [Option.bind, b2_0, Bool.true_eq_false, ↓reduceIte]
      rw [m_in1, q]
      simp only [b2_0, Bool.true_eq_false, ↓reduceIte, b1]
    · have q := inR_F q
      refine ⟨-2, A, hA, fun σ h => ⟨σ, ?_, h⟩, fun σ h => ⟨σ, ?_, h⟩⟩
      · obtain ⟨z0, z1⟩ := in2F q
        unfold fX7_week fX7_week_19
        rw [if_neg (nI_pos (by omega)), if_neg (fun z => by have := (nI_ltI (a := 6) (by decide) (by omega)).mp z; omega), if_neg z0, if_neg z1]
      · unfold fX8_week
        rw [m_in6, p]
        simp only [Option.bind, b2_0, Bool.true_eq_false, ↓reduceIte]
        rw [m_in1, q]
        rfl
  · have p := inR_F p
    refine ⟨-2, A, hA, fun σ h => ⟨σ, ?_, h⟩, fun σ h => ⟨σ, ?_, h⟩⟩
    · unfold fX7_week fX7_week_19
      rcases inR_F2 p with z1 | ⟨z1, z2⟩
      · rw [if_pos z1]
      · rw [if_neg z1, if_pos (show (6 : Int32) < u from Int32.lt_of_lt_of_le (by decide) z2)]
    · unfold fX8_week
      rw [m_in6, p]
      rfl
