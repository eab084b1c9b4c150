/-! send, loaf -/
noncomputable abbrev PH (A : vA) (b v : Nat) : vP := pHo (PT A) b v
noncomputable def gSe (A : vA) (b v : Nat) : Nat := upN (PH A b v) (tRun (PH A b v) 40)
theorem WP_PT {A : vA} (hA : WA A) : WP (PT A) := WP_PA hA _ _
theorem gSe_le {A : vA} (hA : WA A) (b : Nat) {v : Nat} (hv : v ≤ 29) : gSe A b v ≤ 800 := upN_le ((WP_PT hA).ho hv)
theorem c_findHour {A : vA} (hA : WA A) {σ : vMem} (h : RC A σ) {b : Nat} (hb : b < nbA A) : ∃ σ', fX7_findHour (nI b) σ = some σ' ∧ RC A σ' ∧ σ'.1 37 0 = bW (gSe A b) 30 ∧ σ'.1 37 1 = bM (gSe A b) 30 := by
  have h8 := nbA_le hA
  obtain ⟨σ1, b1, b2, b3, b4⟩ := c_clear (σ := σ) (gSe A b)
  have hR1 := h.of37 b3
  have key : ∀ (k n i : Nat) (τ : vMem), i + k = 30 → k < n → RX A 9 b σ1 τ → BestS (gSe A b) i τ → ∃ σ', LfX7_findHour_19 n (nI b) (σ1.1 9 b) (nI i) τ = some σ' ∧ RC A σ' ∧ BestS (gSe A b) 30 σ' := by
    intro k
    induction k with
    | zero =>
      intro n i τ hik hn hR hB
      obtain ⟨n, rfl⟩ : ∃ j, n = j + 1 := ⟨n - 1, by omega⟩
      have : i = 30 := by omega
      subst this
      refine ⟨vup τ 9 b (σ1.1 9 b), ?_, hR.back (by omega) (by omega) rfl, ?_⟩
      · show fX7_findHour_19 _ _ _ _ _ = _
        unfold fX7_findHour_19
        rw [show (30 : Int32) = nI 30 from rfl, if_pos (Int32.le_refl _)]
        simp only [nI_clamp (show b < 2 ^ 31 by omega), ixF (show b < 8 by omega) (by decide), ↓reduceIte]
      · unfold BestS
        rw [vup_ne _ _ (by decide)]
        exact hB
    | succ k ih =>
      intro n i τ hik hn hR hB
      obtain ⟨n, rfl⟩ : ∃ j, n = j + 1 := ⟨n - 1, by omega⟩
      have hlt : (nI 30 ≤ nI i) = False := eq_false (fun z => by have := (nI_leI (by omega) (by omega)).mp z; omega)
      have hR2 := hR.up (by omega) (by omega) (nI i)
      have hP : WP (PH A b i) := (WP_PT hA).ho (by omega)
      obtain ⟨τ1, c1, c2, w, y, sn, c4⟩ := c_toldX hA hR2 (by omega) (by omega) hP (hR2.ho (v := i) (by simp [vup_rd])) rfl rfl
      have hb1 : BestS (gSe A b) i τ1 := by
        unfold BestS
        rw [c4.1.2.1 37 (by decide), vup_ne _ _ (by decide)]
        exact hB
      have c5 := c_loadUp (T := tRun (PH A b i) 40) hP c4.dc.1.2.1 c4.2.2.2.1 c4.2.2.2.2.1
      rw [upS_N] at c5
      have c5 : fX6_loadUp τ1 = some (nI (gSe A b i), τ1) := c5
      obtain ⟨τ2, d1, d2, d3, d4⟩ := c_offer (g := gSe A b) (n := i) (fun j hj => by have := gSe_le hA b (v := j) (by omega); omega) (by omega) hb1
      obtain ⟨σ', e1, e2⟩ := ih n (i + 1) τ2 (by omega) (by omega) (c2.fr (by omega) (by omega) (fun a ha => d3 a (by omega))) d2
      refine ⟨σ', ?_, e2⟩
      show fX7_findHour_19 _ _ _ _ _ = _
      unfold fX7_findHour_19 fX7_findHour_35
      rw [show (30 : Int32) = nI 30 from rfl]
      simp only [hlt, ↓reduceIte, nI_clamp (show b < 2 ^ 31 by omega), ixF (show b < 8 by omega) (by decide)]
      rw [c1]
      simp only [Option.bind]
      rw [c5]
      simp only
      rw [d1]
      simp only [nI_1]
      exact e1
  obtain ⟨σ', d1, d2, d3, d4⟩ := key 30 200 0 σ1 (by omega) (by omega) (RX.rf hR1) b2
  refine ⟨σ', ?_, d2, d3, d4⟩
  unfold fX7_findHour
  simp only [nI_clamp (show b < 2 ^ 31 by omega), ixF (show b < 8 by omega) (by decide), ↓reduceIte]
  rw [b1]
  simp only [Option.bind]
  rw [← b3 9 (by decide)]
  exact d1
noncomputable def rSend (A : vA) (b : Nat) (y : Int32) : Int32 := if y = 0 then bW (gSe A b) 30 else bM (gSe A b) 30
theorem m_sendOf {A : vA} (hA : WA A) {σ : vMem} (h : RM A σ) {b : Nat} (hb : b < nbA A) (y : Int32) : ∃ σ', fX8_sendOf (nI b) y σ = some (rSend A b y, σ') ∧ RM A σ' ∧ MD A σ' := by
  have h8 := nbA_le hA
  obtain ⟨σ1, a1, a2⟩ := m_asTold hA h
  have key : ∀ (k n i : Nat) (τ : vMem), i + k = 30 → k < n → MX A (wAll A) (sAll A) 6 b σ1 τ → ∃ σ', LfX8_sendOf_20 n (nI b) y (σ1.1 6 b) (bW (gSe A b) i) (bM (gSe A b) i) (nI i) τ = some (rSend A b y, σ') ∧ RM A σ' ∧ MD A σ' := by
    intro k
    induction k with
    | zero =>
      intro n i τ hik hn hM
      obtain ⟨n, rfl⟩ : ∃ j, n = j + 1 := ⟨n - 1, by omega⟩
      have : i = 30 := by omega
      subst this
      have hT := hM.back (by omega) (by omega) rfl
      refine ⟨vup τ 6 b (σ1.1 6 b), ?_, hT.1, hT.2.1⟩
      show fX8_sendOf_20 _ _ _ _ _ _ _ _ = _
      unfold fX8_sendOf_20 fX8_sendOf_90 fX8_sendOf_101 rSend
      rw [show (30 : Int32) = nI 30 from rfl, if_pos (Int32.le_refl _)]
      simp only [nI_clamp (show b < 2 ^ 31 by omega), ixF (show b < 9 by omega) (by decide), ↓reduceIte]
      split <;> rfl
    | succ k ih =>
      intro n i τ hik hn hM
      obtain ⟨n, rfl⟩ : ∃ j, n = j + 1 := ⟨n - 1, by omega⟩
      have hlt : (nI 30 ≤ nI i) = False := eq_false (fun z => by have := (nI_leI (by omega) (by omega)).mp z; omega)
      have hM2 := hM.up (by omega) (by omega) (nI i)
      have hP : WP (PH A b i) := (WP_PT hA).ho (by omega)
      obtain ⟨τ1, c1, c2, c3⟩ := m_runX hM2 (by omega) (by omega) hP (hM2.ho hA (v := i) (by simp [vup_rd]))
      have c5 := m_upMuch (T := tRun (PH A b i) 40) hP c3.1.dm.1.2.1 c3.1.2.2.1 c3.1.2.2.2.2.2.2.2.1
      rw [upS_N] at c5
      have c5 : fX8_upMuch τ1 = some (nI (gSe A b i), τ1) := c5
      obtain ⟨σ', e1, e2⟩ := ih n (i + 1) τ1 (by omega) (by omega) c2
      refine ⟨σ', ?_, e2⟩
      show fX8_sendOf_20 _ _ _ _ _ _ _ _ = _
      unfold fX8_sendOf_20 fX8_sendOf_35 fX8_sendOf_59 fX8_sendOf_75
      rw [show (30 : Int32) = nI 30 from rfl]
      simp only [hlt, ↓reduceIte, nI_clamp (show b < 2 ^ 31 by omega), ixF (show b < 9 by omega) (by decide)]
      rw [c1]
      simp only [Option.bind]
      rw [c5]
      simp only [nI_1]
      obtain ⟨s1, s2⟩ := bW_s (g := gSe A b) (n := i) (fun j hj => by have := gSe_le hA b (v := j) (by omega); omega)
      by_cases q : nI (gSe A b i) ≤ bM (gSe A b) i
      · rw [if_pos q] at s1 s2
        simp only [q, ↓reduceIte]
        rw [s1, s2]
        exact e1
      · rw [if_neg q] at s1 s2
        simp only [q, ↓reduceIte]
        rw [s1, s2]
        exact e1
  obtain ⟨σ', d1, d2⟩ := key 30 200 0 σ1 (by omega) (by omega) (MX.rf a2)
  refine ⟨σ', ?_, d2⟩
  unfold fX8_sendOf
  rw [a1]
  simp only [Option.bind, nI_clamp (show b < 2 ^ 31 by omega), ixF (show b < 9 by omega) (by decide), ↓reduceIte]
  exact d1
theorem q_send {A : vA} (hA : WA A) (x y : Int32) : vJ A (fX7_send x y) (fX8_send x y) := by
  have h8 := nbA_le hA
  by_cases p : inR (nbA A) x = true
  · obtain ⟨b, hb, rfl⟩ := inR_ex (by omega) p
    by_cases q : inR 2 y = true
    · refine ⟨rSend A b y, A, hA, fun σ h => ?_, fun σ h => ?_⟩
      · obtain ⟨σ', a1, a2, a3, a4⟩ := c_findHour hA h hb
        refine ⟨σ', ?_, a2⟩
        unfold fX7_send fX7_send_20 fX7_send_46 rSend
        rw [c_isBasket h, p]
        simp only [Option.bind, b2_0, Bool.true_eq_false, ↓reduceIte]
        rw [a1]
        simp only
        rw [a3, a4]
        rcases in2 q with rfl | rfl <;> rfl
      · obtain ⟨σ1, a1, a2, a3⟩ := m_isBasket hA h (nI b)
        obtain ⟨σ', b1, b2, b3⟩ := m_sendOf hA a2 hb y
        refine ⟨σ', ?_, b2⟩
        unfold fX8_send fX8_send_28
        rw [a1, p]
        simp only [Option.bind, b2_0, Bool.true_eq_false, ↓reduceIte]
        rw [m_in1, q]
        simp only [b2_0, Bool.true_eq_false, ↓reduceIte]
        rw [b1]
    · have q := inR_F q
      refine ⟨-2, A, hA, fun σ h => ⟨σ, ?_, h⟩, fun σ h => ?_⟩
      · obtain ⟨z0, z1⟩ := in2F q
        unfold fX7_send fX7_send_17
        rw [c_isBasket h, p]
        simp only [Option.bind, b2_0, Bool.true_eq_false, ↓reduceIte, z0, z1]
      · obtain ⟨σ', a1, a2, a3⟩ := m_isBasket hA h (nI b)
        refine ⟨σ', ?_, a2⟩
        unfold fX8_send
        rw [a1, p]
        simp only [Option.bind, b2_0, Bool.true_eq_false, ↓reduceIte]
        rw [m_in1, q]
        rfl
  · have p := inR_F p
    refine ⟨-2, A, hA, fun σ h => ⟨σ, ?_, h⟩, fun σ h => ?_⟩
    · unfold fX7_send
      rw [c_isBasket h, p]
      rfl
    · obtain ⟨σ', a1, a2, a3⟩ := m_isBasket hA h x
      refine ⟨σ', ?_, a2⟩
      unfold fX8_send
      rw [a1, p]
      rfl
/-- the first that does -/
def firstI (p : Nat → Bool) : Nat → Nat → Int32
  | 0, _ => -1
  | d + 1, i => if p i = true then nI i else firstI p d (i + 1)
theorem firstI_skip {p : Nat → Bool} : ∀ (m d i : Nat), (∀ j, i ≤ j → j < i + m → p j = false) → firstI p (d + m) i = firstI p d (i + m)
  | 0, d, i, _ => rfl
  | m + 1, d, i, h => by
    rw [← Nat.add_assoc, firstI, if_neg (by rw [h i (Nat.le_refl _) (by omega)]; decide), firstI_skip m d (i + 1) (fun j h1 h2 => h j (by omega) (by omega))]
    congr 1
    omega
noncomputable abbrev PV (A : vA) (b v : Nat) : vP := pLo (PT A) b v
/-- basket b comes up with m -/
def upB (T : vT) (b m : Nat) : Bool := decide (¬ tup T b = -1) && decide (m ≤ tld T b)
noncomputable def okLo (A : vA) (b m v : Nat) : Bool := upB (tRun (PV A b v) 40) b m
noncomputable def rLoaf (A : vA) (b m : Nat) : Int32 := firstI (okLo A b m) 100 0
theorem rLoaf_skip {A : vA} (hA : WA A) {b m : Nat} (hb : b < nbA A) (hm : m < 100) : rLoaf A b m = firstI (okLo A b m) (100 - m) m := by
  unfold rLoaf
  have := firstI_skip (p := okLo A b m) m (100 - m) 0 (fun j h1 h2 => by
    have hP : WP (PV A b j) := (WP_PT hA).lo (by omega)
    have h1 := ((tRun_TI (PV A b j) hP 40 (Nat.le_refl _)).1 b hb).1
    have e : plo (PV A b j) b = j := by
      show va_up (plo (PT A)) b j b = j
      unfold va_up
      rw [if_pos rfl]
    rw [e] at h1
    unfold okLo upB
    rw [decide_eq_false (show ¬ m ≤ tld (tRun (PV A b j) 40) b by omega), Bool.and_false])
  rw [show 100 - m + m = 100 by omega, Nat.zero_add] at this
  exact this
theorem c_brings {σ : vMem} {T : vT} {b m : Nat} (hb : b < 8) (hm : m < 100) (h99 : tld T b ≤ 99) (h15 : σ.1 15 b = nI (tld T b)) (h17 : σ.1 17 b = tup T b) : fX6_bringsUp (nI b) (nI m) σ = some (b2 (upB T b m), σ) := by
  unfold fX6_bringsUp fX6_bringsUp_24 fX6_bringsUp_25 upB
  simp only [nI_clamp (show b < 2 ^ 31 by omega), ixF hb (by decide), ↓reduceIte, h15, h17]
  by_cases q : tup T b = -1
  · rw [if_pos q, decide_eq_false (fun z => z q)]; rfl
  · rw [if_neg q, decide_eq_true q]
    have hlt := nI_ltI (a := tld T b) (b := m) (by omega) (by omega)
    by_cases z : m ≤ tld T b
    · rw [if_neg (fun w => by have := hlt.mp w; omega), decide_eq_true z]; rfl
    · rw [if_pos (hlt.mpr (by omega)), decide_eq_false z]; rfl
theorem c_loafR {A : vA} (hA : WA A) {σ : vMem} (h : RC A σ) {b m : Nat} (hb : b < nbA A) (hm : m < 100) : ∃ σ', fX7_loaf (nI b) (nI m) σ = some (rLoaf A b m, σ') ∧ RC A σ' := by
  have h8 := nbA_le hA
  have key : ∀ (k n i : Nat) (τ : vMem), i + k = 100 → k + 1 < n → RX A 10 b σ τ → ∃ σ', LfX7_loaf_34 n (nI b) (nI m) (σ.1 10 b) (-1) (nI i) τ = some (firstI (okLo A b m) k i, σ') ∧ RC A σ' := by
    intro k
    induction k with
    | zero =>
      intro n i τ hik hn hR
      obtain ⟨n, rfl⟩ : ∃ j, n = j + 1 := ⟨n - 1, by omega⟩
      have : i = 100 := by omega
      subst this
      refine ⟨vup τ 10 b (σ.1 10 b), ?_, hR.back (by omega) (by omega) rfl⟩
      show fX7_loaf_34 _ _ _ _ _ _ _ = _
      unfold fX7_loaf_34 fX7_loaf_84 fX7_loaf_94
      rw [show (100 : Int32) = nI 100 from rfl, if_pos (Int32.le_refl _)]
      simp only [nI_clamp (show b < 2 ^ 31 by omega), ixF (show b < 8 by omega) (by decide), ↓reduceIte]
      rfl
    | succ k ih =>
      intro n i τ hik hn hR
      obtain ⟨n, rfl⟩ : ∃ j, n = j + 1 := ⟨n - 1, by omega⟩
      have hlt : (nI 100 ≤ nI i) = False := eq_false (fun z => by have := (nI_leI (by omega) (by omega)).mp z; omega)
      have hR2 := hR.up (by omega) (by omega) (nI i)
      have hP : WP (PV A b i) := (WP_PT hA).lo (by omega)
      obtain ⟨τ1, c1, c2, w, y, sn, c4⟩ := c_toldX hA hR2 (by omega) (by omega) hP (hR2.lo (v := i) (by simp [vup_rd])) rfl rfl
      have l1 := ((tRun_TI (PV A b i) hP 40 (Nat.le_refl _)).1 b hb).1
      have l2 := (hP.2.2.2.1 b hb).2.1
      have c5 : fX6_bringsUp (nI b) (nI m) τ1 = some (b2 (okLo A b m i), τ1) := c_brings (T := tRun (PV A b i) 40) (by omega) hm (by omega) (c4.2.2.2.1 b hb) (c4.2.2.2.2.1 b hb)
      show ∃ σ', fX7_loaf_34 _ _ _ _ _ _ _ = _ ∧ _
      unfold fX7_loaf_34 fX7_loaf_58 fX7_loaf_78
      rw [show (100 : Int32) = nI 100 from rfl]
      simp only [hlt, ↓reduceIte, nI_clamp (show b < 2 ^ 31 by omega), ixF (show b < 8 by omega) (by decide)]
      rw [c1]
      simp only [Option.bind]
      rw [c5]
      simp only [nI_1, b2_0]
      rw [firstI]
      by_cases q : okLo A b m i = true
      · rw [if_pos q, if_neg (by rw [q]; decide)]
        obtain ⟨n, rfl⟩ : ∃ j, n = j + 1 := ⟨n - 1, by omega⟩
        refine ⟨vup τ1 10 b (σ.1 10 b), ?_, c2.back (by omega) (by omega) rfl⟩
        show fX7_loaf_34 _ _ _ _ _ _ _ = _
        unfold fX7_loaf_34 fX7_loaf_84 fX7_loaf_94
        simp only [nI_m1 (show i < 2 ^ 31 by omega), ↓reduceIte, ite_self, nI_clamp (show b < 2 ^ 31 by omega), ixF (show b < 8 by omega) (by decide)]
      · rw [if_neg q, if_pos (by simpa using q)]
        exact ih n (i + 1) τ1 (by omega) (by omega) c2
  obtain ⟨σ', d1, d2⟩ := key (100 - m) 200 m σ (by omega) (by omega) (RX.rf h)
  refine ⟨σ', ?_, d2⟩
  unfold fX7_loaf
  rw [c_isBasket h, inR_nI (by omega) hb]
  simp only [Option.bind, b2_0, Bool.true_eq_false, ↓reduceIte]
  rw [c_isLoad, inR_nI (by omega) hm]
  simp only [b2_0, Bool.true_eq_false, ↓reduceIte, nI_clamp (show b < 2 ^ 31 by omega), ixF (show b < 8 by omega) (by decide)]
  rw [rLoaf_skip hA hb hm]
  exact d1
theorem m_loafOf {A : vA} (hA : WA A) {σ : vMem} (h : RM A σ) {b m : Nat} (hb : b < nbA A) (hm : m < 100) : ∃ σ', fX8_loafOf (nI b) (nI m) σ = some (rLoaf A b m, σ') ∧ RM A σ' ∧ MD A σ' := by
  have h8 := nbA_le hA
  obtain ⟨σ1, a1, a2⟩ := m_asTold hA h
  have key : ∀ (k n i : Nat) (τ : vMem), i + k = 100 → k + 1 < n → MX A (wAll A) (sAll A) 7 b σ1 τ → ∃ σ', LfX8_loafOf_17 n (nI b) (nI m) (σ1.1 7 b) (-1) (nI i) τ = some (firstI (okLo A b m) k i, σ') ∧ RM A σ' ∧ MD A σ' := by
    intro k
    induction k with
    | zero =>
      intro n i τ hik hn hM
      obtain ⟨n, rfl⟩ : ∃ j, n = j + 1 := ⟨n - 1, by omega⟩
      have : i = 100 := by omega
      subst this
      have hT := hM.back (by omega) (by omega) rfl
      refine ⟨vup τ 7 b (σ1.1 7 b), ?_, hT.1, hT.2.1⟩
      show fX8_loafOf_17 _ _ _ _ _ _ _ = _
      unfold fX8_loafOf_17 fX8_loafOf_76 fX8_loafOf_83
      rw [show (100 : Int32) = nI 100 from rfl, if_pos (Int32.le_refl _)]
      simp only [nI_clamp (show b < 2 ^ 31 by omega), ixF (show b < 9 by omega) (by decide), ↓reduceIte]
      rfl
    | succ k ih =>
      intro n i τ hik hn hM
      obtain ⟨n, rfl⟩ : ∃ j, n = j + 1 := ⟨n - 1, by omega⟩
      have hlt : (nI 100 ≤ nI i) = False := eq_false (fun z => by have := (nI_leI (by omega) (by omega)).mp z; omega)
      have hM2 := hM.up (by omega) (by omega) (nI i)
      have hP : WP (PV A b i) := (WP_PT hA).lo (by omega)
      obtain ⟨τ1, c1, c2, c3⟩ := m_runX hM2 (by omega) (by omega) hP (hM2.lo hA (v := i) (by simp [vup_rd]))
      have l1 := ((tRun_TI (PV A b i) hP 40 (Nat.le_refl _)).1 b hb).1
      have l2 := (hP.2.2.2.1 b hb).2.1
      have h13 : τ1.1 13 b = nI (tld (tRun (PV A b i) 40) b) := c3.1.2.2.1 b hb
      have h18 : τ1.1 18 b = tup (tRun (PV A b i) 40) b := c3.1.2.2.2.2.2.2.2.1 b hb
      show ∃ σ', fX8_loafOf_17 _ _ _ _ _ _ _ = _ ∧ _
      unfold fX8_loafOf_17 fX8_loafOf_38 fX8_loafOf_67 fX8_loafOf_68
      rw [show (100 : Int32) = nI 100 from rfl]
      simp only [hlt, ↓reduceIte, nI_clamp (show b < 2 ^ 31 by omega), ixF (show b < 9 by omega) (by decide)]
      rw [c1]
      simp only [Option.bind, nI_1, nI_clamp (show b < 2 ^ 31 by omega), ixF (show b < 8 by omega) (by decide), ↓reduceIte, h13, h18]
      rw [firstI]
      have nx := ih n (i + 1) τ1 (by omega) (by omega) c2
      by_cases q : tup (tRun (PV A b i) 40) b = -1
      · rw [if_pos q, if_neg (by unfold okLo upB; rw [decide_eq_false (fun z => z q), Bool.false_and]; decide)]
        exact nx
      · rw [if_neg q]
        have hl := nI_ltI (a := tld (tRun (PV A b i) 40) b) (b := m) (by omega) (by omega)
        by_cases z : m ≤ tld (tRun (PV A b i) 40) b
        · rw [if_neg (fun w => by have := hl.mp w; omega), if_pos (by unfold okLo upB; rw [decide_eq_true q, decide_eq_true z]; rfl)]
          obtain ⟨n, rfl⟩ : ∃ j, n = j + 1 := ⟨n - 1, by omega⟩
          have hT := c2.back (by omega) (by omega) rfl
          refine ⟨vup τ1 7 b (σ1.1 7 b), ?_, hT.1, hT.2.1⟩
          show fX8_loafOf_17 _ _ _ _ _ _ _ = _
          unfold fX8_loafOf_17 fX8_loafOf_76 fX8_loafOf_83
          simp only [nI_m1 (show i < 2 ^ 31 by omega), ↓reduceIte, ite_self, nI_clamp (show b < 2 ^ 31 by omega), ixF (show b < 9 by omega) (by decide)]
        · rw [if_pos (hl.mpr (by omega)), if_neg (by unfold okLo upB; rw [decide_eq_false z, Bool.and_false]; decide)]
          exact nx
  obtain ⟨σ', d1, d2⟩ := key 100 200 0 σ1 (by omega) (by omega) (MX.rf a2)
  refine ⟨σ', ?_, d2⟩
  unfold fX8_loafOf
  rw [a1]
  simp only [Option.bind, nI_clamp (show b < 2 ^ 31 by omega), ixF (show b < 9 by omega) (by decide), ↓reduceIte]
  exact d1
theorem m_in99 (x : Int32) (σ : vMem) : fX8_in x 0 99 σ = some (b2 (inR 100 x), σ) := m_inR (n := 100) (by decide) x σ
theorem q_loaf {A : vA} (hA : WA A) (x y : Int32) : vJ A (fX7_loaf x y) (fX8_loaf x y) := by
  have h8 := nbA_le hA
  by_cases p : inR (nbA A) x = true
  · obtain ⟨b, hb, rfl⟩ := inR_ex (by omega) p
    by_cases q : inR 100 y = true
    · obtain ⟨m, hm, rfl⟩ := inR_ex (by omega) q
      refine ⟨rLoaf A b m, A, hA, fun σ h => c_loafR hA h hb hm, fun σ h => ?_⟩
      obtain ⟨σ1, a1, a2, a3⟩ := m_isBasket hA h (nI b)
      obtain ⟨σ', b1, b2, b3⟩ := m_loafOf hA a2 hb hm
      refine ⟨σ', ?_, b2⟩
      unfold fX8_loaf fX8_loaf_29
      rw [a1, p]
      simp only [Option.bind, b2_0, Bool.true_eq_false, ↓reduceIte]
      rw [m_in99, q]
      simp only [b2_0, Bool.true_eq_false, ↓reduceIte]
      rw [b1]
    · have q := inR_F q
      refine ⟨-2, A, hA, fun σ h => ⟨σ, ?_, h⟩, fun σ h => ?_⟩
      · unfold fX7_loaf
        rw [c_isBasket h, p]
        simp only [Option.bind, b2_0, Bool.true_eq_false, ↓reduceIte]
        rw [c_isLoad, q]
        rfl
      · obtain ⟨σ', a1, a2, a3⟩ := m_isBasket hA h (nI b)
        refine ⟨σ', ?_, a2⟩
        unfold fX8_loaf
        rw [a1, p]
        simp only [Option.bind, b2_0, Bool.true_eq_false, ↓reduceIte]
        rw [m_in99, q]
        rfl
  · have p := inR_F p
    refine ⟨-2, A, hA, fun σ h => ⟨σ, ?_, h⟩, fun σ h => ?_⟩
    · unfold fX7_loaf
      rw [c_isBasket h, p]
      rfl
    · obtain ⟨σ', a1, a2, a3⟩ := m_isBasket hA h x
      refine ⟨σ', ?_, a2⟩
      unfold fX8_loaf
      rw [a1, p]
      rfl
