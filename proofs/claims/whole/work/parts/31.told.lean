/-- the reference's parsed texts -/
def MD (A : vA) (σ : vMem) : Prop := (σ.1 0 2 = nI (nfA A) ∧ σ.1 0 6 = nI (nbA A)) ∧ (∀ f, f < nfA A → σ.1 3 f = sortI (t0 A (4 * f)) ∧ σ.1 4 f = nI (t0 A (4 * f + 1) - 48).toNatClampNeg ∧ σ.1 5 f = t0 A (4 * f + 2) - 97) ∧ ∀ b, b < nbA A → σ.1 6 b = nI (10 * (t1 A (sA A b) - 48) + (t1 A (sA A b + 1) - 48)).toNatClampNeg ∧ σ.1 7 b = nI (10 * (t1 A (sA A b + 2) - 48) + (t1 A (sA A b + 3) - 48)).toNatClampNeg ∧ σ.1 8 b = nI (sz (t1 A) (n1 A) (sA A b)) ∧ ∀ i, i < sz (t1 A) (n1 A) (sA A b) → σ.1 9 (3 * b + i) = t1 A (sA A b + 4 + i) - 97
theorem m_faultOf {A : vA} (hA : WA A) {σ : vMem} (h : RM A σ) (x : Int32) : ∃ σ', fX8_faultOf x σ = some (if x = 0 then fF (t0 A) (n0 A) else (fB (t1 A) (n1 A)).1, σ') ∧ FrM σ σ' ∧ MD A σ' ∧ σ'.2 = σ.2 ∧ ∀ k, k ≠ 2 → k ≠ 6 → σ'.1 0 k = σ.1 0 k := by
  obtain ⟨r0, σ1, a1, a2, a3, a4, a5⟩ := m_parts0 hA.1 h.1.1
  have er0 : fF (t0 A) (n0 A) = r0 := FF_one (FF_ex _ hA.1) a2
  have hT1 : HT σ1 1 (n1 A) (t1 A) := by
    unfold HT
    rw [a3.1 1 (by decide) (by decide) (by decide) (by decide), a3.1 2 (by decide) (by decide) (by decide) (by decide)]
    exact h.1.2
  have hf1 : Fr69 σ1 (vup σ1 0 6 0) := ⟨fun a h0 _ => vup_ne _ _ h0, fun k hk => by rw [vup_rd, if_pos rfl, if_neg hk], rfl⟩
  obtain ⟨r1, c, σ2, b1, b2, b3, b4, b5⟩ := m_partsL1 (σ0 := σ1) hA.2.1 hT1 9 200 0 (vup σ1 0 6 0) (by omega) (by omega) (fun j hj => absurd hj (Nat.not_lt_zero _)) hf1 (by rw [vup_rd]; simp) (fun j hj => absurd hj (Nat.not_lt_zero _))
  obtain ⟨er1, ec⟩ := RB_one (RB_ex (t1 A) hA.2.1) b2
  have run1 : fX8_readsParts 1 σ1 = some (r1, σ2) := by
    unfold fX8_readsParts fX8_readsParts_17 fX8_readsParts_20 fX8_readsParts_34
    rw [if_neg (by decide), if_pos rfl, vup_same _ 0 2 rfl]
    exact b1
  refine ⟨σ2, ?_, a3.m.tr b3.m, ⟨⟨?_, ?_⟩, fun f hf => ?_, fun b hb => ?_⟩, b3.2.2.trans a3.2.2, fun k k2 k6 => (b3.2.1 k k6).trans (a3.2.1 k k2)⟩
  · unfold fX8_faultOf
    rw [show fX8_readsParts 0 σ = some (r0, σ1) from a1]
    simp only [Option.bind]
    rw [run1]
    simp only [fX8_faultOf_21]
    rw [er0, er1]
    split <;> rfl
  · rw [b3.2.1 2 (by decide), a4]
    unfold nfA
    rw [er0]
    split <;> rfl
  · rw [b4]
    unfold nbA
    rw [er1, ec]
  · obtain ⟨q1, q2, q3, q4, q5, a, ha, ea⟩ := floor_ok hA hf
    have hd := a5 (er0 ▸ q1) f (by rw [← q3]; exact hf)
    rw [b3.1 3 (by decide) (by decide), b3.1 4 (by decide) (by decide), b3.1 5 (by decide) (by decide)]
    refine ⟨hd.1, ?_, hd.2.2⟩
    rw [hd.2.1, ea, nI_clamp (by omega)]
  · obtain ⟨q1, q2, q3, q4, ⟨a, ha, ea⟩, d, hd, ed⟩ := bask_ok hA hb
    have hx := b5 (er1 ▸ q1) b (by rw [← ec, ← q2]; exact hb)
    refine ⟨?_, ?_, hx.2.2.1, hx.2.2.2⟩
    · rw [hx.1, ea, nI_clamp (by omega)]
    · rw [hx.2.1, ed, nI_clamp (by omega)]
theorem m_reads {A : vA} (hA : WA A) {σ : vMem} (h : RM A σ) : ∃ σ', fX8_reads σ = some σ' ∧ FrM σ σ' ∧ MD A σ' ∧ σ'.2 = σ.2 ∧ ∀ k, k ≠ 2 → k ≠ 6 → σ'.1 0 k = σ.1 0 k := by
  obtain ⟨σ', a1, a2⟩ := m_faultOf hA h 0
  refine ⟨σ', ?_, a2⟩
  unfold fX8_reads
  rw [a1]
  rfl
/-- hours as bits -/
def wB (h : Nat → Nat) (sel : Nat → Bool) : Nat → Int64
  | 0 => 0
  | k + 1 => if sel k = true then wB h sel k ||| ((1 : Int64) <<< ((nI (h k)).toInt64 &&& 63)) else wB h sel k
theorem wB_cong {h : Nat → Nat} {s s' : Nat → Bool} : ∀ n, (∀ k, k < n → s k = s' k) → wB h s n = wB h s' n
  | 0, _ => rfl
  | n + 1, hs => by rw [wB, wB, wB_cong n (fun k hk => hs k (by omega)), hs n (by omega)]
def selI (w : Int32) (k : Nat) : Bool := decide ((w >>> (nI k &&& 31)) &&& 1 = 1)
theorem c_chos25 {A : vA} (hA : WA A) {σ : vMem} (h : RC A σ) (w : Int32) : fX1_chosen_25 w σ = some (wB (awh A) (selI w) (awn A), σ) := by
  obtain ⟨h1, h2⟩ := h.2.2.2.1
  have h6 := hA.2.2.2.1.1
  have key : ∀ (k n i : Nat), i + k = awn A → k < n → LfX1_chosen_25_5 n w (wB (awh A) (selI w) i) (nI i) σ = some (wB (awh A) (selI w) (awn A), σ) := by
    intro k
    induction k with
    | zero =>
      intro n i hik hn
      obtain ⟨n, rfl⟩ : ∃ j, n = j + 1 := ⟨n - 1, by omega⟩
      have : i = awn A := by omega
      subst this
      show fX1_chosen_25_5 _ _ _ _ _ = _
      unfold fX1_chosen_25_5
      rw [h1, if_pos (Int32.le_refl _)]
    | succ k ih =>
      intro n i hik hn
      obtain ⟨n, rfl⟩ : ∃ j, n = j + 1 := ⟨n - 1, by omega⟩
      have hci : (nI i).toNatClampNeg = i := nI_clamp (by omega)
      have hxi := ixF (show i < 6 by omega) (by decide)
      have hlt : (nI (awn A) ≤ nI i) = False := eq_false (fun z => by have := (nI_leI (by omega) (by omega)).mp z; omega)
      show fX1_chosen_25_5 _ _ _ _ _ = _
      unfold fX1_chosen_25_5 fX1_chosen_25_36
      simp only [h1, hlt, ↓reduceIte, hci, hxi, h2 i (by omega), nI_1]
      have := ih n (i + 1) (by omega) (by omega)
      rw [wB] at this
      unfold selI at this ⊢
      by_cases z : (w >>> (nI i &&& 31)) &&& 1 = 1
      · rw [if_pos z]
        simp only [z, decide_true, ↓reduceIte] at this
        exact this
      · rw [if_neg z]
        simp only [z, decide_false, Bool.false_eq_true, ↓reduceIte] at this
        exact this
  exact key (awn A) 200 0 (by omega) (by omega)
theorem c_chos27 {A : vA} (hA : WA A) {σ : vMem} (h : RC A σ) (w : Int32) : fX1_chosen_27 w σ = some (wB (ash A) (selI w) (asn A), σ) := by
  obtain ⟨h1, h2⟩ := h.2.2.2.2.1
  have h6 := hA.2.2.2.2.1.1
  have key : ∀ (k n i : Nat), i + k = asn A → k < n → LfX1_chosen_27_5 n w (wB (ash A) (selI w) i) (nI i) σ = some (wB (ash A) (selI w) (asn A), σ) := by
    intro k
    induction k with
    | zero =>
      intro n i hik hn
      obtain ⟨n, rfl⟩ : ∃ j, n = j + 1 := ⟨n - 1, by omega⟩
      have : i = asn A := by omega
      subst this
      show fX1_chosen_27_5 _ _ _ _ _ = _
      unfold fX1_chosen_27_5
      rw [h1, if_pos (Int32.le_refl _)]
    | succ k ih =>
      intro n i hik hn
      obtain ⟨n, rfl⟩ : ∃ j, n = j + 1 := ⟨n - 1, by omega⟩
      have hci : (nI i).toNatClampNeg = i := nI_clamp (by omega)
      have hxi := ixF (show i < 6 by omega) (by decide)
      have hlt : (nI (asn A) ≤ nI i) = False := eq_false (fun z => by have := (nI_leI (by omega) (by omega)).mp z; omega)
      show fX1_chosen_27_5 _ _ _ _ _ = _
      unfold fX1_chosen_27_5 fX1_chosen_27_36
      simp only [h1, hlt, ↓reduceIte, hci, hxi, h2 i (by omega), nI_1]
      have := ih n (i + 1) (by omega) (by omega)
      rw [wB] at this
      unfold selI at this ⊢
      by_cases z : (w >>> (nI i &&& 31)) &&& 1 = 1
      · rw [if_pos z]
        simp only [z, decide_true, ↓reduceIte] at this
        exact this
      · rw [if_neg z]
        simp only [z, decide_false, Bool.false_eq_true, ↓reduceIte] at this
        exact this
  exact key (asn A) 200 0 (by omega) (by omega)
theorem selI_m1 : ∀ k : Fin 6, selI (-1) k.val = true := by decide +kernel
theorem selI_but : ∀ i k : Fin 6, selI (((1 : Int32) <<< (nI i.val &&& 31)) ^^^ (-1)) k.val = decide (k.val ≠ i.val) := by decide +kernel
theorem bitAt_0 : ∀ k : Fin 40, bitAt ((0 : Int32).toInt64) k.val = false := by decide +kernel
theorem bitAt_1 : ∀ i k : Fin 9, bitAt (((1 : Int32) <<< (nI i.val &&& 31)).toInt64) k.val = decide (k.val = i.val) := by decide +kernel
/-- all winds; all but one; all Sundays -/
def wAll (A : vA) : Int64 := wB (awh A) (fun _ => true) (awn A)
def wBut (A : vA) (i : Nat) : Int64 := wB (awh A) (fun k => decide (k ≠ i)) (awn A)
def sAll (A : vA) : Int64 := wB (ash A) (fun _ => true) (asn A)
theorem c_all25 {A : vA} (hA : WA A) {σ : vMem} (h : RC A σ) : fX1_all_25 σ = some (wAll A, σ) := by
  unfold fX1_all_25
  rw [c_chos25 hA h]
  simp only [Option.bind]
  unfold wAll
  rw [wB_cong (awn A) (fun k hk => selI_m1 ⟨k, Nat.lt_of_lt_of_le hk hA.2.2.2.1.1⟩)]
theorem c_all27 {A : vA} (hA : WA A) {σ : vMem} (h : RC A σ) : fX1_all_27 σ = some (sAll A, σ) := by
  unfold fX1_all_27
  rw [c_chos27 hA h]
  simp only [Option.bind]
  unfold sAll
  rw [wB_cong (asn A) (fun k hk => selI_m1 ⟨k, Nat.lt_of_lt_of_le hk hA.2.2.2.2.1.1⟩)]
theorem c_but25 {A : vA} (hA : WA A) {σ : vMem} (h : RC A σ) {i : Nat} (hi : i < 6) : fX1_allBut_25 (nI i) σ = some (wBut A i, σ) := by
  unfold fX1_allBut_25
  rw [c_chos25 hA h]
  simp only [Option.bind]
  unfold wBut
  rw [wB_cong (s' := fun k => decide (k ≠ i)) (awn A) (fun k hk => by
    have := selI_but ⟨i, hi⟩ ⟨k, Nat.lt_of_lt_of_le hk hA.2.2.2.1.1⟩
    simp only at this
    exact this)]
theorem m_winds {A : vA} (hA : WA A) {σ : vMem} (h : RM A σ) (w : Int32) : fX8_windsBut w σ = some (wB (awh A) (fun k => !bitAt w.toInt64 k) (awn A), σ) := by
  obtain ⟨h1, h2⟩ := h.2.2.1
  have h6 := hA.2.2.2.1.1
  have key : ∀ (k n i : Nat), i + k = awn A → k < n → LfX8_windsBut_5 n w (wB (awh A) (fun k => !bitAt w.toInt64 k) i) (nI i) σ = some (wB (awh A) (fun k => !bitAt w.toInt64 k) (awn A), σ) := by
    intro k
    induction k with
    | zero =>
      intro n i hik hn
      obtain ⟨n, rfl⟩ : ∃ j, n = j + 1 := ⟨n - 1, by omega⟩
      have : i = awn A := by omega
      subst this
      show fX8_windsBut_5 _ _ _ _ _ = _
      unfold fX8_windsBut_5
      rw [h1, if_pos (Int32.le_refl _)]
    | succ k ih =>
      intro n i hik hn
      obtain ⟨n, rfl⟩ : ∃ j, n = j + 1 := ⟨n - 1, by omega⟩
      have hci : (nI i).toNatClampNeg = i := nI_clamp (by omega)
      have hxi := ixF (show i < 6 by omega) (by decide)
      have hlt : (nI (awn A) ≤ nI i) = False := eq_false (fun z => by have := (nI_leI (by omega) (by omega)).mp z; omega)
      show fX8_windsBut_5 _ _ _ _ _ = _
      unfold fX8_windsBut_5 fX8_windsBut_39 fX8_bitsOf
      simp only [h1, hlt, ↓reduceIte, m_isIn, Option.bind, b2_0, hci, hxi, h2 i (by omega), nI_1]
      have := ih n (i + 1) (by omega) (by omega)
      rw [wB] at this
      by_cases z : bitAt w.toInt64 i = false
      · rw [if_pos z]
        rw [z] at this
        simpa using this
      · rw [if_neg z]
        rw [Bool.not_eq_false] at z
        rw [z] at this
        simpa using this
  exact key (awn A) 200 0 (by omega) (by omega)
theorem m_all {A : vA} (hA : WA A) {σ : vMem} (h : RM A σ) : fX8_windsBut 0 σ = some (wAll A, σ) := by
  rw [m_winds hA h]
  unfold wAll
  rw [wB_cong (s' := fun _ => true) (awn A) (fun k hk => by
    have := bitAt_0 ⟨k, by have := hA.2.2.2.1.1; omega⟩
    simp only at this
    rw [this]; rfl)]
theorem m_but {A : vA} (hA : WA A) {σ : vMem} (h : RM A σ) {i : Nat} (hi : i < 6) : fX8_windsBut ((1 : Int32) <<< (nI i &&& 31)) σ = some (wBut A i, σ) := by
  rw [m_winds hA h]
  unfold wBut
  rw [wB_cong (s' := fun k => decide (k ≠ i)) (awn A) (fun k hk => by
    have := bitAt_1 ⟨i, by omega⟩ ⟨k, by have := hA.2.2.2.1.1; omega⟩
    simp only at this
    rw [this]
    simp)]
theorem vupL_rd (σ : vMem) (n k : Nat) (x : Int64) (a j : Nat) : (vupL σ n k x).2 a j = if a = n then (if j = k then x else σ.2 n j) else σ.2 a j := by
  unfold vupL
  by_cases h : a = n <;> simp [h]
/-- the reference as told: the texts parsed, winds and Sundays as bits, nobody fed -/
def MTo (A : vA) (w s : Int64) (σ : vMem) : Prop := RM A σ ∧ MD A σ ∧ σ.2 0 17 = w ∧ σ.2 0 18 = s ∧ σ.1 0 19 = 0
theorem m_asTold {A : vA} (hA : WA A) {σ : vMem} (h : RM A σ) : ∃ σ', fX8_asTold σ = some σ' ∧ MTo A (wAll A) (sAll A) σ' := by
  obtain ⟨σ1, a1, a2, a3, a4, a5⟩ := m_reads hA h
  have hR1 := h.fr a2
  have h6 := hA.2.2.2.2.1.1
  have key : ∀ (k n i : Nat) (τ : vMem), i + k = asn A → k < n → RM A τ → MD A τ → τ.2 0 17 = wAll A → τ.2 0 18 = wB (ash A) (fun _ => true) i → ∃ σ', LfX8_asTold_20 n (nI i) τ = some σ' ∧ MTo A (wAll A) (sAll A) σ' := by
    intro k
    induction k with
    | zero =>
      intro n i τ hik hn r1 r2 r3 r4
      obtain ⟨n, rfl⟩ : ∃ j, n = j + 1 := ⟨n - 1, by omega⟩
      have : i = asn A := by omega
      subst this
      refine ⟨vup τ 0 19 0, ?_, r1.fr ⟨fun a ha => vup_ne _ _ (by omega), fun k hk => by rw [vup_rd, if_pos rfl, if_neg (by omega)]⟩, ?_, r3, r4, by rw [vup_rd]; simp⟩
      · show fX8_asTold_20 _ _ _ = _
        unfold fX8_asTold_20
        rw [r1.2.2.2.1.1, if_pos (Int32.le_refl _)]
      · unfold MD at r2 ⊢
        simpa only [vup_rd, Nat.reduceEqDiff, ↓reduceIte] using r2
    | succ k ih =>
      intro n i τ hik hn r1 r2 r3 r4
      obtain ⟨n, rfl⟩ : ∃ j, n = j + 1 := ⟨n - 1, by omega⟩
      have hci : (nI i).toNatClampNeg = i := nI_clamp (by omega)
      have hxi := ixF (show i < 6 by omega) (by decide)
      obtain ⟨s1, s2⟩ := r1.2.2.2.1
      have hlt : (nI (asn A) ≤ nI i) = False := eq_false (fun z => by have := (nI_leI (by omega) (by omega)).mp z; omega)
      obtain ⟨σ', b1, b2⟩ := ih n (i + 1) (vupL τ 0 18 (wB (ash A) (fun _ => true) (i + 1))) (by omega) (by omega) (r1.fr ⟨fun _ _ => rfl, fun _ _ => rfl⟩) r2 (by rw [vupL_rd]; simpa using r3) (by rw [vupL_rd]; simp)
      refine ⟨σ', ?_, b2⟩
      show fX8_asTold_20 _ _ _ = _
      unfold fX8_asTold_20 fX8_asTold_45 fX8_bitsOf
      simp only [s1, hlt, ↓reduceIte, hci, hxi, s2 i (by omega), Option.bind, nI_1, r4]
      rw [wB] at b1
      exact b1
  obtain ⟨σ', b1, b2⟩ := key (asn A) 200 0 (vupL (vupL σ1 0 17 (wAll A)) 0 18 0) (by omega) (by omega) (hR1.fr ⟨fun _ _ => rfl, fun _ _ => rfl⟩) a3 (by simp [vupL_rd]) (by simp [vupL_rd]; rfl)
  refine ⟨σ', ?_, b2⟩
  unfold fX8_asTold
  rw [a1]
  simp only [Option.bind]
  rw [m_all hA hR1]
  exact b1
theorem MTo.dm {A : vA} (hA : WA A) {w s : Int64} {σ : vMem} (h : MTo A w s σ) : DM (PA A (bitAt w) (bitAt s)) σ := by
  obtain ⟨h1, ⟨⟨d1, d2⟩, d3, d4⟩, h3, h4, h5⟩ := h
  refine ⟨⟨d1, d2, h1.2.1.1, h1.2.1.2⟩, ⟨by rw [h3]; rfl, by rw [h4]; rfl⟩, ⟨fun f => (t0 A (4 * f + 1) - 48).toNatClampNeg, fun f hf => ?_⟩, d4⟩
  obtain ⟨e3, e4, e5⟩ := d3 f hf
  obtain ⟨-, -, -, q9, -, a, ha, ea⟩ := floor_ok hA hf
  refine ⟨e3, by show (t0 A (4 * f + 1) - 48).toNatClampNeg ≤ 9; rw [ea, nI_clamp (by omega)]; exact ha, e4, ?_, e5⟩
  rw [h5, bitAt_0 ⟨f, by omega⟩]
  rfl
