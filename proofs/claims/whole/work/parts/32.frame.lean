/-! the calls: what both answer -/
def QC {α : Type} (A B : vA) (f : vMem → Option (α × vMem)) (r : α) : Prop := ∀ σ, RC A σ → ∃ σ', f σ = some (r, σ') ∧ RC B σ'
def QM {α : Type} (A B : vA) (f : vMem → Option (α × vMem)) (r : α) : Prop := ∀ σ, RM A σ → ∃ σ', f σ = some (r, σ') ∧ RM B σ'
/-- both answer alike, and hold one state thereafter -/
def vJ {α : Type} (A : vA) (f g : vMem → Option (α × vMem)) : Prop := ∃ (r : α) (B : vA), WA B ∧ QC A B f r ∧ QM A B g r
def inR (n : Nat) (x : Int32) : Bool := decide (¬ x < 0 ∧ x < nI n)
theorem inR_ex {n : Nat} (hn : n < 2 ^ 31) {x : Int32} (h : inR n x = true) : ∃ k, k < n ∧ x = nI k := by
  unfold inR at h
  have h := of_decide_eq_true h
  obtain ⟨k, hk, rfl⟩ := nI_of h.1
  exact ⟨k, (nI_ltI hk hn).mp h.2, rfl⟩
theorem inR_nI {n k : Nat} (hn : n < 2 ^ 31) (h : k < n) : inR n (nI k) = true := by
  unfold inR
  exact decide_eq_true ⟨nI_pos (by omega), (nI_ltI (by omega) hn).mpr h⟩
theorem i32_le_not {x y : Int32} : ¬ x ≤ y ↔ y < x := Int32.not_le
theorem i32_lt_not {x y : Int32} : ¬ x < y ↔ y ≤ x := Int32.not_lt
theorem inR_m {n : Nat} (hn : n < 2 ^ 31) (x : Int32) : decide (¬ x < 0 ∧ ¬ (nI n - 1) < x) = inR n x := by
  unfold inR
  by_cases h0 : x < 0
  · simp [h0]
  · obtain ⟨k, hk, rfl⟩ := nI_of h0
    cases n with
    | zero =>
      have e : nI 0 - 1 = -1 := by decide
      rw [e]
      have : (-1 : Int32) < nI k := by
        rw [Int32.lt_iff_toInt_lt, nI_toInt hk]
        have : (-1 : Int32).toInt = -1 := by decide
        omega
      have h2 : ¬ nI k < nI 0 := h0
      simp [this, h2]
    | succ n =>
      have e : nI (n + 1) - 1 = nI n := pk_sub (b := 1) (by omega)
      rw [e]
      have a1 := nI_ltI (a := n) (b := k) (by omega) hk
      have a2 := nI_ltI (a := k) (b := n + 1) hk hn
      by_cases q : n < k
      · have b1 := a1.mpr q
        have b2 : ¬ nI k < nI (n + 1) := fun z => by have := a2.mp z; omega
        simp [b1, b2]
      · have b1 : ¬ nI n < nI k := fun z => q (a1.mp z)
        have b2 := a2.mpr (by omega)
        simp [b1, b2]
theorem m_inR {n : Nat} (hn : n < 2 ^ 31) (x : Int32) (σ : vMem) : fX8_in x 0 (nI n - 1) σ = some (b2 (inR n x), σ) := by rw [m_in, inR_m hn]
theorem m_in1 (x : Int32) (σ : vMem) : fX8_in x 0 1 σ = some (b2 (inR 2 x), σ) := m_inR (n := 2) (by decide) x σ
theorem m_in2 (x : Int32) (σ : vMem) : fX8_in x 0 2 σ = some (b2 (inR 3 x), σ) := m_inR (n := 3) (by decide) x σ
theorem m_in3 (x : Int32) (σ : vMem) : fX8_in x 0 3 σ = some (b2 (inR 4 x), σ) := m_inR (n := 4) (by decide) x σ
theorem m_in5 (x : Int32) (σ : vMem) : fX8_in x 0 5 σ = some (b2 (inR 6 x), σ) := m_inR (n := 6) (by decide) x σ
theorem m_in11 (x : Int32) (σ : vMem) : fX8_in x 0 11 σ = some (b2 (inR 12 x), σ) := m_inR (n := 12) (by decide) x σ
theorem m_in39 (x : Int32) (σ : vMem) : fX8_in x 0 39 σ = some (b2 (inR 40 x), σ) := m_inR (n := 40) (by decide) x σ
theorem b2_01 (b : Bool) : (¬ (b2 b = 0 ∨ b2 b = 1)) = False := by cases b <;> simp [b2]
theorem m_isText (x : Int32) (σ : vMem) : fX8_isText x σ = some (b2 (inR 2 x), σ) := by
  unfold fX8_isText; rw [m_in1]; simp only [Option.bind, b2_01, ↓reduceIte]
theorem m_isHour (x : Int32) (σ : vMem) : fX8_isHour x σ = some (b2 (inR 40 x), σ) := by
  unfold fX8_isHour; rw [m_in39]; simp only [Option.bind, b2_01, ↓reduceIte]
theorem m_isSheet (x : Int32) (σ : vMem) : fX8_isSheet x σ = some (b2 (inR 4 x), σ) := by
  unfold fX8_isSheet; rw [m_in3]; simp only [Option.bind, b2_01, ↓reduceIte]
theorem inR_c {σ : vMem} {n : Nat} (x : Int32) : (if x < 0 then some ((0 : Int32), σ) else if nI n ≤ x then some (0, σ) else some (1, σ)) = some (b2 (inR n x), σ) := by
  unfold inR
  by_cases h0 : x < 0
  · simp [h0]
  · by_cases h1 : nI n ≤ x
    · have := i32_lt_not.mpr h1
      simp [h0, h1, this]
    · have := i32_le_not.mp h1
      simp [h0, h1, this]
theorem c_isText (x : Int32) (σ : vMem) : fX7_isText x σ = some (b2 (inR 2 x), σ) := by
  unfold fX7_isText fX7_isText_9 fX7_isText_14
  by_cases h0 : x = 0
  · subst h0; rfl
  · by_cases h1 : x = 1
    · subst h1; rfl
    · have : inR 2 x = false := by
        by_cases q : inR 2 x = true
        · obtain ⟨k, hk, rfl⟩ := inR_ex (by decide) q
          rcases (show k = 0 ∨ k = 1 by omega) with rfl | rfl
          · exact absurd rfl h0
          · exact absurd rfl h1
        · simpa using q
      rw [this]
      simp [h0, h1]
theorem c_isHour (x : Int32) (σ : vMem) : fX7_isHour x σ = some (b2 (inR 40 x), σ) := by
  unfold fX7_isHour fX7_isHour_14 fX7_isHour_15
  rw [show (40 : Int32) = nI 40 from rfl]
  simpa using inR_c (n := 40) x
theorem c_isSheet (x : Int32) (σ : vMem) : fX7_isSheet x σ = some (b2 (inR 4 x), σ) := by
  unfold fX7_isSheet fX7_isSheet_13 fX7_isSheet_14
  rw [show (4 : Int32) = nI 4 from rfl]
  simpa using inR_c (n := 4) x
theorem c_isForm (x : Int32) (σ : vMem) : fX7_isForm x σ = some (b2 (inR 3 x), σ) := by
  unfold fX7_isForm fX7_isForm_13 fX7_isForm_14
  rw [show (3 : Int32) = nI 3 from rfl]
  simpa using inR_c (n := 3) x
theorem c_isLoad (x : Int32) (σ : vMem) : fX7_isLoad x σ = some (b2 (inR 100 x), σ) := by
  unfold fX7_isLoad fX7_isLoad_14 fX7_isLoad_15
  rw [show (100 : Int32) = nI 100 from rfl]
  simpa using inR_c (n := 100) x
/-- the trip as told -/
noncomputable abbrev PT (A : vA) : vP := PA A (bitAt (wAll A)) (bitAt (sAll A))
theorem RC.nf {A : vA} {σ : vMem} (h : RC A σ) : σ.1 5 0 = nI (nfA A) := (h.2.1.2.2 (fun _ => true) (fun _ => true)).1.1
theorem RC.nb {A : vA} {σ : vMem} (h : RC A σ) : σ.1 5 5 = nI (nbA A) := (h.2.1.2.2 (fun _ => true) (fun _ => true)).1.2.1
theorem nfA_le {A : vA} (hA : WA A) : nfA A ≤ 9 := (WP_PA hA (fun _ => true) (fun _ => true)).1
theorem c_isFloor {A : vA} {σ : vMem} (h : RC A σ) (x : Int32) : fX7_isFloor x σ = some (b2 (inR (nfA A) x), σ) := by
  unfold fX7_isFloor fX7_isFloor_19 fX7_isFloor_20
  rw [h.nf]
  simpa using inR_c (n := nfA A) x
theorem c_isBasket {A : vA} {σ : vMem} (h : RC A σ) (x : Int32) : fX7_isBasket x σ = some (b2 (inR (nbA A) x), σ) := by
  unfold fX7_isBasket fX7_isBasket_19 fX7_isBasket_20
  rw [h.nb]
  simpa using inR_c (n := nbA A) x
theorem m_isFloor {A : vA} (hA : WA A) {σ : vMem} (h : RM A σ) (x : Int32) : ∃ σ', fX8_isFloor x σ = some (b2 (inR (nfA A) x), σ') ∧ RM A σ' ∧ MD A σ' := by
  obtain ⟨σ', a1, a2, a3, a4, a5⟩ := m_reads hA h
  have := nfA_le hA
  refine ⟨σ', ?_, h.fr a2, a3⟩
  unfold fX8_isFloor
  rw [a1]
  simp only [Option.bind]
  rw [a3.1.1, m_inR (by omega)]
  simp only [b2_01, ↓reduceIte]
theorem m_isBasket {A : vA} (hA : WA A) {σ : vMem} (h : RM A σ) (x : Int32) : ∃ σ', fX8_isBasket x σ = some (b2 (inR (nbA A) x), σ') ∧ RM A σ' ∧ MD A σ' := by
  obtain ⟨σ', a1, a2, a3, a4, a5⟩ := m_reads hA h
  have := nbA_le hA
  refine ⟨σ', ?_, h.fr a2, a3⟩
  unfold fX8_isBasket
  rw [a1]
  simp only [Option.bind]
  rw [a3.1.2, m_inR (by omega)]
  simp only [b2_01, ↓reduceIte]
theorem Fr13.c {σ τ : vMem} (h : Fr13 σ τ) {w y : Bool} (h1 : τ.1 13 1 = b2 w) (h2 : τ.1 13 2 = b2 y) : FrC σ τ := ⟨fun a ha => h.1 a (by omega), by rw [h.1 0 (by omega)], w, y, h1, h2⟩
theorem c_goR {A : vA} (hA : WA A) {σ : vMem} (h : RC A σ) (wb sb : Int64) {s : Nat} (hs : s ≤ 40) : ∃ σ', fX6_go wb sb (nI s) σ = some σ' ∧ RC A σ' ∧ CEnd σ (PA A (bitAt wb) (bitAt sb)) s σ' := by
  obtain ⟨w, y, f1, f2⟩ := h.2.2.1
  obtain ⟨σ', a1, a2⟩ := c_go (WP_PA hA (bitAt wb) (bitAt sb)) (h.2.1.2.2 _ _) f1 f2 rfl rfl hs
  refine ⟨σ', a1, ?_, a2⟩
  obtain ⟨w, y, b1, -⟩ := a2
  exact h.fr (b1.1.2.c b1.2.1.1 b1.2.1.2)
/-- the class has gone to the end -/
def CT (σ0 : vMem) (P : vP) (σ : vMem) : Prop := ∃ w y sn, CS σ0 P w y sn (tRun P 40) σ
theorem CEnd.ct {σ0 : vMem} {P : vP} {σ : vMem} (h : CEnd σ0 P 40 σ) : CT σ0 P σ := by
  obtain ⟨w, y, h1, -⟩ := h
  exact ⟨w, y, _, h1⟩
theorem c_told {A : vA} (hA : WA A) {σ : vMem} (h : RC A σ) : ∃ σ', fX7_goAsTold σ = some σ' ∧ RC A σ' ∧ CT σ (PT A) σ' := by
  obtain ⟨σ', a1, a2, a3⟩ := c_goR hA h (wAll A) (sAll A) (Nat.le_refl 40)
  refine ⟨σ', ?_, a2, a3.ct⟩
  unfold fX7_goAsTold
  rw [c_all25 hA h]
  simp only [Option.bind]
  rw [c_all27 hA h]
  simp only
  rw [show (40 : Int32) = nI 40 from rfl, a1]
theorem m_runR {A : vA} (hA : WA A) {w s : Int64} {σ : vMem} (h : MTo A w s σ) : ∃ σ', fX8_runs σ = some σ' ∧ MTo A w s σ' ∧ ME σ (PA A (bitAt w) (bitAt s)) σ' := by
  obtain ⟨σ', a1, a2⟩ := m_runs (WP_PA hA (bitAt w) (bitAt s)) (h.dm hA)
  refine ⟨σ', a1, ?_, a2⟩
  have hf := a2.1.1.1.2
  obtain ⟨h1, ⟨⟨d1, d2⟩, d3, d4⟩, h3, h4, h5⟩ := h
  refine ⟨h1.fr hf.m, ⟨⟨?_, ?_⟩, ?_, ?_⟩, ?_, ?_, ?_⟩
  · rw [hf.2.1 2 (by decide) (by decide)]; exact d1
  · rw [hf.2.1 6 (by decide) (by decide)]; exact d2
  · rw [hf.1 3 (by decide) (by decide), hf.1 4 (by decide) (by decide), hf.1 5 (by decide) (by decide)]; exact d3
  · rw [hf.1 6 (by decide) (by decide), hf.1 7 (by decide) (by decide), hf.1 8 (by decide) (by decide), hf.1 9 (by decide) (by decide)]; exact d4
  · rw [hf.2.2]; exact h3
  · rw [hf.2.2]; exact h4
  · rw [hf.2.1 19 (by decide) (by decide)]; exact h5
theorem m_told {A : vA} (hA : WA A) {σ : vMem} (h : RM A σ) : ∃ σ0 σ', fX8_runsTold σ = some σ' ∧ MTo A (wAll A) (sAll A) σ' ∧ ME σ0 (PT A) σ' := by
  obtain ⟨σ0, a1, a2⟩ := m_asTold hA h
  obtain ⟨σ', b1, b2, b3⟩ := m_runR hA a2
  refine ⟨σ0, σ', ?_, b2, b3⟩
  unfold fX8_runsTold
  rw [a1]
  simp only [Option.bind]
  rw [b1]
