theorem vup_same (σ : vMem) (n k : Nat) {x : Int32} (hx : x = σ.1 n k) : vup σ n k x = σ := by
  have : (vup σ n k x).1 = σ.1 := by
    funext a j
    rw [vup_rd]
    by_cases ea : a = n
    · subst ea
      by_cases ej : j = k
      · subst ej; simp [hx]
      · simp [ej]
    · simp [ea]
  exact Prod.ext this rfl
section MW
variable {σ0 : vMem} {P : vP} {q : Nat} {T : vT} {σ : vMem} {hh : Nat}
theorem m_arrL (hP : WP P) (hh39 : hh ≤ 39) (hI : TI P hh T) (hq : q = 8 * hh) : ∀ (k n b : Nat) (σ : vMem), b + k = pnb P → k < n → MS σ0 P q (snA P hh b) (tArr P hh b T) σ →
    ∃ σ', LfX8_goesBy_2 n (nI hh) (nI b) σ = some σ' ∧ MS σ0 P q (snH P hh) (tHour P hh T) σ' ∧ Rc P hh (tMid P hh T) σ' (pnb P) ∧ Rt P hh (tMid P hh T) σ' (pnb P) := by
  have h8 := hP.2.1
  have hnf := hP.1
  intro k
  induction k with
  | zero =>
    intro n b σ hbk hn h
    have hb : b = pnb P := by omega
    subst hb
    obtain ⟨n, rfl⟩ : ∃ j, n = j + 1 := ⟨n - 1, by omega⟩
    have h1 : MS σ0 P q (snH P hh) (tArr P hh (pnb P) T) σ := h.sent (fun c hc => by
      unfold snA
      by_cases q : pho P c < hh
      · simp [q]; omega
      · by_cases q2 : pho P c = hh
        · simp [q2, hc]
        · simp [q, q2]; omega)
    obtain ⟨σ', a1, a2, a3, a4⟩ := m_serveL hP hh39 hI hq (pnb P) 200 0 σ (by omega) (by omega) h1 (fun c hc => by omega)
    refine ⟨σ', ?_, a2, a3, a4⟩
    show fX8_goesBy_2 _ _ _ _ = _
    unfold fX8_goesBy_2
    rw [h.dm.1.2.1, if_pos (Int32.le_refl _)]
    exact a1
  | succ k ih =>
    intro n b σ hbk hn h
    obtain ⟨n, rfl⟩ : ∃ j, n = j + 1 := ⟨n - 1, by omega⟩
    have hb : b < pnb P := by omega
    have hb8 : b < 8 := by omega
    have hcb : (nI b).toNatClampNeg = b := nI_clamp (by omega)
    have hxb := ixF hb8 (by decide)
    have hxb9 := ixF (show b < 9 by omega) (by decide)
    have hnb : (nI (pnb P) ≤ nI b) = False := eq_false (fun z => by have := (nI_leI (by omega) (by omega)).mp z; omega)
    have e6 := (h.dm.2.2.2 b hb).1
    have e02 := h.dm.1.1
    have hob := (hP.2.2.2.1 b hb).1
    have heq : (nI (pho P b) = nI hh) = (pho P b = hh) := propext (nI_eq (by omega) (by omega))
    have fin : ∀ τ, MS σ0 P q (snA P hh (b + 1)) (tArr P hh (b + 1) T) τ → ∃ σ', fX8_goesBy_69 (LfX8_goesBy_2 n) (nI hh) (nI b) τ = some σ' ∧ MS σ0 P q (snH P hh) (tHour P hh T) σ' ∧ Rc P hh (tMid P hh T) σ' (pnb P) ∧ Rt P hh (tMid P hh T) σ' (pnb P) := by
      intro τ hτ
      obtain ⟨σ2, d1, d2⟩ := ih n (b + 1) τ (by omega) (by omega) hτ
      refine ⟨σ2, ?_, d2⟩
      unfold fX8_goesBy_69
      rw [nI_1]
      exact d1
    show ∃ σ', fX8_goesBy_2 (LfX8_goesBy_2 n) (nI hh) (nI b) σ = some σ' ∧ _
    unfold fX8_goesBy_2 fX8_goesBy_35
    rw [h.dm.1.2.1]
    simp only [hcb, hxb, hxb9, ↓reduceIte, hnb, e6, heq]
    by_cases z : pho P b = hh
    · rw [if_pos z]
      have hpl : tpl (tArr P hh b T) b = 0 := by
        rw [(tArr_fix P hh T b).2.1]
        exact hI.2.1 b hb (by omega)
      have h1 := h.ar hpl
      have hsn1 : ∀ c, snA P hh (b + 1) c = va_up (snA P hh b) b true c := fun c => by
        unfold snA va_up
        by_cases e : c = b
        · subst e; simp [z]
        · simp only [e, ↓reduceIte, show (c < b + 1) = (c < b) from propext ⟨fun _ => by omega, fun _ => by omega⟩]
      unfold fX8_goesBy_36 fX8_goesBy_62 fX8_goesBy_68
      have e6' : (vup σ 12 b 0).1 6 b = nI (pho P b) := (h1.dm.2.2.2 b hb).1
      have e02' : (vup σ 12 b 0).1 0 2 = nI (pnf P) := h1.dm.1.1
      simp only [hcb, hxb, hxb9, ↓reduceIte, e6', e02', heq, z, nI_eq0 (show pnf P < 2 ^ 31 by omega)]
      by_cases q2 : pnf P = 0
      · rw [if_pos q2]
        refine fin _ ?_
        have h2 := (h1.up (b := b) (x := nI hh)).nu (tnu (tArr P hh b T) - 1)
        rw [tArr, tArr1, if_pos ⟨z, q2⟩]
        exact h2.sent (fun c _ => hsn1 c)
      · rw [if_neg q2, vup_same _ 18 b rfl]
        refine fin _ ?_
        rw [tArr, tArr1, if_neg (by omega)]
        exact h1.sent (fun c _ => hsn1 c)
    · rw [if_neg z, vup_same _ 12 b rfl]
      unfold fX8_goesBy_36 fX8_goesBy_62 fX8_goesBy_68
      simp only [hcb, hxb, hxb9, ↓reduceIte, e6, heq, z]
      rw [vup_same _ 18 b rfl]
      refine fin _ ?_
      rw [tArr, tArr1, if_neg (by omega)]
      refine h.sent (fun c _ => ?_)
      unfold snA
      by_cases e : c = b
      · subst e; simp [z]
      · simp only [show (c < b + 1) = (c < b) from propext ⟨fun _ => by omega, fun _ => by omega⟩]
theorem m_goesBy (hP : WP P) (hh39 : hh ≤ 39) (hI : TI P hh T) (h : MS σ0 P (8 * hh) (fun c => decide (pho P c < hh)) T σ) :
    ∃ σ', fX8_goesBy (nI hh) σ = some σ' ∧ MS σ0 P (8 * hh) (snH P hh) (tHour P hh T) σ' ∧ Rc P hh (tMid P hh T) σ' (pnb P) ∧ Rt P hh (tMid P hh T) σ' (pnb P) := by
  have := hP.2.1
  exact m_arrL hP hh39 hI rfl (pnb P) 200 0 σ (by omega) (by omega) (h.sent (fun c _ => by simp [snA]))
theorem MS.base {σ1 : vMem} {sn : Nat → Bool} (h : MS σ1 P q sn T σ) (hD : DM P σ0) (hf : Fr12 σ0 σ1) : MS σ0 P 0 sn T σ :=
  ⟨⟨⟨hD, hf.tr h.1.1.2⟩, fun _ _ _ _ hj => absurd hj (Nat.not_lt_zero _)⟩, h.2⟩
theorem MS.self {sn : Nat → Bool} (h : MS σ0 P q sn T σ) (q' : Nat) : MS σ P q' sn T σ := ⟨⟨⟨h.dm, Fr12.rf _⟩, fun _ _ _ _ _ => rfl⟩, h.2⟩
/-- all that is written down of the hours ahead of h -/
def Rall (P : vP) (n : Nat) (σ : vMem) : Prop := ∀ h, h < n → Rc P h (tMid P h (tRun P h)) σ (pnb P) ∧ Rt P h (tMid P h (tRun P h)) σ (pnb P)
theorem m_runL (hP : WP P) : ∀ (k n hh : Nat) (σ : vMem), hh + k = 40 → k < n → MS σ0 P 0 (fun c => decide (pho P c < hh)) (tRun P hh) σ → Rall P hh σ → ∃ σ', LfX8_runs_156 n (nI hh) σ = some σ' ∧ MS σ0 P 0 (fun c => decide (pho P c < 40)) (tRun P 40) σ' ∧ Rall P 40 σ' := by
  intro k
  induction k with
  | zero =>
    intro n hh σ hk hn h hr
    obtain ⟨n, rfl⟩ : ∃ j, n = j + 1 := ⟨n - 1, by omega⟩
    have : hh = 40 := by omega
    subst this
    exact ⟨σ, rfl, h, hr⟩
  | succ k ih =>
    intro n hh σ hk hn h hr
    obtain ⟨n, rfl⟩ : ∃ j, n = j + 1 := ⟨n - 1, by omega⟩
    have h8 := hP.2.1
    obtain ⟨σ1, a1, a2, a3, a4⟩ := m_goesBy hP (by omega) (tRun_TI P hP hh (by omega)) (h.self (8 * hh))
    have h40 : ((40 : Int32) ≤ nI hh) = False := eq_false (fun z => by have := (nI_leI (a := 40) (by decide) (by omega)).mp z; omega)
    have keep : ∀ a j, 22 ≤ a → a ≤ 25 → j < 8 * hh → σ1.1 a j = σ.1 a j := a2.1.2
    obtain ⟨σ', b1, b2, b3⟩ := ih n (hh + 1) σ1 (by omega) (by omega) ((a2.base h.1.1.1 h.1.1.2).sent (fun c _ => by simp; omega)) (fun h' hlt => by
      rcases Nat.lt_or_ge h' hh with z | z
      · obtain ⟨r1, r2⟩ := hr h' z
        refine ⟨fun c hc => ?_, fun c hc => ?_⟩
        · rw [keep 22 _ (by decide) (by decide) (by omega), keep 23 _ (by decide) (by decide) (by omega), keep 24 _ (by decide) (by decide) (by omega)]
          exact r1 c hc
        · rw [keep 25 _ (by decide) (by decide) (by omega)]
          exact r2 c hc
      · have : h' = hh := by omega
        subst this
        exact ⟨a3, a4⟩)
    refine ⟨σ', ?_, b2, b3⟩
    show fX8_runs_156 _ _ _ = _
    unfold fX8_runs_156
    simp only [h40, ↓reduceIte, a1, Option.bind, nI_1]
    exact b1
/-- baskets below b stand at their beginning -/
def N1 (σ0 : vMem) (P : vP) (b : Nat) (σ : vMem) : Prop := Fr12 σ0 σ ∧ ∀ c, c < b → σ.1 12 c = -1 ∧ σ.1 13 c = nI (plo P c) ∧ σ.1 14 c = nI (ple P c) ∧ σ.1 16 c = 0 ∧ σ.1 17 c = 0 ∧ σ.1 18 c = -1 ∧ ∀ i, i < ple P c → σ.1 15 (24 * c + i) = pte P c i
def N2 (σ0 : vMem) (P : vP) (f : Nat) (σ : vMem) : Prop := N1 σ0 P (pnb P) σ ∧ ∀ c, c < f → σ.1 19 c = -1 ∧ σ.1 20 c = 0 ∧ σ.1 21 c = 0
/-- the reference's trip -/
def ME (σ0 : vMem) (P : vP) (σ : vMem) : Prop := MS σ0 P 0 (fun c => decide (pho P c < 40)) (tRun P 40) σ ∧ Rall P 40 σ
theorem m_beg2 (hP : WP P) (hD : DM P σ0) : ∀ (k n f : Nat) (σ : vMem), f + k = pnf P → k < n → N2 σ0 P f σ → ∃ σ', LfX8_runs_109 n (nI f) σ = some σ' ∧ ME σ0 P σ' := by
  intro k
  induction k with
  | zero =>
    intro n f σ hfk hn hN
    obtain ⟨n, rfl⟩ : ∃ j, n = j + 1 := ⟨n - 1, by omega⟩
    obtain ⟨⟨fr, hb⟩, hf⟩ := hN
    have hfe : f = pnf P := by omega
    subst hfe
    have e02 := (fr.dm hD).1.1
    have hM : MS σ0 P 0 (fun c => decide (pho P c < 0)) (tRun P 0) (vup (vup σ 0 30 (-1)) 0 31 (-1)) := by
      refine ⟨⟨⟨hD, (fr.up0 (by decide)).up0 (by decide)⟩, fun a j _ _ hj => absurd hj (Nat.not_lt_zero _)⟩, fun c hc => ?_, fun c hc => ?_, fun c hc => ?_, fun c hc i hi => ?_, fun c hc => ?_, fun c hc => ?_, fun c hc => ?_, fun c hc => ?_, fun c hc => ?_, fun c hc => ?_, ?_, ?_⟩
      all_goals simp only [vup_rd, Nat.reduceEqDiff, ↓reduceIte]
      · rw [(hb c hc).1]
        simp
      · exact (hb c hc).2.1
      · exact (hb c hc).2.2.1
      · exact (hb c hc).2.2.2.2.2.2 i hi
      · exact (hb c hc).2.2.2.1
      · exact (hb c hc).2.2.2.2.1
      · exact (hb c hc).2.2.2.2.2.1
      · exact (hf c hc).1
      · exact (hf c hc).2.1
      · exact (hf c hc).2.2
      · rfl
      · rfl
    obtain ⟨σ', a1, a2, a3⟩ := m_runL hP 40 200 0 _ (by omega) (by omega) hM (fun h hlt => absurd hlt (Nat.not_lt_zero _))
    refine ⟨σ', ?_, a2, a3⟩
    show fX8_runs_109 _ _ _ = _
    unfold fX8_runs_109
    rw [e02, if_pos (Int32.le_refl _)]
    exact a1
  | succ k ih =>
    intro n f σ hfk hn hN
    obtain ⟨n, rfl⟩ : ∃ j, n = j + 1 := ⟨n - 1, by omega⟩
    obtain ⟨⟨fr, hb⟩, hf⟩ := hN
    have h9 := hP.1
    have hf9 : f < 9 := by omega
    have e02 := (fr.dm hD).1.1
    have hcf : (nI f).toNatClampNeg = f := nI_clamp (by omega)
    have hxf := ixF hf9 (by decide)
    have hnf : (nI (pnf P) ≤ nI f) = False := eq_false (fun z => by have := (nI_leI (by omega) (by omega)).mp z; omega)
    have hN' : N2 σ0 P (f + 1) (vup (vup (vup σ 19 f (-1)) 20 f 0) 21 f 0) := by
      refine ⟨⟨((fr.up (by decide) (by decide)).up (by decide) (by decide)).up (by decide) (by decide), fun c hc => ?_⟩, fun c hc => ?_⟩
      all_goals simp only [vup_rd, Nat.reduceEqDiff, ↓reduceIte]
      · exact hb c hc
      · by_cases e : c = f
        · subst e; simp
        · simp only [e, ↓reduceIte]
          exact hf c (by omega)
    obtain ⟨σ', a1, a2⟩ := ih n (f + 1) _ (by omega) (by omega) hN'
    refine ⟨σ', ?_, a2⟩
    show fX8_runs_109 _ _ _ = _
    simp only [fX8_runs_109, fX8_runs_124, fX8_runs_131, fX8_runs_138, e02, hcf, hxf, hnf, ↓reduceIte]
    rw [nI_1]
    exact a1
theorem m_lets (hP : WP P) (hD : DM P σ0) {b : Nat} (hb : b < pnb P) (K2 : Int32 → vMem → Option vMem) (R : vMem → Prop) (hK : ∀ τ, N1 σ0 P (b + 1) τ → ∃ σ', K2 (nI (b + 1)) τ = some σ' ∧ R σ') : ∀ (k n i : Nat) (σ : vMem), i + k = ple P b → k < n → N1 σ0 P b σ → (σ.1 12 b = -1 ∧ σ.1 13 b = nI (plo P b) ∧ σ.1 14 b = nI (ple P b) ∧ σ.1 16 b = 0 ∧ σ.1 17 b = 0 ∧ σ.1 18 b = -1) → (∀ j, j < i → σ.1 15 (24 * b + j) = pte P b j) → ∃ σ', LfX8_runs_64 K2 n (nI b) (nI i) σ = some σ' ∧ R σ' := by
  have hb8 : b < 8 := Nat.lt_of_lt_of_le hb hP.2.1
  have hcb : (nI b).toNatClampNeg = b := nI_clamp (by omega)
  have hxb9 := ixF (show b < 9 by omega) (by decide)
  have hle := hP.2.2.2.1 b hb
  intro k
  induction k with
  | zero =>
    intro n i σ hik hn hN h1 h2
    obtain ⟨n, rfl⟩ : ∃ j, n = j + 1 := ⟨n - 1, by omega⟩
    have e8 := ((hN.1.dm hD).2.2.2 b hb).2.2.1
    have hi : i = ple P b := by omega
    subst hi
    obtain ⟨σ', a1, a2⟩ := hK σ ⟨hN.1, fun c hc => by
      by_cases e : c = b
      · subst e
        exact ⟨h1.1, h1.2.1, h1.2.2.1, h1.2.2.2.1, h1.2.2.2.2.1, h1.2.2.2.2.2, h2⟩
      · exact hN.2 c (by omega)⟩
    refine ⟨σ', ?_, a2⟩
    show fX8_runs_64 _ _ _ _ _ = _
    unfold fX8_runs_64
    simp only [hcb, hxb9, ↓reduceIte, e8]
    rw [if_pos (Int32.le_refl _), nI_1]
    exact a1
  | succ k ih =>
    intro n i σ hik hn hN h1 h2
    obtain ⟨n, rfl⟩ : ∃ j, n = j + 1 := ⟨n - 1, by omega⟩
    have e8 := ((hN.1.dm hD).2.2.2 b hb).2.2.1
    have e9 := ((hN.1.dm hD).2.2.2 b hb).2.2.2 i (by omega)
    have hlt : (nI (ple P b) ≤ nI i) = False := eq_false (fun z => by have := (nI_leI (by omega) (by omega)).mp z; omega)
    have i3 : (3 : Int32) * nI b + nI i = nI (3 * b + i) := by rw [show (3 : Int32) = nI 3 from rfl, pk_mul, nI_add]
    have i24 : (24 : Int32) * nI b + nI i = nI (24 * b + i) := by rw [show (24 : Int32) = nI 24 from rfl, pk_mul, nI_add]
    have c3 : (nI (3 * b + i)).toNatClampNeg = 3 * b + i := nI_clamp (by omega)
    have c24 : (nI (24 * b + i)).toNatClampNeg = 24 * b + i := nI_clamp (by omega)
    have x3 := ixF (k := 3 * b + i) (N := 27) (by omega) (by decide)
    have x24 := ixF (k := 24 * b + i) (N := 192) (by omega) (by decide)
    obtain ⟨σ', a1, a2⟩ := ih n (i + 1) (vup σ 15 (24 * b + i) (pte P b i)) (by omega) (by omega) ⟨hN.1.up (by decide) (by decide), fun c hc => by
      simp only [vup_rd, Nat.reduceEqDiff, ↓reduceIte]
      obtain ⟨n1, n2, n3, n4, n5, n6, n7⟩ := hN.2 c hc
      refine ⟨n1, n2, n3, n4, n5, n6, fun j hj => ?_⟩
      rw [if_neg ?_]
      · exact n7 j hj
      · have := (hP.2.2.2.1 c (by omega)).2.2.2
        omega⟩ (by simpa only [vup_rd, Nat.reduceEqDiff, ↓reduceIte] using h1) (fun j hj => by
      rw [vup_rd, if_pos rfl]
      by_cases e : j = i
      · subst e; simp
      · rw [if_neg (by omega)]
        exact h2 j (by omega))
    refine ⟨σ', ?_, a2⟩
    show fX8_runs_64 _ _ _ _ _ = _
    unfold fX8_runs_64 fX8_runs_95
    simp only [hcb, hxb9, ↓reduceIte, e8, hlt, i3, i24, c3, c24, x3, x24, e9, nI_1]
    exact a1
theorem m_beg1 (hP : WP P) (hD : DM P σ0) : ∀ (k n b : Nat) (σ : vMem), b + k = pnb P → k < n → N1 σ0 P b σ → ∃ σ', LfX8_runs_2 n (nI b) σ = some σ' ∧ ME σ0 P σ' := by
  have h8 := hP.2.1
  have h9 := hP.1
  intro k
  induction k with
  | zero =>
    intro n b σ hbk hn hN
    obtain ⟨n, rfl⟩ : ∃ j, n = j + 1 := ⟨n - 1, by omega⟩
    have hbe : b = pnb P := by omega
    subst hbe
    have e06 := (hN.1.dm hD).1.2.1
    obtain ⟨σ', a1, a2⟩ := m_beg2 hP hD (pnf P) 200 0 σ (by omega) (by omega) ⟨hN, fun c hc => absurd hc (Nat.not_lt_zero _)⟩
    refine ⟨σ', ?_, a2⟩
    show fX8_runs_2 _ _ _ = _
    unfold fX8_runs_2
    rw [e06, if_pos (Int32.le_refl _)]
    exact a1
  | succ k ih =>
    intro n b σ hbk hn hN
    obtain ⟨n, rfl⟩ : ∃ j, n = j + 1 := ⟨n - 1, by omega⟩
    have hb : b < pnb P := by omega
    have hb8 : b < 8 := by omega
    have hcb : (nI b).toNatClampNeg = b := nI_clamp (by omega)
    have hxb := ixF hb8 (by decide)
    have hxb9 := ixF (show b < 9 by omega) (by decide)
    have hnb : (nI (pnb P) ≤ nI b) = False := eq_false (fun z => by have := (nI_leI (by omega) (by omega)).mp z; omega)
    have e06 := (hN.1.dm hD).1.2.1
    obtain ⟨-, e7, e8, -⟩ := (hN.1.dm hD).2.2.2 b hb
    have hle := hP.2.2.2.1 b hb
    have fr6 : Fr12 σ0 (vup (vup (vup (vup (vup (vup σ 12 b (-1)) 13 b (nI (plo P b))) 14 b (nI (ple P b))) 16 b 0) 17 b 0) 18 b (-1)) := (((((hN.1.up (by decide) (by decide)).up (by decide) (by decide)).up (by decide) (by decide)).up (by decide) (by decide)).up (by decide) (by decide)).up (by decide) (by decide)
    obtain ⟨σ', a1, a2⟩ := m_lets hP hD hb (LfX8_runs_2 n) (ME σ0 P) (fun τ hτ => ih n (b + 1) τ (by omega) (by omega) hτ) (ple P b) 200 0 (vup (vup (vup (vup (vup (vup σ 12 b (-1)) 13 b (nI (plo P b))) 14 b (nI (ple P b))) 16 b 0) 17 b 0) 18 b (-1)) (by omega) (by omega) ⟨fr6, fun c hc => by
      simp only [vup_rd, Nat.reduceEqDiff, ↓reduceIte, show ¬ c = b by omega]
      exact hN.2 c hc⟩ (by simp [vup_rd]) (fun j hj => absurd hj (Nat.not_lt_zero _))
    refine ⟨σ', ?_, a2⟩
    show fX8_runs_2 _ _ _ = _
    simp only [fX8_runs_2, fX8_runs_17, fX8_runs_29, fX8_runs_41, fX8_runs_48, fX8_runs_55, fX8_runs_62, e06, hcb, hxb, hxb9, hnb, ↓reduceIte, vup_rd, Nat.reduceEqDiff, e7, e8]
    exact a1
theorem m_runs (hP : WP P) (hD : DM P σ0) : ∃ σ', fX8_runs σ0 = some σ' ∧ ME σ0 P σ' := by
  have := hP.2.1
  exact m_beg1 hP hD (pnb P) 200 0 σ0 (by omega) (by omega) ⟨Fr12.rf _, fun c hc => absurd hc (Nat.not_lt_zero _)⟩
end MW
