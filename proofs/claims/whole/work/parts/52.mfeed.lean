/-! feed: the reference -/
def MTq (A : vA) (w s : Int64) (σ : vMem) : Prop := RM A σ ∧ MD A σ ∧ σ.2 0 17 = w ∧ σ.2 0 18 = s
theorem MTo.q {A : vA} {w s : Int64} {σ : vMem} (h : MTo A w s σ) : MTq A w s σ := ⟨h.1, h.2.1, h.2.2.1, h.2.2.2.1⟩
theorem MD.fr {A : vA} {σ τ : vMem} (h : MD A σ) (e : ∀ a, 3 ≤ a → a ≤ 9 → τ.1 a = σ.1 a) (e0 : ∀ k, k = 2 ∨ k = 6 → τ.1 0 k = σ.1 0 k) : MD A τ := by
  unfold MD at h ⊢
  rw [e 3 (by omega) (by omega), e 4 (by omega) (by omega), e 5 (by omega) (by omega), e 6 (by omega) (by omega), e 7 (by omega) (by omega), e 8 (by omega) (by omega), e 9 (by omega) (by omega), e0 2 (by omega), e0 6 (by omega)]
  exact h
theorem MTq.fed {A : vA} {w s : Int64} {σ : vMem} (h : MTq A w s σ) (x : Int32) : MTq A w s (vup σ 0 19 x) := ⟨h.1.fr ⟨fun a ha => vup_ne _ _ (by omega), fun k hk => by rw [vup_rd, if_pos rfl, if_neg (by omega)]⟩, h.2.1.fr (fun a h1 h2 => vup_ne _ _ (by omega)) (fun k hk => by rw [vup_rd, if_pos rfl, if_neg (by omega)]), h.2.2.1, h.2.2.2⟩
theorem MTq.row {A : vA} {w s : Int64} {σ : vMem} (h : MTq A w s σ) (j : Nat) (x : Int32) : MTq A w s (vup σ 26 j x) := ⟨h.1.fr ⟨fun a ha => vup_ne _ _ (by omega), fun k hk => by rw [vup_ne _ _ (by omega)]⟩, h.2.1.fr (fun a h1 h2 => vup_ne _ _ (by omega)) (fun k hk => by rw [vup_ne _ _ (by omega)]), h.2.2.1, h.2.2.2⟩
theorem MTq.dm {A : vA} (hA : WA A) {w s : Int64} {σ : vMem} (h : MTq A w s σ) {F : Nat → Bool} (hF : ∀ f, f < nfA A → bitAt (σ.1 0 19).toInt64 f = F f) : DM (pFd (PA A (bitAt w) (bitAt s)) F) σ := by
  obtain ⟨h1, ⟨⟨d1, d2⟩, d3, d4⟩, h3, h4⟩ := h
  refine ⟨⟨d1, d2, h1.2.1.1, h1.2.1.2⟩, ⟨by rw [h3]; rfl, by rw [h4]; rfl⟩, ⟨fun f => (t0 A (4 * f + 1) - 48).toNatClampNeg, fun f hf => ?_⟩, d4⟩
  obtain ⟨e3, e4, e5⟩ := d3 f hf
  refine ⟨e3, tb9 hA hf, e4, ?_, e5⟩
  rw [hF f hf]
  rfl
theorem m_isKept {A : vA} (hA : WA A) {σ : vMem} (h : MTq A (wAll A) (sAll A) σ) {b : Nat} (hb : b < nbA A) {x : Int32} {F : Nat → Bool} (hF : ∀ f, f < nfA A → bitAt x.toInt64 f = F f) : ∃ σ', fX8_isKept (nI b) x σ = some (b2 (kept_ A b F), σ') ∧ MTq A (wAll A) (sAll A) σ' ∧ σ'.1 26 = σ.1 26 := by
  have h8 := nbA_le hA
  have hP : WP (pFd (PT A) F) := (WP_PT hA).fd
  have h1 := h.fed x
  obtain ⟨σ1, a1, a2⟩ := m_runs hP (h1.dm hA (F := F) (fun f hf => by rw [vup_rd]; simp only [↓reduceIte]; exact hF f hf))
  have hf := a2.1.1.1.2
  have hM : MTq A (wAll A) (sAll A) σ1 := ⟨h1.1.fr hf.m, h1.2.1.fr (fun a x1 x2 => hf.1 a (by omega) (by omega)) (fun k hk => hf.2.1 k (by omega) (by omega)), by rw [hf.2.2]; exact h1.2.2.1, by rw [hf.2.2]; exact h1.2.2.2⟩
  refine ⟨σ1, ?_, hM, by rw [hf.1 26 (by decide) (by decide), vup_ne _ _ (by decide)]⟩
  have e14 : σ1.1 14 b = nI (tnl (tRun (pFd (PT A) F) 40) b) := a2.1.2.2.2.1 b hb
  have e15 : ∀ i, i < tnl (tRun (pFd (PT A) F) 40) b → σ1.1 15 (24 * b + i) = tnt (tRun (pFd (PT A) F) 40) b i := a2.1.2.2.2.2.1 b hb
  have e18 : σ1.1 18 b = tup (tRun (pFd (PT A) F) 40) b := a2.1.2.2.2.2.2.2.2.1 b hb
  obtain ⟨-, -, e8, e9⟩ := hM.2.1.2.2 b hb
  have e8 : σ1.1 8 b = nI (ple (PT A) b) := e8
  have e9 : ∀ i, i < ple (PT A) b → σ1.1 9 (3 * b + i) = pte (PT A) b i := e9
  obtain ⟨s1, s3⟩ := ((WP_PT hA).2.2.2.1 b hb).2.2
  have h21 := (T21 hP hb).1
  let T := tRun (pFd (PT A) F) 40
  have key : ∀ (c0 : Bool) (hc : c0 = true → tnl T b = ple (PT A) b) (k n i : Nat), i + k = ple (PT A) b → k < n → LfX8_isKept_43 n (nI b) (b2 (c0 && allB (fun i => decide (tnt T b i = pte (PT A) b i)) i)) (nI i) σ1 = some (b2 (c0 && allB (fun i => decide (tnt T b i = pte (PT A) b i)) (ple (PT A) b)), σ1) := by
    intro c0 hc k
    induction k with
    | zero =>
      intro n i hik hn
      obtain ⟨n, rfl⟩ : ∃ j, n = j + 1 := ⟨n - 1, by omega⟩
      have : i = ple (PT A) b := by omega
      subst this
      show fX8_isKept_43 _ _ _ _ _ = _
      unfold fX8_isKept_43
      simp only [nI_clamp (show b < 2 ^ 31 by omega), ixF (show b < 9 by omega) (by decide), ↓reduceIte, e8, b2_01]
      rw [if_pos (Int32.le_refl _)]
    | succ k ih =>
      intro n i hik hn
      obtain ⟨n, rfl⟩ : ∃ j, n = j + 1 := ⟨n - 1, by omega⟩
      have hlt : (nI (ple (PT A) b) ≤ nI i) = False := eq_false (fun z => by have := (nI_leI (by omega) (by omega)).mp z; omega)
      have nx := ih n (i + 1) (by omega) (by omega)
      rw [allB] at nx
      show fX8_isKept_43 _ _ _ _ _ = _
      unfold fX8_isKept_43 fX8_isKept_88 fX8_isKept_89
      simp only [nI_clamp (show b < 2 ^ 31 by omega), ixF (show b < 9 by omega) (by decide), ↓reduceIte, e8, hlt, b2_0, nI_1]
      by_cases q : (c0 && allB (fun i => decide (tnt T b i = pte (PT A) b i)) i) = false
      · rw [if_pos q]
        rw [← Bool.and_assoc, q, Bool.false_and] at nx
        exact nx
      · rw [if_neg q]
        have q : (c0 && allB (fun i => decide (tnt T b i = pte (PT A) b i)) i) = true := by simpa using q
        have hl := hc ((Bool.and_eq_true _ _).mp q).1
        have e5 : 24 * nI b + nI i = nI (24 * b + i) := by rw [show (24 : Int32) = nI 24 from rfl, pk_mul, nI_add]
        have e6 : 3 * nI b + nI i = nI (3 * b + i) := by rw [show (3 : Int32) = nI 3 from rfl, pk_mul, nI_add]
        simp only [e5, e6, nI_clamp (show 24 * b + i < 2 ^ 31 by omega), ixF (show 24 * b + i < 192 by omega) (by decide), nI_clamp (show 3 * b + i < 2 ^ 31 by omega), ixF (show 3 * b + i < 27 by omega) (by decide), ↓reduceIte]
        rw [e15 i (by show i < tnl T b; omega), e9 i (by omega)]
        rw [← Bool.and_assoc, q, Bool.true_and] at nx
        by_cases z : tnt T b i = pte (PT A) b i
        · rw [if_pos z]
          rw [decide_eq_true z] at nx
          exact nx
        · rw [if_neg z]
          rw [decide_eq_false z] at nx
          exact nx
  unfold fX8_isKept fX8_isKept_5 fX8_isKept_38 fX8_isKept_39 kept_ stB
  rw [a1]
  simp only [Option.bind, nI_clamp (show b < 2 ^ 31 by omega), ixF (show b < 9 by omega) (by decide), ixF (show b < 8 by omega) (by decide), ↓reduceIte, e18, e14, e8]
  have kF := key false (fun z => absurd z (by decide)) (ple (PT A) b) 200 0 (by omega) (by omega)
  by_cases q : tup T b = -1
  · rw [if_pos q, decide_eq_false (fun z => z q)]
    exact kF
  · rw [if_neg q, decide_eq_true q, Bool.true_and]
    by_cases r : tnl T b = ple (PT A) b
    · have := key true (fun _ => r) (ple (PT A) b) 200 0 (by omega) (by omega)
      rw [if_pos (by rw [r]), decide_eq_true r]
      exact this
    · rw [if_neg (fun w => r ((nI_eq (a := tnl T b) (by show tnl (tRun (pFd (PT A) F) 40) b < 2 ^ 31; omega) (by omega)).mp w)), decide_eq_false r]
      exact kF
theorem bitAt_2 : ∀ i j k : Fin 9, bitAt (((1 : Int32) <<< (nI i.val &&& 31)) ||| ((1 : Int32) <<< (nI j.val &&& 31))).toInt64 k.val = (decide (k.val = i.val) || decide (k.val = j.val)) := by decide +kernel
def FdM (r : vFd) (σ : vMem) : Prop := (r.1 = 1 ∨ r.1 = 2 → σ.1 26 0 = r.2.1) ∧ (r.1 = 2 → σ.1 26 1 = r.2.2)
theorem m_fed65 {A : vA} (hA : WA A) {b f : Nat} (hb : b < nbA A) (hf : f < nfA A) {R : vFd} (K : Int32 → Int32 → vMem → Option (Int32 × vMem)) (k1 : ∀ τ, MTq A (wAll A) (sAll A) τ → ∃ σ', K (nI b) (nI (f + 1)) τ = some (R.1, σ') ∧ MTq A (wAll A) (sAll A) σ' ∧ FdM R σ') : ∀ (d n g : Nat) (τ : vMem), f < g → g + d = nfA A → d < n → MTq A (wAll A) (sAll A) τ → ∃ σ', LfX8_feedBy_65 K n (nI b) (nI f) (nI g) τ = some ((match fs1 (fun j => kept_ A b (F2_ f j)) d g with | some g => ((2, nI f, nI g) : vFd) | none => R).1, σ') ∧ MTq A (wAll A) (sAll A) σ' ∧ FdM (match fs1 (fun j => kept_ A b (F2_ f j)) d g with | some g => (2, nI f, nI g) | none => R) σ' := by
  have h9 := nfA_le hA
  intro d
  induction d with
  | zero =>
    intro n g τ hfg hg hn hM
    obtain ⟨n, rfl⟩ : ∃ j, n = j + 1 := ⟨n - 1, by omega⟩
    have : g = nfA A := by omega
    subst this
    obtain ⟨σ', a1, a2⟩ := k1 τ hM
    refine ⟨σ', ?_, a2⟩
    show fX8_feedBy_65 _ _ _ _ _ _ = _
    unfold fX8_feedBy_65
    rw [hM.2.1.1.1, if_pos (Int32.le_refl _), nI_1]
    exact a1
  | succ d ih =>
    intro n g τ hfg hg hn hM
    obtain ⟨n, rfl⟩ : ∃ j, n = j + 1 := ⟨n - 1, by omega⟩
    have hlt : (nI (nfA A) ≤ nI g) = False := eq_false (fun z => by have := (nI_leI (by omega) (by omega)).mp z; omega)
    obtain ⟨τ1, a1, a2, a3⟩ := m_isKept hA ((hM.row 0 (nI f)).row 1 (nI g)) hb (x := ((1 : Int32) <<< (nI f &&& 31)) ||| ((1 : Int32) <<< (nI g &&& 31))) (F := F2_ f g) (fun k hk => bitAt_2 ⟨f, by omega⟩ ⟨g, by omega⟩ ⟨k, by omega⟩)
    show ∃ σ', fX8_feedBy_65 _ _ _ _ _ _ = _ ∧ _
    unfold fX8_feedBy_65 fX8_feedBy_80 fX8_feedBy_87
    simp only [hM.2.1.1.1, hlt, ↓reduceIte]
    rw [if_neg (by decide), if_neg (by decide)]
    have a1 : fX8_isKept (nI b) (((1 : Int32) <<< (nI f &&& 31)) ||| ((1 : Int32) <<< (nI g &&& 31))) (vup (vup τ 26 (0 : Int32).toNatClampNeg (nI f)) 26 (1 : Int32).toNatClampNeg (nI g)) = some (b2 (kept_ A b (F2_ f g)), τ1) := a1
    rw [a1]
    simp only [Option.bind, b2_0, nI_1]
    rw [fs1]
    by_cases q : kept_ A b (F2_ f g) = true
    · rw [if_neg (by rw [q]; decide), if_pos q]
      refine ⟨τ1, rfl, a2, fun _ => ?_, fun _ => ?_⟩
      · rw [a3]; simp [vup_rd]
      · rw [a3]; simp [vup_rd]
    · rw [if_pos (by simpa using q), if_neg q]
      exact ih n (g + 1) τ1 (by omega) (by omega) (by omega) a2
theorem m_fed53 {A : vA} (hA : WA A) {b : Nat} (hb : b < nbA A) : ∀ (d n f : Nat) (τ : vMem), f + d = nfA A → d < n → MTq A (wAll A) (sAll A) τ → ∃ σ', LfX8_feedBy_53 n (nI b) (nI f) τ = some ((r2_ (fun i j => kept_ A b (F2_ i j)) (nfA A) d f).1, σ') ∧ MTq A (wAll A) (sAll A) σ' ∧ FdM (r2_ (fun i j => kept_ A b (F2_ i j)) (nfA A) d f) σ' := by
  have h9 := nfA_le hA
  intro d
  induction d with
  | zero =>
    intro n f τ hg hn hM
    obtain ⟨n, rfl⟩ : ∃ j, n = j + 1 := ⟨n - 1, by omega⟩
    have : f = nfA A := by omega
    subst this
    refine ⟨τ, ?_, hM, fun z => ?_, fun z => absurd (show (-1 : Int32) = 2 from z) (by decide)⟩
    · show fX8_feedBy_53 _ _ _ _ = _
      unfold fX8_feedBy_53
      rw [hM.2.1.1.1, if_pos (Int32.le_refl _)]
      rfl
    · rcases z with z | z
      · exact absurd (show (-1 : Int32) = 1 from z) (by decide)
      · exact absurd (show (-1 : Int32) = 2 from z) (by decide)
  | succ d ih =>
    intro n f τ hg hn hM
    obtain ⟨n, rfl⟩ : ∃ j, n = j + 1 := ⟨n - 1, by omega⟩
    have hlt : (nI (nfA A) ≤ nI f) = False := eq_false (fun z => by have := (nI_leI (by omega) (by omega)).mp z; omega)
    obtain ⟨σ', a1, a2⟩ := m_fed65 hA hb (show f < nfA A by omega) (R := r2_ (fun i j => kept_ A b (F2_ i j)) (nfA A) d (f + 1)) (LfX8_feedBy_53 n) (fun τ h1 => ih n (f + 1) τ (by omega) (by omega) h1) (nfA A - (f + 1)) 200 (f + 1) τ (by omega) (by omega) (by omega) hM
    refine ⟨σ', ?_, a2⟩
    show fX8_feedBy_53 _ _ _ _ = _
    unfold fX8_feedBy_53
    simp only [hM.2.1.1.1, hlt, ↓reduceIte, nI_1]
    exact a1
theorem m_feedBy {A : vA} (hA : WA A) {σ : vMem} (h : RM A σ) {b : Nat} (hb : b < nbA A) : ∃ σ', fX8_feedBy (nI b) σ = some ((rFed A b).1, σ') ∧ RM A σ' ∧ MD A σ' ∧ FdM (rFed A b) σ' := by
  have h9 := nfA_le hA
  obtain ⟨σ1, s1, s2⟩ := m_asTold hA h
  obtain ⟨σ2, t1, t2, t3⟩ := m_isKept hA s2.q hb (x := 0) (F := F0_) (fun k hk => bitAt_0 ⟨k, by omega⟩)
  have key : ∀ (d n f : Nat) (τ : vMem), f + d = nfA A → d < n → MTq A (wAll A) (sAll A) τ → ∃ σ', LfX8_feedBy_17 n (nI b) (nI f) τ = some ((r1_ (fun i => kept_ A b (F1_ i)) (r2_ (fun i j => kept_ A b (F2_ i j)) (nfA A) (nfA A) 0) d f).1, σ') ∧ MTq A (wAll A) (sAll A) σ' ∧ FdM (r1_ (fun i => kept_ A b (F1_ i)) (r2_ (fun i j => kept_ A b (F2_ i j)) (nfA A) (nfA A) 0) d f) σ' := by
    intro d
    induction d with
    | zero =>
      intro n f τ hg hn hM
      obtain ⟨n, rfl⟩ : ∃ j, n = j + 1 := ⟨n - 1, by omega⟩
      have : f = nfA A := by omega
      subst this
      obtain ⟨σ', a1, a2⟩ := m_fed53 hA hb (nfA A) 200 0 τ (by omega) (by omega) hM
      refine ⟨σ', ?_, a2⟩
      show fX8_feedBy_17 _ _ _ _ = _
      unfold fX8_feedBy_17
      rw [hM.2.1.1.1, if_pos (Int32.le_refl _)]
      exact a1
    | succ d ih =>
      intro n f τ hg hn hM
      obtain ⟨n, rfl⟩ : ∃ j, n = j + 1 := ⟨n - 1, by omega⟩
      have hlt : (nI (nfA A) ≤ nI f) = False := eq_false (fun z => by have := (nI_leI (by omega) (by omega)).mp z; omega)
      obtain ⟨τ1, a1, a2, a3⟩ := m_isKept hA (hM.row 0 (nI f)) hb (x := (1 : Int32) <<< (nI f &&& 31)) (F := F1_ f) (fun k hk => bitAt_1 ⟨f, by omega⟩ ⟨k, by omega⟩)
      show ∃ σ', fX8_feedBy_17 _ _ _ _ = _ ∧ _
      unfold fX8_feedBy_17 fX8_feedBy_32
      simp only [hM.2.1.1.1, hlt, ↓reduceIte]
      rw [if_neg (by decide)]
      have a1 : fX8_isKept (nI b) ((1 : Int32) <<< (nI f &&& 31)) (vup τ 26 (0 : Int32).toNatClampNeg (nI f)) = some (b2 (kept_ A b (F1_ f)), τ1) := a1
      rw [a1]
      simp only [Option.bind, b2_0, nI_1]
      unfold r1_
      rw [fs1]
      by_cases q : kept_ A b (F1_ f) = true
      · rw [if_neg (by rw [q]; decide), if_pos q]
        refine ⟨τ1, rfl, a2, fun _ => ?_, fun z => absurd (show (1 : Int32) = 2 from z) (by decide)⟩
        rw [a3]; simp [vup_rd]
      · rw [if_pos (by simpa using q), if_neg q]
        exact ih n (f + 1) τ1 (by omega) (by omega) a2
  unfold fX8_feedBy rFed
  rw [s1]
  simp only [Option.bind]
  rw [t1]
  simp only [b2_0]
  by_cases q : kept_ A b F0_ = true
  · rw [if_neg (by rw [q]; decide), if_pos q]
    exact ⟨σ2, rfl, t2.1, t2.2.1, fun z => by rcases z with z | z <;> exact absurd z (by decide), fun z => absurd z (by decide)⟩
  · rw [if_pos (by simpa using q), if_neg q]
    obtain ⟨σ', a1, a2, a3⟩ := key (nfA A) 200 0 σ2 (by omega) (by omega) t2
    exact ⟨σ', a1, a2.1, a2.2.1, a3⟩
/-- what is answered of it -/
def ansFd (r : vFd) (i : Int32) : Int32 := if i = -1 then r.1 else if r.1 ≤ i then -1 else if i = 0 then r.2.1 else r.2.2
theorem rFed_in (A : vA) (b : Nat) : (rFed A b).1 = -1 ∨ (rFed A b).1 = 0 ∨ (rFed A b).1 = 1 ∨ (rFed A b).1 = 2 := by
  have h2 : ∀ (q : Nat → Nat → Bool) (N d f : Nat), (r2_ q N d f).1 = -1 ∨ (r2_ q N d f).1 = 2 := by
    intro q N d
    induction d with
    | zero => intro f; exact Or.inl rfl
    | succ d ih =>
      intro f
      rw [r2_]
      split
      · exact Or.inr rfl
      · exact ih (f + 1)
  unfold rFed
  split
  · exact Or.inr (Or.inl rfl)
  · unfold r1_
    split
    · exact Or.inr (Or.inr (Or.inl rfl))
    · rcases h2 (fun i j => kept_ A b (F2_ i j)) (nfA A) (nfA A) 0 with z | z
      · exact Or.inl z
      · exact Or.inr (Or.inr (Or.inr z))
theorem c_fedAt {r : vFd} (hr : r.1 = -1 ∨ r.1 = 0 ∨ r.1 = 1 ∨ r.1 = 2) {σ : vMem} (h : FdC r σ) {i : Int32} (hi : i = 0 ∨ i = 1) : fX7_fedAt i σ = some (ansFd r i, σ) := by
  obtain ⟨c, x0, x1⟩ := r
  obtain ⟨h1, h2, h3⟩ := h
  have h1 : σ.1 0 10 = c := h1
  have hr : c = -1 ∨ c = 0 ∨ c = 1 ∨ c = 2 := hr
  unfold fX7_fedAt fX7_fedAt_26 fX7_fedAt_27
  rw [h1]
  rcases hr with rfl | rfl | rfl | rfl
  · rcases hi with rfl | rfl <;> rfl
  · rcases hi with rfl | rfl <;> rfl
  · rcases hi with rfl | rfl
    · exact congrArg (fun u => some (u, σ)) (h2 (Or.inl rfl))
    · rfl
  · rcases hi with rfl | rfl
    · exact congrArg (fun u => some (u, σ)) (h2 (Or.inr rfl))
    · exact congrArg (fun u => some (u, σ)) (h3 rfl)
theorem m_ofRow {r : vFd} (hr : r.1 = -1 ∨ r.1 = 0 ∨ r.1 = 1 ∨ r.1 = 2) {σ : vMem} (h : FdM r σ) {i : Int32} (hi : i = -1 ∨ i = 0 ∨ i = 1) : fX8_ofRow r.1 i σ = some (ansFd r i, σ) := by
  obtain ⟨c, x0, x1⟩ := r
  obtain ⟨h2, h3⟩ := h
  have hr : c = -1 ∨ c = 0 ∨ c = 1 ∨ c = 2 := hr
  unfold fX8_ofRow fX8_ofRow_24
  rcases hr with rfl | rfl | rfl | rfl
  · rcases hi with rfl | rfl | rfl <;> rfl
  · rcases hi with rfl | rfl | rfl <;> rfl
  · rcases hi with rfl | rfl | rfl
    · rfl
    · exact congrArg (fun u => some (u, σ)) (h2 (Or.inl rfl))
    · rfl
  · rcases hi with rfl | rfl | rfl
    · rfl
    · exact congrArg (fun u => some (u, σ)) (h2 (Or.inr rfl))
    · exact congrArg (fun u => some (u, σ)) (h3 rfl)
theorem in_m1 (x : Int32) : (¬ x < -1 ∧ x < 2) ↔ (x = -1 ∨ x = 0 ∨ x = 1) := by
  constructor
  · rintro ⟨h1, h2⟩
    by_cases q : x < 0
    · left
      rw [Int32.lt_iff_toInt_lt] at q h1
      have e1 : (-1 : Int32).toInt = -1 := by decide
      have e0 : (0 : Int32).toInt = 0 := by decide
      exact Int32.toInt_inj.mp (by omega)
    · right
      obtain ⟨j, hj, rfl⟩ := nI_of q
      have := (nI_ltI (b := 2) hj (by decide)).mp h2
      rcases (show j = 0 ∨ j = 1 by omega) with rfl | rfl
      · exact Or.inl rfl
      · exact Or.inr rfl
  · rintro (rfl | rfl | rfl) <;> decide
theorem q_feed {A : vA} (hA : WA A) (x y : Int32) : vJ A (fX7_feed x y) (fX8_feed x y) := by
  have h8 := nbA_le hA
  have hm : ∀ σ, fX8_in y (-1) 1 σ = some (b2 (decide (y = -1 ∨ y = 0 ∨ y = 1)), σ) := fun σ => by
    rw [m_in]
    congr 3
    have : (¬ (1 : Int32) < y) = (y < 2) := propext ⟨fun h => by
      have h := i32_lt_not.mp h
      exact Int32.lt_of_le_of_lt h (by decide), fun h h2 => by
      rw [Int32.lt_iff_toInt_lt] at h h2
      have e1 : (1 : Int32).toInt = 1 := by decide
      have e2 : (2 : Int32).toInt = 2 := by decide
      omega⟩
    rw [decide_eq_decide, this, in_m1]
  by_cases p : inR (nbA A) x = true
  · obtain ⟨b, hb, rfl⟩ := inR_ex (by omega) p
    by_cases q : y = -1 ∨ y = 0 ∨ y = 1
    · obtain ⟨q1, q2⟩ := (in_m1 y).mpr q
      refine ⟨ansFd (rFed A b) y, A, hA, fun σ h => ?_, fun σ h => ?_⟩
      · obtain ⟨σ', a1, a2, a3⟩ := c_findFed hA h hb
        refine ⟨σ', ?_, a2⟩
        unfold fX7_feed fX7_feed_43
        rw [c_isBasket h, p]
        simp only [Option.bind, b2_0, Bool.true_eq_false, ↓reduceIte, q1, q2]
        rw [a1]
        simp only
        rcases q with rfl | q
        · rw [if_pos rfl, a3.1]
          rfl
        · rw [if_neg (by rcases q with rfl | rfl <;> decide), c_fedAt (rFed_in A b) a3 q]
      · obtain ⟨σ1, a1, a2, a3⟩ := m_isBasket hA h (nI b)
        obtain ⟨σ', b1, b2, b3, b4⟩ := m_feedBy hA a2 hb
        refine ⟨σ', ?_, b2⟩
        unfold fX8_feed fX8_feed_32
        rw [a1, p]
        simp only [Option.bind, b2_0, Bool.true_eq_false, ↓reduceIte]
        rw [hm, decide_eq_true q]
        simp only [b2_0, Bool.true_eq_false, ↓reduceIte]
        rw [b1]
        simp only
        rw [m_ofRow (rFed_in A b) b4 q]
    · refine ⟨-2, A, hA, fun σ h => ⟨σ, ?_, h⟩, fun σ h => ?_⟩
      · unfold fX7_feed fX7_feed_18
        rw [c_isBasket h, p]
        simp only [Option.bind, b2_0, Bool.true_eq_false, ↓reduceIte]
        by_cases z : y < -1
        · rw [if_pos z]
        · rw [if_neg z, if_neg (fun w => q ((in_m1 y).mp ⟨z, w⟩))]
      · obtain ⟨σ', a1, a2, a3⟩ := m_isBasket hA h (nI b)
        refine ⟨σ', ?_, a2⟩
        unfold fX8_feed
        rw [a1, p]
        simp only [Option.bind, b2_0, Bool.true_eq_false, ↓reduceIte]
        rw [hm, decide_eq_false q]
        rfl
  · have p := inR_F p
    refine ⟨-2, A, hA, fun σ h => ⟨σ, ?_, h⟩, fun σ h => ?_⟩
    · unfold fX7_feed
      rw [c_isBasket h, p]
      rfl
    · obtain ⟨σ', a1, a2, a3⟩ := m_isBasket hA h x
      refine ⟨σ', ?_, a2⟩
      unfold fX8_feed
      rw [a1, p]
      rfl
