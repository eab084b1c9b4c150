/-! feed -/
abbrev pFd (P : vP) (F : Nat → Bool) : vP := (P.1, (P.2.1.1, (fun f => if F f = true then 0 else pbi P f), P.2.1.2.2), P.2.2)
theorem WP.fd {P : vP} (h : WP P) {F : Nat → Bool} : WP (pFd P F) := ⟨h.1, h.2.1, fun f hf => by
  have := h.2.2.1 f hf
  show (if F f = true then 0 else pbi P f) ≤ 9
  split <;> omega, h.2.2.2⟩
theorem allB_cong {p q : Nat → Bool} : ∀ n, (∀ i, i < n → p i = q i) → allB p n = allB q n
  | 0, _ => rfl
  | n + 1, h => by rw [allB, allB, allB_cong n (fun i hi => h i (by omega)), h n (by omega)]
theorem allB_more {p : Nat → Bool} {n : Nat} (h : ∀ i, n ≤ i → p i = true) : ∀ d, allB p (n + d) = allB p n
  | 0 => rfl
  | d + 1 => by rw [← Nat.add_assoc, allB, allB_more h d, h (n + d) (by omega), Bool.and_true]
/-- the note is up as it was told -/
def stB (P : vP) (T : vT) (b : Nat) : Bool := decide (¬ tup T b = -1) && (decide (tnl T b = ple P b) && allB (fun i => decide (tnt T b i = pte P b i)) (ple P b))
theorem c_lettersN {σ : vMem} {k st nl : Nat} (hk : k < 8) (h20 : σ.1 20 k = nI st) (h21 : σ.1 21 k = nI (st + nl)) : fX6_letters (nI k) σ = some (nI nl, σ) := by
  unfold fX6_letters
  simp only [↓reduceIte, nI_clamp (show k < 2 ^ 31 by omega), ixF hk (by decide), h20, h21]
  rw [pk_sub (by omega), Nat.add_sub_cancel_left]
theorem c_letterN {σ : vMem} {k i st nl : Nat} {nt : Nat → Int32} (hk : k < 8) (h20 : σ.1 20 k = nI st) (h21 : σ.1 21 k = nI (st + nl)) (h19 : ∀ i, i < nl → σ.1 19 (21 * k + st + i) = nt i) (hb : st + nl ≤ 21) (hi : i ≤ 1000) : fX6_letter (nI k) (nI i) σ = some (if i < nl then nt i else -1, σ) := by
  by_cases q : i < nl
  · rw [if_pos q]; exact c_letterX hk h20 h21 h19 hb q
  · unfold fX6_letter fX6_letter_34 fX6_letter_35
    rw [c_lettersN hk h20 h21]
    simp only [Option.bind, nI_lt0 (show i < 2 ^ 31 by omega), ↓reduceIte]
    rw [if_pos ((nI_leI (a := nl) (b := i) (by omega) (by omega)).mpr (by omega)), if_neg q]
theorem c_asTold {A : vA} (hA : WA A) {σ : vMem} (h : RC A σ) {b : Nat} (hb : b < nbA A) {st nl : Nat} {nt : Nat → Int32} (h20 : σ.1 20 b = nI st) (h21 : σ.1 21 b = nI (st + nl)) (h19 : ∀ i, i < nl → σ.1 19 (21 * b + st + i) = nt i) (hB : st + nl ≤ 21) : fX6_noteAsTold (nI b) σ = some (b2 (decide (nl = ple (PT A) b) && allB (fun i => decide (nt i = pte (PT A) b i)) (ple (PT A) b)), σ) := by
  have h8 := nbA_le hA
  have e11 : σ.1 11 b = nI (ple (PT A) b) := ((h.2.1.2.2 (bitAt (wAll A)) (bitAt (sAll A))).2.2 b hb).2.2.1
  obtain ⟨s1, s3⟩ := ((WP_PT hA).2.2.2.1 b hb).2.2
  unfold fX6_noteAsTold
  rw [c_lettersN (by omega) h20 h21]
  simp only [Option.bind, nI_clamp (show b < 2 ^ 31 by omega), ixF (show b < 8 by omega) (by decide), ↓reduceIte, e11]
  by_cases q : nl = ple (PT A) b
  · rw [if_pos (by rw [q]), decide_eq_true q, Bool.true_and]
    let p : Nat → Bool := fun i => decide ((if i < nl then nt i else -1) = rTold A b i)
    have e3 : allB p 3 = allB (fun i => decide (nt i = pte (PT A) b i)) (ple (PT A) b) := by
      have m := allB_more (p := p) (n := ple (PT A) b) (fun i hi => by
        show decide ((if i < nl then nt i else -1) = rTold A b i) = true
        rw [if_neg (by omega)]
        unfold rTold
        rw [if_neg (show ¬ i < sz (t1 A) (n1 A) (sA A b) from Nat.not_lt.mpr hi)]
        exact decide_eq_true rfl) (3 - ple (PT A) b)
      rw [show ple (PT A) b + (3 - ple (PT A) b) = 3 by omega] at m
      rw [m]
      refine allB_cong _ (fun i hi => ?_)
      show decide ((if i < nl then nt i else -1) = rTold A b i) = decide (nt i = pte (PT A) b i)
      unfold rTold
      rw [if_pos (by omega), if_pos (show i < sz (t1 A) (n1 A) (sA A b) from hi)]
      rfl
    rw [← e3]
    have key : ∀ (k n i : Nat), i + k = 3 → k < n → allB p i = true → LfX6_noteAsTold_21 n (nI b) (nI i) σ = some (b2 (allB p 3), σ) := by
      intro k
      induction k with
      | zero =>
        intro n i hik hn ha
        obtain ⟨n, rfl⟩ : ∃ j, n = j + 1 := ⟨n - 1, by omega⟩
        have : i = 3 := by omega
        subst this
        show fX6_noteAsTold_21 _ _ _ _ = _
        unfold fX6_noteAsTold_21
        rw [show (3 : Int32) = nI 3 from rfl, if_pos (Int32.le_refl _), ha]
        rfl
      | succ k ih =>
        intro n i hik hn ha
        obtain ⟨n, rfl⟩ : ∃ j, n = j + 1 := ⟨n - 1, by omega⟩
        have hlt : (nI 3 ≤ nI i) = False := eq_false (fun z => by have := (nI_leI (by omega) (by omega)).mp z; omega)
        show fX6_noteAsTold_21 _ _ _ _ = _
        unfold fX6_noteAsTold_21
        rw [show (3 : Int32) = nI 3 from rfl]
        simp only [hlt, ↓reduceIte]
        rw [c_letterN (show b < 8 by omega) h20 h21 h19 hB (by omega)]
        simp only [Option.bind]
        rw [c_toldL hA h hb (by omega)]
        simp only [nI_1]
        by_cases z : (if i < nl then nt i else -1) = rTold A b i
        · rw [if_pos z]
          refine ih n (i + 1) (by omega) (by omega) ?_
          rw [allB, ha]
          show (true && decide ((if i < nl then nt i else -1) = rTold A b i)) = true
          rw [decide_eq_true z]
          rfl
        · rw [if_neg z]
          have : allB p (i + 1 + k) = false := allB_F (by
            rw [allB]
            show (allB p i && decide ((if i < nl then nt i else -1) = rTold A b i)) = false
            rw [decide_eq_false z, Bool.and_false]) k
          rw [show i + 1 + k = 3 by omega] at this
          rw [this]
          rfl
    exact key 3 200 0 (by omega) (by omega) rfl
  · rw [if_neg (fun w => q ((nI_eq (by omega) (by omega)).mp w)), decide_eq_false q]
    rfl
/-- would the note of b stay whole, were F fed -/
noncomputable def kept_ (A : vA) (b : Nat) (F : Nat → Bool) : Bool := stB (PT A) (tRun (pFd (PT A) F) 40) b
theorem c_staysC {A : vA} (hA : WA A) {σ σ2 : vMem} (h : RC A σ) {b : Nat} (hb : b < nbA A) {F : Nat → Bool} (f2 : ∀ a, a ≠ 7 → σ2.1 a = σ.1 a) (hF : ∀ f, f < nfA A → σ2.1 7 f = nI (if F f = true then 0 else pbi (PT A) f)) : ∃ σ5, fX6_go (wAll A) (sAll A) 40 σ2 = some σ5 ∧ (∀ a, a < 13 ∨ 24 < a → σ5.1 a = σ2.1 a) ∧ ∀ σ7, (∀ a, a ≠ 7 → σ7.1 a = σ5.1 a) → σ7.1 7 = σ.1 7 → RC A σ7 ∧ (if σ7.1 17 b = -1 then fX7_staysWhole_95 σ7 else (fX6_noteAsTold (nI b) σ7).bind fun q8 => if q8.1 = 0 then fX7_staysWhole_95 q8.2 else fX7_staysWhole_96 1 q8.2) = some (b2 (kept_ A b F), σ7) := by
  have hP : WP (pFd (PT A) F) := (WP_PT hA).fd
  obtain ⟨-, d2, d3⟩ := h.2.1.2.2 (bitAt (wAll A)) (bitAt (sAll A))
  have hD : DC (pFd (PT A) F) σ2 := by
    refine ⟨?_, fun f hf => ?_, ?_⟩
    · rw [f2 5 (by decide)]; exact (h.2.1.2.2 (fun _ => true) (fun _ => true)).1
    · obtain ⟨x1, x2, x3⟩ := d2 f hf
      rw [f2 6 (by decide), f2 8 (by decide)]
      exact ⟨x1, hF f hf, x3⟩
    · rw [f2 9 (by decide), f2 10 (by decide), f2 11 (by decide), f2 12 (by decide)]; exact d3
  obtain ⟨w, y, e1, e2⟩ := h.2.2.1
  obtain ⟨σ5, a1, a2⟩ := c_go hP hD (w := w) (y := y) (by rw [f2 13 (by decide)]; exact e1) (by rw [f2 13 (by decide)]; exact e2) (wb := wAll A) (sb := sAll A) rfl rfl (Nat.le_refl 40)
  obtain ⟨w', y', sn, a3⟩ := a2.ct
  refine ⟨σ5, a1, a3.1.2.1, fun σ7 g1 g2 => ?_⟩
  have hR : RC A σ7 := by
    refine h.fr ⟨fun a ha => ?_, ?_, w', y', by rw [g1 13 (by decide)]; exact a3.2.1.1, by rw [g1 13 (by decide)]; exact a3.2.1.2⟩
    · by_cases e : a = 7
      · subst e; exact g2
      · rw [g1 a e, a3.1.2.1 a (by omega), f2 a e]
    · rw [g1 0 (by decide), a3.1.2.1 0 (by decide), f2 0 (by decide)]
  refine ⟨hR, ?_⟩
  have e17 : σ7.1 17 b = tup (tRun (pFd (PT A) F) 40) b := by rw [g1 17 (by decide)]; exact a3.2.2.2.2.1 b hb
  have e20 : σ7.1 20 b = nI (tst (tRun (pFd (PT A) F) 40) b) := by rw [g1 20 (by decide)]; exact a3.2.2.2.2.2.2.1 b hb
  have e21 : σ7.1 21 b = nI (tst (tRun (pFd (PT A) F) 40) b + tnl (tRun (pFd (PT A) F) 40) b) := by rw [g1 21 (by decide)]; exact a3.2.2.2.2.2.2.2.1 b hb
  have e19 : ∀ i, i < tnl (tRun (pFd (PT A) F) 40) b → σ7.1 19 (21 * b + tst (tRun (pFd (PT A) F) 40) b + i) = tnt (tRun (pFd (PT A) F) 40) b i := by rw [g1 19 (by decide)]; exact a3.2.2.2.2.2.2.2.2.1 b hb
  rw [e17, c_asTold hA hR hb e20 e21 e19 (T21 hP hb).1]
  unfold kept_ stB fX7_staysWhole_95 fX7_staysWhole_96
  by_cases q : tup (tRun (pFd (PT A) F) 40) b = -1
  · rw [if_pos q, decide_eq_false (fun z => z q)]
    rfl
  · rw [if_neg q, decide_eq_true q, Bool.true_and]
    simp only [Option.bind, b2_0]
    generalize (decide (tnl (tRun (pFd (PT A) F) 40) b = ple (PT A) b) && allB (fun i => decide (tnt (tRun (pFd (PT A) F) 40) b i = pte (PT A) b i)) (ple (PT A) b)) = z
    cases z <;> rfl
theorem c_chg {σ : vMem} {nf f : Nat} (h9 : nf ≤ 9) (h5 : σ.1 5 0 = nI nf) (hf : f < nf) (x : Int32) : fX5_changeBite (nI f) x σ = some (σ.1 7 f, vup σ 7 f x) := by
  unfold fX5_changeBite fX5_changeBite_28
  simp only [nI_lt0 (show f < 2 ^ 31 by omega), ↓reduceIte, h5, nI_clamp (show f < 2 ^ 31 by omega), false_or, show (9 ≤ f) = False from eq_false (by omega)]
  rw [if_pos ((nI_ltI (by omega) (by omega)).mpr hf)]
theorem c_chg1 {σ : vMem} (x : Int32) : fX5_changeBite (-1) x σ = some (0, σ) := rfl
theorem RC.w25 {A : vA} {σ σ2 : vMem} (h : RC A σ) (f2 : ∀ a, a ≠ 7 → σ2.1 a = σ.1 a) : (σ2.1 25 1 = nI (awn A) ∧ ∀ k, k < awn A → σ2.1 26 k = nI (awh A k)) ∧ (σ2.1 27 1 = nI (asn A) ∧ ∀ k, k < asn A → σ2.1 28 k = nI (ash A k)) := by
  rw [f2 25 (by decide), f2 26 (by decide), f2 27 (by decide), f2 28 (by decide)]
  exact ⟨h.2.2.2.1, h.2.2.2.2.1⟩
def F0_ : Nat → Bool := fun _ => false
def F1_ (i : Nat) : Nat → Bool := fun f => decide (f = i)
def F2_ (i j : Nat) : Nat → Bool := fun f => decide (f = i) || decide (f = j)
theorem RC.bi {A : vA} {σ : vMem} (h : RC A σ) {f : Nat} (hf : f < nfA A) : σ.1 7 f = nI (pbi (PT A) f) := ((h.2.1.2.2 (bitAt (wAll A)) (bitAt (sAll A))).2.1 f hf).2.1
theorem c_stays0 {A : vA} (hA : WA A) {σ : vMem} (h : RC A σ) {b : Nat} (hb : b < nbA A) : ∃ σ', fX7_staysWhole (nI b) (-1) (-1) σ = some (b2 (kept_ A b F0_), σ') ∧ RC A σ' ∧ σ'.1 0 = σ.1 0 := by
  have h8 := nbA_le hA
  obtain ⟨σ5, a1, a2, a3⟩ := c_staysC hA h hb (F := F0_) (σ2 := σ) (fun _ _ => rfl) (fun f hf => h.bi hf)
  obtain ⟨b1, b2⟩ := a3 σ5 (fun _ _ => rfl) (a2 7 (by decide))
  refine ⟨σ5, ?_, b1, a2 0 (by decide)⟩
  unfold fX7_staysWhole
  rw [c_chg1]
  simp only [Option.bind]
  rw [c_chg1]
  simp only
  rw [c_all25 hA h]
  simp only
  rw [c_all27 hA h]
  simp only
  rw [a1]
  simp only
  rw [c_chg1]
  simp only
  rw [c_chg1]
  simp only [nI_clamp (show b < 2 ^ 31 by omega), ixF (show b < 8 by omega) (by decide), ↓reduceIte]
  exact b2
theorem c_stays1 {A : vA} (hA : WA A) {σ : vMem} (h : RC A σ) {b : Nat} (hb : b < nbA A) {i : Nat} (hi : i < nfA A) : ∃ σ', fX7_staysWhole (nI b) (nI i) (-1) σ = some (b2 (kept_ A b (F1_ i)), σ') ∧ RC A σ' ∧ σ'.1 0 = σ.1 0 := by
  have h8 := nbA_le hA
  have h9 := nfA_le hA
  have g2 : ∀ a, a ≠ 7 → (vup σ 7 i 0).1 a = σ.1 a := fun a ha => vup_ne _ _ ha
  obtain ⟨σ5, a1, a2, a3⟩ := c_staysC hA h hb (F := F1_ i) (σ2 := vup σ 7 i 0) g2 (fun f hf => by
    rw [vup_rd, if_pos rfl]
    unfold F1_
    by_cases q : f = i
    · rw [if_pos q, decide_eq_true q]; rfl
    · rw [if_neg q, decide_eq_false q]; exact h.bi hf)
  obtain ⟨b1, b2⟩ := a3 (vup σ5 7 i (σ.1 7 i)) (fun a ha => vup_ne _ _ ha) (by
    funext j
    rw [vup_rd, if_pos rfl]
    by_cases q : j = i
    · rw [if_pos q, q]
    · rw [if_neg q, a2 7 (by decide), vup_rd, if_pos rfl, if_neg q])
  refine ⟨_, ?_, b1, by rw [vup_ne _ _ (by decide), a2 0 (by decide), vup_ne _ _ (by decide)]⟩
  obtain ⟨w1, w2⟩ := h.w25 g2
  unfold fX7_staysWhole
  rw [c_chg h9 h.nf hi]
  simp only [Option.bind]
  rw [c_chg1]
  simp only
  rw [c_all25x hA w1]
  simp only
  rw [c_all27x hA w2]
  simp only
  rw [a1]
  simp only
  rw [c_chg1]
  simp only
  rw [c_chg h9 (by rw [a2 5 (by decide), vup_ne _ _ (by decide)]; exact h.nf) hi]
  simp only [nI_clamp (show b < 2 ^ 31 by omega), ixF (show b < 8 by omega) (by decide), ↓reduceIte]
  exact b2
theorem c_stays2 {A : vA} (hA : WA A) {σ : vMem} (h : RC A σ) {b : Nat} (hb : b < nbA A) {i j : Nat} (hi : i < j) (hj : j < nfA A) : ∃ σ', fX7_staysWhole (nI b) (nI i) (nI j) σ = some (b2 (kept_ A b (F2_ i j)), σ') ∧ RC A σ' ∧ σ'.1 0 = σ.1 0 := by
  have h8 := nbA_le hA
  have h9 := nfA_le hA
  have g2 : ∀ a, a ≠ 7 → (vup (vup σ 7 i 0) 7 j 0).1 a = σ.1 a := fun a ha => by rw [vup_ne _ _ ha, vup_ne _ _ ha]
  obtain ⟨σ5, a1, a2, a3⟩ := c_staysC hA h hb (F := F2_ i j) (σ2 := vup (vup σ 7 i 0) 7 j 0) g2 (fun f hf => by
    simp only [vup_rd, ↓reduceIte]
    unfold F2_
    by_cases q : f = j
    · rw [if_pos q, decide_eq_true q, Bool.or_true]; rfl
    · rw [if_neg q, decide_eq_false q, Bool.or_false]
      by_cases r : f = i
      · rw [if_pos r, decide_eq_true r]; rfl
      · rw [if_neg r, decide_eq_false r]; exact h.bi hf)
  have ej : (vup σ 7 i 0).1 7 j = σ.1 7 j := by rw [vup_rd, if_pos rfl, if_neg (by omega)]
  obtain ⟨b1, b2⟩ := a3 (vup (vup σ5 7 j (σ.1 7 j)) 7 i (σ.1 7 i)) (fun a ha => by rw [vup_ne _ _ ha, vup_ne _ _ ha]) (by
    funext k
    simp only [vup_rd, ↓reduceIte, a2 7 (by decide)]
    by_cases q : k = i
    · rw [if_pos q, q]
    · rw [if_neg q]
      by_cases r : k = j
      · rw [if_pos r, r]
      · rw [if_neg r, if_neg r, if_neg q])
  refine ⟨_, ?_, b1, by rw [vup_ne _ _ (by decide), vup_ne _ _ (by decide), a2 0 (by decide), vup_ne _ _ (by decide), vup_ne _ _ (by decide)]⟩
  obtain ⟨w1, w2⟩ := h.w25 g2
  unfold fX7_staysWhole
  rw [c_chg h9 h.nf (show i < nfA A by omega)]
  simp only [Option.bind]
  rw [c_chg h9 (by rw [vup_ne _ _ (by decide)]; exact h.nf) hj, ej]
  simp only
  rw [c_all25x hA w1]
  simp only
  rw [c_all27x hA w2]
  simp only
  rw [a1]
  simp only
  rw [c_chg h9 (by rw [a2 5 (by decide), vup_ne _ _ (by decide), vup_ne _ _ (by decide)]; exact h.nf) hj]
  simp only
  rw [c_chg h9 (by rw [vup_ne _ _ (by decide), a2 5 (by decide), vup_ne _ _ (by decide), vup_ne _ _ (by decide)]; exact h.nf) (show i < nfA A by omega)]
  simp only [nI_clamp (show b < 2 ^ 31 by omega), ixF (show b < 8 by omega) (by decide), ↓reduceIte]
  exact b2
def fs1 (p : Nat → Bool) : Nat → Nat → Option Nat
  | 0, _ => none
  | d + 1, i => if p i = true then some i else fs1 p d (i + 1)
/-- how many are fed, and which -/
abbrev vFd : Type := Int32 × Int32 × Int32
def r2_ (q : Nat → Nat → Bool) (N : Nat) : Nat → Nat → vFd
  | 0, _ => (-1, 0, 0)
  | d + 1, f => match fs1 (q f) (N - (f + 1)) (f + 1) with
    | some g => (2, nI f, nI g)
    | none => r2_ q N d (f + 1)
def r1_ (p : Nat → Bool) (R : vFd) (d i : Nat) : vFd := match fs1 p d i with
  | some f => (1, nI f, -1)
  | none => R
noncomputable def rFed (A : vA) (b : Nat) : vFd := if kept_ A b F0_ = true then (0, 0, 0) else r1_ (fun i => kept_ A b (F1_ i)) (r2_ (fun i j => kept_ A b (F2_ i j)) (nfA A) (nfA A) 0) (nfA A) 0
def FdC (r : vFd) (σ : vMem) : Prop := σ.1 0 10 = r.1 ∧ (r.1 = 1 ∨ r.1 = 2 → σ.1 38 0 = r.2.1) ∧ (r.1 = 2 → σ.1 38 1 = r.2.2)
theorem c_keepFed (m f g : Int32) (σ : vMem) : fX7_keepFed m f g σ = some (vup (vup (vup σ 0 10 m) 38 0 f) 38 1 g) := rfl
theorem RC.kf {A : vA} {σ : vMem} (h : RC A σ) (m f g : Int32) : RC A (vup (vup (vup σ 0 10 m) 38 0 f) 38 1 g) := by
  refine h.fr ⟨fun a ha => by rw [vup_ne _ _ (by omega), vup_ne _ _ (by omega), vup_ne _ _ (by omega)], ?_, ?_⟩
  · rw [vup_ne _ _ (by omega), vup_ne _ _ (by omega), vup_rd]; simp
  · rw [vup_ne _ _ (by omega), vup_ne _ _ (by omega), vup_ne _ _ (by omega)]; exact h.2.2.1
theorem FdC.kf {σ : vMem} (m f g : Int32) : FdC (m, f, g) (vup (vup (vup σ 0 10 m) 38 0 f) 38 1 g) := ⟨by simp [vup_rd], fun _ => by simp [vup_rd], fun _ => by simp [vup_rd]⟩
theorem RC.u10 {A : vA} {σ : vMem} (h : RC A σ) (x : Int32) : RC A (vup σ 0 10 x) := by
  refine h.fr ⟨fun a ha => vup_ne _ _ (by omega), by rw [vup_rd]; simp, ?_⟩
  rw [vup_ne _ _ (by omega)]; exact h.2.2.1
theorem c_fed65x {A : vA} {τ : vMem} (x : Int32) (n : Nat) (b : Int32) (h : ¬ τ.1 0 10 = -1) : LfX7_findFed_65 (n + 1) b x τ = some τ := by
  show fX7_findFed_65 _ _ _ _ = _
  unfold fX7_findFed_65 fX7_findFed_136
  rw [if_neg h]
  split <;> rfl
theorem c_fed88 {A : vA} (hA : WA A) {b f : Nat} (hb : b < nbA A) (hf : f < nfA A) {R : vFd} (K : Int32 → Int32 → vMem → Option vMem) (k1 : ∀ τ, RC A τ → τ.1 0 10 = -1 → ∃ σ', K (nI b) (nI (f + 1)) τ = some σ' ∧ RC A σ' ∧ FdC R σ') (k2 : ∀ τ, ¬ τ.1 0 10 = -1 → K (nI b) (nI (f + 1)) τ = some τ) : ∀ (d n g : Nat) (τ : vMem), f < g → g + d = nfA A → d + 1 < n → RC A τ → τ.1 0 10 = -1 → ∃ σ', LfX7_findFed_88 K n (nI b) (nI f) (nI g) τ = some σ' ∧ RC A σ' ∧ FdC (match fs1 (fun j => kept_ A b (F2_ f j)) d g with | some g => (2, nI f, nI g) | none => R) σ' := by
  have h9 := nfA_le hA
  intro d
  induction d with
  | zero =>
    intro n g τ hfg hg hn hR h10
    obtain ⟨n, rfl⟩ : ∃ j, n = j + 1 := ⟨n - 1, by omega⟩
    have : g = nfA A := by omega
    subst this
    obtain ⟨σ', a1, a2, a3⟩ := k1 τ hR h10
    refine ⟨σ', ?_, a2, a3⟩
    show fX7_findFed_88 _ _ _ _ _ _ = _
    unfold fX7_findFed_88 fX7_findFed_130
    rw [hR.nf, if_pos (Int32.le_refl _), nI_1]
    exact a1
  | succ d ih =>
    intro n g τ hfg hg hn hR h10
    obtain ⟨n, rfl⟩ : ∃ j, n = j + 1 := ⟨n - 1, by omega⟩
    have hlt : (nI (nfA A) ≤ nI g) = False := eq_false (fun z => by have := (nI_leI (by omega) (by omega)).mp z; omega)
    obtain ⟨τ1, a1, a2, a3⟩ := c_stays2 hA hR hb hfg (show g < nfA A by omega)
    show ∃ σ', fX7_findFed_88 _ _ _ _ _ _ = _ ∧ _
    unfold fX7_findFed_88 fX7_findFed_124
    simp only [hR.nf, hlt, ↓reduceIte, h10]
    rw [a1]
    simp only [Option.bind, b2_0, nI_1, c_keepFed]
    rw [fs1]
    by_cases q : kept_ A b (F2_ f g) = true
    · rw [if_neg (by rw [q]; decide), if_pos q]
      have hR2 := a2.kf 2 (nI f) (nI g)
      refine ⟨vup (vup (vup τ1 0 10 2) 38 0 (nI f)) 38 1 (nI g), ?_, hR2, FdC.kf _ _ _⟩
      have h2 : ¬ (vup (vup (vup τ1 0 10 2) 38 0 (nI f)) 38 1 (nI g)).1 0 10 = -1 := by
        rw [(FdC.kf (σ := τ1) 2 (nI f) (nI g)).1]; exact (by decide : ¬ (2 : Int32) = -1)
      obtain ⟨n, rfl⟩ : ∃ j, n = j + 1 := ⟨n - 1, by omega⟩
      show fX7_findFed_88 _ _ _ _ _ _ = _
      unfold fX7_findFed_88 fX7_findFed_130
      rw [if_neg h2, nI_1, k2 _ h2]
      split <;> rfl
    · rw [if_pos (by simpa using q), if_neg q]
      exact ih n (g + 1) τ1 (by omega) (by omega) (by omega) a2 (by rw [a3]; exact h10)
theorem c_fed65 {A : vA} (hA : WA A) {b : Nat} (hb : b < nbA A) : ∀ (d n f : Nat) (τ : vMem), f + d = nfA A → d + 1 < n → RC A τ → τ.1 0 10 = -1 → ∃ σ', LfX7_findFed_65 n (nI b) (nI f) τ = some σ' ∧ RC A σ' ∧ FdC (r2_ (fun i j => kept_ A b (F2_ i j)) (nfA A) d f) σ' := by
  have h9 := nfA_le hA
  intro d
  induction d with
  | zero =>
    intro n f τ hg hn hR h10
    obtain ⟨n, rfl⟩ : ∃ j, n = j + 1 := ⟨n - 1, by omega⟩
    have : f = nfA A := by omega
    subst this
    refine ⟨τ, ?_, hR, h10, fun z => ?_, fun z => absurd (show (-1 : Int32) = 2 from z) (by decide)⟩
    · show fX7_findFed_65 _ _ _ _ = _
      unfold fX7_findFed_65 fX7_findFed_136
      rw [hR.nf, if_pos (Int32.le_refl _)]
    · rcases z with z | z
      · exact absurd (show (-1 : Int32) = 1 from z) (by decide)
      · exact absurd (show (-1 : Int32) = 2 from z) (by decide)
  | succ d ih =>
    intro n f τ hg hn hR h10
    obtain ⟨n, rfl⟩ : ∃ j, n = j + 1 := ⟨n - 1, by omega⟩
    have hlt : (nI (nfA A) ≤ nI f) = False := eq_false (fun z => by have := (nI_leI (by omega) (by omega)).mp z; omega)
    obtain ⟨n', rfl⟩ : ∃ j, n = j + 1 := ⟨n - 1, by omega⟩
    obtain ⟨σ', a1, a2, a3⟩ := c_fed88 hA hb (show f < nfA A by omega) (R := r2_ (fun i j => kept_ A b (F2_ i j)) (nfA A) d (f + 1)) (LfX7_findFed_65 (n' + 1)) (fun τ h1 h2 => ih (n' + 1) (f + 1) τ (by omega) (by omega) h1 h2) (fun τ h2 => c_fed65x (A := A) _ _ _ h2) (nfA A - (f + 1)) 200 (f + 1) τ (by omega) (by omega) (by omega) hR h10
    refine ⟨σ', ?_, a2, a3⟩
    show fX7_findFed_65 _ _ _ _ = _
    unfold fX7_findFed_65
    simp only [hR.nf, hlt, ↓reduceIte, h10, nI_1]
    exact a1
theorem c_fed63x {τ : vMem} (b : Int32) (h : ¬ τ.1 0 10 = -1) : fX7_findFed_63 b τ = some τ := by
  unfold fX7_findFed_63
  show fX7_findFed_65 _ _ _ _ = _
  unfold fX7_findFed_65 fX7_findFed_136
  rw [if_neg h]
  split <;> rfl
theorem c_findFed {A : vA} (hA : WA A) {σ : vMem} (h : RC A σ) {b : Nat} (hb : b < nbA A) : ∃ σ', fX7_findFed (nI b) σ = some σ' ∧ RC A σ' ∧ FdC (rFed A b) σ' := by
  have h9 := nfA_le hA
  obtain ⟨σ1, s1, s2, s3⟩ := c_stays0 hA h hb
  have key : ∀ (d n f : Nat) (τ : vMem), f + d = nfA A → d + 1 < n → RC A τ → τ.1 0 10 = -1 → ∃ σ', LfX7_findFed_21 n (nI b) (nI f) τ = some σ' ∧ RC A σ' ∧ FdC (r1_ (fun i => kept_ A b (F1_ i)) (r2_ (fun i j => kept_ A b (F2_ i j)) (nfA A) (nfA A) 0) d f) σ' := by
    intro d
    induction d with
    | zero =>
      intro n f τ hg hn hR h10
      obtain ⟨n, rfl⟩ : ∃ j, n = j + 1 := ⟨n - 1, by omega⟩
      have : f = nfA A := by omega
      subst this
      obtain ⟨σ', a1, a2, a3⟩ := c_fed65 hA hb (nfA A) 200 0 τ (by omega) (by omega) hR h10
      refine ⟨σ', ?_, a2, a3⟩
      show fX7_findFed_21 _ _ _ _ = _
      unfold fX7_findFed_21 fX7_findFed_63
      rw [hR.nf, if_pos (Int32.le_refl _)]
      exact a1
    | succ d ih =>
      intro n f τ hg hn hR h10
      obtain ⟨n, rfl⟩ : ∃ j, n = j + 1 := ⟨n - 1, by omega⟩
      have hlt : (nI (nfA A) ≤ nI f) = False := eq_false (fun z => by have := (nI_leI (by omega) (by omega)).mp z; omega)
      obtain ⟨τ1, a1, a2, a3⟩ := c_stays1 hA hR hb (show f < nfA A by omega)
      show ∃ σ', fX7_findFed_21 _ _ _ _ = _ ∧ _
      unfold fX7_findFed_21 fX7_findFed_57
      simp only [hR.nf, hlt, ↓reduceIte, h10]
      rw [a1]
      simp only [Option.bind, b2_0, nI_1, c_keepFed]
      unfold r1_
      rw [fs1]
      by_cases q : kept_ A b (F1_ f) = true
      · rw [if_neg (by rw [q]; decide), if_pos q]
        refine ⟨vup (vup (vup τ1 0 10 1) 38 0 (nI f)) 38 1 (-1), ?_, a2.kf 1 (nI f) (-1), FdC.kf _ _ _⟩
        have h2 : ¬ (vup (vup (vup τ1 0 10 1) 38 0 (nI f)) 38 1 (-1)).1 0 10 = -1 := by
          rw [(FdC.kf (σ := τ1) 1 (nI f) (-1)).1]; exact (by decide : ¬ (1 : Int32) = -1)
        obtain ⟨n, rfl⟩ : ∃ j, n = j + 1 := ⟨n - 1, by omega⟩
        show fX7_findFed_21 _ _ _ _ = _
        unfold fX7_findFed_21
        rw [if_neg h2, c_fed63x _ h2]
        split <;> rfl
      · rw [if_pos (by simpa using q), if_neg q]
        exact ih n (f + 1) τ1 (by omega) (by omega) a2 (by rw [a3]; exact h10)
  unfold fX7_findFed fX7_findFed_16 fX7_findFed_19 rFed
  rw [s1]
  simp only [Option.bind, b2_0]
  by_cases q : kept_ A b F0_ = true
  · rw [if_neg (by rw [q]; decide), if_pos q]
    refine ⟨vup σ1 0 10 0, ?_, s2.u10 0, by simp [vup_rd], fun z => by rcases z with z | z <;> exact absurd z (by decide), fun z => absurd z (by decide)⟩
    have h2 : ¬ (vup σ1 0 10 0).1 0 10 = -1 := by simp [vup_rd]
    show fX7_findFed_21 _ _ _ _ = _
    unfold fX7_findFed_21
    rw [if_neg h2, c_fed63x _ h2]
    split <;> rfl
  · rw [if_pos (by simpa using q), if_neg q]
    exact key (nfA A) 200 0 _ (by omega) (by omega) (s2.u10 (-1)) (by simp [vup_rd])
