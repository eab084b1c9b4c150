/-! type, wipe, undo -/
abbrev aT0 (A : vA) (x : Nat × (Nat → Int32)) : vA := (x, A.2)
abbrev aT1 (A : vA) (x : Nat × (Nat → Int32)) : vA := (A.1, x, A.2.2)
theorem WA.text0 {A : vA} (h : WA A) {x : Nat × (Nat → Int32)} (h1 : x.1 ≤ 35) : WA (aT0 A x) := ⟨h1, h.2⟩
theorem WA.text1 {A : vA} (h : WA A) {x : Nat × (Nat → Int32)} (h1 : x.1 ≤ 63) : WA (aT1 A x) := ⟨h.1, h1, h.2.2⟩
theorem c_reread0 {A : vA} (hA : WA A) {σ τ : vMem} (h : RC A σ) {n : Nat} {t : Nat → Int32} (hn : n ≤ 35) (f : ∀ a, a ≠ 1 → a ≠ 2 → τ.1 a = σ.1 a) (e1 : τ.1 1 1 = nI n) (e2 : ∀ k, k < n → τ.1 2 k = t k) : ∃ σ', fX7_reread 0 τ = some (nI n, σ') ∧ RC (aT0 A (n, t)) σ' := by
  obtain ⟨r, σ', a1, a2, a3, a4, a5, a6, a7, a8⟩ := c_readFloors (t := t) hn e1 e2
  have hB : WA (aT0 A (n, t)) := hA.text0 hn
  have er : fF t n = r := FF_one (FF_ex t hn) a2
  have g : ∀ a, a ≠ 1 → a ≠ 2 → a ≠ 5 → a ≠ 6 → a ≠ 7 → a ≠ 8 → σ'.1 a = σ.1 a := fun a h1 h2 h5 h6 h7 h8 => (a3 a h5 h6 h7 h8).trans (f a h1 h2)
  have g5 : ∀ k, k ≠ 0 → k ≠ 1 → σ'.1 5 k = σ.1 5 k := fun k h0 h1 => (a5 k h0 h1).trans (by rw [f 5 (by decide) (by decide)])
  obtain ⟨h1, ⟨h2a, h2b, h2c⟩, h3, h4, h5, h6, h7, h8⟩ := h
  refine ⟨σ', ?_, ⟨⟨?_, ?_⟩, ?_⟩, ⟨?_, ?_, fun w s => ⟨⟨?_, ?_, ?_, ?_⟩, fun k hk => ?_, ?_⟩⟩, ?_, ?_, ?_, ?_, ?_, ?_⟩
  · unfold fX7_reread fX7_reread_29 fX7_textOf fX7_textOf_15_v1
    rw [if_pos rfl, a1]
    simp only [Option.bind, ↓reduceIte]
    rw [a3 1 (by decide) (by decide) (by decide) (by decide), e1]
  · rw [a3 1 (by decide) (by decide) (by decide) (by decide), e1]
  · intro k hk
    rw [a3 2 (by decide) (by decide) (by decide) (by decide)]
    exact e2 k hk
  · rw [g 3 (by decide) (by decide) (by decide) (by decide) (by decide) (by decide), g 4 (by decide) (by decide) (by decide) (by decide) (by decide) (by decide)]; exact h1.2
  · rw [a6]; exact er.symm
  · rw [g5 6 (by decide) (by decide)]; exact h2b
  · show _ = nI (if fF t n = -1 then (n + 1) / 4 else 0)
    rw [a7, er]
    split <;> rfl
  · rw [g5 5 (by decide) (by decide)]; exact (h2c w s).1.2.1
  · rw [g5 11 (by decide) (by decide)]; exact (h2c w s).1.2.2.1
  · rw [g5 12 (by decide) (by decide)]; exact (h2c w s).1.2.2.2
  · obtain ⟨q1, q2, q3, q4, q5, a, ha, ea⟩ := floor_ok hB hk
    have q1 : fF t n = -1 := q1
    have q2 : 4 * k + 2 < n := q2
    have ea : t (4 * k + 1) - 48 = nI a := ea
    have hd := a8 (er ▸ q1)
    refine ⟨?_, ?_, ?_⟩
    · have := (hd (4 * k) (by omega)).1 (by omega)
      rw [show 4 * k / 4 = k by omega] at this
      exact this
    · have := (hd (4 * k + 1) (by omega)).2.1 (by omega)
      rw [show (4 * k + 1) / 4 = k by omega] at this
      show _ = nI (t (4 * k + 1) - 48).toNatClampNeg
      rw [this, ea, nI_clamp (by omega)]
    · have := (hd (4 * k + 2) (by omega)).2.2 (by omega)
      rw [show (4 * k + 2) / 4 = k by omega] at this
      exact this
  · have := (h2c w s).2.2
    rw [g 9 (by decide) (by decide) (by decide) (by decide) (by decide) (by decide), g 10 (by decide) (by decide) (by decide) (by decide) (by decide) (by decide), g 11 (by decide) (by decide) (by decide) (by decide) (by decide) (by decide), g 12 (by decide) (by decide) (by decide) (by decide) (by decide) (by decide)]
    exact this
  · rw [g 13 (by decide) (by decide) (by decide) (by decide) (by decide) (by decide)]; exact h3
  · rw [g 25 (by decide) (by decide) (by decide) (by decide) (by decide) (by decide), g 26 (by decide) (by decide) (by decide) (by decide) (by decide) (by decide)]; exact h4
  · rw [g 27 (by decide) (by decide) (by decide) (by decide) (by decide) (by decide), g 28 (by decide) (by decide) (by decide) (by decide) (by decide) (by decide)]; exact h5
  · rw [g 29 (by decide) (by decide) (by decide) (by decide) (by decide) (by decide), g 30 (by decide) (by decide) (by decide) (by decide) (by decide) (by decide), g 31 (by decide) (by decide) (by decide) (by decide) (by decide) (by decide), g 32 (by decide) (by decide) (by decide) (by decide) (by decide) (by decide)]; exact h6
  · rw [g 34 (by decide) (by decide) (by decide) (by decide) (by decide) (by decide), g 35 (by decide) (by decide) (by decide) (by decide) (by decide) (by decide), g 36 (by decide) (by decide) (by decide) (by decide) (by decide) (by decide)]; exact h7
  · rw [g 0 (by decide) (by decide) (by decide) (by decide) (by decide) (by decide)]; exact h8
theorem c_reread1 {A : vA} (hA : WA A) {σ τ : vMem} (h : RC A σ) {n : Nat} {t : Nat → Int32} (hn : n ≤ 63) (f : ∀ a, a ≠ 3 → a ≠ 4 → τ.1 a = σ.1 a) (e1 : τ.1 3 1 = nI n) (e2 : ∀ k, k < n → τ.1 4 k = t k) : ∃ σ', fX7_reread 1 τ = some (nI n, σ') ∧ RC (aT1 A (n, t)) σ' := by
  obtain ⟨r, c, σ', a1, a2, a3, a4, a5, a6, a7, a8⟩ := c_readBaskets (t := t) hn e1 e2
  have hB : WA (aT1 A (n, t)) := hA.text1 hn
  obtain ⟨er, ec⟩ := RB_one (RB_ex t hn) a2
  have g : ∀ a, a ≠ 3 → a ≠ 4 → a ≠ 5 → a < 9 ∨ 12 < a → σ'.1 a = σ.1 a := fun a h1 h2 h5 h6 => (a3 a h5 h6).trans (f a h1 h2)
  have g5 : ∀ k, k ≠ 5 → k ≠ 6 → σ'.1 5 k = σ.1 5 k := fun k h0 h1 => (a5 k h0 h1).trans (by rw [f 5 (by decide) (by decide)])
  have k0 : σ.1 5 0 = nI (nfA A) := h.nf
  have k1 : σ.1 5 11 = ahu A := h.hw.1
  have k2 : σ.1 5 12 = nI (awe A) := h.hw.2
  have k3 : ∀ f, f < nfA A → σ.1 6 f = sortI (t0 A (4 * f)) ∧ σ.1 7 f = nI (t0 A (4 * f + 1) - 48).toNatClampNeg ∧ σ.1 8 f = t0 A (4 * f + 2) - 97 := (h.2.1.2.2 (fun _ => true) (fun _ => true)).2.1
  obtain ⟨h1, ⟨h2a, h2b, h2c⟩, h3, h4, h5, h6, h7, h8⟩ := h
  refine ⟨σ', ?_, ⟨?_, ⟨?_, ?_⟩⟩, ⟨?_, ?_, fun w s => ⟨⟨?_, ?_, ?_, ?_⟩, ?_, fun k hk => ?_⟩⟩, ?_, ?_, ?_, ?_, ?_, ?_⟩
  · unfold fX7_reread fX7_reread_29 fX7_textOf fX7_textOf_15
    rw [if_neg (by decide), a1]
    simp only [Option.bind, if_neg (show ¬ (1 : Int32) = 0 by decide), if_neg (show ¬ (3 : Nat) = 1 by decide), ↓reduceIte]
    rw [a3 3 (by decide) (by decide), e1]
  · rw [g 1 (by decide) (by decide) (by decide) (by decide), g 2 (by decide) (by decide) (by decide) (by decide)]; exact h1.1
  · rw [a3 3 (by decide) (by decide), e1]
  · intro k hk
    rw [a3 4 (by decide) (by decide)]
    exact e2 k hk
  · rw [g5 1 (by decide) (by decide)]; exact h2a
  · rw [a6]; exact er.symm
  · show _ = nI (nfA A)
    rw [g5 0 (by decide) (by decide)]; exact k0
  · show _ = nI (if (fB t n).1 = -1 then (fB t n).2 else 0)
    rw [a7, er, ec]
  · show _ = ahu A
    rw [g5 11 (by decide) (by decide)]; exact k1
  · show _ = nI (awe A)
    rw [g5 12 (by decide) (by decide)]; exact k2
  · intro k hk
    rw [g 6 (by decide) (by decide) (by decide) (by decide), g 7 (by decide) (by decide) (by decide) (by decide), g 8 (by decide) (by decide) (by decide) (by decide)]
    exact k3 k hk
  · obtain ⟨q1, q2, q3, q4, ⟨a, ha, ea⟩, d, hd, ed⟩ := bask_ok hB hk
    have q1 : (fB t n).1 = -1 := q1
    have q2 : nbA (aT1 A (n, t)) = (fB t n).2 := q2
    have hk : k < nbA (aT1 A (n, t)) := hk
    obtain ⟨x1, x2, x3, x4⟩ := a8 (er ▸ q1) k (by rw [← ec, ← q2]; exact hk)
    have ea : 10 * (t (st t n k) - 48) + (t (st t n k + 1) - 48) = nI a := ea
    have ed : 10 * (t (st t n k + 2) - 48) + (t (st t n k + 3) - 48) = nI d := ed
    refine ⟨?_, ?_, x3, x4⟩
    · show _ = nI (10 * (t (st t n k) - 48) + (t (st t n k + 1) - 48)).toNatClampNeg
      rw [x1, ea, nI_clamp (by omega)]
    · show _ = nI (10 * (t (st t n k + 2) - 48) + (t (st t n k + 3) - 48)).toNatClampNeg
      rw [x2, ed, nI_clamp (by omega)]
  · rw [g 13 (by decide) (by decide) (by decide) (by decide)]; exact h3
  · rw [g 25 (by decide) (by decide) (by decide) (by decide), g 26 (by decide) (by decide) (by decide) (by decide)]; exact h4
  · rw [g 27 (by decide) (by decide) (by decide) (by decide), g 28 (by decide) (by decide) (by decide) (by decide)]; exact h5
  · rw [g 29 (by decide) (by decide) (by decide) (by decide), g 30 (by decide) (by decide) (by decide) (by decide), g 31 (by decide) (by decide) (by decide) (by decide), g 32 (by decide) (by decide) (by decide) (by decide)]; exact h6
  · rw [g 34 (by decide) (by decide) (by decide) (by decide), g 35 (by decide) (by decide) (by decide) (by decide), g 36 (by decide) (by decide) (by decide) (by decide)]; exact h7
  · rw [g 0 (by decide) (by decide) (by decide) (by decide)]; exact h8
theorem RM.text0 {A : vA} {σ τ : vMem} (h : RM A σ) {x : Nat × (Nat → Int32)} (f : ∀ a, a ≠ 1 → a ≠ 2 → τ.1 a = σ.1 a) (e1 : HT τ 0 x.1 x.2) (e2 : HT τ 1 (n1 A) (t1 A)) : RM (aT0 A x) τ := by
  obtain ⟨h1, h2, h3, h4, h5, h6, h7⟩ := h
  refine ⟨⟨e1, e2⟩, ?_, ?_, ?_, ?_, ?_, ?_⟩
  · rw [f 0 (by decide) (by decide)]; exact h2
  · rw [f 0 (by decide) (by decide), f 10 (by decide) (by decide)]; exact h3
  · rw [f 0 (by decide) (by decide), f 11 (by decide) (by decide)]; exact h4
  · rw [f 0 (by decide) (by decide), f 27 (by decide) (by decide), f 28 (by decide) (by decide), f 29 (by decide) (by decide)]; exact h5
  · rw [f 31 (by decide) (by decide), f 32 (by decide) (by decide), f 33 (by decide) (by decide), f 34 (by decide) (by decide)]; exact h6
  · rw [f 0 (by decide) (by decide)]; exact h7
theorem RM.text1 {A : vA} {σ τ : vMem} (h : RM A σ) {x : Nat × (Nat → Int32)} (f : ∀ a, a ≠ 1 → a ≠ 2 → τ.1 a = σ.1 a) (e1 : HT τ 0 (n0 A) (t0 A)) (e2 : HT τ 1 x.1 x.2) : RM (aT1 A x) τ := by
  obtain ⟨h1, h2, h3, h4, h5, h6, h7⟩ := h
  refine ⟨⟨e1, e2⟩, ?_, ?_, ?_, ?_, ?_, ?_⟩
  · rw [f 0 (by decide) (by decide)]; exact h2
  · rw [f 0 (by decide) (by decide), f 10 (by decide) (by decide)]; exact h3
  · rw [f 0 (by decide) (by decide), f 11 (by decide) (by decide)]; exact h4
  · rw [f 0 (by decide) (by decide), f 27 (by decide) (by decide), f 28 (by decide) (by decide), f 29 (by decide) (by decide)]; exact h5
  · rw [f 31 (by decide) (by decide), f 32 (by decide) (by decide), f 33 (by decide) (by decide), f 34 (by decide) (by decide)]; exact h6
  · rw [f 0 (by decide) (by decide)]; exact h7
theorem nI_1' : (1 : Int32) = nI 1 := rfl
theorem q_wipe {A : vA} (hA : WA A) (x : Int32) : vJ A (fX7_wipe x) (fX8_wipe x) := by
  by_cases p : inR 2 x = true
  · rcases in2 p with rfl | rfl
    · refine ⟨nI (n0 A), aT0 A (0, t0 A), hA.text0 (Nat.zero_le _), fun σ h => ?_, fun σ h => ⟨vup σ 1 0 0, ?_, ?_⟩⟩
      · obtain ⟨σ', a1, a2⟩ := c_reread0 hA (τ := vup σ 1 1 0) (t := t0 A) h (Nat.zero_le _) (fun a h1 _ => vup_ne _ _ h1) (by simp [vup_rd]; rfl) (fun k hk => absurd hk (Nat.not_lt_zero _))
        refine ⟨σ', ?_, a2⟩
        unfold fX7_wipe fX7_wipe_28 fX7_textOf fX7_textOf_15_v1
        rw [c_isText, p]
        simp only [Option.bind, b2_0, Bool.true_eq_false, ↓reduceIte, a1, h.1.1.1]
      · unfold fX8_wipe fX8_wipe_24
        rw [m_isText, p]
        simp only [Option.bind, b2_0, Bool.true_eq_false, ↓reduceIte]
        rw [if_neg (by decide), if_neg (by decide)]
        exact congrArg (fun u => some (u, vup σ 1 0 0)) h.1.1.1
      · refine h.text0 (fun a h1 _ => vup_ne _ _ h1) ⟨by simp [vup_rd]; rfl, fun k hk => absurd hk (Nat.not_lt_zero _)⟩ ⟨?_, ?_⟩
        · simp only [vup_rd, ↓reduceIte]; exact h.1.2.1
        · rw [vup_ne _ _ (by decide)]; exact h.1.2.2
    · refine ⟨nI (n1 A), aT1 A (0, t1 A), hA.text1 (Nat.zero_le _), fun σ h => ?_, fun σ h => ⟨vup σ 1 1 0, ?_, ?_⟩⟩
      · obtain ⟨σ', a1, a2⟩ := c_reread1 hA (τ := vup σ 3 1 0) (t := t1 A) h (Nat.zero_le _) (fun a h1 _ => vup_ne _ _ h1) (by simp [vup_rd]; rfl) (fun k hk => absurd hk (Nat.not_lt_zero _))
        refine ⟨σ', ?_, a2⟩
        unfold fX7_wipe fX7_wipe_28 fX7_textOf fX7_textOf_15
        rw [c_isText, p]
        simp only [Option.bind, b2_0, Bool.true_eq_false, ↓reduceIte, if_neg (show ¬ (1 : Int32) = 0 by decide), if_neg (show ¬ (3 : Nat) = 1 by decide), a1, h.1.2.1]
      · unfold fX8_wipe fX8_wipe_24
        rw [m_isText, p]
        simp only [Option.bind, b2_0, Bool.true_eq_false, ↓reduceIte]
        rw [if_neg (by decide), if_neg (by decide)]
        exact congrArg (fun u => some (u, vup σ 1 1 0)) h.1.2.1
      · refine h.text1 (fun a h1 _ => vup_ne _ _ h1) ⟨?_, ?_⟩ ⟨by simp [vup_rd]; rfl, fun k hk => absurd hk (Nat.not_lt_zero _)⟩
        · simp only [vup_rd, ↓reduceIte]; exact h.1.1.1
        · rw [vup_ne _ _ (by decide)]; exact h.1.1.2
  · have p := inR_F p
    refine ⟨-2, A, hA, fun σ h => ⟨σ, ?_, h⟩, fun σ h => ⟨σ, ?_, h⟩⟩
    · unfold fX7_wipe
      rw [c_isText, p]
      rfl
    · unfold fX8_wipe
      rw [m_isText, p]
      rfl
theorem q_undo {A : vA} (hA : WA A) (x : Int32) : vJ A (fX7_undo x) (fX8_undo x) := by
  have h35 := hA.1
  have h63 := hA.2.1
  by_cases p : inR 2 x = true
  · rcases in2 p with rfl | rfl
    · by_cases z : n0 A = 0
      · have e0 : nI (n0 A) = 0 := by rw [z]; rfl
        refine ⟨-3, A, hA, fun σ h => ⟨σ, ?_, h⟩, fun σ h => ⟨σ, ?_, h⟩⟩
        · unfold fX7_undo fX7_textOf fX7_textOf_15_v1
          rw [c_isText, p]
          simp only [Option.bind, b2_0, Bool.true_eq_false, ↓reduceIte, h.1.1.1, e0]
        · have e1 : σ.1 1 (0 : Int32).toNatClampNeg = 0 := h.1.1.1.trans e0
          unfold fX8_undo
          rw [m_isText, p]
          simp only [Option.bind, b2_0, Bool.true_eq_false, ↓reduceIte, e1]
          rw [if_neg (by decide)]
      · have e0 : ¬ nI (n0 A) = 0 := nI_ne0 (by omega) (by omega)
        have em : nI (n0 A) - 1 = nI (n0 A - 1) := pk_sub (b := 1) (by omega)
        refine ⟨nI (n0 A - 1), aT0 A (n0 A - 1, t0 A), hA.text0 (by show n0 A - 1 ≤ 35; omega), fun σ h => ?_, fun σ h => ⟨vup σ 1 0 (nI (n0 A - 1)), ?_, ?_⟩⟩
        · obtain ⟨σ', a1, a2⟩ := c_reread0 hA (τ := vup σ 1 1 (nI (n0 A - 1))) (t := t0 A) h (n := n0 A - 1) (by omega) (fun a h1 _ => vup_ne _ _ h1) (by simp [vup_rd]) (fun k hk => by rw [vup_ne _ _ (by decide)]; exact h.1.1.2 k (by omega))
          refine ⟨σ', ?_, a2⟩
          unfold fX7_undo fX7_undo_38 fX7_textOf fX7_textOf_15_v1
          rw [c_isText, p]
          simp only [Option.bind, b2_0, Bool.true_eq_false, ↓reduceIte, h.1.1.1, e0, em, a1]
        · have e1 : σ.1 1 (0 : Int32).toNatClampNeg = nI (n0 A) := h.1.1.1
          unfold fX8_undo fX8_undo_32
          rw [m_isText, p]
          simp only [Option.bind, b2_0, Bool.true_eq_false, ↓reduceIte, e1, e0, em]
          rw [if_neg (by decide), if_neg (by decide), if_neg (by decide), if_neg (by decide)]
          refine congrArg (fun u => some (u, vup σ 1 0 (nI (n0 A - 1)))) ?_
          show (vup σ 1 0 (nI (n0 A - 1))).1 1 0 = _
          simp [vup_rd]
        · refine h.text0 (fun a h1 _ => vup_ne _ _ h1) ⟨by simp [vup_rd], fun k hk => ?_⟩ ⟨?_, ?_⟩
          · rw [vup_ne _ _ (by decide)]; exact h.1.1.2 k (by have : k < n0 A - 1 := hk; omega)
          · simp only [vup_rd, ↓reduceIte]; exact h.1.2.1
          · rw [vup_ne _ _ (by decide)]; exact h.1.2.2
    · by_cases z : n1 A = 0
      · have e0 : nI (n1 A) = 0 := by rw [z]; rfl
        refine ⟨-3, A, hA, fun σ h => ⟨σ, ?_, h⟩, fun σ h => ⟨σ, ?_, h⟩⟩
        · unfold fX7_undo fX7_textOf fX7_textOf_15
          rw [c_isText, p]
          simp only [Option.bind, b2_0, Bool.true_eq_false, ↓reduceIte, if_neg (show ¬ (1 : Int32) = 0 by decide), if_neg (show ¬ (3 : Nat) = 1 by decide), h.1.2.1, e0]
        · have e1 : σ.1 1 (1 : Int32).toNatClampNeg = 0 := h.1.2.1.trans e0
          unfold fX8_undo
          rw [m_isText, p]
          simp only [Option.bind, b2_0, Bool.true_eq_false, ↓reduceIte, e1]
          rw [if_neg (by decide)]
      · have e0 : ¬ nI (n1 A) = 0 := nI_ne0 (by omega) (by omega)
        have em : nI (n1 A) - 1 = nI (n1 A - 1) := pk_sub (b := 1) (by omega)
        refine ⟨nI (n1 A - 1), aT1 A (n1 A - 1, t1 A), hA.text1 (by show n1 A - 1 ≤ 63; omega), fun σ h => ?_, fun σ h => ⟨vup σ 1 1 (nI (n1 A - 1)), ?_, ?_⟩⟩
        · obtain ⟨σ', a1, a2⟩ := c_reread1 hA (τ := vup σ 3 1 (nI (n1 A - 1))) (t := t1 A) h (n := n1 A - 1) (by omega) (fun a h1 _ => vup_ne _ _ h1) (by simp [vup_rd]) (fun k hk => by rw [vup_ne _ _ (by decide)]; exact h.1.2.2 k (by omega))
          refine ⟨σ', ?_, a2⟩
          unfold fX7_undo fX7_undo_38 fX7_textOf fX7_textOf_15
          rw [c_isText, p]
          simp only [Option.bind, b2_0, Bool.true_eq_false, ↓reduceIte, if_neg (show ¬ (1 : Int32) = 0 by decide), if_neg (show ¬ (3 : Nat) = 1 by decide), h.1.2.1, e0, em, a1]
        · have e1 : σ.1 1 (1 : Int32).toNatClampNeg = nI (n1 A) := h.1.2.1
          unfold fX8_undo fX8_undo_32
          rw [m_isText, p]
          simp only [Option.bind, b2_0, Bool.true_eq_false, ↓reduceIte, e1, e0, em]
          rw [if_neg (by decide), if_neg (by decide), if_neg (by decide), if_neg (by decide)]
          refine congrArg (fun u => some (u, vup σ 1 1 (nI (n1 A - 1)))) ?_
          show (vup σ 1 1 (nI (n1 A - 1))).1 1 1 = _
          simp [vup_rd]
        · refine h.text1 (fun a h1 _ => vup_ne _ _ h1) ⟨?_, ?_⟩ ⟨by simp [vup_rd], fun k hk => ?_⟩
          · simp only [vup_rd, ↓reduceIte]; exact h.1.1.1
          · rw [vup_ne _ _ (by decide)]; exact h.1.1.2
          · rw [vup_ne _ _ (by decide)]; exact h.1.2.2 k (by have : k < n1 A - 1 := hk; omega)
  · have p := inR_F p
    refine ⟨-2, A, hA, fun σ h => ⟨σ, ?_, h⟩, fun σ h => ⟨σ, ?_, h⟩⟩
    · unfold fX7_undo
      rw [c_isText, p]
      rfl
    · unfold fX8_undo
      rw [m_isText, p]
      rfl
theorem m_in255 (x : Int32) (σ : vMem) : fX8_in x 0 255 σ = some (b2 (inR 256 x), σ) := m_inR (n := 256) (by decide) x σ
theorem q_type {A : vA} (hA : WA A) (x y : Int32) : vJ A (fX7_type x y) (fX8_type x y) := by
  have h35 := hA.1
  have h63 := hA.2.1
  by_cases p : inR 2 x = true
  · by_cases q : inR 256 y = true
    · have y0 : ¬ y < 0 := by
        obtain ⟨k, hk, rfl⟩ := inR_ex (by omega) q
        exact nI_pos (by omega)
      have y1 : y ≤ 255 := by
        obtain ⟨k, hk, rfl⟩ := inR_ex (by omega) q
        exact (nI_leI (b := 255) (by omega) (by decide)).mpr (by omega)
      rcases in2 p with rfl | rfl
      · by_cases z : n0 A < 35
        · have l1 : nI (n0 A) < 35 := (nI_ltI (b := 35) (by omega) (by decide)).mpr z
          have l2 : ¬ nI (n0 A) = 35 := fun w => by have := (nI_eq (b := 35) (by omega) (by decide)).mp w; omega
          refine ⟨nI (n0 A + 1), aT0 A (n0 A + 1, va_up (t0 A) (n0 A) y), hA.text0 (by show n0 A + 1 ≤ 35; omega), fun σ h => ?_, fun σ h => ⟨vup (vup σ 2 (n0 A) y) 1 0 (nI (n0 A + 1)), ?_, ?_⟩⟩
          · obtain ⟨σ', a1, a2⟩ := c_reread0 hA (τ := vup (vup σ 2 (n0 A) y) 1 1 (nI (n0 A + 1))) (t := va_up (t0 A) (n0 A) y) h (n := n0 A + 1) (by omega) (fun a h1 h2 => by rw [vup_ne _ _ h1, vup_ne _ _ h2]) (by simp [vup_rd]) (fun k hk => by
              simp only [vup_rd, va_up, Nat.reduceEqDiff, ↓reduceIte]
              split
              · rfl
              · exact h.1.1.2 k (by omega))
            refine ⟨σ', ?_, a2⟩
            unfold fX7_type fX7_textOf fX7_textOf_15_v1 fX4_append_1 fX4_append_1_31 fX4_append_1_41
            rw [c_isText, p]
            simp only [Option.bind, b2_0, Bool.true_eq_false, ↓reduceIte, y0, y1, h.1.1.1, nI_lt0 (show n0 A < 2 ^ 31 by omega), l1, nI_clamp (show n0 A < 2 ^ 31 by omega), false_or, show (35 ≤ n0 A) = False from eq_false (by omega), vup_rd, Nat.reduceEqDiff, nI_1, if_neg (show ¬ (1 : Int32) = 0 by decide), a1]
          · have e1 : σ.1 1 (0 : Int32).toNatClampNeg = nI (n0 A) := h.1.1.1
            have e2 : (63 : Int32) * 0 + nI (n0 A) = nI (n0 A) := by rw [show (63 : Int32) * 0 = 0 by decide, Int32.zero_add]
            unfold fX8_type fX8_type_38 fX8_type_61 fX8_type_71
            rw [m_isText, p]
            simp only [Option.bind, b2_0, Bool.true_eq_false, ↓reduceIte]
            rw [m_in255, q]
            simp only [b2_0, Bool.true_eq_false, ↓reduceIte, e1, l2, e2, nI_clamp (show n0 A < 2 ^ 31 by omega), ixF (show n0 A < 126 by omega) (by decide)]
            rw [if_neg (by decide), if_neg (by decide), if_neg (by decide), if_neg (by decide), if_neg (by decide)]
            have e3 : (vup σ 2 (n0 A) y).1 1 (0 : Int32).toNatClampNeg + 1 = nI (n0 A + 1) := by
              rw [vup_ne _ _ (by decide), e1, nI_1]
            rw [e3]
            refine congrArg (fun u => some (u, vup (vup σ 2 (n0 A) y) 1 0 (nI (n0 A + 1)))) ?_
            show (vup (vup σ 2 (n0 A) y) 1 0 (nI (n0 A + 1))).1 1 0 = _
            simp [vup_rd]
          · refine h.text0 (fun a h1 h2 => by rw [vup_ne _ _ h1, vup_ne _ _ h2]) ⟨by simp [vup_rd], fun k hk => ?_⟩ ⟨?_, fun k hk => ?_⟩
            · have hk : k < n0 A + 1 := hk
              simp only [vup_rd, va_up, Nat.reduceEqDiff, ↓reduceIte, Nat.mul_zero, Nat.zero_add]
              split
              · rfl
              · have := h.1.1.2 k (by omega)
                simpa using this
            · simp only [vup_rd, Nat.reduceEqDiff, ↓reduceIte]; exact h.1.2.1
            · simp only [vup_rd, Nat.reduceEqDiff, ↓reduceIte]
              rw [if_neg (by omega)]
              exact h.1.2.2 k hk
        · have z : n0 A = 35 := by omega
          have l1 : ¬ nI (n0 A) < 35 := by rw [z]; decide
          have l2 : nI (n0 A) = 35 := by rw [z]; rfl
          refine ⟨-4, A, hA, fun σ h => ⟨σ, ?_, h⟩, fun σ h => ⟨σ, ?_, h⟩⟩
          · unfold fX7_type fX7_textOf fX7_textOf_15_v1 fX4_append_1 fX4_append_1_19
            rw [c_isText, p]
            simp only [Option.bind, b2_0, Bool.true_eq_false, ↓reduceIte, y0, y1, h.1.1.1, nI_lt0 (show n0 A < 2 ^ 31 by omega), l1]
          · have e1 : σ.1 1 (0 : Int32).toNatClampNeg = 35 := h.1.1.1.trans l2
            unfold fX8_type fX8_type_38
            rw [m_isText, p]
            simp only [Option.bind, b2_0, Bool.true_eq_false, ↓reduceIte]
            rw [m_in255, q]
            simp only [b2_0, Bool.true_eq_false, ↓reduceIte, e1]
            rw [if_neg (by decide)]
      · by_cases z : n1 A < 63
        · have l1 : nI (n1 A) < 63 := (nI_ltI (b := 63) (by omega) (by decide)).mpr z
          have l2 : ¬ nI (n1 A) = 63 := fun w => by have := (nI_eq (b := 63) (by omega) (by decide)).mp w; omega
          refine ⟨nI (n1 A + 1), aT1 A (n1 A + 1, va_up (t1 A) (n1 A) y), hA.text1 (by show n1 A + 1 ≤ 63; omega), fun σ h => ?_, fun σ h => ⟨vup (vup σ 2 (63 + n1 A) y) 1 1 (nI (n1 A + 1)), ?_, ?_⟩⟩
          · obtain ⟨σ', a1, a2⟩ := c_reread1 hA (τ := vup (vup σ 4 (n1 A) y) 3 1 (nI (n1 A + 1))) (t := va_up (t1 A) (n1 A) y) h (n := n1 A + 1) (by omega) (fun a h1 h2 => by rw [vup_ne _ _ h1, vup_ne _ _ h2]) (by simp [vup_rd]) (fun k hk => by
              simp only [vup_rd, va_up, Nat.reduceEqDiff, ↓reduceIte]
              split
              · rfl
              · exact h.1.2.2 k (by omega))
            refine ⟨σ', ?_, a2⟩
            unfold fX7_type fX7_textOf fX7_textOf_15 fX4_append_3 fX4_append_3_31 fX4_append_3_41
            rw [c_isText, p]
            simp only [Option.bind, b2_0, Bool.true_eq_false, ↓reduceIte, y0, y1, if_neg (show ¬ (1 : Int32) = 0 by decide), if_neg (show ¬ (3 : Nat) = 1 by decide), h.1.2.1, nI_lt0 (show n1 A < 2 ^ 31 by omega), l1, nI_clamp (show n1 A < 2 ^ 31 by omega), false_or, show (63 ≤ n1 A) = False from eq_false (by omega), vup_rd, Nat.reduceEqDiff, nI_1, a1]
          · have e1 : σ.1 1 (1 : Int32).toNatClampNeg = nI (n1 A) := h.1.2.1
            have e2 : (63 : Int32) * 1 + nI (n1 A) = nI (63 + n1 A) := by rw [show (63 : Int32) * 1 = nI 63 by decide, nI_add]
            unfold fX8_type fX8_type_38 fX8_type_61 fX8_type_71
            rw [m_isText, p]
            simp only [Option.bind, b2_0, Bool.true_eq_false, ↓reduceIte]
            rw [m_in255, q]
            simp only [b2_0, Bool.true_eq_false, ↓reduceIte, if_neg (show ¬ (1 : Int32) = 0 by decide), e1, l2, e2, nI_clamp (show 63 + n1 A < 2 ^ 31 by omega), ixF (show 63 + n1 A < 126 by omega) (by decide)]
            rw [if_neg (by decide), if_neg (by decide), if_neg (by decide), if_neg (by decide), if_neg (by decide)]
            have e3 : (vup σ 2 (63 + n1 A) y).1 1 (1 : Int32).toNatClampNeg + 1 = nI (n1 A + 1) := by
              rw [vup_ne _ _ (by decide), e1, nI_1]
            rw [e3]
            refine congrArg (fun u => some (u, vup (vup σ 2 (63 + n1 A) y) 1 1 (nI (n1 A + 1)))) ?_
            show (vup (vup σ 2 (63 + n1 A) y) 1 1 (nI (n1 A + 1))).1 1 1 = _
            simp [vup_rd]
          · refine h.text1 (fun a h1 h2 => by rw [vup_ne _ _ h1, vup_ne _ _ h2]) ⟨?_, fun k hk => ?_⟩ ⟨by simp [vup_rd], fun k hk => ?_⟩
            · simp only [vup_rd, Nat.reduceEqDiff, ↓reduceIte]; exact h.1.1.1
            · simp only [vup_rd, Nat.reduceEqDiff, ↓reduceIte]
              rw [if_neg (by omega)]
              exact h.1.1.2 k hk
            · have hk : k < n1 A + 1 := hk
              simp only [vup_rd, va_up, Nat.reduceEqDiff, ↓reduceIte, Nat.mul_one]
              by_cases v : k = n1 A
              · rw [if_pos (by omega), if_pos v]
              · rw [if_neg (by omega), if_neg v]
                exact h.1.2.2 k (by omega)
        · have z : n1 A = 63 := by omega
          have l1 : ¬ nI (n1 A) < 63 := by rw [z]; decide
          have l2 : nI (n1 A) = 63 := by rw [z]; rfl
          refine ⟨-4, A, hA, fun σ h => ⟨σ, ?_, h⟩, fun σ h => ⟨σ, ?_, h⟩⟩
          · unfold fX7_type fX7_textOf fX7_textOf_15 fX4_append_3 fX4_append_3_19
            rw [c_isText, p]
            simp only [Option.bind, b2_0, Bool.true_eq_false, ↓reduceIte, y0, y1, if_neg (show ¬ (1 : Int32) = 0 by decide), if_neg (show ¬ (3 : Nat) = 1 by decide), h.1.2.1, nI_lt0 (show n1 A < 2 ^ 31 by omega), l1]
          · have e1 : σ.1 1 (1 : Int32).toNatClampNeg = 63 := h.1.2.1.trans l2
            unfold fX8_type fX8_type_38
            rw [m_isText, p]
            simp only [Option.bind, b2_0, Bool.true_eq_false, ↓reduceIte]
            rw [m_in255, q]
            simp only [b2_0, Bool.true_eq_false, ↓reduceIte, if_neg (show ¬ (1 : Int32) = 0 by decide), e1]
            rw [if_neg (by decide)]
    · have q := inR_F q
      refine ⟨-2, A, hA, fun σ h => ⟨σ, ?_, h⟩, fun σ h => ⟨σ, ?_, h⟩⟩
      · unfold fX7_type fX7_type_18
        rw [c_isText, p]
        simp only [Option.bind, b2_0, Bool.true_eq_false, ↓reduceIte]
        rcases inR_F2 q with z1 | ⟨z1, z2⟩
        · rw [if_pos z1]
        · rw [if_neg z1, if_neg (show ¬ y ≤ (255 : Int32) from inR_le (n := 255) (by omega) z2)]
      · unfold fX8_type
        rw [m_isText, p]
        simp only [Option.bind, b2_0, Bool.true_eq_false, ↓reduceIte]
        rw [m_in255, q]
        rfl
  · have p := inR_F p
    refine ⟨-2, A, hA, fun σ h => ⟨σ, ?_, h⟩, fun σ h => ⟨σ, ?_, h⟩⟩
    · unfold fX7_type
      rw [c_isText, p]
      rfl
    · unfold fX8_type
      rw [m_isText, p]
      rfl
