/-! back, set, forget, seen -/
theorem m_in7 (x : Int32) (σ : vMem) : fX8_in x 0 7 σ = some (b2 (inR 8 x), σ) := m_inR (n := 8) (by decide) x σ
theorem m_in8 (x : Int32) (σ : vMem) : fX8_in x 0 8 σ = some (b2 (inR 9 x), σ) := m_inR (n := 9) (by decide) x σ
theorem q_back {A : vA} (hA : WA A) (x : Int32) : vJ A (fX7_back x) (fX8_back x) := by
  have h6 := hA.2.2.2.1.1
  have s6 := hA.2.2.2.2.1.1
  by_cases q : inR 2 x = true
  · rcases in2 q with rfl | rfl
    · by_cases z : awn A = 0
      · refine ⟨-3, A, hA, fun σ h => ⟨σ, ?_, h⟩, fun σ h => ⟨σ, ?_, h⟩⟩
        · have e := h.2.2.2.1.1
          rw [z] at e
          unfold fX7_back fX7_back_12 fX7_back_27_v1
          simp only [e, ↓reduceIte]
          rfl
        · have e := h.2.2.1.1
          rw [z] at e
          unfold fX8_back fX8_back_27
          rw [m_in1, q]
          simp only [Option.bind, b2_0, Bool.true_eq_false, e, ↓reduceIte]
          rfl
      · refine ⟨nI (awn A - 1), aW A (awn A - 1, awh A), hA.winds (by show awn A - 1 ≤ 6; omega) (fun k hk => hA.2.2.2.1.2 k (by have hk : k < awn A - 1 := hk; omega)), fun σ h => ?_, fun σ h => ?_⟩
        · obtain ⟨e, e2⟩ := h.2.2.2.1
          have nz : ¬ nI (awn A) = 0 := fun w => z ((nI_eq0 (by omega)).mp w)
          refine ⟨vup σ 25 1 (nI (awn A - 1)), ?_, h.winds (fun a h1 h2 => vup_ne _ _ h1) (by simp [vup_rd]) (fun k hk => ?_)⟩
          · unfold fX7_back fX7_back_12 fX7_back_27_v1 fX7_back_48_v1
            simp only [e, nz, ↓reduceIte, vup_rd, pk_sub (a := awn A) (b := 1) (by omega), show (1 : Int32) = nI 1 from rfl]
          · rw [vup_ne _ _ (by decide)]
            exact e2 k (by have hk : k < awn A - 1 := hk; omega)
        · obtain ⟨e, e2⟩ := h.2.2.1
          have nz : ¬ nI (awn A) = 0 := fun w => z ((nI_eq0 (by omega)).mp w)
          refine ⟨vup (vup σ 0 13 (nI (awn A - 1))) 0 15 (σ.1 0 15), ?_, h.winds (fun a h1 h2 => by rw [vup_ne _ _ (by omega), vup_ne _ _ (by omega)]) (fun k hk => ?_) (by simp [vup_rd]) (fun k hk => ?_)⟩
          · unfold fX8_back fX8_back_27
            rw [m_in1, q]
            unfold fX8_back_49 fX8_back_53 fX8_back_68 fX8_back_72
            simp only [Option.bind, b2_0, Bool.true_eq_false, e, nz, ↓reduceIte, show ¬ (0 : Int32) = 1 by decide, vup_rd, Nat.reduceEqDiff, show (1 : Int32) = nI 1 from rfl, pk_sub (a := awn A) (b := 1) (by omega), Int32.sub_zero]
            rw [if_neg (show ¬ (0 : Int32) = nI 1 by decide)]
          · simp only [vup_rd, hk, ↓reduceIte]
            split
            · rename_i w; rw [w]
            · rfl
          · rw [vup_ne _ _ (by decide), vup_ne _ _ (by decide)]
            exact e2 k (by have hk : k < awn A - 1 := hk; omega)
    · by_cases z : asn A = 0
      · refine ⟨-3, A, hA, fun σ h => ⟨σ, ?_, h⟩, fun σ h => ⟨σ, ?_, h⟩⟩
        · have e := h.2.2.2.2.1.1
          rw [z] at e
          unfold fX7_back fX7_back_12 fX7_back_27
          simp only [e, ↓reduceIte]
          rfl
        · have e := h.2.2.2.1.1
          rw [z] at e
          unfold fX8_back fX8_back_27
          rw [m_in1, q]
          simp only [Option.bind, b2_0, Bool.true_eq_false, e, ↓reduceIte]
          rfl
      · refine ⟨nI (asn A - 1), aS A (asn A - 1, ash A), hA.sundays (by show asn A - 1 ≤ 6; omega) (fun k hk => hA.2.2.2.2.1.2 k (by have hk : k < asn A - 1 := hk; omega)), fun σ h => ?_, fun σ h => ?_⟩
        · obtain ⟨e, e2⟩ := h.2.2.2.2.1
          have nz : ¬ nI (asn A) = 0 := fun w => z ((nI_eq0 (by omega)).mp w)
          refine ⟨vup σ 27 1 (nI (asn A - 1)), ?_, h.sundays (fun a h1 h2 => vup_ne _ _ h1) (by simp [vup_rd]) (fun k hk => ?_)⟩
          · unfold fX7_back fX7_back_12 fX7_back_27 fX7_back_48
            simp only [e, nz, ↓reduceIte, vup_rd, show ¬ (1 : Int32) = 0 by decide, pk_sub (a := asn A) (b := 1) (by omega), show (1 : Int32) = nI 1 from rfl, show ¬ nI 1 = 0 by decide]
          · rw [vup_ne _ _ (by decide)]
            exact e2 k (by have hk : k < asn A - 1 := hk; omega)
        · obtain ⟨e, e2⟩ := h.2.2.2.1
          have nz : ¬ nI (asn A) = 0 := fun w => z ((nI_eq0 (by omega)).mp w)
          refine ⟨vup (vup σ 0 13 (σ.1 0 13)) 0 15 (nI (asn A - 1)), ?_, h.sundays (fun a h1 h2 => by rw [vup_ne _ _ (by omega), vup_ne _ _ (by omega)]) (fun k hk => ?_) (by simp [vup_rd]) (fun k hk => ?_)⟩
          · unfold fX8_back fX8_back_27
            rw [m_in1, q]
            unfold fX8_back_49 fX8_back_53 fX8_back_68 fX8_back_72
            simp only [Option.bind, b2_0, Bool.true_eq_false, e, nz, ↓reduceIte, show ¬ (1 : Int32) = 0 by decide, vup_rd, Nat.reduceEqDiff, Int32.sub_zero]
            rw [show (1 : Int32) = nI 1 from rfl, pk_sub (a := asn A) (b := 1) (by omega)]
          · simp only [vup_rd, hk, ↓reduceIte]
            split
            · rename_i w; rw [w]
            · rfl
          · rw [vup_ne _ _ (by decide), vup_ne _ _ (by decide)]
            exact e2 k (by have hk : k < asn A - 1 := hk; omega)
  · have q := inR_F q
    obtain ⟨q0, q1⟩ := in2F q
    refine ⟨-2, A, hA, fun σ h => ⟨σ, ?_, h⟩, fun σ h => ⟨σ, ?_, h⟩⟩
    · unfold fX7_back
      simp only [q0, q1, ↓reduceIte]
    · unfold fX8_back
      rw [m_in1, q]
      rfl
theorem q_forget {A : vA} (hA : WA A) : vJ A fX7_forget fX8_forget := by
  refine ⟨nI (aen A), aE A (0, aet A), ⟨hA.1, hA.2.1, hA.2.2.1, hA.2.2.2.1, hA.2.2.2.2.1, ⟨Nat.zero_le _, fun k hk => absurd hk (Nat.not_lt_zero _)⟩, hA.2.2.2.2.2.2⟩, fun σ h => ⟨vup σ 29 3 0, ?_, ?_⟩, fun σ h => ⟨vup σ 0 37 0, ?_, ?_⟩⟩
  · unfold fX7_forget fX7_forget_16
    rw [h.2.2.2.2.2.1.1]
  · exact h.seen (fun a h1 _ _ _ => vup_ne _ _ h1) (by simp [vup_rd]; rfl) (fun k hk => absurd hk (Nat.not_lt_zero _))
  · unfold fX8_forget fX8_forget_10
    rw [h.2.2.2.2.1.1]
  · exact h.seen (fun a h1 _ _ _ => vup_ne _ _ h1) (fun k hk => by simp [vup_rd, hk]) (by simp [vup_rd]; rfl) (fun k hk => absurd hk (Nat.not_lt_zero _))
theorem WA.set {A : vA} (h : WA A) {x : Int32 × Nat} (h1 : 1 ≤ x.2) (h2 : x.2 ≤ 9) : WA (aH A x) := ⟨h.1, h.2.1, ⟨h1, h2⟩, h.2.2.2⟩
theorem RC.hw {A : vA} {σ : vMem} (h : RC A σ) : σ.1 5 11 = ahu A ∧ σ.1 5 12 = nI (awe A) := (h.2.1.2.2 (fun _ => true) (fun _ => true)).1.2.2
theorem i32_le9 {y : Int32} (h : ¬ (9 : Int32) < y) (h1 : ¬ y < 1) : ∃ k, k ≤ 9 ∧ 1 ≤ k ∧ y = nI k := by
  have h0 : ¬ y < 0 := fun q => h1 (Int32.lt_trans q (by decide))
  obtain ⟨k, hk, rfl⟩ := nI_of h0
  exact ⟨k, Nat.le_of_not_lt (fun w => h ((nI_ltI (a := 9) (by decide) hk).mpr w)), Nat.le_of_not_lt (fun w => h1 ((nI_ltI (b := 1) hk (by decide)).mpr w)), rfl⟩
theorem q_set {A : vA} (hA : WA A) (x y : Int32) : vJ A (fX7_set x y) (fX8_set x y) := by
  by_cases q : inR 2 x = true
  · rcases in2 q with rfl | rfl
    · by_cases z : ¬ y < 0 ∧ ¬ (9 : Int32) < y
      · refine ⟨ahu A, aH A (y, awe A), hA.set hA.2.2.1.1 hA.2.2.1.2, fun σ h => ⟨vup σ 5 11 y, ?_, ?_⟩, fun σ h => ⟨vup (vup σ 0 11 y) 0 12 (σ.1 0 12), ?_, ?_⟩⟩
        · unfold fX7_set fX7_set_30
          rw [if_pos rfl, if_neg z.1, if_neg z.2, h.hw.1]
        · exact h.set (fun a h1 => vup_ne _ _ h1) (fun k h1 h2 => by simp [vup_rd, h1]) (by simp [vup_rd]) (by simp [vup_rd]; exact h.hw.2)
        · unfold fX8_set
          rw [m_in1, q]
          simp only [Option.bind, b2_0, Bool.true_eq_false, ↓reduceIte]
          rw [m_in]
          simp only [z.1, z.2, not_false_eq_true, and_self, decide_true, b2_0, Bool.true_eq_false, ↓reduceIte]
          unfold fX8_set_37 fX8_set_51 fX8_set_54 fX8_set_68 fX8_set_71
          simp only [↓reduceIte, show ¬ (0 : Int32) = 1 by decide, h.2.1.1, vup_rd, Nat.reduceEqDiff]
        · refine h.set (fun a h1 => by rw [vup_ne _ _ h1, vup_ne _ _ h1]) (fun k h1 h2 => by simp [vup_rd, h1, h2]) (by simp [vup_rd]) (by simp [vup_rd]; exact h.2.1.2)
      · refine ⟨-2, A, hA, fun σ h => ⟨σ, ?_, h⟩, fun σ h => ⟨σ, ?_, h⟩⟩
        · unfold fX7_set fX7_set_32 fX7_set_66
          simp only [↓reduceIte, show ¬ (0 : Int32) = 1 by decide]
          by_cases z1 : y < 0
          · simp only [z1, ↓reduceIte]
          · have : (9 : Int32) < y := Decidable.byContradiction (fun w => z ⟨z1, w⟩)
            simp only [z1, this, ↓reduceIte]
        · unfold fX8_set
          rw [m_in1, q]
          simp only [Option.bind, b2_0, Bool.true_eq_false, ↓reduceIte]
          rw [m_in, decide_eq_false z]
          rfl
    · by_cases z : ¬ y < 1 ∧ ¬ (9 : Int32) < y
      · obtain ⟨k, hk9, hk1, rfl⟩ := i32_le9 z.2 z.1
        refine ⟨nI (awe A), aH A (ahu A, k), hA.set hk1 hk9, fun σ h => ⟨vup σ 5 12 (nI k), ?_, ?_⟩, fun σ h => ⟨vup (vup σ 0 11 (σ.1 0 11)) 0 12 (nI k), ?_, ?_⟩⟩
        · unfold fX7_set fX7_set_32 fX7_set_64
          rw [if_neg (by decide), if_pos rfl, if_neg z.1, if_neg z.2, h.hw.2]
        · exact h.set (fun a h1 => vup_ne _ _ h1) (fun k h1 h2 => by simp [vup_rd, h2]) (by simp [vup_rd]; exact h.hw.1) (by simp [vup_rd])
        · unfold fX8_set
          rw [m_in1, q]
          simp only [Option.bind, b2_0, Bool.true_eq_false, ↓reduceIte]
          rw [m_in]
          simp only [z.1, z.2, not_false_eq_true, and_self, decide_true, b2_0, Bool.true_eq_false, ↓reduceIte]
          unfold fX8_set_37 fX8_set_51 fX8_set_54 fX8_set_68 fX8_set_71
          simp only [↓reduceIte, show ¬ (1 : Int32) = 0 by decide, h.2.1.2]
        · refine h.set (fun a h1 => by rw [vup_ne _ _ h1, vup_ne _ _ h1]) (fun k h1 h2 => by simp [vup_rd, h1, h2]) (by simp [vup_rd]; exact h.2.1.1) (by simp [vup_rd])
      · refine ⟨-2, A, hA, fun σ h => ⟨σ, ?_, h⟩, fun σ h => ⟨σ, ?_, h⟩⟩
        · unfold fX7_set fX7_set_32 fX7_set_66
          simp only [↓reduceIte, show ¬ (1 : Int32) = 0 by decide]
          by_cases z1 : y < 1
          · simp only [z1, ↓reduceIte]
          · have : (9 : Int32) < y := Decidable.byContradiction (fun w => z ⟨z1, w⟩)
            simp only [z1, this, ↓reduceIte]
        · unfold fX8_set
          rw [m_in1, q]
          simp only [Option.bind, b2_0, Bool.true_eq_false, ↓reduceIte]
          rw [m_in, decide_eq_false z]
          rfl
  · have q := inR_F q
    obtain ⟨q0, q1⟩ := in2F q
    refine ⟨-2, A, hA, fun σ h => ⟨σ, ?_, h⟩, fun σ h => ⟨σ, ?_, h⟩⟩
    · unfold fX7_set fX7_set_32 fX7_set_66
      simp only [q0, q1, ↓reduceIte]
    · unfold fX8_set
      rw [m_in1, q]
      rfl
theorem q_seen {A : vA} (hA : WA A) (x y z : Int32) : vJ A (fX7_seen x y z) (fX8_seen x y z) := by
  have h8 := hA.2.2.2.2.2.1.1
  by_cases q : inR 8 x = true ∧ inR 12 y = true ∧ inR 9 z = true
  · obtain ⟨b, hb, rfl⟩ := inR_ex (by omega) q.1
    obtain ⟨i, hi, rfl⟩ := inR_ex (by omega) q.2.1
    obtain ⟨l, hl, rfl⟩ := inR_ex (by omega) q.2.2
    have cb : ¬ (8 : Int32) ≤ nI b := fun w => by have := (nI_leI (a := 8) (by decide) (by omega)).mp w; omega
    have ci : ¬ (12 : Int32) ≤ nI i := fun w => by have := (nI_leI (a := 12) (by decide) (by omega)).mp w; omega
    have cl : nI l ≤ (8 : Int32) := (nI_leI (b := 8) (by omega) (by decide)).mpr (by omega)
    have cl8 : (nI l = 8) = (l = 8) := propext (nI_eq (b := 8) (by omega) (by decide))
    by_cases e8 : aen A = 8
    · refine ⟨-4, A, hA, fun σ h => ⟨σ, ?_, h⟩, fun σ h => ⟨σ, ?_, h⟩⟩
      · have e := h.2.2.2.2.2.1.1
        rw [e8] at e
        unfold fX7_seen fX7_seen_58 fX3_add fX3_add_16
        simp only [nI_lt0 (show b < 2 ^ 31 by omega), nI_lt0 (show i < 2 ^ 31 by omega), nI_lt0 (show l < 2 ^ 31 by omega), cb, ci, cl, ↓reduceIte, e, nI_lt0 (show 8 < 2 ^ 31 by omega), show ¬ nI 8 < 8 by decide, Option.bind]
      · have e := h.2.2.2.2.1.1
        rw [e8] at e
        unfold fX8_seen
        rw [m_in7, q.1]
        simp only [Option.bind, b2_0, Bool.true_eq_false, ↓reduceIte]
        rw [m_in11, q.2.1]
        simp only [b2_0, Bool.true_eq_false, ↓reduceIte]
        rw [m_in8, q.2.2]
        simp only [b2_0, Bool.true_eq_false, ↓reduceIte, e, show nI 8 = 8 by decide]
    · have z8 : aen A < 8 := by omega
      refine ⟨nI (aen A + 1), aE A (aen A + 1, va_up (aet A) (aen A) (b, i, l)), ⟨hA.1, hA.2.1, hA.2.2.1, hA.2.2.2.1, hA.2.2.2.2.1, ⟨by show aen A + 1 ≤ 8; omega, fun k hk => ?_⟩, hA.2.2.2.2.2.2⟩, fun σ h => ⟨vup (vup (vup (vup σ 30 (aen A) (nI b)) 31 (aen A) (nI i)) 32 (aen A) (if l = 8 then -1 else nI l)) 29 3 (nI (aen A + 1)), ?_, ?_⟩, fun σ h => ⟨vup (vup (vup (vup σ 27 (aen A) (nI b)) 28 (aen A) (nI i)) 29 (aen A) (nI l)) 0 37 (nI (aen A + 1)), ?_, ?_⟩⟩
      · have hk : k < aen A + 1 := hk
        show (va_up (aet A) (aen A) (b, i, l) k).1 ≤ 7 ∧ (va_up (aet A) (aen A) (b, i, l) k).2.1 ≤ 11 ∧ (va_up (aet A) (aen A) (b, i, l) k).2.2 ≤ 8
        unfold va_up
        split
        · exact ⟨by show b ≤ 7; omega, by show i ≤ 11; omega, by show l ≤ 8; omega⟩
        · exact hA.2.2.2.2.2.1.2 k (by omega)
      · have e := h.2.2.2.2.2.1.1
        have l8 : nI (aen A) < 8 := (nI_ltI (b := 8) (by omega) (by decide)).mpr z8
        unfold fX7_seen fX7_seen_58 fX3_add fX3_add_28 fX3_add_38 fX3_add_57 fX3_add_58 fX3_add_68
        simp only [nI_lt0 (show b < 2 ^ 31 by omega), nI_lt0 (show i < 2 ^ 31 by omega), nI_lt0 (show l < 2 ^ 31 by omega), nI_lt0 (show aen A < 2 ^ 31 by omega), cb, ci, cl, cl8, l8, ↓reduceIte, e, nI_clamp (show aen A < 2 ^ 31 by omega), false_or, show (8 ≤ aen A) = False from eq_false (by omega), vup_rd, Nat.reduceEqDiff, Option.bind, nI_1]
        by_cases w : l = 8 <;> simp only [w, ↓reduceIte] <;> rfl
      · obtain ⟨e, e2⟩ := h.2.2.2.2.2.1
        refine h.seen (fun a h1 h2 h3 h4 => by rw [vup_ne _ _ h1, vup_ne _ _ h4, vup_ne _ _ h3, vup_ne _ _ h2]) (by simp [vup_rd]) (fun k hk => ?_)
        have hk : k < aen A + 1 := hk
        show _ = nI (va_up (aet A) (aen A) (b, i, l) k).1 ∧ _ = nI (va_up (aet A) (aen A) (b, i, l) k).2.1 ∧ _ = (if (va_up (aet A) (aen A) (b, i, l) k).2.2 = 8 then -1 else nI (va_up (aet A) (aen A) (b, i, l) k).2.2)
        unfold va_up
        by_cases w : k = aen A
        · simp only [vup_rd, w, Nat.reduceEqDiff, ↓reduceIte, and_self]
        · simp only [vup_rd, w, Nat.reduceEqDiff, ↓reduceIte]
          exact e2 k (by omega)
      · have e := h.2.2.2.2.1.1
        have l8 : ¬ nI (aen A) = 8 := fun w => e8 ((nI_eq (b := 8) (by omega) (by decide)).mp w)
        unfold fX8_seen
        rw [m_in7, q.1]
        simp only [Option.bind, b2_0, Bool.true_eq_false, ↓reduceIte]
        rw [m_in11, q.2.1]
        simp only [b2_0, Bool.true_eq_false, ↓reduceIte]
        rw [m_in8, q.2.2]
        unfold fX8_seen_55 fX8_seen_65 fX8_seen_75 fX8_seen_85
        simp only [b2_0, Bool.true_eq_false, ↓reduceIte, e, l8, nI_clamp (show aen A < 2 ^ 31 by omega), ixF z8 (by decide), vup_rd, Nat.reduceEqDiff, nI_1]
      · obtain ⟨e, e2⟩ := h.2.2.2.2.1
        refine h.seen (fun a h0 h1 h2 h3 => by rw [vup_ne _ _ h0, vup_ne _ _ h3, vup_ne _ _ h2, vup_ne _ _ h1]) (fun k hk => by simp [vup_rd, hk]) (by simp [vup_rd]) (fun k hk => ?_)
        have hk : k < aen A + 1 := hk
        show _ = nI (va_up (aet A) (aen A) (b, i, l) k).1 ∧ _ = nI (va_up (aet A) (aen A) (b, i, l) k).2.1 ∧ _ = nI (va_up (aet A) (aen A) (b, i, l) k).2.2
        unfold va_up
        by_cases w : k = aen A
        · simp only [vup_rd, w, Nat.reduceEqDiff, ↓reduceIte, and_self]
        · simp only [vup_rd, w, Nat.reduceEqDiff, ↓reduceIte]
          exact e2 k (by omega)
  · refine ⟨-2, A, hA, fun σ h => ⟨σ, ?_, h⟩, fun σ h => ⟨σ, ?_, h⟩⟩
    · unfold fX7_seen fX7_seen_30
      by_cases p1 : inR 8 x = true
      · by_cases p2 : inR 12 y = true
        · have p3 : inR 9 z = false := inR_F (fun w => q ⟨p1, p2, w⟩)
          obtain ⟨b, hb, rfl⟩ := inR_ex (by omega) p1
          obtain ⟨i, hi, rfl⟩ := inR_ex (by omega) p2
          have cb : ¬ (8 : Int32) ≤ nI b := fun w => by have := (nI_leI (a := 8) (by decide) (by omega)).mp w; omega
          have ci : ¬ (12 : Int32) ≤ nI i := fun w => by have := (nI_leI (a := 12) (by decide) (by omega)).mp w; omega
          simp only [nI_lt0 (show b < 2 ^ 31 by omega), nI_lt0 (show i < 2 ^ 31 by omega), cb, ci, ↓reduceIte]
          rcases inR_F2 p3 with z1 | ⟨z1, z2⟩
          · rw [if_pos z1]
          · rw [if_neg z1, if_neg (show ¬ z ≤ (8 : Int32) from inR_le (n := 8) (by omega) z2)]
        · obtain ⟨b, hb, rfl⟩ := inR_ex (by omega) p1
          have cb : ¬ (8 : Int32) ≤ nI b := fun w => by have := (nI_leI (a := 8) (by decide) (by omega)).mp w; omega
          simp only [nI_lt0 (show b < 2 ^ 31 by omega), cb, ↓reduceIte]
          rcases inR_F2 (inR_F p2) with z1 | ⟨z1, z2⟩
          · rw [if_pos z1]
          · rw [if_neg z1, if_pos (show (12 : Int32) ≤ y from z2)]
      · rcases inR_F2 (inR_F p1) with z1 | ⟨z1, z2⟩
        · rw [if_pos z1]
        · rw [if_neg z1, if_pos (show (8 : Int32) ≤ x from z2)]
    · unfold fX8_seen fX8_seen_30
      rw [m_in7]
      by_cases p1 : inR 8 x = true
      · rw [p1]
        simp only [Option.bind, b2_0, Bool.true_eq_false, ↓reduceIte]
        rw [m_in11]
        by_cases p2 : inR 12 y = true
        · rw [p2]
          simp only [Option.bind, b2_0, Bool.true_eq_false, ↓reduceIte]
          rw [m_in8, inR_F (fun w => q ⟨p1, p2, w⟩)]
          rfl
        · rw [inR_F p2]
          rfl
      · rw [inR_F p1]
        rfl
