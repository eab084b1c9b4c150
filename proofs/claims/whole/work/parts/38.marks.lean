/-! wind, sunday, back, set, seen, forget -/
theorem WA.winds {A : vA} (h : WA A) {x : Nat × (Nat → Nat)} (h1 : x.1 ≤ 6) (h2 : ∀ k, k < x.1 → x.2 k < 40) : WA (aW A x) := ⟨h.1, h.2.1, h.2.2.1, ⟨h1, h2⟩, h.2.2.2.2⟩
theorem WA.sundays {A : vA} (h : WA A) {x : Nat × (Nat → Nat)} (h1 : x.1 ≤ 6) (h2 : ∀ k, k < x.1 → x.2 k < 40) : WA (aS A x) := ⟨h.1, h.2.1, h.2.2.1, h.2.2.2.1, ⟨h1, h2⟩, h.2.2.2.2.2⟩
theorem WA.finding {A : vA} (h : WA A) {x : Int32} : WA (aF A x) := h
def windR (A : vA) (x : Int32) : Int32 := if inR 40 x = true then (if awn A < 6 then nI (awn A + 1) else -4) else -2
def windA (A : vA) (x : Int32) : vA := if inR 40 x = true ∧ awn A < 6 then aW A (awn A + 1, va_up (awh A) (awn A) x.toNatClampNeg) else A
theorem windA_WA {A : vA} (hA : WA A) (x : Int32) : WA (windA A x) := by
  unfold windA
  split
  · rename_i q
    refine hA.winds (by show awn A + 1 ≤ 6; omega) (fun k hk => ?_)
    have hk : k < awn A + 1 := hk
    show va_up (awh A) (awn A) x.toNatClampNeg k < 40
    unfold va_up
    split
    · obtain ⟨j, hj, rfl⟩ := inR_ex (by decide) q.1
      rw [nI_clamp (by omega)]; exact hj
    · exact hA.2.2.2.1.2 k (by omega)
  · exact hA
theorem c_wind {A : vA} (hA : WA A) (x : Int32) : QC A (windA A x) (fX7_oneMore_25 x) (windR A x) := by
  intro σ h
  have h6 := hA.2.2.2.1.1
  obtain ⟨e1, e2⟩ := h.2.2.2.1
  unfold fX7_oneMore_25 fX7_oneMore_25_27 windA windR
  rw [c_isHour]
  by_cases q : inR 40 x = true
  · obtain ⟨t, ht, rfl⟩ := inR_ex (by omega) q
    simp only [Option.bind, q, b2_0, Bool.true_eq_false, ↓reduceIte, true_and]
    by_cases z : awn A < 6
    · simp only [z, ↓reduceIte]
      refine ⟨vup (vup σ 26 (awn A) (nI t)) 25 1 (nI (awn A + 1)), ?_, h.winds (fun a h1 h2 => ?_) ?_ (fun k hk => ?_)⟩
      · unfold fX1_add_25 fX1_add_25_28 fX1_add_25_38
        have l6 : nI (awn A) < 6 := (nI_ltI (b := 6) (by omega) (by decide)).mpr z
        simp only [e1, nI_lt0 (show awn A < 2 ^ 31 by omega), ↓reduceIte, l6, nI_clamp (show awn A < 2 ^ 31 by omega), ixF z (by decide), Option.bind, vup_rd, nI_1, Nat.reduceEqDiff, false_or, show (6 ≤ awn A) = False from eq_false (by omega)]
        rfl
      · rw [vup_ne _ _ (by omega), vup_ne _ _ (by omega)]
      · simp [vup_rd]
      · have hk : k < awn A + 1 := hk
        show _ = nI (va_up (awh A) (awn A) (nI t).toNatClampNeg k)
        rw [nI_clamp (by omega)]
        simp only [vup_rd, Nat.reduceEqDiff, ↓reduceIte, va_up]
        split
        · rfl
        · exact e2 k (by omega)
    · simp only [z, ↓reduceIte]
      refine ⟨σ, ?_, h⟩
      unfold fX1_add_25 fX1_add_25_16
      have e6 : awn A = 6 := by omega
      have l6 : ¬ nI (awn A) < 6 := by rw [e6]; decide
      simp only [e1, nI_lt0 (show awn A < 2 ^ 31 by omega), ↓reduceIte, l6, Option.bind]
  · have q := inR_F q
    simp only [Option.bind, q, b2_0, Bool.false_eq_true, ↓reduceIte, false_and]
    exact ⟨σ, rfl, h⟩
theorem m_wind {A : vA} (hA : WA A) (x : Int32) : QM A (windA A x) (fX8_wind x) (windR A x) := by
  intro σ h
  have h6 := hA.2.2.2.1.1
  obtain ⟨e1, e2⟩ := h.2.2.1
  unfold fX8_wind windA windR
  rw [m_isHour]
  by_cases q : inR 40 x = true
  · obtain ⟨t, ht, rfl⟩ := inR_ex (by omega) q
    simp only [Option.bind, q, b2_0, Bool.true_eq_false, ↓reduceIte, true_and]
    by_cases z : awn A < 6
    · simp only [z, ↓reduceIte]
      refine ⟨vup (vup σ 10 (awn A) (nI t)) 0 13 (nI (awn A + 1)), ?_, h.winds (fun a h1 h2 => ?_) (fun k hk => ?_) ?_ (fun k hk => ?_)⟩
      · unfold fX8_wind_32 fX8_wind_42
        have l6 : ¬ nI (awn A) = 6 := fun w => by have := (nI_eq (b := 6) (by omega) (by decide)).mp w; omega
        simp only [e1, l6, nI_clamp (show awn A < 2 ^ 31 by omega), ixF z (by decide), ↓reduceIte, vup_rd, nI_1, Nat.reduceEqDiff]
      · rw [vup_ne _ _ (by omega), vup_ne _ _ (by omega)]
      · simp only [vup_rd, hk, ↓reduceIte, Nat.reduceEqDiff]
      · simp [vup_rd]
      · have hk : k < awn A + 1 := hk
        show _ = nI (va_up (awh A) (awn A) (nI t).toNatClampNeg k)
        rw [nI_clamp (by omega)]
        simp only [vup_rd, Nat.reduceEqDiff, ↓reduceIte, va_up]
        split
        · rfl
        · exact e2 k (by omega)
    · simp only [z, ↓reduceIte]
      refine ⟨σ, ?_, h⟩
      have e6 : awn A = 6 := by omega
      have l6 : nI (awn A) = 6 := by rw [e6]; decide
      simp only [e1, l6, ↓reduceIte]
  · have q := inR_F q
    simp only [Option.bind, q, b2_0, Bool.false_eq_true, ↓reduceIte, false_and]
    exact ⟨σ, rfl, h⟩
theorem q_wind {A : vA} (hA : WA A) (x : Int32) : vJ A (fX7_wind x) (fX8_wind x) := by
  refine ⟨windR A x, windA A x, windA_WA hA x, fun σ h => ?_, m_wind hA x⟩
  obtain ⟨σ', a1, a2⟩ := c_wind hA x σ h
  refine ⟨σ', ?_, a2⟩
  unfold fX7_wind
  rw [a1]
  rfl
def sunR (A : vA) (x : Int32) : Int32 := if inR 40 x = true then (if asn A < 6 then nI (asn A + 1) else -4) else -2
def sunA (A : vA) (x : Int32) : vA := if inR 40 x = true ∧ asn A < 6 then aS A (asn A + 1, va_up (ash A) (asn A) x.toNatClampNeg) else A
theorem sunA_WA {A : vA} (hA : WA A) (x : Int32) : WA (sunA A x) := by
  unfold sunA
  split
  · rename_i q
    refine hA.sundays (by show asn A + 1 ≤ 6; omega) (fun k hk => ?_)
    have hk : k < asn A + 1 := hk
    show va_up (ash A) (asn A) x.toNatClampNeg k < 40
    unfold va_up
    split
    · obtain ⟨j, hj, rfl⟩ := inR_ex (by decide) q.1
      rw [nI_clamp (by omega)]; exact hj
    · exact hA.2.2.2.2.1.2 k (by omega)
  · exact hA
theorem c_sunday {A : vA} (hA : WA A) (x : Int32) : QC A (sunA A x) (fX7_oneMore_27 x) (sunR A x) := by
  intro σ h
  have h6 := hA.2.2.2.2.1.1
  obtain ⟨e1, e2⟩ := h.2.2.2.2.1
  unfold fX7_oneMore_27 fX7_oneMore_27_27 sunA sunR
  rw [c_isHour]
  by_cases q : inR 40 x = true
  · obtain ⟨t, ht, rfl⟩ := inR_ex (by omega) q
    simp only [Option.bind, q, b2_0, Bool.true_eq_false, ↓reduceIte, true_and]
    by_cases z : asn A < 6
    · simp only [z, ↓reduceIte]
      refine ⟨vup (vup σ 28 (asn A) (nI t)) 27 1 (nI (asn A + 1)), ?_, h.sundays (fun a h1 h2 => ?_) ?_ (fun k hk => ?_)⟩
      · unfold fX1_add_27 fX1_add_27_28 fX1_add_27_38
        have l6 : nI (asn A) < 6 := (nI_ltI (b := 6) (by omega) (by decide)).mpr z
        simp only [e1, nI_lt0 (show asn A < 2 ^ 31 by omega), ↓reduceIte, l6, nI_clamp (show asn A < 2 ^ 31 by omega), ixF z (by decide), Option.bind, vup_rd, nI_1, Nat.reduceEqDiff, false_or, show (6 ≤ asn A) = False from eq_false (by omega)]
        rfl
      · rw [vup_ne _ _ (by omega), vup_ne _ _ (by omega)]
      · simp [vup_rd]
      · have hk : k < asn A + 1 := hk
        show _ = nI (va_up (ash A) (asn A) (nI t).toNatClampNeg k)
        rw [nI_clamp (by omega)]
        simp only [vup_rd, Nat.reduceEqDiff, ↓reduceIte, va_up]
        split
        · rfl
        · exact e2 k (by omega)
    · simp only [z, ↓reduceIte]
      refine ⟨σ, ?_, h⟩
      unfold fX1_add_27 fX1_add_27_16
      have e6 : asn A = 6 := by omega
      have l6 : ¬ nI (asn A) < 6 := by rw [e6]; decide
      simp only [e1, nI_lt0 (show asn A < 2 ^ 31 by omega), ↓reduceIte, l6, Option.bind]
  · have q := inR_F q
    simp only [Option.bind, q, b2_0, Bool.false_eq_true, ↓reduceIte, false_and]
    exact ⟨σ, rfl, h⟩
theorem m_sunday {A : vA} (hA : WA A) (x : Int32) : QM A (sunA A x) (fX8_sunday x) (sunR A x) := by
  intro σ h
  have h6 := hA.2.2.2.2.1.1
  obtain ⟨e1, e2⟩ := h.2.2.2.1
  unfold fX8_sunday sunA sunR
  rw [m_isHour]
  by_cases q : inR 40 x = true
  · obtain ⟨t, ht, rfl⟩ := inR_ex (by omega) q
    simp only [Option.bind, q, b2_0, Bool.true_eq_false, ↓reduceIte, true_and]
    by_cases z : asn A < 6
    · simp only [z, ↓reduceIte]
      refine ⟨vup (vup σ 11 (asn A) (nI t)) 0 15 (nI (asn A + 1)), ?_, h.sundays (fun a h1 h2 => ?_) (fun k hk => ?_) ?_ (fun k hk => ?_)⟩
      · unfold fX8_sunday_32 fX8_sunday_42
        have l6 : ¬ nI (asn A) = 6 := fun w => by have := (nI_eq (b := 6) (by omega) (by decide)).mp w; omega
        simp only [e1, l6, nI_clamp (show asn A < 2 ^ 31 by omega), ixF z (by decide), ↓reduceIte, vup_rd, nI_1, Nat.reduceEqDiff]
      · rw [vup_ne _ _ (by omega), vup_ne _ _ (by omega)]
      · simp only [vup_rd, hk, ↓reduceIte, Nat.reduceEqDiff]
      · simp [vup_rd]
      · have hk : k < asn A + 1 := hk
        show _ = nI (va_up (ash A) (asn A) (nI t).toNatClampNeg k)
        rw [nI_clamp (by omega)]
        simp only [vup_rd, Nat.reduceEqDiff, ↓reduceIte, va_up]
        split
        · rfl
        · exact e2 k (by omega)
    · simp only [z, ↓reduceIte]
      refine ⟨σ, ?_, h⟩
      have e6 : asn A = 6 := by omega
      have l6 : nI (asn A) = 6 := by rw [e6]; decide
      simp only [e1, l6, ↓reduceIte]
  · have q := inR_F q
    simp only [Option.bind, q, b2_0, Bool.false_eq_true, ↓reduceIte, false_and]
    exact ⟨σ, rfl, h⟩
theorem q_sunday {A : vA} (hA : WA A) (x : Int32) : vJ A (fX7_sunday x) (fX8_sunday x) := by
  refine ⟨sunR A x, sunA A x, sunA_WA hA x, fun σ h => ?_, m_sunday hA x⟩
  obtain ⟨σ', a1, a2⟩ := c_sunday hA x σ h
  refine ⟨σ', ?_, a2⟩
  unfold fX7_sunday
  rw [a1]
  rfl
