section MV
variable {σ0 : vMem} {P : vP} {q : Nat} {T : vT} {σ : vMem} {hh : Nat}
abbrev snH (P : vP) (hh : Nat) : Nat → Bool := fun c => decide (pho P c ≤ hh)
theorem m_tanL (hP : WP P) {b : Nat} (h : MS σ0 P q (snH P hh) T σ) (hb : b < pnb P) (hs : pho P b ≤ hh) (hpl : ∀ c, c < pnb P → tpl T c ≤ 9) : ∀ (k n i : Nat) (acc : Bool), i + k = b → k < n → acc = anyLt i (fun i => decide (pho P i ≤ hh) && decide (tpl T i = tpl T b)) → LfX8_isTangled_4 n (nI b) (b2 acc) (nI i) σ = some (b2 (tTg P hh T b), σ) := by
  have hb8 : b < 8 := Nat.lt_of_lt_of_le hb hP.2.1
  have hcb : (nI b).toNatClampNeg = b := nI_clamp (by omega)
  have hxb := ixF hb8 (by decide)
  have e12b : σ.1 12 b = nI (tpl T b) := by rw [h.e12 hb, if_pos (by simpa using hs)]
  intro k
  induction k with
  | zero =>
    intro n i acc hik hn ha
    obtain ⟨n, rfl⟩ : ∃ j, n = j + 1 := ⟨n - 1, by omega⟩
    have : i = b := by omega
    subst this
    show fX8_isTangled_4 _ _ _ _ _ = _
    unfold fX8_isTangled_4
    rw [if_pos (Int32.le_refl _), if_neg, ha]
    · rfl
    · cases acc <;> decide
  | succ k ih =>
    intro n i acc hik hn ha
    obtain ⟨n, rfl⟩ : ∃ j, n = j + 1 := ⟨n - 1, by omega⟩
    have hi8 : i < 8 := by omega
    have hci : (nI i).toNatClampNeg = i := nI_clamp (by omega)
    have hxi := ixF hi8 (by decide)
    have e12i := h.e12 (b := i) (by omega)
    have hlt : (nI b ≤ nI i) = False := eq_false (fun z => by have := (nI_leI (by omega) (by omega)).mp z; omega)
    show fX8_isTangled_4 _ _ _ _ _ = _
    unfold fX8_isTangled_4 fX8_isTangled_28 fX8_isTangled_33
    simp only [hlt, ↓reduceIte, hcb, hci, hxb, hxi, e12i, e12b, b2_0, nI_1]
    have hp9 := hpl i (by omega)
    have hp9b := hpl b hb
    cases acc with
    | true =>
      simp only [Bool.true_eq_false, ↓reduceIte]
      exact ih n (i + 1) true (by omega) (by omega) (by rw [anyLt, ← ha]; rfl)
    | false =>
      simp only [↓reduceIte]
      by_cases hsi : pho P i ≤ hh
      · simp only [snH, hsi, decide_true, ↓reduceIte, nI_eq (show tpl T i < 2 ^ 31 by omega) (show tpl T b < 2 ^ 31 by omega)]
        by_cases c : tpl T i = tpl T b
        · rw [if_pos c]
          exact ih n (i + 1) true (by omega) (by omega) (by rw [anyLt, ← ha]; simp [hsi, c])
        · rw [if_neg c]
          exact ih n (i + 1) false (by omega) (by omega) (by rw [anyLt, ← ha]; simp [c])
      · simp only [snH, hsi, decide_false, Bool.false_eq_true, ↓reduceIte]
        rw [if_neg (fun z => nI_m1 (show tpl T b < 2 ^ 31 by omega) z.symm)]
        exact ih n (i + 1) false (by omega) (by omega) (by rw [anyLt, ← ha]; simp [hsi])
theorem m_tan (hP : WP P) {b : Nat} (h : MS σ0 P q (snH P hh) T σ) (hb : b < pnb P) (hs : pho P b ≤ hh) (hpl : ∀ c, c < pnb P → tpl T c ≤ 9) : fX8_isTangled (nI b) σ = some (b2 (tTg P hh T b), σ) := by
  have := hP.2.1
  exact m_tanL hP h hb hs hpl b 200 0 false (by omega) (by omega) rfl
theorem m_climbL (hP : WP P) (hh39 : hh ≤ 39) (hI : TI P hh T) (g : Nat → Nat → Int32) (hg : ∀ c, c < pnb P → g 25 (8 * hh + c) = b2 (tThere P hh (tMid P hh T) c && tTg P hh (tMid P hh T) c)) : ∀ (k n b : Nat) (σ : vMem), b + k = pnb P → k < n → MS σ0 P q (snH P hh) (tClimb P hh (tTg P hh (tMid P hh T)) b (tMid P hh T)) σ → (∀ a, 22 ≤ a → σ.1 a = g a) →
    ∃ σ', LfX8_goesBy_279 n (nI hh) (nI b) σ = some σ' ∧ MS σ0 P q (snH P hh) (tHour P hh T) σ' ∧ (∀ a, 22 ≤ a → σ'.1 a = g a) := by
  have h8 := hP.2.1
  intro k
  induction k with
  | zero =>
    intro n b σ hbk hn h ht
    have hb : b = pnb P := by omega
    subst hb
    obtain ⟨n, rfl⟩ : ∃ j, n = j + 1 := ⟨n - 1, by omega⟩
    refine ⟨σ, ?_, h, ht⟩
    show fX8_goesBy_279 _ _ _ _ = _
    unfold fX8_goesBy_279
    rw [h.dm.1.2.1, if_pos (Int32.le_refl _)]
  | succ k ih =>
    intro n b σ hbk hn h ht
    obtain ⟨n, rfl⟩ : ∃ j, n = j + 1 := ⟨n - 1, by omega⟩
    have hb : b < pnb P := by omega
    have hb8 : b < 8 := by omega
    have hcb : (nI b).toNatClampNeg = b := nI_clamp (by omega)
    have hxb := ixF hb8 (by decide)
    have hnb : (nI (pnb P) ≤ nI b) = False := eq_false (fun z => by have := (nI_leI (by omega) (by omega)).mp z; omega)
    obtain ⟨c1, c2, c3, c4, c5⟩ := tClimb_TC hh39 hI b (by omega)
    have kb := c1 b hb
    have e5 := c5 b (Nat.le_refl _)
    rw [if_neg (Nat.lt_irrefl b)] at kb
    have hB : ∀ c, c < pnb P → tnl (tClimb P hh (tTg P hh (tMid P hh T)) b (tMid P hh T)) c ≤ 21 := fun c hc => by
      have kc := c1 c hc
      by_cases z : c < b
      · rw [if_pos z] at kc
        have := (tk_21c (h := hh) (U := tClimb P hh (tTg P hh (tMid P hh T)) b (tMid P hh T)) hP rfl kc (Or.inl rfl)).1
        omega
      · rw [if_neg z] at kc
        have := (tk_21c (h := hh) hP (c5 c (by omega)) kc (Or.inr rfl)).1
        omega
    have hth : tThere P hh (tClimb P hh (tTg P hh (tMid P hh T)) b (tMid P hh T)) b = tThere P hh (tMid P hh T) b := by unfold tThere; rw [e5]
    have i8 : (8 : Int32) * nI hh + nI b = nI (8 * hh + b) := by rw [show (8 : Int32) = nI 8 from rfl, pk_mul, nI_add]
    have ci : (nI (8 * hh + b)).toNatClampNeg = 8 * hh + b := nI_clamp (by omega)
    have xi := ixF (k := 8 * hh + b) (N := 320) (by omega) (by decide)
    have fin : ∀ τ, MS σ0 P q (snH P hh) (tClimb P hh (tTg P hh (tMid P hh T)) (b + 1) (tMid P hh T)) τ → (∀ a, 22 ≤ a → τ.1 a = g a) → ∃ σ', fX8_goesBy_326 (LfX8_goesBy_279 n) (nI hh) (nI b) τ = some σ' ∧ MS σ0 P q (snH P hh) (tHour P hh T) σ' ∧ (∀ a, 22 ≤ a → σ'.1 a = g a) := by
      intro τ hτ h16
      obtain ⟨σ2, d1, d2, d3⟩ := ih n (b + 1) τ (by omega) (by omega) hτ h16
      refine ⟨σ2, ?_, d2, d3⟩
      unfold fX8_goesBy_326
      rw [nI_1]
      exact d1
    show ∃ σ', fX8_goesBy_279 _ _ _ _ = some σ' ∧ _
    unfold fX8_goesBy_279
    rw [h.dm.1.2.1, h.dm.1.1]
    simp only [hcb, hxb, hnb, ↓reduceIte]
    rw [h.e12 hb, m_inPl (Nat.le_trans kb.2.2.2.1 hP.1) hP.1]
    have hte : (snH P hh b && decide (tpl (tClimb P hh (tTg P hh (tMid P hh T)) b (tMid P hh T)) b < pnf P)) = tThere P hh (tMid P hh T) b := hth
    rw [hte]
    simp only [Option.bind, b2_0, i8, ci, xi, ↓reduceIte]
    rw [ht 25 (by decide), hg b hb]
    simp only [b2_0]
    have hstep : tClimb P hh (tTg P hh (tMid P hh T)) (b + 1) (tMid P hh T) = tClimb1 P hh (tTg P hh (tMid P hh T)) b (tClimb P hh (tTg P hh (tMid P hh T)) b (tMid P hh T)) := rfl
    by_cases z1 : tThere P hh (tMid P hh T) b = false
    · rw [if_pos z1]
      refine fin σ ?_ ht
      rw [hstep, tClimb1, if_neg (by rw [hth, z1]; simp)]
      exact h
    · rw [if_neg z1]
      rw [Bool.not_eq_false] at z1
      rw [z1, Bool.true_and]
      by_cases z2 : tTg P hh (tMid P hh T) b = false
      · rw [if_pos z2]
        have zz : pho P b ≤ hh ∧ tpl (tClimb P hh (tTg P hh (tMid P hh T)) b (tMid P hh T)) b < pnf P := by
          rw [← hth] at z1
          simpa [tThere] using z1
        obtain ⟨σ', a1, a2, a3⟩ := m_goesUp (hh := hh) hP h hb (by simpa using zz.1) zz.2 kb.2.1 hB (by
          by_cases z : tup (tClimb P hh (tTg P hh (tMid P hh T)) b (tMid P hh T)) b = -1
          · exact z
          · have := (c3 b hb).mp z
            omega)
        rw [a1]
        refine fin σ' ?_ (fun a ha => by rw [a3 a ha]; exact ht a ha)
        rw [hstep, tClimb1, if_pos ⟨by rw [hth, z1], z2⟩]
        exact a2
      · rw [if_neg z2]
        refine fin σ ?_ ht
        rw [hstep, tClimb1, if_neg (fun w => z2 w.2)]
        exact h
/-- what is written down of hour h -/
def Rc (P : vP) (h : Nat) (U : vT) (σ : vMem) (n : Nat) : Prop := ∀ c, c < n → σ.1 22 (8 * h + c) = (if pho P c ≤ h then nI (tpl U c) else -1) ∧ σ.1 23 (8 * h + c) = nI (tld U c) ∧ σ.1 24 (8 * h + c) = nI (tnl U c)
def Rt (P : vP) (h : Nat) (U : vT) (σ : vMem) (n : Nat) : Prop := ∀ c, c < n → σ.1 25 (8 * h + c) = b2 (tThere P h U c && tTg P h U c)
theorem m_recL (hP : WP P) (hh39 : hh ≤ 39) (hI : TI P hh T) (hq : q = 8 * hh) : ∀ (k n b : Nat) (σ : vMem), b + k = pnb P → k < n → MS σ0 P q (snH P hh) (tMid P hh T) σ → Rc P hh (tMid P hh T) σ b → Rt P hh (tMid P hh T) σ (pnb P) →
    ∃ σ', LfX8_goesBy_212 n (nI hh) (nI b) σ = some σ' ∧ MS σ0 P q (snH P hh) (tHour P hh T) σ' ∧ Rc P hh (tMid P hh T) σ' (pnb P) ∧ Rt P hh (tMid P hh T) σ' (pnb P) := by
  have h8 := hP.2.1
  intro k
  induction k with
  | zero =>
    intro n b σ hbk hn h hr ht
    have hb : b = pnb P := by omega
    subst hb
    obtain ⟨n, rfl⟩ : ∃ j, n = j + 1 := ⟨n - 1, by omega⟩
    obtain ⟨σ', a1, a2, a3⟩ := m_climbL hP hh39 hI (fun a => σ.1 a) ht (pnb P) 200 0 σ (by omega) (by omega) h (fun _ _ => rfl)
    refine ⟨σ', ?_, a2, fun c hc => ?_, fun c hc => ?_⟩
    · show fX8_goesBy_212 _ _ _ _ = _
      unfold fX8_goesBy_212
      rw [h.dm.1.2.1, if_pos (Int32.le_refl _)]
      exact a1
    · rw [a3 22 (by decide), a3 23 (by decide), a3 24 (by decide)]
      exact hr c hc
    · rw [a3 25 (by decide)]
      exact ht c hc
  | succ k ih =>
    intro n b σ hbk hn h hr ht
    obtain ⟨n, rfl⟩ : ∃ j, n = j + 1 := ⟨n - 1, by omega⟩
    have hb : b < pnb P := by omega
    have hb8 : b < 8 := by omega
    have hcb : (nI b).toNatClampNeg = b := nI_clamp (by omega)
    have hxb := ixF hb8 (by decide)
    have hnb : (nI (pnb P) ≤ nI b) = False := eq_false (fun z => by have := (nI_leI (by omega) (by omega)).mp z; omega)
    have i8 : (8 : Int32) * nI hh + nI b = nI (8 * hh + b) := by rw [show (8 : Int32) = nI 8 from rfl, pk_mul, nI_add]
    have ci : (nI (8 * hh + b)).toNatClampNeg = 8 * hh + b := nI_clamp (by omega)
    have xi := ixF (k := 8 * hh + b) (N := 320) (by omega) (by decide)
    have h1 := h.rec (n := 22) (j0 := 8 * hh + b) (x := σ.1 12 b) (by decide) (by decide) (by omega)
    have h2 := h1.rec (n := 23) (j0 := 8 * hh + b) (x := σ.1 13 b) (by decide) (by decide) (by omega)
    have h3 := h2.rec (n := 24) (j0 := 8 * hh + b) (x := σ.1 14 b) (by decide) (by decide) (by omega)
    obtain ⟨σ', a1, a2, a3, a4⟩ := ih n (b + 1) _ (by omega) (by omega) h3 (fun c hc => by
      simp only [vup_rd, Nat.reduceEqDiff, ↓reduceIte]
      by_cases e : c = b
      · subst e
        simp only [↓reduceIte]
        refine ⟨?_, h.e13 hb, h.e14 hb⟩
        rw [h.e12 hb]
        simp
      · simp only [show (8 * hh + c = 8 * hh + b) = False from eq_false (by omega), ↓reduceIte]
        exact hr c (by omega)) (fun c hc => by
      simp only [vup_rd, Nat.reduceEqDiff, ↓reduceIte]
      exact ht c hc)
    refine ⟨σ', ?_, a2, a3, a4⟩
    show fX8_goesBy_212 _ _ _ _ = _
    unfold fX8_goesBy_212 fX8_goesBy_237 fX8_goesBy_254 fX8_goesBy_271
    rw [h.dm.1.2.1]
    simp only [hcb, hxb, hnb, ↓reduceIte, i8, ci, xi, vup_rd, Nat.reduceEqDiff, nI_1]
    exact a1
theorem m_serveL (hP : WP P) (hh39 : hh ≤ 39) (hI : TI P hh T) (hq : q = 8 * hh) : ∀ (k n b : Nat) (σ : vMem), b + k = pnb P → k < n → MS σ0 P q (snH P hh) (tServe P hh b (tArr P hh (pnb P) T)) σ → Rt P hh (tMid P hh T) σ b →
    ∃ σ', LfX8_goesBy_77 n (nI hh) (nI b) σ = some σ' ∧ MS σ0 P q (snH P hh) (tHour P hh T) σ' ∧ Rc P hh (tMid P hh T) σ' (pnb P) ∧ Rt P hh (tMid P hh T) σ' (pnb P) := by
  have h8 := hP.2.1
  have hnf := hP.1
  have hA := tArr_TA P hh T (by omega) hI
  intro k
  induction k with
  | zero =>
    intro n b σ hbk hn h ht
    have hb : b = pnb P := by omega
    subst hb
    obtain ⟨n, rfl⟩ : ∃ j, n = j + 1 := ⟨n - 1, by omega⟩
    obtain ⟨σ', a1, a2, a3, a4⟩ := m_recL hP hh39 hI hq (pnb P) 200 0 σ (by omega) (by omega) h (fun c hc => by omega) ht
    refine ⟨σ', ?_, a2, a3, a4⟩
    show fX8_goesBy_77 _ _ _ _ = _
    unfold fX8_goesBy_77
    rw [h.dm.1.2.1, if_pos (Int32.le_refl _)]
    exact a1
  | succ k ih =>
    intro n b σ hbk hn h ht
    obtain ⟨n, rfl⟩ : ∃ j, n = j + 1 := ⟨n - 1, by omega⟩
    have hb : b < pnb P := by omega
    have hb8 : b < 8 := by omega
    have hcb : (nI b).toNatClampNeg = b := nI_clamp (by omega)
    have hxb := ixF hb8 (by decide)
    have hnb : (nI (pnb P) ≤ nI b) = False := eq_false (fun z => by have := (nI_leI (by omega) (by omega)).mp z; omega)
    have i8 : (8 : Int32) * nI hh + nI b = nI (8 * hh + b) := by rw [show (8 : Int32) = nI 8 from rfl, pk_mul, nI_add]
    have ci : (nI (8 * hh + b)).toNatClampNeg = 8 * hh + b := nI_clamp (by omega)
    have xi := ixF (k := 8 * hh + b) (N := 320) (by omega) (by decide)
    obtain ⟨f1, f2, f3, f4, f5⟩ := tServe_fix P hh (tArr P hh (pnb P) T) b
    have hkk := tServe_tk P hh (tArr P hh (pnb P) T) hA.1 b
    have fm := (tServe_fix P hh (tArr P hh (pnb P) T) (pnb P)).1
    have hth : tThere P hh (tMid P hh T) b = tThere P hh (tServe P hh b (tArr P hh (pnb P) T)) b := tThere_pl (fm.trans f1.symm) b
    have htg : tTg P hh (tMid P hh T) b = tTg P hh (tServe P hh b (tArr P hh (pnb P) T)) b := tTg_pl (fm.trans f1.symm) b
    have hB : ∀ c, c < pnb P → tst (tServe P hh b (tArr P hh (pnb P) T)) c + tnl (tServe P hh b (tArr P hh (pnb P) T)) c ≤ 21 ∧ 1 ≤ tnl (tServe P hh b (tArr P hh (pnb P) T)) c := fun c hc => tk_21 (h := hh) (U := tArr P hh (pnb P) T) hP f1 (hkk c hc) (by split; exact Or.inr rfl; exact Or.inl rfl)
    have kb := hkk b hb
    have h99 : tld (tServe P hh b (tArr P hh (pnb P) T)) b ≤ 99 := Nat.le_trans kb.1 (hP.2.2.2.1 b hb).2.1
    have hpl : ∀ c, c < pnb P → tpl (tServe P hh b (tArr P hh (pnb P) T)) c ≤ 9 := fun c hc => Nat.le_trans (hkk c hc).2.2.2.1 hP.1
    have hstep : tServe P hh (b + 1) (tArr P hh (pnb P) T) = tServe1 P hh b (tServe P hh b (tArr P hh (pnb P) T)) := rfl
    generalize hU : tServe P hh b (tArr P hh (pnb P) T) = U at *
    -- what follows the record of tangled
    have fin : ∀ τ, MS σ0 P q (snH P hh) (tServe1 P hh b U) τ → Rt P hh (tMid P hh T) τ (b + 1) → ∃ σ', fX8_goesBy_204 (LfX8_goesBy_77 n) (nI hh) (nI b) τ = some σ' ∧ MS σ0 P q (snH P hh) (tHour P hh T) σ' ∧ Rc P hh (tMid P hh T) σ' (pnb P) ∧ Rt P hh (tMid P hh T) σ' (pnb P) := by
      intro τ hτ h16
      obtain ⟨σ2, d1, d2⟩ := ih n (b + 1) τ (by omega) (by omega) (by rw [hstep]; exact hτ) h16
      refine ⟨σ2, ?_, d2⟩
      unfold fX8_goesBy_204
      rw [nI_1]
      exact d1
    have rt : ∀ x : Bool, x = (tThere P hh (tMid P hh T) b && tTg P hh (tMid P hh T) b) → ∀ τ : vMem, τ.1 25 = (vup σ 25 (8 * hh + b) (b2 x)).1 25 → Rt P hh (tMid P hh T) τ (b + 1) := by
      intro x hx τ hτ c hc
      rw [hτ, vup_rd, if_pos rfl]
      by_cases e : c = b
      · subst e
        rw [if_pos rfl, hx]
      · rw [if_neg (by omega)]
        exact ht c (by omega)
    have h1 : ∀ x : Bool, MS σ0 P q (snH P hh) U (vup σ 25 (8 * hh + b) (b2 x)) := fun x => h.rec (by decide) (by decide) (by omega)
    have hz : ∀ x : Bool, ¬ ¬ (b2 x = 0 ∨ b2 x = 1) := fun x => by cases x <;> decide
    -- the record
    have go : ∀ x t : Bool, t = tThere P hh U b → x = (tThere P hh U b && tTg P hh U b) → ∃ σ', fX8_goesBy_119 (LfX8_goesBy_77 n) (nI hh) (nI b) (b2 t) (b2 x) σ = some σ' ∧ MS σ0 P q (snH P hh) (tHour P hh T) σ' ∧ Rc P hh (tMid P hh T) σ' (pnb P) ∧ Rt P hh (tMid P hh T) σ' (pnb P) := by
      intro x t hte hxe
      have hx2 : x = (tThere P hh (tMid P hh T) b && tTg P hh (tMid P hh T) b) := by rw [hth, htg]; exact hxe
      unfold fX8_goesBy_119
      simp only [i8, ci, xi, hz x, ↓reduceIte]
      have h1x := h1 x
      have rtx := rt x hx2
      unfold fX8_goesBy_134
      simp only [b2_0]
      by_cases z1 : t = false
      · rw [if_pos z1]
        refine fin _ ?_ (rtx _ rfl)
        rw [tServe1, if_neg (by rw [← hte, z1]; simp)]
        exact h1x
      · rw [if_neg z1]
        rw [Bool.not_eq_false] at z1
        rw [z1] at hte
        rw [← hte, Bool.true_and] at hxe
        by_cases z2 : x = false
        · rw [if_pos z2]
          have zz : pho P b ≤ hh ∧ tpl U b < pnf P := by
            have := hte.symm
            simpa [tThere] using this
          have e12 : (vup σ 25 (8 * hh + b) (b2 x)).1 12 b = nI (tpl U b) := by rw [h1x.e12 hb, if_pos (by simpa using zz.1)]
          have hcf : (nI (tpl U b)).toNatClampNeg = tpl U b := nI_clamp (by omega)
          have hxf := ixF (k := tpl U b) (N := 10) (by omega) (by decide)
          obtain ⟨tb, htb⟩ := h1x.dm.2.2.1
          have e3 := (htb _ zz.2).1
          have ewi := h1x.dm.2.1.1
          have hsl : (1 : Nat) ≤ tnl U b := (hB b hb).2
          have hl24 : tnl U b < 24 := by have := (hB b hb).1; omega
          -- behind the wind
          have tk' : ∀ (τ : vMem) (V' : vT), MS σ0 P q (snH P hh) V' τ → tpl V' = tpl U → tnl V' = tnl U → tld V' b ≤ 99 → τ.1 25 = (vup σ 25 (8 * hh + b) (b2 x)).1 25 → (if 0 < tld V' b ∧ tHungry P hh (tpl U b) V' = true then tBite P hh b (tpl U b) V' else V') = tServe1 P hh b U → ∃ σ', fX8_goesBy_192 (LfX8_goesBy_77 n) (nI hh) (nI b) τ = some σ' ∧ MS σ0 P q (snH P hh) (tHour P hh T) σ' ∧ Rc P hh (tMid P hh T) σ' (pnb P) ∧ Rt P hh (tMid P hh T) σ' (pnb P) := by
            intro τ V' hV q1 q2 q3 q4 q5
            have e12' : τ.1 12 b = nI (tpl U b) := by rw [hV.e12 hb, if_pos (by simpa using zz.1), q1]
            obtain ⟨σ', a1, a2, a3⟩ := m_takes (hh := hh) hV hP hb zz.2 (fun c hc => by rw [q2]; have := hB c hc; omega) (by rw [q2]; exact hl24) q3
            unfold fX8_goesBy_192
            simp only [hcb, hxb, ↓reduceIte, e12', a1, Option.bind]
            refine fin σ' ?_ (rtx σ' ((a3 25 (by decide)).trans q4))
            rw [← q5]
            exact a2
          have hsv : tServe1 P hh b U = tEat P hh b (tpl U b) U := by rw [tServe1, if_pos ⟨hte.symm, by rw [← hxe]; exact z2⟩]
          have e13 := h1x.e13 hb
          have two : nI (tld U b) / 2 = nI (tld U b / 2) := pk_div (d := 2) (by omega) (by decide) (by decide)
          have same : ∃ σ', fX8_goesBy_185 (LfX8_goesBy_77 n) (nI hh) (nI b) (nI b) (vup σ 25 (8 * hh + b) (b2 x)) = some σ' ∧ (¬ (pso P (tpl U b) = 3 ∧ pwi P hh = true) → MS σ0 P q (snH P hh) (tHour P hh T) σ' ∧ Rc P hh (tMid P hh T) σ' (pnb P) ∧ Rt P hh (tMid P hh T) σ' (pnb P)) ∨ (pso P (tpl U b) = 3 ∧ pwi P hh = true) := by
            by_cases w : pso P (tpl U b) = 3 ∧ pwi P hh = true
            · exact ⟨σ, Or.inr w⟩
            · have h2 := h1x.ld (b := b) (x := tld U b)
              have h3 : MS σ0 P q (snH P hh) (sLd U b (tld U b)) (vup (vup σ 25 (8 * hh + b) (b2 x)) 13 b (nI (tld U b))) := h2
              have hUe : sLd U b (tld U b) = U := by
                have : va_up (tld U) b (tld U b) = tld U := by
                  funext j
                  unfold va_up
                  split
                  · rename_i e; rw [e]
                  · rfl
                simp only [sLd, this]
              rw [hUe] at h3
              obtain ⟨σ', a1, a2⟩ := tk' _ U h3 rfl rfl h99 (by rw [vup_ne _ _ (by decide)]) (by rw [hsv, tEat, if_neg w])
              refine ⟨σ', Or.inl ⟨?_, fun _ => a2⟩⟩
              unfold fX8_goesBy_185 fX8_goesBy_191
              simp only [hcb, hxb, ↓reduceIte, e13]
              exact a1
          simp only [hcb, hxb, ↓reduceIte, e12, hcf, hxf, e3, m_isIn, Option.bind, b2_0, ← ewi, e13, two]
          by_cases c3 : pso P (tpl U b) = 3
          · rw [if_pos c3]
            by_cases c4 : pwi P hh = false
            · rw [if_pos c4]
              obtain ⟨σ', hs' | hs'⟩ := same
              · exact ⟨σ', hs'.1, hs'.2 (by rw [c4]; simp)⟩
              · rw [c4] at hs'; simp at hs'
            · rw [if_neg c4]
              rw [Bool.not_eq_false] at c4
              have h2 := h1x.ld (b := b) (x := tld U b / 2)
              obtain ⟨σ', a1, a2⟩ := tk' _ (sLd U b (tld U b / 2)) h2 rfl rfl (by simp only [tld, va_up, ↓reduceIte]; simp only [tld] at h99; omega) (by rw [vup_ne _ _ (by decide)]) (by rw [hsv, tEat, if_pos (show pso P (tpl U b) = 3 ∧ pwi P hh = true from ⟨c3, c4⟩)])
              refine ⟨σ', ?_, a2⟩
              unfold fX8_goesBy_191
              simp only [hcb, hxb, ↓reduceIte]
              exact a1
          · rw [if_neg c3]
            obtain ⟨σ', hs' | hs'⟩ := same
            · exact ⟨σ', hs'.1, hs'.2 (fun w => c3 w.1)⟩
            · exact absurd hs'.1 c3
        · rw [if_neg z2]
          refine fin _ ?_ (rtx _ rfl)
          rw [tServe1, if_neg (fun w => z2 (hxe.trans w.2))]
          exact h1x
    show ∃ σ', fX8_goesBy_77 _ _ _ _ = some σ' ∧ _
    unfold fX8_goesBy_77 fX8_goesBy_118
    rw [h.dm.1.2.1, h.dm.1.1]
    simp only [hcb, hxb, hnb, ↓reduceIte]
    rw [h.e12 hb, m_inPl (hpl b hb) hP.1]
    have hte : (snH P hh b && decide (tpl U b < pnf P)) = tThere P hh U b := rfl
    rw [hte]
    simp only [Option.bind, b2_0]
    by_cases z1 : tThere P hh U b = false
    · rw [if_pos z1]
      exact go false _ rfl (by rw [z1]; rfl)
    · rw [if_neg z1]
      rw [Bool.not_eq_false] at z1
      have zz : pho P b ≤ hh ∧ tpl U b < pnf P := by simpa [tThere] using z1
      rw [m_tan hP h hb zz.1 hpl]
      simp only [b2_0]
      by_cases z2 : tTg P hh U b = false
      · rw [if_pos z2]
        exact go false _ rfl (by rw [z1, z2]; rfl)
      · rw [if_neg z2]
        rw [Bool.not_eq_false] at z2
        exact go true _ rfl (by rw [z1, z2]; rfl)
end MV
