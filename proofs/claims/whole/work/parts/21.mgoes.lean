section MU
variable {σ0 : vMem} {P : vP} {q : Nat} {sn : Nat → Bool} {T : vT} {σ : vMem} {b f hh : Nat}
/-- a letter changes -/
theorem MS.nt (h : MS σ0 P q sn T σ) {i0 : Nat} {x : Int32} (hB : ∀ c, c < pnb P → tnl T c ≤ 24) (hi0 : i0 < 24) : MS σ0 P q sn (sNt T b (upd (tnt T b) i0 x)) (vup σ 15 (24 * b + i0) x) := by
  obtain ⟨⟨⟨h0, h1⟩, h2⟩, h4, h5, h6, h7, h8⟩ := h
  refine ⟨⟨⟨h0, h1.up (by decide) (by decide)⟩, fun a j ha1 ha2 hj => ?_⟩, ?_, ?_, ?_, fun c hc i hi => ?_, ?_⟩
  · rw [vup_ne _ _ (by omega)]; exact h2 a j ha1 ha2 hj
  · simpa only [vup_rd, Nat.reduceEqDiff, ↓reduceIte] using h4
  · simpa only [vup_rd, Nat.reduceEqDiff, ↓reduceIte] using h5
  · simpa only [vup_rd, Nat.reduceEqDiff, ↓reduceIte] using h6
  · simp only [vup_rd, ↓reduceIte, tnt, va_up]
    by_cases e : c = b
    · subst e
      simp only [↓reduceIte, upd]
      by_cases e2 : i = i0
      · subst e2; simp
      · rw [if_neg (by omega), if_neg e2]; exact h7 c hc i hi
    · rw [if_neg e, if_neg ?_]
      · exact h7 c hc i hi
      · have := hB c hc
        have hi : i < tnl T c := hi
        simp only [tnl] at *
        omega
  · simpa only [vup_rd, Nat.reduceEqDiff, ↓reduceIte] using h8
theorem MS.ntc {g : Nat → Int32} (h : MS σ0 P q sn T σ) (hg : ∀ i, i < tnl T b → tnt T b i = g i) : MS σ0 P q sn (sNt T b g) σ := by
  obtain ⟨h0, h4, h5, h6, h7, h8⟩ := h
  refine ⟨h0, h4, h5, h6, fun c hc i hi => ?_, h8⟩
  simp only [tnt, va_up]
  by_cases e : c = b
  · subst e
    simp only [↓reduceIte]
    rw [← hg i hi]
    exact h7 c hc i hi
  · rw [if_neg e]
    exact h7 c hc i hi
theorem MS.nl (h : MS σ0 P q sn T σ) {m : Nat} (hm : m ≤ tnl T b) : MS σ0 P q sn (sNl T b m) (vup σ 14 b (nI m)) := by
  obtain ⟨⟨⟨h0, h1⟩, h2⟩, h4, h5, h6, h7, h8⟩ := h
  refine ⟨⟨⟨h0, h1.up (by decide) (by decide)⟩, fun a j ha1 ha2 hj => ?_⟩, ?_, ?_, fun c hc => ?_, fun c hc i hi => ?_, ?_⟩
  · rw [vup_ne _ _ (by omega)]; exact h2 a j ha1 ha2 hj
  · simpa only [vup_rd, Nat.reduceEqDiff, ↓reduceIte] using h4
  · simpa only [vup_rd, Nat.reduceEqDiff, ↓reduceIte] using h5
  · simp only [vup_rd, ↓reduceIte, tnl, va_up]
    by_cases e : c = b
    · subst e; simp
    · simp only [e, ↓reduceIte]; exact h6 c hc
  · simp only [vup_rd, Nat.reduceEqDiff, ↓reduceIte]
    refine h7 c hc i ?_
    simp only [tnl, va_up] at hi hm ⊢
    by_cases e : c = b
    · subst e; simp only [↓reduceIte] at hi; omega
    · simp only [e, ↓reduceIte] at hi; exact hi
  · simpa only [vup_rd, Nat.reduceEqDiff, ↓reduceIte] using h8
theorem m_shift (hP : WP P) (hb : b < pnb P) (nt : Nat → Int32) {m : Nat} (hm : m ≤ 22) : ∀ (k n i : Nat) (U : vT) (σ : vMem), i + k = m → k < n → MS σ0 P q sn U σ → tnl U b = m → (∀ c, c < pnb P → tnl U c ≤ 24) → (∀ j, j ≤ m → σ.1 15 (24 * b + j) = if j < i then nt (j + 1) else nt j) →
    (∀ j, j < m → tnt U b j = if j < i then nt (j + 1) else nt j) → ∃ σ', LfX8_wears_46 n (nI b) (nI i) σ = some σ' ∧ MS σ0 P q sn (sNt U b (fun j => nt (j + 1))) σ' ∧ ∀ a, 22 ≤ a → σ'.1 a = σ.1 a := by
  have hb8 : b < 8 := Nat.lt_of_lt_of_le hb hP.2.1
  have hcb : (nI b).toNatClampNeg = b := nI_clamp (by omega)
  have hxb := ixF hb8 (by decide)
  intro k
  induction k with
  | zero =>
    intro n i U σ hik hn h hU hB hE hg
    obtain ⟨n, rfl⟩ : ∃ j, n = j + 1 := ⟨n - 1, by omega⟩
    have e14 := h.e14 hb
    refine ⟨σ, ?_, h.ntc (fun j hj => ?_), fun _ _ => rfl⟩
    · show fX8_wears_46 _ _ _ _ = _
      unfold fX8_wears_46
      simp only [hcb, hxb, ↓reduceIte, e14, hU, nI_leI (show m < 2 ^ 31 by omega) (show i < 2 ^ 31 by omega)]
      rw [if_pos (by omega)]
      rfl
    · rw [hg j (by omega), if_pos (by omega)]
  | succ k ih =>
    intro n i U σ hik hn h hU hB hE hg
    obtain ⟨n, rfl⟩ : ∃ j, n = j + 1 := ⟨n - 1, by omega⟩
    have e14 := h.e14 hb
    have i0 : (24 : Int32) * nI b = nI (24 * b) := by rw [show (24 : Int32) = nI 24 from rfl, pk_mul]
    have i1 : nI (24 * b) + nI i = nI (24 * b + i) := nI_add _ _
    have i2 : nI (24 * b + i) + 1 = nI (24 * b + i + 1) := nI_1 _
    have c1 : (nI (24 * b + i)).toNatClampNeg = 24 * b + i := nI_clamp (by omega)
    have c2 : (nI (24 * b + i + 1)).toNatClampNeg = 24 * b + i + 1 := nI_clamp (by omega)
    have x1 := ixF (k := 24 * b + i) (N := 192) (by omega) (by decide)
    have x2 := ixF (k := 24 * b + i + 1) (N := 192) (by omega) (by decide)
    have er : σ.1 15 (24 * b + i + 1) = nt (i + 1) := by
      rw [show 24 * b + i + 1 = 24 * b + (i + 1) by omega, hE (i + 1) (by omega), if_neg (by omega)]
    have h1 := h.nt (b := b) (i0 := i) (x := nt (i + 1)) hB (by omega)
    obtain ⟨σ', a1, a2, a3⟩ := ih n (i + 1) _ _ (by omega) (by omega) h1 hU hB (fun j hj => by
      rw [vup_rd]
      by_cases e : j = i
      · subst e; simp
      · rw [if_pos rfl, if_neg (by omega), hE j hj]
        by_cases e2 : j < i
        · rw [if_pos e2, if_pos (by omega)]
        · rw [if_neg e2, if_neg (by omega)]) (fun j hj => by
      simp only [tnt, va_up, ↓reduceIte, upd]
      by_cases e : j = i
      · subst e; simp
      · rw [if_neg e]
        have := hg j hj
        simp only [tnt] at this
        rw [this]
        by_cases e2 : j < i
        · rw [if_pos e2, if_pos (by omega)]
        · rw [if_neg e2, if_neg (by omega)])
    refine ⟨σ', ?_, ?_, fun a ha => by rw [a3 a ha, vup_ne _ _ (by omega)]⟩
    · show fX8_wears_46 _ _ _ _ = _
      unfold fX8_wears_46 fX8_wears_80
      simp only [hcb, hxb, ↓reduceIte, e14, hU, nI_leI (show m < 2 ^ 31 by omega) (show i < 2 ^ 31 by omega), i0, i1, i2, c1, c2, x1, x2, er]
      rw [if_neg (by omega), nI_1]
      exact a1
    · have : sNt (sNt U b (upd (tnt U b) i (nt (i + 1)))) b (fun j => nt (j + 1)) = sNt U b (fun j => nt (j + 1)) := by
        simp only [sNt, tnt, bx_uu]
      rw [this] at a2
      exact a2
theorem m_wears (hP : WP P) (h : MS σ0 P q sn T σ) (hb : b < pnb P) (hs : sn b = true) (hpl : tpl T b < pnf P) (hnl : 1 ≤ tnl T b) (hB : ∀ c, c < pnb P → tnl T c ≤ 21) :
    ∃ σ', fX8_wears (nI b) (vup σ 12 b (nI (tpl T b + 1))) = some σ' ∧ MS σ0 P q sn (if (tpl T b + 1) % pwe P = 0 ∧ 2 ≤ tnl T b then sSt (sNt (sNl (sPl T b (tpl T b + 1)) b (tnl T b - 1)) b (fun i => tnt T b (i + 1))) b (tst T b + 1) else sPl T b (tpl T b + 1)) σ' ∧ ∀ a, 22 ≤ a → σ'.1 a = σ.1 a := by
  have hb8 : b < 8 := Nat.lt_of_lt_of_le hb hP.2.1
  have hnf := hP.1
  have hwe := hP.2.2.2.2
  have hcb : (nI b).toNatClampNeg = b := nI_clamp (by omega)
  have hxb := ixF hb8 (by decide)
  have e17 := h.e17 hb
  have h1 := h.pl (b := b) (x := tpl T b + 1) hs
  have hnlb := hB b hb
  unfold fX8_wears fX8_wears_10
  simp only [hcb, hxb, ↓reduceIte, vup_rd, Nat.reduceEqDiff, e17, nI_1]
  have f12 := h1.dm.1.2.2.2
  simp only [vup_rd, Nat.reduceEqDiff, ↓reduceIte] at f12
  have f14 := h1.e14 hb
  simp only [vup_rd, Nat.reduceEqDiff, ↓reduceIte] at f14
  change σ.1 14 b = nI (tnl T b) at f14
  have hmod : (tpl T b + 1) % pwe P < 2 ^ 31 := by
    have := Nat.mod_le (tpl T b + 1) (pwe P)
    omega
  rw [f12, f14, if_neg (by rw [nI_eq0 (by omega)]; omega), pk_rem (by omega) (by omega) (by omega)]
  simp only [nI_eq0 hmod, show (1 : Int32) = nI 1 from rfl, nI_leI (show tnl T b < 2 ^ 31 by omega) (show 1 < 2 ^ 31 by decide)]
  have t1 : ∀ a, 22 ≤ a → (vup (vup σ 12 b (nI (tpl T b + 1))) 17 b (nI (tpl T b + 1))).1 a = σ.1 a := fun a ha => by rw [vup_ne _ _ (by omega), vup_ne _ _ (by omega)]
  by_cases c1 : (tpl T b + 1) % pwe P = 0
  · by_cases c2 : tnl T b ≤ 1
    · rw [if_pos c1, if_pos c2, if_neg (show ¬ ((tpl T b + 1) % pwe P = 0 ∧ 2 ≤ tnl T b) by omega)]
      exact ⟨_, rfl, h1, t1⟩
    · rw [if_pos c1, if_neg c2, if_pos (show (tpl T b + 1) % pwe P = 0 ∧ 2 ≤ tnl T b by omega), pk_sub (by omega)]
      have h2 := h1.nl (b := b) (m := tnl T b - 1) (by simp only [tnl]; omega)
      have h7 : ∀ j, j < tnl T b → σ.1 15 (24 * b + j) = tnt T b j := fun j hj => h.e15 hb hj
      obtain ⟨σ', a1, a2, a3⟩ := m_shift hP hb (tnt T b) (m := tnl T b - 1) (by omega) (tnl T b - 1) 200 0 _ _ (by omega) (by omega) h2 (by simp [tnl, va_up]) (fun c hc => by
        have := hB c hc
        have h3 := hnlb
        simp only [tnl, va_up] at this h3 ⊢
        split <;> omega) (fun j hj => by
        simp only [vup_rd, Nat.reduceEqDiff, ↓reduceIte]
        rw [if_neg (by omega)]
        exact h7 j (by omega)) (fun j hj => by rw [if_neg (by omega)])
      exact ⟨σ', a1, a2, fun a ha => by rw [a3 a ha, vup_ne _ _ (by omega)]; exact t1 a ha⟩
  · rw [if_neg c1, if_neg (show ¬ ((tpl T b + 1) % pwe P = 0 ∧ 2 ≤ tnl T b) by omega)]
    exact ⟨_, rfl, h1, t1⟩
theorem m_goesUp (hP : WP P) (h : MS σ0 P q sn T σ) (hb : b < pnb P) (hs : sn b = true) (hpl : tpl T b < pnf P) (hnl : 1 ≤ tnl T b) (hB : ∀ c, c < pnb P → tnl T c ≤ 21) (hup : tup T b = -1) :
    ∃ σ', fX8_goesUp (nI b) (nI hh) σ = some σ' ∧ MS σ0 P q sn (if pso P (tpl T b) = 2 ∧ thd T b = false ∧ psu P hh = false then sHd T b true else tLeave P hh b T) σ' ∧ ∀ a, 22 ≤ a → σ'.1 a = σ.1 a := by
  have hb8 : b < 8 := Nat.lt_of_lt_of_le hb hP.2.1
  have hnf := hP.1
  have hcb : (nI b).toNatClampNeg = b := nI_clamp (by omega)
  have hxb := ixF hb8 (by decide)
  have e12 : σ.1 12 b = nI (tpl T b) := by rw [h.e12 hb, if_pos hs]
  have e16 := h.e16 hb
  have hcf : (nI (tpl T b)).toNatClampNeg = tpl T b := nI_clamp (by omega)
  have hxf := ixF (k := tpl T b) (N := 10) (by omega) (by decide)
  obtain ⟨tb, htb⟩ := h.dm.2.2.1
  have e3 := (htb _ hpl).1
  have esu := h.dm.2.1.2
  have lv : ∃ σ', fX8_goesUp_39 (nI b) (nI hh) σ = some σ' ∧ MS σ0 P q sn (tLeave P hh b T) σ' ∧ ∀ a, 22 ≤ a → σ'.1 a = σ.1 a := by
    have h1 := h.hd (b := b) (x := false)
    obtain ⟨σ1, a1, a2, a3⟩ := m_wears hP h1 hb hs hpl hnl hB
    change fX8_wears (nI b) (vup (vup σ 16 b 0) 12 b (nI (tpl T b + 1))) = some σ1 at a1
    have hz : ¬ ¬ ((0 : Int32) = 0 ∨ (0 : Int32) = 1) := by decide
    have e12' : (vup σ 16 b 0).1 12 b = nI (tpl T b) := by rw [vup_ne _ _ (by decide)]; exact e12
    unfold fX8_goesUp_39 fX8_goesUp_40 fX8_goesUp_48 fX8_goesUp_62
    simp only [hcb, hxb, ↓reduceIte, hz, e12']
    rw [nI_1, a1]
    simp only [Option.bind]
    have p1 : σ1.1 12 b = nI (tpl T b + 1) := by
      rw [a2.e12 hb, if_pos hs]
      split <;> simp [tpl, va_up]
    have p2 := a2.dm.1.1
    have hpu : tup (if (tpl (sHd T b false) b + 1) % pwe P = 0 ∧ 2 ≤ tnl (sHd T b false) b then sSt (sNt (sNl (sPl (sHd T b false) b (tpl (sHd T b false) b + 1)) b (tnl (sHd T b false) b - 1)) b (fun i => tnt (sHd T b false) b (i + 1))) b (tst (sHd T b false) b + 1) else sPl (sHd T b false) b (tpl (sHd T b false) b + 1)) = tup T := by split <;> rfl
    rw [p1, p2]
    simp only [nI_eq (show tpl T b + 1 < 2 ^ 31 by omega) (show pnf P < 2 ^ 31 by omega)]
    unfold fX8_goesUp_92 fX8_goesUp_93 tLeave
    simp only [hcb, hxb, ↓reduceIte]
    have t1 : ∀ a, 22 ≤ a → σ1.1 a = σ.1 a := fun a ha => by rw [a3 a ha, vup_ne _ _ (by omega)]
    by_cases c : tpl T b + 1 = pnf P
    · rw [if_pos c, if_pos c, nI_1]
      exact ⟨_, rfl, (a2.up (b := b) (x := nI (hh + 1))).nu (tnu T - 1), fun a ha => by rw [vup_ne _ _ (by omega)]; exact t1 a ha⟩
    · rw [if_neg c, if_neg c]
      refine ⟨_, rfl, ?_, fun a ha => by rw [vup_ne _ _ (by omega)]; exact t1 a ha⟩
      have h3 := a2.up (b := b) (x := -1)
      have hb18 := a2.e18 hb
      rw [hpu, hup] at hb18
      have same : vup σ1 18 b (-1) = σ1 := by
        have : (vup σ1 18 b (-1)).1 = σ1.1 := by
          funext a j
          rw [vup_rd]
          by_cases ea : a = 18
          · subst ea
            by_cases ej : j = b
            · subst ej; simp [hb18]
            · simp [ej]
          · simp [ea]
        exact Prod.ext this rfl
      rw [same]
      exact a2
  unfold fX8_goesUp
  simp only [hcb, hxb, ↓reduceIte, e12, hcf, hxf, e3, e16, b2_0, m_isIn, Option.bind]
  rw [← esu]
  by_cases c1 : pso P (tpl T b) = 2
  · by_cases c2 : thd T b = false
    · by_cases c3 : psu P hh = false
      · rw [if_pos c1, if_pos c2, if_pos c3, if_pos ⟨c1, c2, c3⟩]
        refine ⟨_, ?_, h.hd (b := b) (x := true), fun a ha => by rw [vup_ne _ _ (by omega)]⟩
        unfold fX8_goesUp_40 fX8_goesUp_48 fX8_goesUp_93
        simp only [hcb, hxb, ↓reduceIte, show ¬ ¬ ((1 : Int32) = 0 ∨ (1 : Int32) = 1) by decide, show ¬ ((1 : Int32) = 0) by decide]
        rfl
      · rw [if_pos c1, if_pos c2, if_neg c3, if_neg (fun q => c3 q.2.2)]
        exact lv
    · rw [if_pos c1, if_neg c2, if_neg (fun q => c2 q.2.1)]
      exact lv
  · rw [if_neg c1, if_neg (fun q => c1 q.1)]
    exact lv
end MU
