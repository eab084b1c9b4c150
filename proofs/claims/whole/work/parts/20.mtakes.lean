theorem m_isIn (x : Int64) (k : Nat) (σ : vMem) : fX8_isIn x (nI k) σ = some (b2 (bitAt x k), σ) := by
  unfold fX8_isIn bitAt
  by_cases h : lg_cmp ((x >>> ((nI k).toInt64 &&& 63)) &&& 1) 1 = 0
  · rw [if_pos h]
    simp [h, fX8_isIn_15]
  · rw [if_neg h]
    simp [h, fX8_isIn_15]
theorem m_in (a lo hi : Int32) (σ : vMem) : fX8_in a lo hi σ = some (b2 (decide (¬ a < lo ∧ ¬ hi < a)), σ) := by
  unfold fX8_in fX8_in_14 fX8_in_15
  by_cases h1 : a < lo
  · simp [h1]
  · by_cases h2 : hi < a
    · simp [h1, h2]
    · simp [h1, h2]
theorem m_inPl {s : Bool} {p n : Nat} (hp : p ≤ 9) (hn : n ≤ 9) (σ : vMem) : fX8_in (if s = true then nI p else -1) 0 (nI n - 1) σ = some (b2 (s && decide (p < n)), σ) := by
  rw [m_in]
  congr 3
  cases s with
  | false => simp only [Bool.false_eq_true, ↓reduceIte, show ((-1 : Int32) < 0) by decide, not_true_eq_false, false_and, decide_false, Bool.false_and]
  | true =>
    simp only [↓reduceIte, Bool.true_and, nI_lt0 (show p < 2 ^ 31 by omega), not_false_eq_true, true_and]
    congr 1
    by_cases h0 : n = 0
    · subst h0
      simp only [eq_iff_iff]
      constructor
      · intro h
        exact absurd (show nI 0 - 1 < nI p from by
          have e : (nI 0 - 1 : Int32) = -1 := by decide
          rw [e, Int32.lt_iff_toInt_lt, nI_toInt (by omega)]
          have : (-1 : Int32).toInt = -1 := by decide
          omega) h
      · intro h; omega
    · rw [show (1 : Int32) = nI 1 from rfl, pk_sub (by omega), nI_ltI (by omega) (by omega)]
      simp only [eq_iff_iff]
      omega
section MT
variable {σ0 : vMem} {P : vP} {q : Nat} {sn : Nat → Bool} {T : vT} {σ : vMem} {b f hh : Nat}
theorem m_takes_190 (h : MS σ0 P q sn T σ) (hP : WP P) (hb : b < pnb P) (hf : f < pnf P) (hB : ∀ c, c < pnb P → tnl T c ≤ 24 ∧ 1 ≤ tnl T c) (hl : tnl T b < 24) :
    ∃ σ', fX8_takes_190 (nI b) (nI f) σ = some σ' ∧ MS σ0 P q sn (if pso P f = 1 then sNt T b (upd (tnt T b) 0 (pwo P f)) else sNl (sNt T b (upd (tnt T b) (tnl T b) (pwo P f))) b (tnl T b + 1)) σ' ∧ ∀ a, 22 ≤ a → σ'.1 a = σ.1 a := by
  have hb8 : b < 8 := Nat.lt_of_lt_of_le hb hP.2.1
  have hf9 : f < 9 := Nat.lt_of_lt_of_le hf hP.1
  have hcb : (nI b).toNatClampNeg = b := nI_clamp (by omega)
  have hcf : (nI f).toNatClampNeg = f := nI_clamp (by omega)
  have hxb := ixF hb8 (by decide)
  have hxf := ixF (show f < 10 by omega) (by decide)
  obtain ⟨tb, htb⟩ := h.dm.2.2.1
  have e3 := (htb f hf).1
  have e5 := (htb f hf).2.2.2.2
  have e14 := h.e14 hb
  have i0 : (24 : Int32) * nI b = nI (24 * b) := by rw [show (24 : Int32) = nI 24 from rfl, pk_mul]
  have i1 : nI (24 * b) + nI (tnl T b) = nI (24 * b + tnl T b) := nI_add _ _
  have c0 : (nI (24 * b)).toNatClampNeg = 24 * b := nI_clamp (by omega)
  have c1 : (nI (24 * b + tnl T b)).toNatClampNeg = 24 * b + tnl T b := nI_clamp (by omega)
  have x0 := ixF (k := 24 * b) (N := 192) (by omega) (by decide)
  have x1 := ixF (k := 24 * b + tnl T b) (N := 192) (by omega) (by decide)
  simp only [fX8_takes_190, hcb, hcf, hxb, hxf, ↓reduceIte, e3, e5, e14, i0, i1, c0, c1, x0, x1]
  by_cases hm : pso P f = 1
  · rw [if_pos hm, if_pos hm]
    exact ⟨_, rfl, h.mi hb hB, fun a ha => by rw [vup_ne _ _ (by omega)]⟩
  · rw [if_neg hm, if_neg hm]
    refine ⟨_, ?_, h.wo hb (fun c hc => (hB c hc).1) hl, fun a ha => by rw [vup_ne _ _ (by omega), vup_ne _ _ (by omega)]⟩
    simp only [fX8_takes_240, fX8_takes_250, hcb, hxb, ↓reduceIte, vup_rd, Nat.reduceEqDiff, e14]
    rw [nI_1]
theorem m_takes_109 (h : MS σ0 P q sn T σ) (hP : WP P) (hb : b < pnb P) (hf : f < pnf P) (hB : ∀ c, c < pnb P → tnl T c ≤ 24 ∧ 1 ≤ tnl T c) (hl : tnl T b < 24) {p : Nat} (hp : p ≤ tld T b) (hpe : p = if tld T b ≤ pbi P f then tld T b else pbi P f) :
    ∃ σ', fX8_takes_109 (nI b) (nI f) (nI hh) (nI p) σ = some σ' ∧ MS σ0 P q sn (tBite P hh b f T) σ' ∧ ∀ a, 22 ≤ a → σ'.1 a = σ.1 a := by
  have hb8 : b < 8 := Nat.lt_of_lt_of_le hb hP.2.1
  have hf9 : f < 9 := Nat.lt_of_lt_of_le hf hP.1
  have hcb : (nI b).toNatClampNeg = b := nI_clamp (by omega)
  have hcf : (nI f).toNatClampNeg = f := nI_clamp (by omega)
  have hxb := ixF hb8 (by decide)
  have hxf := ixF hf9 (by decide)
  have e13 := h.e13 hb
  have h1 := h.ld (b := b) (x := tld T b - p)
  have h2 := h1.la (f := f) (x := nI hh)
  have h3 := h2.of (f := f) (x := tof T f + 1)
  have h4 := h3.ea (f := f) (x := tea T f + p)
  have e20 := h2.e20 hf
  have e21 := h3.e21 hf
  simp only [fX8_takes_109, fX8_takes_122, fX8_takes_129, fX8_takes_139, hcb, hcf, hxb, hxf, ↓reduceIte, e13, pk_sub hp]
  rw [e20, e21]
  rw [show nI (tea T f) + nI p = nI (tea T f + p) from nI_add _ _]
  have t4 : ∀ a, 22 ≤ a → (vup (vup (vup (vup σ 13 b (nI (tld T b - p))) 19 f (nI hh)) 20 f (tof T f + 1)) 21 f (nI (tea T f + p))).1 a = σ.1 a := fun a ha => by
    rw [vup_ne _ _ (by omega), vup_ne _ _ (by omega), vup_ne _ _ (by omega), vup_ne _ _ (by omega)]
  have h4' : MS σ0 P q sn (sEa (sOf (sLa (sLd T b (tld T b - p)) f (nI hh)) f (tof T f + 1)) f (tea T f + p)) (vup (vup (vup (vup σ 13 b (nI (tld T b - p))) 19 f (nI hh)) 20 f (tof T f + 1)) 21 f (nI (tea T f + p))) := h4
  generalize vup (vup (vup (vup σ 13 b (nI (tld T b - p))) 19 f (nI hh)) 20 f (tof T f + 1)) 21 f (nI (tea T f + p)) = σ5 at h4' t4 ⊢
  have efh : σ5.1 0 30 = tfh T := h4'.efh
  have eff : σ5.1 0 31 = tff T := h4'.eff
  unfold fX8_takes_150 fX8_takes_167 fX8_takes_170 fX8_takes_187
  simp only [vup_rd, Nat.reduceEqDiff, ↓reduceIte, efh, eff]
  unfold tBite
  rw [← hpe]
  by_cases hq : tfh T = -1
  · simp only [hq, ↓reduceIte]
    have h6 := ((h4'.bt (tbt T + 1)).ff (x := nI f)).fh (x := nI hh)
    obtain ⟨σ', a1, a2, a3⟩ := m_takes_190 h6 hP hb hf hB hl
    exact ⟨σ', a1, a2, fun a ha => by rw [a3 a ha, vup_ne _ _ (by omega), vup_ne _ _ (by omega)]; exact t4 a ha⟩
  · simp only [hq, ↓reduceIte]
    have h6 := ((h4'.bt (tbt T + 1)).ff (x := tff T)).fh (x := tfh T)
    obtain ⟨σ', a1, a2, a3⟩ := m_takes_190 h6 hP hb hf hB hl
    exact ⟨σ', a1, a2, fun a ha => by rw [a3 a ha, vup_ne _ _ (by omega), vup_ne _ _ (by omega)]; exact t4 a ha⟩
theorem m_takes (h : MS σ0 P q sn T σ) (hP : WP P) (hb : b < pnb P) (hf : f < pnf P) (hB : ∀ c, c < pnb P → tnl T c ≤ 24 ∧ 1 ≤ tnl T c) (hl : tnl T b < 24) (h99 : tld T b ≤ 99) :
    ∃ σ', fX8_takes (nI b) (nI f) (nI hh) σ = some σ' ∧ MS σ0 P q sn (if 0 < tld T b ∧ tHungry P hh f T = true then tBite P hh b f T else T) σ' ∧ ∀ a, 22 ≤ a → σ'.1 a = σ.1 a := by
  have hb8 : b < 8 := Nat.lt_of_lt_of_le hb hP.2.1
  have hf9 : f < 9 := Nat.lt_of_lt_of_le hf hP.1
  have hcb : (nI b).toNatClampNeg = b := nI_clamp (by omega)
  have hcf : (nI f).toNatClampNeg = f := nI_clamp (by omega)
  have hxb := ixF hb8 (by decide)
  have hxf := ixF hf9 (by decide)
  have hxf2 := ixF (show f < 10 by omega) (by decide)
  have e19 := h.e19 hf
  have e11 := h.dm.1.2.2.1
  have esu := h.dm.2.1.2
  obtain ⟨tb, htb⟩ := h.dm.2.2.1
  obtain ⟨-, tb9, e4, ebi, -⟩ := htb f hf
  have e13 := h.e13 hb
  -- behind the hunger
  have key : ∀ hu : Bool, hu = (decide (tla T f = -1) || decide (phu P < nI hh - tla T f)) → ∃ σ', fX8_takes_30 (nI b) (nI f) (nI hh) (b2 hu) σ = some σ' ∧ MS σ0 P q sn (if 0 < tld T b ∧ tHungry P hh f T = true then tBite P hh b f T else T) σ' ∧ ∀ a, 22 ≤ a → σ'.1 a = σ.1 a := by
    intro hu hue
    unfold fX8_takes_30
    rw [m_isIn]
    simp only [Option.bind, m_isIn, b2_0, fX8_takes_78, hcb, hcf, hxb, hxf2, ↓reduceIte, e13, e4, nI_eq0 (show tld T b < 2 ^ 31 by omega), nI_eq0 (show tb f < 2 ^ 31 by omega), nI_leI (show tld T b < 2 ^ 31 by omega) (show tb f < 2 ^ 31 by omega)]
    have hH : tHungry P hh f T = (hu && decide (0 < pbi P f) && !psu P hh) := by unfold tHungry; rw [hue]
    rw [esu] at hH
    by_cases c1 : bitAt (σ.2 0 18) hh = false
    · rw [if_pos c1]
      by_cases c2 : bitAt (σ.1 0 19).toInt64 f = false
      · rw [c2] at ebi
        simp only [Bool.false_eq_true, ↓reduceIte] at ebi
        rw [if_pos c2]
        by_cases c3 : hu = false
        · rw [if_pos c3, if_neg (by rw [hH, c3]; simp)]
          exact ⟨σ, rfl, h, fun _ _ => rfl⟩
        · rw [if_neg c3]
          by_cases c4 : tld T b = 0
          · rw [if_pos c4, if_neg (by omega)]
            exact ⟨σ, rfl, h, fun _ _ => rfl⟩
          · rw [if_neg c4]
            by_cases c5 : tb f = 0
            · rw [if_pos c5, if_neg (by rw [hH, ebi, c5]; simp)]
              exact ⟨σ, rfl, h, fun _ _ => rfl⟩
            · rw [if_neg c5]
              have hu1 : hu = true := by simpa using c3
              rw [if_pos (show 0 < tld T b ∧ tHungry P hh f T = true from ⟨by omega, by rw [hH, hu1, c1, ebi]; simp; omega⟩)]
              by_cases c6 : tld T b ≤ tb f
              · rw [if_pos c6]
                exact m_takes_109 h hP hb hf hB hl (Nat.le_refl _) (by rw [ebi, if_pos c6])
              · rw [if_neg c6]
                exact m_takes_109 h hP hb hf hB hl (by omega) (by rw [ebi, if_neg c6])
      · rw [Bool.not_eq_false] at c2
        rw [c2] at ebi ⊢
        simp only [↓reduceIte] at ebi
        simp only [Bool.true_eq_false, ↓reduceIte]
        rw [if_neg (by rw [hH, ebi]; simp)]
        exact ⟨σ, rfl, h, fun _ _ => rfl⟩
    · rw [Bool.not_eq_false] at c1
      rw [c1] at hH ⊢
      simp only [Bool.true_eq_false, ↓reduceIte]
      rw [if_neg (by rw [hH]; simp)]
      exact ⟨σ, rfl, h, fun _ _ => rfl⟩
  unfold fX8_takes fX8_takes_25
  simp only [hcf, hxf, ↓reduceIte, e19, e11]
  by_cases c1 : tla T f = -1
  · rw [if_pos c1]
    exact key true (by simp [c1])
  · rw [if_neg c1]
    by_cases c2 : nI hh - tla T f ≤ phu P
    · rw [if_pos c2]
      exact key false (by simp [c1, Int32.not_lt.mpr c2])
    · rw [if_neg c2]
      exact key true (by simp [Int32.not_le.mp c2])
end MT
