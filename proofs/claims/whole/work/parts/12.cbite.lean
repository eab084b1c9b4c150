section CB
variable {σ0 : vMem} {P : vP} {w y : Bool} {sn : Nat → Bool} {T : vT} {σ : vMem} {b f hh : Nat}
theorem c_bite_105 (h : CS σ0 P w y sn T σ) (hP : WP P) (hb : b < pnb P) (hf : f < pnf P) (hB : ∀ c, c < pnb P → tst T c + tnl T c ≤ 21 ∧ 1 ≤ tnl T c) (hl : tst T b + tnl T b < 21) :
    ∃ σ', fX6_bite_105 (nI b) (nI f) σ = some σ' ∧ CS σ0 P w y sn (if pso P f = 1 then sNt T b (upd (tnt T b) 0 (pwo P f)) else sNl (sNt T b (upd (tnt T b) (tnl T b) (pwo P f))) b (tnl T b + 1)) σ' ∧ σ'.1 16 = σ.1 16 := by
  have hb8 : b < 8 := Nat.lt_of_lt_of_le hb hP.2.1
  have hf9 : f < 9 := Nat.lt_of_lt_of_le hf hP.1
  have hcb : (nI b).toNatClampNeg = b := nI_clamp (by omega)
  have hcf : (nI f).toNatClampNeg = f := nI_clamp (by omega)
  have hxb := ixF hb8 (by decide)
  have hxf := ixF hf9 (by decide)
  have e6 := (h.dc.2.1 f hf).1
  have e8 := (h.dc.2.1 f hf).2.2
  have e20 := h.e20 hb
  have e21 := h.e21 hb
  have hst : tst T b < 21 := by have := (hB b hb).2; omega
  have i0 : nI b * 21 + nI (tst T b) = nI (21 * b + tst T b) := by rw [show (21 : Int32) = nI 21 from rfl, pk_mul, nI_add, Nat.mul_comm]
  have i1 : nI b * 21 + nI (tst T b + tnl T b) = nI (21 * b + (tst T b + tnl T b)) := by rw [show (21 : Int32) = nI 21 from rfl, pk_mul, nI_add, Nat.mul_comm]
  have c0 : (nI (21 * b + tst T b)).toNatClampNeg = 21 * b + tst T b := nI_clamp (by omega)
  have c1 : (nI (21 * b + (tst T b + tnl T b))).toNatClampNeg = 21 * b + (tst T b + tnl T b) := nI_clamp (by omega)
  have x0 := ixF (k := 21 * b + tst T b) (N := 168) (by omega) (by decide)
  have x1 := ixF (k := 21 * b + (tst T b + tnl T b)) (N := 168) (by omega) (by decide)
  have g21 : ((21 : Int32) ≤ nI (tst T b + tnl T b)) = False := eq_false (fun q => by
    have := (nI_leI (a := 21) (by decide) (by omega)).mp q
    omega)
  simp only [fX6_bite_105, hcb, hcf, hxb, hxf, ↓reduceIte, e6, e8, e20, e21, i0, i1, c0, c1, x0, x1, g21]
  by_cases hm : pso P f = 1
  · rw [if_pos hm, if_pos hm]
    exact ⟨_, rfl, h.mi hb hB, by rw [vup_ne _ _ (by decide)]⟩
  · rw [if_neg hm, if_neg hm]
    refine ⟨_, ?_, h.wo hb (fun c hc => (hB c hc).1) hl, by rw [vup_ne _ _ (by decide), vup_ne _ _ (by decide)]⟩
    simp only [fX6_bite_182, fX6_bite_192, hcb, hxb, ↓reduceIte, vup_rd, Nat.reduceEqDiff, e21]
    rw [nI_1]
theorem c_bite_36 (h : CS σ0 P w y sn T σ) (hP : WP P) (hb : b < pnb P) (hf : f < pnf P) (hB : ∀ c, c < pnb P → tst T c + tnl T c ≤ 21 ∧ 1 ≤ tnl T c) (hl : tst T b + tnl T b < 21) {p : Nat} (hp : p ≤ tld T b) (hpe : p = if tld T b ≤ pbi P f then tld T b else pbi P f) :
    ∃ σ', fX6_bite_36 (nI b) (nI f) (nI hh) (nI p) σ = some σ' ∧ CS σ0 P w y sn (tBite P hh b f T) σ' ∧ σ'.1 16 = σ.1 16 := by
  have hb8 : b < 8 := Nat.lt_of_lt_of_le hb hP.2.1
  have hf9 : f < 9 := Nat.lt_of_lt_of_le hf hP.1
  have hcb : (nI b).toNatClampNeg = b := nI_clamp (by omega)
  have hcf : (nI f).toNatClampNeg = f := nI_clamp (by omega)
  have hxb := ixF hb8 (by decide)
  have hxf := ixF hf9 (by decide)
  have e15 := h.e15 hb
  have h1 := h.ld (b := b) (x := tld T b - p)
  have h2 := h1.la (f := f) (x := nI hh)
  have h3 := h2.of (f := f) (x := tof T f + 1)
  have h4 := h3.ea (f := f) (x := tea T f + p)
  have h5 := h4.bt (x := tbt T + 1)
  have e23 := h2.e23 hf
  have e24 := h3.e24 hf
  have ebt := h4.ebt
  simp only [fX6_bite_36, fX6_bite_49, fX6_bite_56, fX6_bite_66, fX6_bite_77, hcb, hcf, hxb, hxf, ↓reduceIte, e15, pk_sub hp]
  rw [e23, e24]
  rw [show nI (tea T f) + nI p = nI (tea T f + p) from nI_add _ _]
  rw [show (vup (vup (vup (vup σ 15 b (nI (tld T b - p))) 22 f (nI hh)) 23 f (tof T f + 1)) 24 f (nI (tea T f + p))).1 13 15 = tbt T from ebt]
  have t5 : (vup (vup (vup (vup (vup σ 15 b (nI (tld T b - p))) 22 f (nI hh)) 23 f (tof T f + 1)) 24 f (nI (tea T f + p))) 13 15 (tbt T + 1)).1 16 = σ.1 16 := by
    rw [vup_ne _ _ (by decide), vup_ne _ _ (by decide), vup_ne _ _ (by decide), vup_ne _ _ (by decide), vup_ne _ _ (by decide)]
  generalize vup (vup (vup (vup (vup σ 15 b (nI (tld T b - p))) 22 f (nI hh)) 23 f (tof T f + 1)) 24 f (nI (tea T f + p))) 13 15 (tbt T + 1) = σ5 at h5 t5 ⊢
  have efh : σ5.1 13 16 = tfh T := h5.efh
  unfold fX6_bite_87
  rw [efh]
  unfold tBite
  rw [← hpe]
  by_cases hq : tfh T = -1
  · rw [if_pos hq]
    have h6 := (h5.fh (x := nI hh)).ff (x := nI f)
    obtain ⟨σ', a1, a2, a3⟩ := c_bite_105 h6 hP hb hf hB hl
    refine ⟨σ', a1, ?_, ?_⟩
    · simp only [hq, ↓reduceIte]
      exact a2
    · rw [a3, vup_ne _ _ (by decide), vup_ne _ _ (by decide)]; exact t5
  · rw [if_neg hq]
    obtain ⟨σ', a1, a2, a3⟩ := c_bite_105 h5 hP hb hf hB hl
    refine ⟨σ', a1, ?_, by rw [a3]; exact t5⟩
    simp only [hq, ↓reduceIte]
    exact a2
theorem c_bite (h : CS σ0 P w y sn T σ) (hP : WP P) (hb : b < pnb P) (hf : f < pnf P) (hB : ∀ c, c < pnb P → tst T c + tnl T c ≤ 21 ∧ 1 ≤ tnl T c) (hl : tst T b + tnl T b < 21) (h99 : tld T b ≤ 99) :
    ∃ σ', fX6_bite (nI b) (nI f) (nI hh) σ = some σ' ∧ CS σ0 P w y sn (tBite P hh b f T) σ' ∧ σ'.1 16 = σ.1 16 := by
  have hb8 : b < 8 := Nat.lt_of_lt_of_le hb hP.2.1
  have hf9 : f < 9 := Nat.lt_of_lt_of_le hf hP.1
  have hcb : (nI b).toNatClampNeg = b := nI_clamp (by omega)
  have hcf : (nI f).toNatClampNeg = f := nI_clamp (by omega)
  have hxb := ixF hb8 (by decide)
  have hxf := ixF hf9 (by decide)
  have e15 := h.e15 hb
  have e7 := (h.dc.2.1 f hf).2.1
  have hbi := hP.2.2.1 f hf
  simp only [fX6_bite, hcb, hcf, hxb, hxf, ↓reduceIte, e15, e7, nI_leI (show tld T b < 2 ^ 31 by omega) (show pbi P f < 2 ^ 31 by omega)]
  by_cases hc : tld T b ≤ pbi P f
  · rw [if_pos hc]
    exact c_bite_36 h hP hb hf hB hl (Nat.le_refl _) (by rw [if_pos hc])
  · rw [if_neg hc]
    exact c_bite_36 h hP hb hf hB hl (by omega) (by rw [if_neg hc])
theorem c_wants (h : CS σ0 P w (psu P hh) sn T σ) (hP : WP P) (hf : f < pnf P) : fX6_wantsBite (nI f) (nI hh) σ = some (b2 (tHungry P hh f T), σ) := by
  have hf9 : f < 9 := Nat.lt_of_lt_of_le hf hP.1
  have hcf : (nI f).toNatClampNeg = f := nI_clamp (by omega)
  have hxf := ixF hf9 (by decide)
  have e22 := h.e22 hf
  have e7 := (h.dc.2.1 f hf).2.1
  have e11 := h.dc.1.2.2.1
  have esu := h.esu
  have hbi := hP.2.2.1 f hf
  have k0 : nI (pbi P f) ≤ 0 ↔ pbi P f = 0 := nI_le0 (by omega)
  simp only [fX6_wantsBite, fX6_wantsBite_28, fX6_wantsBite_33, fX6_wantsBite_61, fX6_wantsBite_62, hcf, hxf, ↓reduceIte, e22, e7, e11, esu, k0, b2_0]
  unfold tHungry
  by_cases c1 : tla T f = -1
  · by_cases c2 : pbi P f = 0
    · simp [c1, c2]
    · cases hy : psu P hh <;> simp [c1, c2, Nat.pos_of_ne_zero c2]
  · by_cases c3 : nI hh - tla T f ≤ phu P
    · have c4 : ¬ phu P < nI hh - tla T f := Int32.not_lt.mpr c3
      simp [c1, c3, c4]
    · have c4 : phu P < nI hh - tla T f := Int32.not_le.mp c3
      by_cases c2 : pbi P f = 0
      · simp [c1, c2, c3, c4]
      · cases hy : psu P hh <;> simp [c1, c2, c3, c4, Nat.pos_of_ne_zero c2]
end CB
