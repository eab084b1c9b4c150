section CW
variable {σ0 : vMem} {P : vP} {sn : Nat → Bool} {T : vT} {σ : vMem} {hh : Nat}
theorem c_serveL (hP : WP P) (hsn : ∀ c, sn c = decide (pho P c ≤ hh)) (hk : ∀ c, c < pnb P → tk P T c 0) (g : Nat → Int32) : ∀ (k n b m : Nat) (σ : vMem), b + k = pnb P → k < n → CS σ0 P (pwi P hh) (psu P hh) sn (tServe P hh b T) σ → tM P hh T b m → (∀ c, σ.1 16 c = if c < b ∧ tThere P hh T c = true then b2 (tTg P hh T c) else g c) →
    ∃ σ', LfX6_serve_4 n (nI hh) (nI m) (nI b) σ = some σ' ∧ CS σ0 P (pwi P hh) (psu P hh) sn (tServe P hh (pnb P) T) σ' ∧ (∀ c, σ'.1 16 c = if c < pnb P ∧ tThere P hh T c = true then b2 (tTg P hh T c) else g c) := by
  intro k
  induction k with
  | zero =>
    intro n b m σ hbk hn h hm ht
    have hb : b = pnb P := by omega
    subst hb
    obtain ⟨n, rfl⟩ : ∃ j, n = j + 1 := ⟨n - 1, by omega⟩
    refine ⟨σ, ?_, h, ht⟩
    show fX6_serve_4 _ _ _ _ _ = _
    unfold fX6_serve_4
    rw [h.dc.1.2.1, if_pos (Int32.le_refl _)]
  | succ k ih =>
    intro n b m σ hbk hn h hm ht
    obtain ⟨n, rfl⟩ : ∃ j, n = j + 1 := ⟨n - 1, by omega⟩
    have hb : b < pnb P := by omega
    obtain ⟨f1, f2, f3, f4, f5⟩ := tServe_fix P hh T b
    have hkk := tServe_tk P hh T hk b
    have hB : ∀ c, c < pnb P → tst (tServe P hh b T) c + tnl (tServe P hh b T) c ≤ 21 ∧ 1 ≤ tnl (tServe P hh b T) c := fun c hc => tk_21 (h := hh) (U := T) hP f1 (hkk c hc) (by split; exact Or.inr rfl; exact Or.inl rfl)
    have kb := hkk b hb
    rw [if_neg (Nat.lt_irrefl b)] at kb
    have hl : tThere P hh (tServe P hh b T) b = true → tst (tServe P hh b T) b + tnl (tServe P hh b T) b < 21 := fun q => by
      obtain ⟨k1, k2, k3, k4, k5⟩ := kb
      have q2 : tpl (tServe P hh b T) b < pnf P := by
        unfold tThere at q
        simp at q
        exact q.2
      have := hP.1
      split at k3 <;> omega
    have h99 : tld (tServe P hh b T) b ≤ 99 := Nat.le_trans kb.1 (hP.2.2.2.1 b hb).2.1
    have h9 : tpl (tServe P hh b T) b ≤ 9 := Nat.le_trans kb.2.2.2.1 hP.1
    have hm' : tM P hh (tServe P hh b T) b m := by
      unfold tM
      rw [f1]
      exact hm
    obtain ⟨σ', m', a1, a2, a3, a4⟩ := c_serve1 hP h hsn hb hB hl h99 h9 hm' (LfX6_serve_4 n)
    have a3' : tM P hh T (b + 1) m' := by
      unfold tM at a3
      rw [f1] at a3
      exact a3
    obtain ⟨σ2, c1, c2, c3⟩ := ih n (b + 1) m' σ' (by omega) (by omega) a2 a3' (fun c => by
      rw [a4 c, ht c, tThere_pl f1, tTg_pl f1]
      by_cases q : c = b
      · subst q
        simp
      · simp only [q, false_and, ↓reduceIte, show (c < b + 1) = (c < b) from propext ⟨fun _ => by omega, fun _ => by omega⟩])
    exact ⟨σ2, a1.trans c1, c2, c3⟩
theorem c_serve (hP : WP P) (hsn : ∀ c, sn c = decide (pho P c ≤ hh)) (hk : ∀ c, c < pnb P → tk P T c 0) (h : CS σ0 P (pwi P hh) (psu P hh) sn T σ) :
    ∃ σ', fX6_serve (nI hh) σ = some σ' ∧ CS σ0 P (pwi P hh) (psu P hh) sn (tServe P hh (pnb P) T) σ' ∧ (∀ c, σ'.1 16 c = if c < pnb P ∧ tThere P hh T c = true then b2 (tTg P hh T c) else σ.1 16 c) := by
  have := hP.2.1
  exact c_serveL hP hsn hk (σ.1 16) (pnb P) 200 0 0 σ (by omega) (by omega) h ⟨by decide, fun f hf => by simp [anyLt]⟩ (fun c => by simp)
theorem c_leave (hP : WP P) {b : Nat} {w y : Bool} (h : CS σ0 P w y sn T σ) (hb : b < pnb P) (hs : sn b = true) (hpl : tpl T b < pnf P) (hnl : 1 ≤ tnl T b) (hB : tst T b + tnl T b ≤ 21) (hnu : 1 ≤ tnu T) :
    ∃ σ', fX6_leave (nI b) (nI hh) σ = some σ' ∧ CS σ0 P w y sn (tLeave P hh b T) σ' ∧ σ'.1 16 = σ.1 16 := by
  have hb8 : b < 8 := Nat.lt_of_lt_of_le hb hP.2.1
  have hnf := hP.1
  have hwe := hP.2.2.2.2
  have hcb : (nI b).toNatClampNeg = b := nI_clamp (by omega)
  have hxb := ixF hb8 (by decide)
  have h1 := h.hd (b := b) (x := false)
  have e14 : (vup σ 18 b 0).1 14 b = nI (tpl T b) := by
    have := h1.e14 hb
    rw [if_pos hs] at this
    exact this
  have h2 := h1.pl (b := b) (x := tpl T b + 1) hs
  have t2 : (vup (vup σ 18 b (b2 false)) 14 b (nI (tpl T b + 1))).1 16 = σ.1 16 := by rw [vup_ne _ _ (by decide), vup_ne _ _ (by decide)]
  -- behind the wear
  have key : ∀ (U : vT) (τ : vMem), CS σ0 P w y sn U τ → tpl U b = tpl T b + 1 → tnu U = tnu T → τ.1 16 = σ.1 16 → ∃ σ', fX6_leave_71 (nI b) (nI hh) τ = some σ' ∧ CS σ0 P w y sn (if tpl T b + 1 = pnf P then sNu (sUp U b (nI (hh + 1))) (tnu T - 1) else U) σ' ∧ σ'.1 16 = σ.1 16 := by
    intro U τ hU q1 q2 q3
    have e14 : τ.1 14 b = nI (tpl T b + 1) := by
      have := hU.e14 hb
      rw [hs, q1] at this
      simpa using this
    have e50 := hU.dc.1.1
    unfold fX6_leave_71
    simp only [hcb, hxb, ↓reduceIte, e14, e50, nI_eq (show tpl T b + 1 < 2 ^ 31 by omega) (show pnf P < 2 ^ 31 by omega)]
    by_cases c : tpl T b + 1 = pnf P
    · rw [if_pos c, if_pos c]
      have h3 := hU.up (b := b) (x := nI (hh + 1))
      have enu : (vup τ 17 b (nI (hh + 1))).1 13 14 = nI (tnu T) := by rw [← q2]; exact h3.enu
      refine ⟨_, ?_, h3.nu (x := tnu T - 1), ?_⟩
      · unfold fX6_leave_96 fX6_leave_106
        rw [nI_1, enu, show (1 : Int32) = nI 1 from rfl, pk_sub hnu]
      · rw [vup_ne _ _ (by decide), vup_ne _ _ (by decide)]; exact q3
    · rw [if_neg c, if_neg c]
      exact ⟨τ, rfl, hU, q3⟩
  unfold fX6_leave fX6_leave_7
  simp only [hcb, hxb, ↓reduceIte, e14]
  rw [nI_1]
  unfold fX6_leave_17
  have f14 : (vup (vup σ 18 b 0) 14 b (nI (tpl T b + 1))).1 14 b = nI (tpl T b + 1) := by rw [vup_rd]; simp
  have f12 := h2.dc.1.2.2.2
  have f20 := h2.e20 hb
  have f21 := h2.e21 hb
  change (vup (vup σ 18 b 0) 14 b (nI (tpl T b + 1))).1 5 12 = _ at f12
  change (vup (vup σ 18 b 0) 14 b (nI (tpl T b + 1))).1 20 b = nI (tst T b) at f20
  change (vup (vup σ 18 b 0) 14 b (nI (tpl T b + 1))).1 21 b = nI (tst T b + tnl T b) at f21
  simp only [hcb, hxb, ↓reduceIte, f14, f12, f20, f21]
  rw [if_neg (by rw [nI_le0 (by omega)]; omega), if_neg (by rw [nI_eq0 (by omega)]; omega), pk_rem (by omega) (by omega) (by omega)]
  rw [pk_sub (show tst T b ≤ tst T b + tnl T b by omega), show tst T b + tnl T b - tst T b = tnl T b by omega]
  have hmod : (tpl T b + 1) % pwe P < 2 ^ 31 := by
    have := Nat.mod_le (tpl T b + 1) (pwe P)
    omega
  simp only [nI_eq0 hmod, show (2 : Int32) = nI 2 from rfl, nI_ltI (show tnl T b < 2 ^ 31 by omega) (show 2 < 2 ^ 31 by decide)]
  unfold tLeave
  by_cases c1 : (tpl T b + 1) % pwe P = 0
  · by_cases c2 : tnl T b < 2
    · rw [if_pos c1, if_pos c2]
      dsimp only
      rw [if_neg (show ¬ ((tpl T b + 1) % pwe P = 0 ∧ 2 ≤ tnl T b) by omega)]
      exact key _ _ h2 (by simp [tpl, va_up]) rfl t2
    · rw [if_pos c1, if_neg c2]
      dsimp only
      rw [if_pos (show (tpl T b + 1) % pwe P = 0 ∧ 2 ≤ tnl T b by omega), nI_1]
      have h3 := h2.we (b := b) hnl
      exact key _ _ h3 (by simp [tpl, va_up]) rfl (by rw [vup_ne _ _ (by decide)]; exact t2)
  · rw [if_neg c1]
    dsimp only
    rw [if_neg (show ¬ ((tpl T b + 1) % pwe P = 0 ∧ 2 ≤ tnl T b) by omega)]
    exact key _ _ h2 (by simp [tpl, va_up]) rfl t2
theorem c_climb1 (hP : WP P) {b : Nat} {tg : Nat → Bool} {w : Bool} (h : CS σ0 P w (psu P hh) sn T σ) (hsn : ∀ c, sn c = decide (pho P c ≤ hh)) (hb : b < pnb P) (hpl : tpl T b ≤ 9) (hnl : 1 ≤ tnl T b) (hB : tst T b + tnl T b ≤ 21) (hnu : tThere P hh T b = true → 1 ≤ tnu T) (htg : tThere P hh T b = true → σ.1 16 b = b2 (tg b)) (K : Int32 → Int32 → vMem → Option vMem) :
    ∃ σ', fX6_climb_2 K (nI hh) (nI b) σ = K (nI hh) (nI (b + 1)) σ' ∧ CS σ0 P w (psu P hh) sn (tClimb1 P hh tg b T) σ' ∧ σ'.1 16 = σ.1 16 := by
  have hb8 : b < 8 := Nat.lt_of_lt_of_le hb hP.2.1
  have hnf := hP.1
  have hcb : (nI b).toNatClampNeg = b := nI_clamp (by omega)
  have hxb := ixF hb8 (by decide)
  have e55 := h.dc.1.2.1
  have e50 := h.dc.1.1
  have e14 := h.e14 hb
  have e18 := h.e18 hb
  have esu := h.esu
  have hnb : (nI (pnb P) ≤ nI b) = False := eq_false (fun q => by have := (nI_leI (by have := hP.2.1; omega) (by omega)).mp q; omega)
  have stop : ∀ τ, fX6_climb_93 K (nI hh) (nI b) τ = K (nI hh) (nI (b + 1)) τ := fun τ => by
    unfold fX6_climb_93
    rw [nI_1]
  unfold fX6_climb_2
  simp only [hcb, hxb, ↓reduceIte, e55, e50, e14, hnb, stop]
  rw [hsn b]
  by_cases hs : pho P b ≤ hh
  · have hsb : sn b = true := by rw [hsn b]; simpa using hs
    simp only [hs, decide_true, ↓reduceIte, nI_lt0 (show tpl T b < 2 ^ 31 by omega), nI_leI (show pnf P < 2 ^ 31 by omega) (show tpl T b < 2 ^ 31 by omega)]
    by_cases hp : pnf P ≤ tpl T b
    · rw [if_pos hp]
      refine ⟨σ, rfl, ?_, rfl⟩
      unfold tClimb1
      rw [if_neg (by simp [tThere]; omega)]
      exact h
    · have hth : tThere P hh T b = true := by simp [tThere, hs]; omega
      have hf9 : tpl T b < 9 := by omega
      have hcf : (nI (tpl T b)).toNatClampNeg = tpl T b := nI_clamp (by omega)
      have hxf := ixF hf9 (by decide)
      have e6 := (h.dc.2.1 (tpl T b) (by omega)).1
      rw [if_neg hp, htg hth]
      simp only [b2_1, false_or, show (9 ≤ tpl T b) = False from eq_false (by omega), ↓reduceIte, hcf, e6, e18, esu, b2_0]
      have lv : ∃ σ', fX6_climb_87 K (nI hh) (nI b) σ = K (nI hh) (nI (b + 1)) σ' ∧ CS σ0 P w (psu P hh) sn (tLeave P hh b T) σ' ∧ σ'.1 16 = σ.1 16 := by
        obtain ⟨σ', a1, a2, a3⟩ := c_leave (hh := hh) hP h hb hsb (by omega) hnl hB (hnu hth)
        refine ⟨σ', ?_, a2, a3⟩
        unfold fX6_climb_87
        rw [a1]
        exact stop σ'
      unfold tClimb1
      cases hg : tg b with
      | true =>
        simp only [↓reduceIte, Bool.true_eq_false, and_false]
        exact ⟨σ, rfl, h, rfl⟩
      | false =>
        simp only [Bool.false_eq_true, ↓reduceIte, hth, and_self]
        by_cases c1 : pso P (tpl T b) = 2
        · by_cases c2 : thd T b = false
          · by_cases c3 : psu P hh = false
            · rw [if_pos c1, if_pos c2, if_pos c3, if_pos ⟨c1, c2, c3⟩]
              exact ⟨_, rfl, h.hd (x := true), vup_ne _ _ (by decide)⟩
            · rw [if_pos c1, if_pos c2, if_neg c3, if_neg (fun q => c3 q.2.2)]
              exact lv
          · rw [if_pos c1, if_neg c2, if_neg (fun q => c2 q.2.1)]
            exact lv
        · rw [if_neg c1, if_neg (fun q => c1 q.1)]
          exact lv
  · simp only [hs, decide_false, Bool.false_eq_true, ↓reduceIte, show ((-1 : Int32) < 0) by decide]
    refine ⟨σ, rfl, ?_, rfl⟩
    unfold tClimb1
    rw [if_neg (by simp [tThere, hs])]
    exact h
end CW
