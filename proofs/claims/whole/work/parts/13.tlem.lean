/-! what serving and climbing change -/
theorem tBite_fix (P : vP) (h b f : Nat) (T : vT) : tpl (tBite P h b f T) = tpl T ∧ thd (tBite P h b f T) = thd T ∧ tup (tBite P h b f T) = tup T ∧ tst (tBite P h b f T) = tst T ∧ tnu (tBite P h b f T) = tnu T := by
  unfold tBite
  dsimp only
  split <;> split <;> exact ⟨rfl, rfl, rfl, rfl, rfl⟩
theorem tBite_oth (P : vP) (h b f : Nat) (T : vT) {c : Nat} (hc : c ≠ b) : tld (tBite P h b f T) c = tld T c ∧ tnl (tBite P h b f T) c = tnl T c ∧ tnt (tBite P h b f T) c = tnt T c := by
  unfold tBite
  dsimp only
  split <;> split <;> simp [tpl, tld, tnl, tnt, tst, thd, tup, tla, tof, tea, tbt, tnu, tfh, tff, va_up, hc]
theorem tBite_own (P : vP) (h b f : Nat) (T : vT) : tld (tBite P h b f T) b ≤ tld T b ∧ tnl T b ≤ tnl (tBite P h b f T) b ∧ tnl (tBite P h b f T) b ≤ tnl T b + 1 := by
  unfold tBite
  dsimp only
  split <;> split <;> simp [tpl, tld, tnl, tnt, tst, thd, tup, tla, tof, tea, tbt, tnu, tfh, tff, va_up]
theorem tEat_fix (P : vP) (h b f : Nat) (T : vT) : tpl (tEat P h b f T) = tpl T ∧ thd (tEat P h b f T) = thd T ∧ tup (tEat P h b f T) = tup T ∧ tst (tEat P h b f T) = tst T ∧ tnu (tEat P h b f T) = tnu T := by
  unfold tEat
  dsimp only
  split <;> split
  · exact tBite_fix P h b f _
  · exact ⟨rfl, rfl, rfl, rfl, rfl⟩
  · exact tBite_fix P h b f _
  · exact ⟨rfl, rfl, rfl, rfl, rfl⟩
theorem tEat_oth (P : vP) (h b f : Nat) (T : vT) {c : Nat} (hc : c ≠ b) : tld (tEat P h b f T) c = tld T c ∧ tnl (tEat P h b f T) c = tnl T c ∧ tnt (tEat P h b f T) c = tnt T c := by
  unfold tEat
  dsimp only
  split <;> split
  · obtain ⟨a1, a2, a3⟩ := tBite_oth P h b f (sLd T b (tld T b / 2)) hc
    exact ⟨by rw [a1]; simp [tpl, tld, tnl, tnt, tst, thd, tup, tla, tof, tea, tbt, tnu, tfh, tff, va_up, hc], a2, a3⟩
  · exact ⟨by simp [tpl, tld, tnl, tnt, tst, thd, tup, tla, tof, tea, tbt, tnu, tfh, tff, va_up, hc], rfl, rfl⟩
  · exact tBite_oth P h b f T hc
  · exact ⟨rfl, rfl, rfl⟩
theorem tEat_own (P : vP) (h b f : Nat) (T : vT) : tld (tEat P h b f T) b ≤ tld T b ∧ tnl T b ≤ tnl (tEat P h b f T) b ∧ tnl (tEat P h b f T) b ≤ tnl T b + 1 := by
  unfold tEat
  dsimp only
  split <;> split
  · obtain ⟨a1, a2, a3⟩ := tBite_own P h b f (sLd T b (tld T b / 2))
    refine ⟨Nat.le_trans a1 ?_, a2, a3⟩
    simp only [tld, va_up, ↓reduceIte]
    exact Nat.div_le_self _ _
  · refine ⟨?_, Nat.le_refl _, Nat.le_succ _⟩
    simp only [tld, va_up, ↓reduceIte]
    exact Nat.div_le_self _ _
  · exact tBite_own P h b f T
  · exact ⟨Nat.le_refl _, Nat.le_refl _, Nat.le_succ _⟩
theorem tServe_fix (P : vP) (h : Nat) (T : vT) : ∀ n, tpl (tServe P h n T) = tpl T ∧ thd (tServe P h n T) = thd T ∧ tup (tServe P h n T) = tup T ∧ tst (tServe P h n T) = tst T ∧ tnu (tServe P h n T) = tnu T
  | 0 => ⟨rfl, rfl, rfl, rfl, rfl⟩
  | n + 1 => by
    obtain ⟨a1, a2, a3, a4, a5⟩ := tServe_fix P h T n
    unfold tServe tServe1
    split
    · obtain ⟨b1, b2, b3, b4, b5⟩ := tEat_fix P h n (tpl (tServe P h n T) n) (tServe P h n T)
      exact ⟨b1.trans a1, b2.trans a2, b3.trans a3, b4.trans a4, b5.trans a5⟩
    · exact ⟨a1, a2, a3, a4, a5⟩
theorem tThere_pl {P : vP} {h : Nat} {T U : vT} (e : tpl T = tpl U) (b : Nat) : tThere P h T b = tThere P h U b := by unfold tThere; rw [e]
theorem tTg_pl {P : vP} {h : Nat} {T U : vT} (e : tpl T = tpl U) (b : Nat) : tTg P h T b = tTg P h U b := by unfold tTg; rw [e]
theorem tServe_ge (P : vP) (h : Nat) (T : vT) : ∀ n c, n ≤ c → tld (tServe P h n T) c = tld T c ∧ tnl (tServe P h n T) c = tnl T c ∧ tnt (tServe P h n T) c = tnt T c
  | 0, c, _ => ⟨rfl, rfl, rfl⟩
  | n + 1, c, hc => by
    obtain ⟨a1, a2, a3⟩ := tServe_ge P h T n c (by omega)
    unfold tServe tServe1
    split
    · obtain ⟨b1, b2, b3⟩ := tEat_oth P h n (tpl (tServe P h n T) n) (tServe P h n T) (c := c) (by omega)
      exact ⟨b1.trans a1, b2.trans a2, b3.trans a3⟩
    · exact ⟨a1, a2, a3⟩
/-- a basket's bounds, x letters more allowed -/
def tk (P : vP) (T : vT) (c x : Nat) : Prop := tld T c ≤ plo P c ∧ 1 ≤ tnl T c ∧ tst T c + tnl T c ≤ 3 + 2 * tpl T c + (if thd T c = true then 1 else 0) + x ∧ tpl T c ≤ pnf P ∧ (tpl T c = pnf P → thd T c = false)
def tx (P : vP) (h : Nat) (T : vT) (c : Nat) : Nat := if tThere P h T c = true ∧ tTg P h T c = false then 1 else 0
theorem tServe_tk (P : vP) (h : Nat) (T : vT) (h0 : ∀ c, c < pnb P → tk P T c 0) : ∀ n c, c < pnb P → tk P (tServe P h n T) c (if c < n then tx P h T c else 0)
  | 0, c, hc => by simpa [tServe] using h0 c hc
  | n + 1, c, hc => by
    have ih := tServe_tk P h T h0 n c hc
    obtain ⟨f1, f2, f3, f4, f5⟩ := tServe_fix P h T n
    unfold tServe tServe1
    rw [tThere_pl f1, tTg_pl f1]
    by_cases hq : tThere P h T n = true ∧ tTg P h T n = false
    · rw [if_pos hq]
      obtain ⟨e1, e2, e3, e4, e5⟩ := tEat_fix P h n (tpl (tServe P h n T) n) (tServe P h n T)
      by_cases hcn : c = n
      · subst hcn
        obtain ⟨o1, o2, o3⟩ := tEat_own P h c (tpl (tServe P h c T) c) (tServe P h c T)
        obtain ⟨k1, k2, k3, k4, k5⟩ := ih
        rw [if_neg (Nat.lt_irrefl c)] at k3
        rw [if_pos (Nat.lt_succ_self c)]
        unfold tk tx
        rw [if_pos hq, e1, e2, e4]
        exact ⟨by omega, by omega, by omega, k4, k5⟩
      · obtain ⟨o1, o2, o3⟩ := tEat_oth P h n (tpl (tServe P h n T) n) (tServe P h n T) hcn
        have hx : (if c < n + 1 then tx P h T c else 0) = (if c < n then tx P h T c else 0) := by
          by_cases q : c < n
          · rw [if_pos q, if_pos (by omega)]
          · rw [if_neg q, if_neg (by omega)]
        rw [hx]
        unfold tk
        rw [o1, o2, e1, e2, e4]
        exact ih
    · rw [if_neg hq]
      have hx : (if c < n + 1 then tx P h T c else 0) = (if c < n then tx P h T c else 0) := by
        by_cases q : c < n
        · rw [if_pos q, if_pos (by omega)]
        · by_cases q2 : c = n
          · subst q2
            rw [if_pos (by omega), if_neg q]
            unfold tx
            rw [if_neg hq]
          · rw [if_neg q, if_neg (by omega)]
      rw [hx]
      exact ih
theorem tk_21 {P : vP} {h : Nat} {T U : vT} (hP : WP P) (e : tpl T = tpl U) {c x : Nat} (hk : tk P T c x) (hx : x = 0 ∨ x = tx P h U c) : tst T c + tnl T c ≤ 21 ∧ 1 ≤ tnl T c := by
  obtain ⟨k1, k2, k3, k4, k5⟩ := hk
  refine ⟨?_, k2⟩
  have h9 := hP.1
  by_cases q : tpl T c = pnf P
  · rw [k5 q] at k3
    have : x = 0 := by
      rcases hx with hx | hx
      · exact hx
      · rw [hx]
        unfold tx tThere
        rw [if_neg]
        rw [← e]
        simp [q]
    simp at k3
    omega
  · have hx1 : x ≤ 1 := by
      rcases hx with hx | hx
      · omega
      · rw [hx]
        unfold tx
        split <;> omega
    split at k3 <;> omega
