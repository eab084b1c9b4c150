theorem tk_21c {P : vP} {h : Nat} {T U : vT} (hP : WP P) {c x : Nat} (e : tpl T c = tpl U c) (hk : tk P T c x) (hx : x = 0 ∨ x = tx P h U c) : tst T c + tnl T c ≤ 21 ∧ 1 ≤ tnl T c := by
  obtain ⟨k1, k2, k3, k4, k5⟩ := hk
  refine ⟨?_, k2⟩
  have h9 := hP.1
  by_cases q : tpl T c = pnf P
  · rw [k5 q] at k3
    have : x = 0 := by
      rcases hx with hx | hx
      · exact hx
      · rw [hx]
        unfold tx tThere
        rw [if_neg]
        rw [← e]
        simp [q]
    simp at k3
    omega
  · have hx1 : x ≤ 1 := by
      rcases hx with hx | hx
      · omega
      · rw [hx]
        unfold tx
        split <;> omega
    split at k3 <;> omega
theorem tIdle {P : vP} {h : Nat} {T : vT} (hI : TI P h T) (h0 : tnu T = 0) : tMid P h T = T ∧ tHour P h T = T := by
  have hz := ctUp_zero (pnb P) (hI.2.2.2.symm.trans h0)
  have hu : ∀ c, c < pnb P → pho P c < h ∧ tpl T c = pnf P := fun c hc => (hI.2.2.1 c hc).mp (hz c hc)
  have a : ∀ n, n ≤ pnb P → tArr P h n T = T := fun n => by
    induction n with
    | zero => intro _; rfl
    | succ n ih =>
      intro hn
      rw [tArr, ih (by omega), tArr1, if_neg]
      have := hu n (by omega)
      omega
  have nt : ∀ c, c < pnb P → tThere P h T c = false := fun c hc => by
    have := hu c hc
    simp [tThere]
    omega
  have b : ∀ n, n ≤ pnb P → tServe P h n T = T := fun n => by
    induction n with
    | zero => intro _; rfl
    | succ n ih =>
      intro hn
      rw [tServe, ih (by omega), tServe1, if_neg]
      simp [nt n (by omega)]
  have m : tMid P h T = T := by rw [tMid, a _ (Nat.le_refl _), b _ (Nat.le_refl _)]
  refine ⟨m, ?_⟩
  rw [tHour, m]
  have c : ∀ n, n ≤ pnb P → tClimb P h (tTg P h T) n T = T := fun n => by
    induction n with
    | zero => intro _; rfl
    | succ n ih =>
      intro hn
      rw [tClimb, ih (by omega), tClimb1, if_neg]
      simp [nt n (by omega)]
  exact c _ (Nat.le_refl _)
theorem tRun_idle {P : vP} (hP : WP P) {h : Nat} (h0 : tnu (tRun P h) = 0) : ∀ k, h + k ≤ 40 → tRun P (h + k) = tRun P h
  | 0, _ => rfl
  | k + 1, hk => by
    have ih := tRun_idle hP h0 k (by omega)
    show tHour P (h + k) (tRun P (h + k)) = _
    rw [(tIdle (tRun_TI P hP (h + k) (by omega)) (by rw [ih]; exact h0)).2, ih]
section CX
variable {σ0 : vMem} {P : vP} {sn : Nat → Bool} {T U : vT} {σ : vMem} {hh : Nat}
theorem c_climbL (hP : WP P) {w : Bool} (hh39 : hh ≤ 39) (hsn : ∀ c, sn c = decide (pho P c ≤ hh)) (hI : TI P hh T) (g : Nat → Int32) (hg : ∀ c, c < pnb P → tThere P hh (tMid P hh T) c = true → g c = b2 (tTg P hh (tMid P hh T) c)) : ∀ (k n b : Nat) (σ : vMem), b + k = pnb P → k < n → CS σ0 P w (psu P hh) sn (tClimb P hh (tTg P hh (tMid P hh T)) b (tMid P hh T)) σ → σ.1 16 = g →
    ∃ σ', LfX6_climb_2 n (nI hh) (nI b) σ = some σ' ∧ CS σ0 P w (psu P hh) sn (tHour P hh T) σ' ∧ σ'.1 16 = g := by
  intro k
  induction k with
  | zero =>
    intro n b σ hbk hn h ht
    have hb : b = pnb P := by omega
    subst hb
    obtain ⟨n, rfl⟩ : ∃ j, n = j + 1 := ⟨n - 1, by omega⟩
    refine ⟨σ, ?_, h, ht⟩
    show fX6_climb_2 _ _ _ _ = _
    unfold fX6_climb_2
    rw [h.dc.1.2.1, if_pos (Int32.le_refl _)]
  | succ k ih =>
    intro n b σ hbk hn h ht
    obtain ⟨n, rfl⟩ : ∃ j, n = j + 1 := ⟨n - 1, by omega⟩
    have hb : b < pnb P := by omega
    obtain ⟨c1, c2, c3, c4, c5⟩ := tClimb_TC hh39 hI b (by omega)
    have kb := c1 b hb
    have e5 := c5 b (Nat.le_refl _)
    rw [if_neg (Nat.lt_irrefl b)] at kb
    have h21 := tk_21c (h := hh) hP e5 kb (Or.inr rfl)
    have hth : tThere P hh (tClimb P hh (tTg P hh (tMid P hh T)) b (tMid P hh T)) b = tThere P hh (tMid P hh T) b := by unfold tThere; rw [e5]
    obtain ⟨σ', a1, a2, a3⟩ := c_climb1 (tg := tTg P hh (tMid P hh T)) hP h hsn hb (Nat.le_trans kb.2.2.2.1 hP.1) h21.2 h21.1 (fun q => by
      rw [c4]
      refine ctUp_pos (b := b) ?_ _ hb
      have q2 : pho P b ≤ hh ∧ tpl (tClimb P hh (tTg P hh (tMid P hh T)) b (tMid P hh T)) b < pnf P := by simpa [tThere] using q
      by_cases z : tup (tClimb P hh (tTg P hh (tMid P hh T)) b (tMid P hh T)) b = -1
      · exact z
      · have := (c3 b hb).mp z
        omega) (fun q => by rw [ht]; exact hg b hb (hth ▸ q)) (LfX6_climb_2 n)
    obtain ⟨σ2, d1, d2, d3⟩ := ih n (b + 1) σ' (by omega) (by omega) a2 (a3.trans ht)
    exact ⟨σ2, a1.trans d1, d2, d3⟩
theorem c_climb (hP : WP P) {w : Bool} (hh39 : hh ≤ 39) (hsn : ∀ c, sn c = decide (pho P c ≤ hh)) (hI : TI P hh T) (h : CS σ0 P w (psu P hh) sn (tMid P hh T) σ) (hg : ∀ c, c < pnb P → tThere P hh (tMid P hh T) c = true → σ.1 16 c = b2 (tTg P hh (tMid P hh T) c)) :
    ∃ σ', fX6_climb (nI hh) σ = some σ' ∧ CS σ0 P w (psu P hh) sn (tHour P hh T) σ' ∧ σ'.1 16 = σ.1 16 := by
  have := hP.2.1
  exact c_climbL hP hh39 hsn hI (σ.1 16) hg (pnb P) 200 0 σ (by omega) (by omega) h rfl
def snA (P : vP) (hh b : Nat) : Nat → Bool := fun c => decide (pho P c < hh) || (decide (pho P c = hh) && decide (c < b))
theorem c_arrL (hP : WP P) {w y : Bool} (hh39 : hh ≤ 39) (hI : TI P hh T) (g : Nat → Int32) : ∀ (k n b : Nat) (σ : vMem), b + k = pnb P → k < n → CS σ0 P w y (snA P hh b) (tArr P hh b T) σ → σ.1 16 = g →
    ∃ σ', LfX6_arrive_2 n (nI hh) (nI b) σ = some σ' ∧ CS σ0 P w y (fun c => decide (pho P c ≤ hh)) (tArr P hh (pnb P) T) σ' ∧ σ'.1 16 = g := by
  intro k
  induction k with
  | zero =>
    intro n b σ hbk hn h ht
    have hb : b = pnb P := by omega
    subst hb
    obtain ⟨n, rfl⟩ : ∃ j, n = j + 1 := ⟨n - 1, by omega⟩
    refine ⟨σ, ?_, h.sent (fun c hc => ?_), ht⟩
    · show fX6_arrive_2 _ _ _ _ = _
      unfold fX6_arrive_2
      rw [h.dc.1.2.1, if_pos (Int32.le_refl _)]
    · unfold snA
      by_cases q : pho P c < hh
      · simp [q]; omega
      · by_cases q2 : pho P c = hh
        · simp [q2, hc]
        · simp [q, q2]; omega
  | succ k ih =>
    intro n b σ hbk hn h ht
    obtain ⟨n, rfl⟩ : ∃ j, n = j + 1 := ⟨n - 1, by omega⟩
    have hb : b < pnb P := by omega
    have hb8 : b < 8 := Nat.lt_of_lt_of_le hb hP.2.1
    have hcb : (nI b).toNatClampNeg = b := nI_clamp (by omega)
    have hxb := ixF hb8 (by decide)
    have hnf := hP.1
    have e55 := h.dc.1.2.1
    have e50 := h.dc.1.1
    have e9 := (h.dc.2.2 b hb).1
    have hob := (hP.2.2.2.1 b hb).1
    have hnb : (nI (pnb P) ≤ nI b) = False := eq_false (fun q => by have := (nI_leI (by have := hP.2.1; omega) (by omega)).mp q; omega)
    have fin : ∀ τ, CS σ0 P w y (snA P hh (b + 1)) (tArr P hh (b + 1) T) τ → τ.1 16 = g → ∃ σ', fX6_arrive_60 (LfX6_arrive_2 n) (nI hh) (nI b) τ = some σ' ∧ CS σ0 P w y (fun c => decide (pho P c ≤ hh)) (tArr P hh (pnb P) T) σ' ∧ σ'.1 16 = g := by
      intro τ hτ h16
      obtain ⟨σ2, d1, d2, d3⟩ := ih n (b + 1) τ (by omega) (by omega) hτ h16
      refine ⟨σ2, ?_, d2, d3⟩
      unfold fX6_arrive_60
      rw [nI_1]
      exact d1
    show ∃ σ', fX6_arrive_2 (LfX6_arrive_2 n) (nI hh) (nI b) σ = some σ' ∧ _
    unfold fX6_arrive_2
    simp only [hcb, hxb, ↓reduceIte, e55, hnb, e9, nI_eq (show pho P b < 2 ^ 31 by omega) (show hh < 2 ^ 31 by omega)]
    by_cases q : pho P b = hh
    · rw [if_pos q]
      have hpl : tpl (tArr P hh b T) b = 0 := by
        rw [(tArr_fix P hh T b).2.1]
        exact hI.2.1 b hb (by omega)
      have h1 := h.ar hpl
      have hsn1 : ∀ c, snA P hh (b + 1) c = va_up (snA P hh b) b true c := fun c => by
        unfold snA va_up
        by_cases e : c = b
        · subst e; simp [q]
        · simp only [e, ↓reduceIte, show (c < b + 1) = (c < b) from propext ⟨fun _ => by omega, fun _ => by omega⟩]
      have e50' : (vup σ 14 b 0).1 5 0 = nI (pnf P) := h1.dc.1.1
      unfold fX6_arrive_33
      simp only [hcb, hxb, ↓reduceIte, e50', nI_eq0 (show pnf P < 2 ^ 31 by omega)]
      have t1 : (vup σ 14 b 0).1 16 = g := by rw [vup_ne _ _ (by decide)]; exact ht
      by_cases q2 : pnf P = 0
      · rw [if_pos q2]
        have h2 := h1.up (b := b) (x := nI hh)
        have enu : (vup (vup σ 14 b 0) 17 b (nI hh)).1 13 14 = nI (tnu (tArr P hh b T)) := h2.enu
        have hnu : 1 ≤ tnu (tArr P hh b T) := by
          rw [tArr_nu P hh T (by omega) hI b (by omega)]
          refine ctUp_pos (b := b) ?_ _ hb
          rw [tArr_up, if_neg (by omega)]
          by_cases z : tup T b = -1
          · exact z
          · have := (hI.2.2.1 b hb).mp z
            omega
        unfold fX6_arrive_50
        rw [enu, show (1 : Int32) = nI 1 from rfl, pk_sub hnu]
        refine fin _ ?_ (by rw [vup_ne _ _ (by decide), vup_ne _ _ (by decide)]; exact t1)
        have h3 := h2.nu (x := tnu (tArr P hh b T) - 1)
        rw [tArr, tArr1, if_pos ⟨q, q2⟩]
        exact h3.sent (fun c _ => hsn1 c)
      · rw [if_neg q2]
        refine fin _ ?_ t1
        rw [tArr, tArr1, if_neg (by omega)]
        exact h1.sent (fun c _ => hsn1 c)
    · rw [if_neg q]
      refine fin _ ?_ ht
      rw [tArr, tArr1, if_neg (by omega)]
      refine h.sent (fun c _ => ?_)
      unfold snA
      by_cases e : c = b
      · subst e; simp [q]
      · simp only [show (c < b + 1) = (c < b) from propext ⟨fun _ => by omega, fun _ => by omega⟩]
theorem c_arr (hP : WP P) {w y : Bool} (hh39 : hh ≤ 39) (hI : TI P hh T) (h : CS σ0 P w y (fun c => decide (pho P c < hh)) T σ) :
    ∃ σ', fX6_arrive (nI hh) σ = some σ' ∧ CS σ0 P w y (fun c => decide (pho P c ≤ hh)) (tArr P hh (pnb P) T) σ' ∧ σ'.1 16 = σ.1 16 := by
  have := hP.2.1
  exact c_arrL hP hh39 hI (σ.1 16) (pnb P) 200 0 σ (by omega) (by omega) (h.sent (fun c _ => by simp [snA])) rfl
end CX
