def ctUp : Nat → (Nat → Int32) → Nat
  | 0, _ => 0
  | n + 1, u => ctUp n u + (if u n = -1 then 1 else 0)
theorem ctUp_oth (u : Nat → Int32) (b : Nat) (x : Int32) : ∀ n, n ≤ b → ctUp n (va_up u b x) = ctUp n u
  | 0, _ => rfl
  | n + 1, h => by
    rw [ctUp, ctUp, ctUp_oth u b x n (by omega)]
    simp [va_up, show n ≠ b by omega]
theorem ctUp_upd {u : Nat → Int32} {b : Nat} {x : Int32} (hu : u b = -1) (hx : x ≠ -1) : ∀ n, b < n → ctUp n (va_up u b x) + 1 = ctUp n u
  | 0, h => by omega
  | n + 1, h => by
    rw [ctUp, ctUp]
    by_cases e : b = n
    · subst e
      rw [ctUp_oth u b x b (Nat.le_refl _)]
      simp [va_up, hu, hx]
    · have := ctUp_upd hu hx n (by omega)
      simp [va_up, show n ≠ b by omega]
      omega
theorem ctUp_pos {u : Nat → Int32} {b : Nat} (hu : u b = -1) : ∀ n, b < n → 1 ≤ ctUp n u
  | 0, h => by omega
  | n + 1, h => by
    rw [ctUp]
    by_cases e : b = n
    · subst e
      simp [hu]
    · have := ctUp_pos hu n (by omega)
      omega
theorem ctUp_zero {u : Nat → Int32} : ∀ n, ctUp n u = 0 → ∀ b, b < n → u b ≠ -1
  | 0, _, b, hb => by omega
  | n + 1, h, b, hb => by
    rw [ctUp] at h
    by_cases e : b = n
    · subst e
      intro q
      simp [q] at h
    · exact ctUp_zero n (by omega) b (by omega)
/-- between the hours -/
def TI (P : vP) (h : Nat) (T : vT) : Prop := (∀ c, c < pnb P → tk P T c 0) ∧ (∀ c, c < pnb P → h ≤ pho P c → tpl T c = 0) ∧ (∀ c, c < pnb P → (tup T c ≠ -1 ↔ (pho P c < h ∧ tpl T c = pnf P))) ∧ tnu T = ctUp (pnb P) (tup T)
/-- behind the arrivals -/
def TA (P : vP) (h : Nat) (T : vT) : Prop := (∀ c, c < pnb P → tk P T c 0) ∧ (∀ c, c < pnb P → h < pho P c → tpl T c = 0) ∧ (∀ c, c < pnb P → (tup T c ≠ -1 ↔ (pho P c ≤ h ∧ tpl T c = pnf P))) ∧ tnu T = ctUp (pnb P) (tup T)
theorem tArr_fix (P : vP) (h : Nat) (T : vT) : ∀ n, (tArr P h n T).2.1 = T.2.1 ∧ tpl (tArr P h n T) = tpl T ∧ tld (tArr P h n T) = tld T ∧ tnl (tArr P h n T) = tnl T ∧ tnt (tArr P h n T) = tnt T ∧ tst (tArr P h n T) = tst T ∧ thd (tArr P h n T) = thd T ∧ tbt (tArr P h n T) = tbt T ∧ tfh (tArr P h n T) = tfh T ∧ tff (tArr P h n T) = tff T
  | 0 => ⟨rfl, rfl, rfl, rfl, rfl, rfl, rfl, rfl, rfl, rfl⟩
  | n + 1 => by
    have ih := tArr_fix P h T n
    unfold tArr tArr1
    split <;> exact ih
theorem tArr_up (P : vP) (h : Nat) (T : vT) : ∀ n c, tup (tArr P h n T) c = if c < n ∧ pho P c = h ∧ pnf P = 0 then nI h else tup T c
  | 0, c => by simp [tArr]
  | n + 1, c => by
    have ih := tArr_up P h T n c
    unfold tArr tArr1
    by_cases q : pho P n = h ∧ pnf P = 0
    · rw [if_pos q]
      simp only [tup, va_up]
      by_cases e : c = n
      · subst e
        simp [q]
      · rw [if_neg e]
        rw [show (tArr P h n T).1.2.2.2.2.2.2 c = tup (tArr P h n T) c from rfl, ih]
        simp only [show (c < n + 1) = (c < n) from propext ⟨fun _ => by omega, fun _ => by omega⟩]
    · rw [if_neg q, ih]
      by_cases e : c = n
      · subst e
        simp [q]
      · simp only [show (c < n + 1) = (c < n) from propext ⟨fun _ => by omega, fun _ => by omega⟩]
theorem nI_nm1 {h : Nat} (hh : h ≤ 40) : nI h ≠ -1 := nI_m1 (by omega)
theorem tArr_nu (P : vP) (h : Nat) (T : vT) (hh : h ≤ 40) (hI : TI P h T) : ∀ n, n ≤ pnb P → tnu (tArr P h n T) = ctUp (pnb P) (tup (tArr P h n T))
  | 0, _ => hI.2.2.2
  | n + 1, hn => by
    have ih := tArr_nu P h T hh hI n (by omega)
    unfold tArr tArr1
    by_cases q : pho P n = h ∧ pnf P = 0
    · rw [if_pos q]
      have hu : tup (tArr P h n T) n = -1 := by
        rw [tArr_up, if_neg (by omega)]
        have := hI.2.2.1 n (by omega)
        by_cases z : tup T n = -1
        · exact z
        · have := this.mp z
          omega
      have := ctUp_upd (x := nI h) hu (nI_nm1 hh) (pnb P) (by omega)
      simp only [tnu, tup] at this ih ⊢
      rw [ih]
      omega
    · rw [if_neg q]
      exact ih
theorem tArr_TA (P : vP) (h : Nat) (T : vT) (hh : h ≤ 40) (hI : TI P h T) : TA P h (tArr P h (pnb P) T) := by
  obtain ⟨-, f1, f2, f3, f4, f5, f6, -⟩ := tArr_fix P h T (pnb P)
  refine ⟨fun c hc => ?_, fun c hc hq => ?_, fun c hc => ?_, tArr_nu P h T hh hI _ (Nat.le_refl _)⟩
  · unfold tk
    rw [f1, f2, f3, f5, f6]
    exact hI.1 c hc
  · rw [f1]
    exact hI.2.1 c hc (by omega)
  · rw [tArr_up, f1]
    have h1 := hI.2.2.1 c hc
    have h2 := hI.2.1 c hc
    by_cases q : pho P c = h
    · by_cases q2 : pnf P = 0
      · rw [if_pos ⟨hc, q, q2⟩]
        have := h2 (by omega)
        simp only [nI_nm1 hh, ne_eq, not_false_eq_true, true_iff]
        omega
      · rw [if_neg (by omega), h1]
        have := h2 (by omega)
        omega
    · rw [if_neg (by omega), h1]
      omega
theorem tLeave_fix (P : vP) (h b : Nat) (T : vT) : tpl (tLeave P h b T) = va_up (tpl T) b (tpl T b + 1) ∧ thd (tLeave P h b T) = va_up (thd T) b false ∧ tld (tLeave P h b T) = tld T ∧ tup (tLeave P h b T) = (if tpl T b + 1 = pnf P then va_up (tup T) b (nI (h + 1)) else tup T) ∧ tnu (tLeave P h b T) = (if tpl T b + 1 = pnf P then tnu T - 1 else tnu T) := by
  unfold tLeave
  dsimp only
  split <;> split <;> exact ⟨rfl, rfl, rfl, rfl, rfl⟩
theorem tLeave_own (P : vP) (h b : Nat) (T : vT) (h1 : 1 ≤ tnl T b) : tst (tLeave P h b T) b + tnl (tLeave P h b T) b = tst T b + tnl T b ∧ 1 ≤ tnl (tLeave P h b T) b := by
  unfold tLeave
  dsimp only
  by_cases hq : (tpl T b + 1) % pwe P = 0 ∧ 2 ≤ tnl T b
  · rw [if_pos hq]
    have h2 := hq.2
    simp only [tnl] at h2
    split <;> simp [tst, tnl, va_up] <;> omega
  · rw [if_neg hq]
    simp only [tnl] at h1
    split <;> simp [tst, tnl, h1]
theorem tLeave_oth (P : vP) (h b : Nat) (T : vT) {c : Nat} (hc : c ≠ b) : tst (tLeave P h b T) c = tst T c ∧ tnl (tLeave P h b T) c = tnl T c ∧ tnt (tLeave P h b T) c = tnt T c := by
  unfold tLeave
  dsimp only
  split <;> split <;> simp [tst, tnl, tnt, va_up, hc]
/-- while they climb: those below n have climbed -/
def TC (P : vP) (h n : Nat) (U T : vT) : Prop := (∀ c, c < pnb P → tk P T c (if c < n then 0 else tx P h U c)) ∧ (∀ c, c < pnb P → h < pho P c → tpl T c = 0) ∧ (∀ c, c < pnb P → (tup T c ≠ -1 ↔ (pho P c ≤ h ∧ tpl T c = pnf P))) ∧ tnu T = ctUp (pnb P) (tup T) ∧ (∀ c, n ≤ c → tpl T c = tpl U c)
theorem tClimb1_TC {P : vP} {h n : Nat} {U T : vT} (hh : h ≤ 39) (hn : n < pnb P) (hC : TC P h n U T) : TC P h (n + 1) U (tClimb1 P h (tTg P h U) n T) := by
  obtain ⟨k, a1, a2, a3, a4⟩ := hC
  have hth : tThere P h T n = tThere P h U n := by unfold tThere; rw [a4 n (Nat.le_refl _)]
  have kn := k n hn
  rw [if_neg (Nat.lt_irrefl n)] at kn
  unfold tClimb1
  by_cases q : tThere P h T n = true ∧ tTg P h U n = false
  · rw [if_pos q]
    have hx : tx P h U n = 1 := by unfold tx; rw [if_pos ⟨hth ▸ q.1, q.2⟩]
    rw [hx] at kn
    have qs : pho P n ≤ h ∧ tpl T n < pnf P := by simpa [tThere] using q.1
    obtain ⟨k1, k2, k3, k4, k5⟩ := kn
    by_cases q2 : pso P (tpl T n) = 2 ∧ thd T n = false ∧ psu P h = false
    · rw [if_pos q2]
      refine ⟨fun c hc => ?_, a1, a2, a3, fun c hc => a4 c (by omega)⟩
      by_cases e : c = n
      · subst e
        rw [if_pos (by omega)]
        rw [q2.2.1] at k3
        refine ⟨k1, k2, ?_, k4, fun z => absurd z (by simp only [tpl] at *; omega)⟩
        simp only [thd, tst, tnl, tpl, va_up] at k3 ⊢
        simp at k3 ⊢
        omega
      · have kc := k c hc
        have hx : (if c < n + 1 then 0 else tx P h U c) = (if c < n then 0 else tx P h U c) := by
          simp only [show (c < n + 1) = (c < n) from propext ⟨fun _ => by omega, fun _ => by omega⟩]
        rw [hx]
        unfold tk at kc ⊢
        simp only [thd, va_up, e, ↓reduceIte] at kc ⊢
        exact kc
    · rw [if_neg q2]
      obtain ⟨f1, f2, f3, f4, f5⟩ := tLeave_fix P h n T
      obtain ⟨o1, o2⟩ := tLeave_own P h n T k2
      have hup : tup T n = -1 := by
        by_cases z : tup T n = -1
        · exact z
        · have := (a2 n hn).mp z
          omega
      refine ⟨fun c hc => ?_, fun c hc hq => ?_, fun c hc => ?_, ?_, fun c hc => ?_⟩
      · by_cases e : c = n
        · subst e
          rw [if_pos (by omega)]
          unfold tk
          rw [f1, f2, f3]
          simp only [va_up, ↓reduceIte]
          refine ⟨k1, o2, ?_, by omega, fun _ => by simp⟩
          rw [o1]
          have : (if thd T c = true then 1 else 0) ≤ 1 := by split <;> omega
          simp
          omega
        · obtain ⟨p1, p2, p3⟩ := tLeave_oth P h n T e
          have kc := k c hc
          have hx : (if c < n + 1 then 0 else tx P h U c) = (if c < n then 0 else tx P h U c) := by
            simp only [show (c < n + 1) = (c < n) from propext ⟨fun _ => by omega, fun _ => by omega⟩]
          rw [hx]
          unfold tk at kc ⊢
          rw [f1, f2, f3, p1, p2]
          simp only [va_up, e, ↓reduceIte]
          exact kc
      · rw [f1]
        by_cases e : c = n
        · subst e; omega
        · simp only [va_up, e, ↓reduceIte]
          exact a1 c hc hq
      · rw [f1, f4]
        by_cases e : c = n
        · subst e
          simp only [va_up, ↓reduceIte]
          by_cases z : tpl T c + 1 = pnf P
          · rw [if_pos z]
            simp only [↓reduceIte, z, and_true]
            exact ⟨fun _ => qs.1, fun _ => by simp only [va_up, ↓reduceIte]; exact nI_nm1 (by omega)⟩
          · rw [if_neg z, hup]
            simp [z]
        · have hc2 := a2 c hc
          by_cases z : tpl T n + 1 = pnf P
          · rw [if_pos z]
            simp only [va_up, e, ↓reduceIte]
            exact hc2
          · rw [if_neg z]
            simp only [va_up, e, ↓reduceIte]
            exact hc2
      · rw [f4, f5]
        by_cases z : tpl T n + 1 = pnf P
        · rw [if_pos z, if_pos z, a3]
          have := ctUp_upd (x := nI (h + 1)) hup (nI_nm1 (by omega)) (pnb P) hn
          omega
        · rw [if_neg z, if_neg z, a3]
      · rw [f1]
        simp only [va_up, show c ≠ n by omega, ↓reduceIte]
        exact a4 c (by omega)
  · rw [if_neg q]
    refine ⟨fun c hc => ?_, a1, a2, a3, fun c hc => a4 c (by omega)⟩
    by_cases e : c = n
    · subst e
      rw [if_pos (by omega)]
      have : tx P h U c = 0 := by unfold tx; rw [if_neg (by rw [← hth]; exact q)]
      rw [this] at kn
      exact kn
    · have hx : (if c < n + 1 then 0 else tx P h U c) = (if c < n then 0 else tx P h U c) := by
        simp only [show (c < n + 1) = (c < n) from propext ⟨fun _ => by omega, fun _ => by omega⟩]
      rw [hx]
      exact k c hc
theorem tMid_TC {P : vP} {h : Nat} {T : vT} (hh : h ≤ 40) (hI : TI P h T) : TC P h 0 (tMid P h T) (tMid P h T) := by
  have hA := tArr_TA P h T hh hI
  obtain ⟨f1, f2, f3, f4, f5⟩ := tServe_fix P h (tArr P h (pnb P) T) (pnb P)
  refine ⟨fun c hc => ?_, fun c hc hq => ?_, fun c hc => ?_, ?_, fun c _ => rfl⟩
  · have := tServe_tk P h (tArr P h (pnb P) T) hA.1 (pnb P) c hc
    rw [if_pos hc] at this
    rw [if_neg (by omega)]
    have e : tx P h (tMid P h T) c = tx P h (tArr P h (pnb P) T) c := by
      unfold tx tMid
      rw [tThere_pl f1, tTg_pl f1]
    rw [e]
    exact this
  · show tpl (tServe P h (pnb P) (tArr P h (pnb P) T)) c = 0
    rw [f1]
    exact hA.2.1 c hc hq
  · show tup (tServe P h (pnb P) (tArr P h (pnb P) T)) c ≠ -1 ↔ _ ∧ tpl (tServe P h (pnb P) (tArr P h (pnb P) T)) c = _
    rw [f1, f3]
    exact hA.2.2.1 c hc
  · show tnu (tServe P h (pnb P) (tArr P h (pnb P) T)) = ctUp _ (tup (tServe P h (pnb P) (tArr P h (pnb P) T)))
    rw [f5, f3]
    exact hA.2.2.2
theorem tClimb_TC {P : vP} {h : Nat} {T : vT} (hh : h ≤ 39) (hI : TI P h T) : ∀ n, n ≤ pnb P → TC P h n (tMid P h T) (tClimb P h (tTg P h (tMid P h T)) n (tMid P h T))
  | 0, _ => tMid_TC (by omega) hI
  | n + 1, hn => tClimb1_TC hh (by omega) (tClimb_TC hh hI n (by omega))
theorem tHour_TI {P : vP} {h : Nat} {T : vT} (hh : h ≤ 39) (hI : TI P h T) : TI P (h + 1) (tHour P h T) := by
  obtain ⟨k, a1, a2, a3, a4⟩ := tClimb_TC hh hI (pnb P) (Nat.le_refl _)
  refine ⟨fun c hc => ?_, fun c hc hq => a1 c hc (by omega), fun c hc => ?_, a3⟩
  · have := k c hc
    rw [if_pos hc] at this
    exact this
  · have := a2 c hc
    unfold tHour
    rw [this]
    omega
theorem tT0_TI (P : vP) (hP : WP P) : TI P 0 (tT0 P) := by
  refine ⟨fun c hc => ?_, fun c _ _ => rfl, fun c hc => by simp, ?_⟩
  · have := hP.2.2.2.1 c hc
    refine ⟨Nat.le_refl _, this.2.2.1, ?_, Nat.zero_le _, fun _ => rfl⟩
    show 0 + ple P c ≤ 3 + 2 * 0 + 0 + 0
    omega
  · show pnb P = ctUp (pnb P) (fun _ => -1)
    have : ∀ n, ctUp n (fun _ => -1) = n := fun n => by
      induction n with
      | zero => rfl
      | succ n ih => rw [ctUp, ih]; simp
    exact (this _).symm
theorem tRun_TI (P : vP) (hP : WP P) : ∀ h, h ≤ 40 → TI P h (tRun P h)
  | 0, _ => tT0_TI P hP
  | h + 1, hh => tHour_TI (by omega) (tRun_TI P hP h (by omega))
