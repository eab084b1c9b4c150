/-! bites in all; what is eaten is small -/
def sumF : Nat → (Nat → Int32) → Int32
  | 0, _ => 0
  | n + 1, g => sumF n g + g n
theorem sumF_cong {g g' : Nat → Int32} : ∀ n, (∀ i, i < n → g i = g' i) → sumF n g = sumF n g'
  | 0, _ => rfl
  | n + 1, h => by rw [sumF, sumF, sumF_cong n (fun i hi => h i (by omega)), h n (by omega)]
theorem sumF_up (g : Nat → Int32) (f : Nat) : ∀ n, f < n → sumF n (va_up g f (g f + 1)) = sumF n g + 1
  | 0, h => absurd h (Nat.not_lt_zero _)
  | n + 1, h => by
    rw [sumF, sumF]
    by_cases q : f = n
    · subst q
      rw [sumF_cong (g' := g) f (fun i hi => by unfold va_up; rw [if_neg (by omega)])]
      unfold va_up
      rw [if_pos rfl, Int32.add_assoc]
    · rw [sumF_up g f n (by omega)]
      unfold va_up
      rw [if_neg (by omega), Int32.add_assoc, Int32.add_assoc, Int32.add_comm 1]
def TB (P : vP) (B : Nat) (T : vT) : Prop := tbt T = sumF (pnf P) (tof T) ∧ ∀ f, tea T f ≤ B
theorem TB.of {P : vP} {B : Nat} {T U : vT} (h : TB P B T) (e1 : U.2.1 = T.2.1) (e2 : tbt U = tbt T) : TB P B U := by
  unfold TB tof tea at h ⊢
  rw [e1, e2]
  exact h
theorem TB.up {P : vP} {B C : Nat} {T : vT} (h : TB P B T) (hc : B ≤ C) : TB P C T := ⟨h.1, fun f => Nat.le_trans (h.2 f) hc⟩
theorem tBite_TB {P : vP} {h b f B : Nat} {T : vT} (hf : f < pnf P) (h9 : pbi P f ≤ 9) (hB : TB P B T) : TB P (B + 9) (tBite P h b f T) := by
  have key : ∀ p, p ≤ 9 → TB P (B + 9) (sBt (sEa (sOf (sLa (sLd T b (tld T b - p)) f (nI h)) f (tof T f + 1)) f (tea T f + p)) (tbt T + 1)) := by
    intro p hp
    refine ⟨?_, fun i => ?_⟩
    · show tbt T + 1 = sumF (pnf P) (va_up (tof T) f (tof T f + 1))
      rw [sumF_up _ _ _ hf, hB.1]
    · show va_up (tea T) f (tea T f + p) i ≤ B + 9
      unfold va_up
      have := hB.2 f
      have := hB.2 i
      split <;> omega
  have h9p : (if tld T b ≤ pbi P f then tld T b else pbi P f) ≤ 9 := by split <;> omega
  unfold tBite
  simp only
  generalize (if tld T b ≤ pbi P f then tld T b else pbi P f) = p at h9p ⊢
  have k2 := key p h9p
  split
  · split
    · exact k2.of rfl rfl
    · exact k2.of rfl rfl
  · split
    · exact k2.of rfl rfl
    · exact k2.of rfl rfl
theorem tEat_TB {P : vP} {h b f B : Nat} {T : vT} (hf : f < pnf P) (h9 : pbi P f ≤ 9) (hB : TB P B T) : TB P (B + 9) (tEat P h b f T) := by
  unfold tEat
  by_cases q : pso P f = 3 ∧ pwi P h = true
  · simp only [q, and_self, ↓reduceIte]
    have k := hB.of (U := sLd T b (tld T b / 2)) rfl rfl
    split
    · exact tBite_TB hf h9 k
    · exact k.up (by omega)
  · simp only [if_neg q]
    split
    · exact tBite_TB hf h9 hB
    · exact hB.up (by omega)
theorem tServe_TB {P : vP} (hP : WP P) {h B : Nat} {T : vT} (hB : TB P B T) : ∀ n, TB P (B + 9 * n) (tServe P h n T)
  | 0 => hB
  | n + 1 => by
    have k := tServe_TB hP (h := h) hB n
    rw [tServe, tServe1]
    split
    · rename_i q
      have q1 := q.1
      unfold tThere at q1
      have hf : tpl (tServe P h n T) n < pnf P := by
        have := (Bool.and_eq_true _ _).mp q1
        exact of_decide_eq_true this.2
      exact (tEat_TB hf (hP.2.2.1 _ hf) k).up (by omega)
    · exact k.up (by omega)
theorem tClimb_fix (P : vP) (h : Nat) (tg : Nat → Bool) (T : vT) : ∀ n, (tClimb P h tg n T).2.1 = T.2.1 ∧ tbt (tClimb P h tg n T) = tbt T
  | 0 => ⟨rfl, rfl⟩
  | n + 1 => by
    have k := tClimb_fix P h tg T n
    rw [tClimb, tClimb1]
    split
    · split
      · exact k
      · unfold tLeave
        simp only
        split
        · split
          · exact k
          · exact k
        · split
          · exact k
          · exact k
    · exact k
theorem tRun_TB {P : vP} (hP : WP P) : ∀ h, TB P (72 * h) (tRun P h)
  | 0 => ⟨by
      show (0 : Int32) = sumF (pnf P) (fun _ => 0)
      have : ∀ n, (0 : Int32) = sumF n (fun _ => 0) := by
        intro n
        induction n with
        | zero => rfl
        | succ n ih => rw [sumF, ← ih]; rfl
      exact this _, fun f => Nat.zero_le _⟩
  | h + 1 => by
    have k := tRun_TB hP h
    have h8 := hP.2.1
    obtain ⟨a1, -⟩ := tArr_fix P h (tRun P h) (pnb P)
    have a2 : tbt (tArr P h (pnb P) (tRun P h)) = tbt (tRun P h) := by
      have := tArr_fix P h (tRun P h) (pnb P)
      exact this.2.2.2.2.2.2.2.1
    have k1 := k.of a1 a2
    have k2 := tServe_TB hP (h := h) k1 (pnb P)
    obtain ⟨b1, b2⟩ := tClimb_fix P h (tTg P h (tMid P h (tRun P h))) (tMid P h (tRun P h)) (pnb P)
    rw [tRun, tHour]
    exact (TB.of (T := tMid P h (tRun P h)) k2 b1 b2).up (by omega)
/-- the greediest floor -/
def bestF (g : Nat → Nat) : Nat → Nat
  | 0 => 0
  | n + 1 => if n = 0 then 0 else (if g n ≤ g (bestF g n) then bestF g n else n)
theorem bestF_lt (g : Nat → Nat) : ∀ n, 0 < n → bestF g n < n
  | 0, h => absurd h (Nat.not_lt_zero _)
  | n + 1, _ => by
    rw [bestF]
    split
    · omega
    · have := bestF_lt g n (by omega)
      split <;> omega
