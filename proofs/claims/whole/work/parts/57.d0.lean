/-! digest -/
def mx (h v : Int64) : Int64 := (31 : Int64) * h + v
def iter (g : Int64 → Nat → Int64) : Nat → Int64 → Int64
  | 0, h => h
  | n + 1, h => g (iter g n h) n
theorem iter_0 (g : Int64 → Nat → Int64) (h : Int64) : iter g 0 h = h := rfl
theorem iter_s (g : Int64 → Nat → Int64) (n : Nat) (h : Int64) : iter g (n + 1) h = g (iter g n h) n := rfl
theorem c_mixed (a b : Int64) (σ : vMem) : fX7_mixed a b σ = some (mx a b, σ) := by
  obtain ⟨s1, s2⟩ := σ
  unfold fX7_mixed mx
  rfl
theorem mx_e (a b : Int64) : (31 : Int64) * a + b = mx a b := rfl
noncomputable def dHour (A : vA) (t b : Nat) (h : Int64) : Int64 := iter (fun h y => mx h (rAt A t b y).toInt64) 4 h
noncomputable def dFloor (A : vA) (h : Int64) (f : Nat) : Int64 := mx (mx (mx (mx (mx (iter (fun h y => mx h (rFloor A f (nI y)).toInt64) 3 h) (rBites A f 0).toInt64) (rBites A f 1).toInt64) (rWas A f 0).toInt64) (rWas A f 1).toInt64) (rAsk A f).toInt64
noncomputable def dWay (A : vA) (h : Int64) (b : Nat) : Int64 := iter (fun h y => mx h (rNote (TT A) b y).toInt64) 4 (mx (dHour A 39 b (dHour A 12 b (dHour A 5 b (dHour A 0 b (iter (fun h y => mx h (rBasket A b y).toInt64) 6 h))))) (rComes A b).toInt64)
noncomputable def dPlans (A : vA) (h : Int64) (b : Nat) : Int64 := mx (mx (mx (mx (mx (mx (mx h (rSend A b 0).toInt64) (rSend A b 1).toInt64) (rLoaf A b 5).toInt64) (rFed A b).1.toInt64) (ansFd (rFed A b) 0).toInt64) (rGu A 5 b 3 0)) (rGu A 5 b 3 1)
noncomputable def dEnd (A : vA) (h : Int64) : Int64 := mx (mx (mx (mx (mx (mx (mx (mx (mx h (rFamine A).toInt64) (rFirst A 0).toInt64) (rFirst A 1).toInt64) (rGreedy A).toInt64) (rStill A 0).toInt64) (rStill A 1).toInt64) (rNever A).toInt64) (rWeek A 7 5 0).toInt64) (rWeek A 7 5 1).toInt64
noncomputable def dHead (A : vA) : Int64 := mx (mx (iter (fun h y => mx h (rCount A (nI y)).toInt64) 8 17) (fF (t0 A) (n0 A)).toInt64) (fB (t1 A) (n1 A)).1.toInt64
noncomputable def rDigest (A : vA) : Int64 := dEnd A (iter (fun h b => dPlans A (dWay A h b) b) (nbA A) (iter (fun h f => dFloor A h f) (nfA A) (dHead A)))
theorem rSend_0 (A : vA) (b : Nat) : rSend A b 0 = bW (gSe A b) 30 := if_pos rfl
theorem rSend_1 (A : vA) (b : Nat) : rSend A b 1 = bM (gSe A b) 30 := if_neg (by decide)
theorem rStill_0 (A : vA) : rStill A 0 = bW (gSt A) (awn A) := if_pos rfl
theorem rStill_1 (A : vA) : rStill A 1 = bM (gSt A) (awn A) := if_neg (by decide)
theorem c_mixedHour {A : vA} (hA : WA A) {σ : vMem} (h : RC A σ) {t b : Nat} (ht : t < 40) (hb : b < nbA A) (x : Int64) : ∃ σ', fX7_mixedHour x (nI b) (nI t) σ = some (dHour A t b x, σ') ∧ RC A σ' := by
  have key : ∀ (k n i : Nat) (τ : vMem), i + k = 4 → k < n → RC A τ → ∃ σ', LfX7_mixedHour_3 n (iter (fun h y => mx h (rAt A t b y).toInt64) i x) (nI b) (nI t) (nI i) τ = some (dHour A t b x, σ') ∧ RC A σ' := by
    intro k
    induction k with
    | zero =>
      intro n i τ hik hn hR
      obtain ⟨n, rfl⟩ : ∃ j, n = j + 1 := ⟨n - 1, by omega⟩
      have : i = 4 := by omega
      subst this
      refine ⟨τ, ?_, hR⟩
      show fX7_mixedHour_3 _ _ _ _ _ _ = _
      unfold fX7_mixedHour_3 dHour
      rw [if_pos (by decide)]
    | succ k ih =>
      intro n i τ hik hn hR
      obtain ⟨n, rfl⟩ : ∃ j, n = j + 1 := ⟨n - 1, by omega⟩
      have hlt : ¬ (3 : Int32) < nI i := fun z => by have := (nI_ltI (a := 3) (by decide) (by omega)).mp z; omega
      obtain ⟨τ1, a1, a2⟩ := c_atR hA hR ht hb (show i < 4 by omega)
      obtain ⟨σ', b1, b2⟩ := ih n (i + 1) τ1 (by omega) (by omega) a2
      refine ⟨σ', ?_, b2⟩
      show fX7_mixedHour_3 _ _ _ _ _ _ = _
      unfold fX7_mixedHour_3
      rw [if_neg hlt]
      simp only [a1, Option.bind_some, c_mixed, nI_1]
      exact b1
  exact key 4 200 0 σ (by omega) (by omega) h
