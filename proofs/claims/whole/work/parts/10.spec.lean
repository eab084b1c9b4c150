/-! the trip, as plain mathematics -/
/-- the data: how many floors, baskets; of floors sort, bite, word; of baskets hour, load, letters, these; hunger, wear; winds, Sundays -/
abbrev vP : Type := (Nat × Nat) × ((Nat → Int32) × (Nat → Nat) × (Nat → Int32)) × ((Nat → Nat) × (Nat → Nat) × (Nat → Nat) × (Nat → Nat → Int32)) × (Int32 × Nat) × ((Nat → Bool) × (Nat → Bool))
abbrev pnf (P : vP) : Nat := P.1.1
abbrev pnb (P : vP) : Nat := P.1.2
abbrev pso (P : vP) : Nat → Int32 := P.2.1.1
abbrev pbi (P : vP) : Nat → Nat := P.2.1.2.1
abbrev pwo (P : vP) : Nat → Int32 := P.2.1.2.2
abbrev pho (P : vP) : Nat → Nat := P.2.2.1.1
abbrev plo (P : vP) : Nat → Nat := P.2.2.1.2.1
abbrev ple (P : vP) : Nat → Nat := P.2.2.1.2.2.1
abbrev pte (P : vP) : Nat → Nat → Int32 := P.2.2.1.2.2.2
abbrev phu (P : vP) : Int32 := P.2.2.2.1.1
abbrev pwe (P : vP) : Nat := P.2.2.2.1.2
abbrev pwi (P : vP) : Nat → Bool := P.2.2.2.2.1
abbrev psu (P : vP) : Nat → Bool := P.2.2.2.2.2
def WP (P : vP) : Prop := pnf P ≤ 9 ∧ pnb P ≤ 8 ∧ (∀ f, f < pnf P → pbi P f ≤ 9) ∧ (∀ b, b < pnb P → pho P b ≤ 29 ∧ plo P b ≤ 99 ∧ 1 ≤ ple P b ∧ ple P b ≤ 3) ∧ 1 ≤ pwe P ∧ pwe P ≤ 9
/-- the state: of baskets place, load, letters, these, how many are worn off, held, up; of floors last, often, eaten; bites, not up, first hour, first floor -/
abbrev vT : Type := ((Nat → Nat) × (Nat → Nat) × (Nat → Nat) × (Nat → Nat → Int32) × (Nat → Nat) × (Nat → Bool) × (Nat → Int32)) × ((Nat → Int32) × (Nat → Int32) × (Nat → Nat)) × (Int32 × Nat × Int32 × Int32)
abbrev tpl (T : vT) : Nat → Nat := T.1.1
abbrev tld (T : vT) : Nat → Nat := T.1.2.1
abbrev tnl (T : vT) : Nat → Nat := T.1.2.2.1
abbrev tnt (T : vT) : Nat → Nat → Int32 := T.1.2.2.2.1
abbrev tst (T : vT) : Nat → Nat := T.1.2.2.2.2.1
abbrev thd (T : vT) : Nat → Bool := T.1.2.2.2.2.2.1
abbrev tup (T : vT) : Nat → Int32 := T.1.2.2.2.2.2.2
abbrev tla (T : vT) : Nat → Int32 := T.2.1.1
abbrev tof (T : vT) : Nat → Int32 := T.2.1.2.1
abbrev tea (T : vT) : Nat → Nat := T.2.1.2.2
abbrev tbt (T : vT) : Int32 := T.2.2.1
abbrev tnu (T : vT) : Nat := T.2.2.2.1
abbrev tfh (T : vT) : Int32 := T.2.2.2.2.1
abbrev tff (T : vT) : Int32 := T.2.2.2.2.2
abbrev sPl (T : vT) (b x : Nat) : vT := ((va_up (tpl T) b x, T.1.2), T.2)
abbrev sLd (T : vT) (b x : Nat) : vT := ((T.1.1, va_up (tld T) b x, T.1.2.2), T.2)
abbrev sNl (T : vT) (b x : Nat) : vT := ((T.1.1, T.1.2.1, va_up (tnl T) b x, T.1.2.2.2), T.2)
abbrev sNt (T : vT) (b : Nat) (x : Nat → Int32) : vT := ((T.1.1, T.1.2.1, T.1.2.2.1, va_up (tnt T) b x, T.1.2.2.2.2), T.2)
abbrev sSt (T : vT) (b x : Nat) : vT := ((T.1.1, T.1.2.1, T.1.2.2.1, T.1.2.2.2.1, va_up (tst T) b x, T.1.2.2.2.2.2), T.2)
abbrev sHd (T : vT) (b : Nat) (x : Bool) : vT := ((T.1.1, T.1.2.1, T.1.2.2.1, T.1.2.2.2.1, T.1.2.2.2.2.1, va_up (thd T) b x, T.1.2.2.2.2.2.2), T.2)
abbrev sUp (T : vT) (b : Nat) (x : Int32) : vT := ((T.1.1, T.1.2.1, T.1.2.2.1, T.1.2.2.2.1, T.1.2.2.2.2.1, T.1.2.2.2.2.2.1, va_up (tup T) b x), T.2)
abbrev sLa (T : vT) (f : Nat) (x : Int32) : vT := (T.1, (va_up (tla T) f x, T.2.1.2), T.2.2)
abbrev sOf (T : vT) (f : Nat) (x : Int32) : vT := (T.1, (T.2.1.1, va_up (tof T) f x, T.2.1.2.2), T.2.2)
abbrev sEa (T : vT) (f : Nat) (x : Nat) : vT := (T.1, (T.2.1.1, T.2.1.2.1, va_up (tea T) f x), T.2.2)
abbrev sBt (T : vT) (x : Int32) : vT := (T.1, T.2.1, (x, T.2.2.2))
abbrev sNu (T : vT) (x : Nat) : vT := (T.1, T.2.1, (T.2.2.1, x, T.2.2.2.2))
abbrev sFh (T : vT) (x : Int32) : vT := (T.1, T.2.1, (T.2.2.1, T.2.2.2.1, x, T.2.2.2.2.2))
abbrev sFf (T : vT) (x : Int32) : vT := (T.1, T.2.1, (T.2.2.1, T.2.2.2.1, T.2.2.2.2.1, x))
def anyLt : Nat → (Nat → Bool) → Bool
  | 0, _ => false
  | n + 1, p => anyLt n p || p n
theorem anyLt_iff (p : Nat → Bool) : ∀ n, anyLt n p = true ↔ ∃ i, i < n ∧ p i = true
  | 0 => by simp [anyLt]
  | n + 1 => by
    rw [anyLt, Bool.or_eq_true, anyLt_iff p n]
    constructor
    · rintro (⟨i, h1, h2⟩ | h)
      · exact ⟨i, by omega, h2⟩
      · exact ⟨n, by omega, h⟩
    · rintro ⟨i, h1, h2⟩
      rcases Nat.lt_or_ge i n with q | q
      · exact Or.inl ⟨i, q, h2⟩
      · have : i = n := by omega
        subst this
        exact Or.inr h2
abbrev b2 (x : Bool) : Int32 := if x then 1 else 0
/-- the first words: basket b, there, takes part in it: on floor f, k left -/
abbrev tT0 (P : vP) : vT := ((fun _ => 0, plo P, ple P, pte P, fun _ => 0, fun _ => false, fun _ => -1), (fun _ => -1, fun _ => 0, fun _ => 0), (0, pnb P, -1, -1))
/-- a basket of its hour comes; with no floors it is up at once -/
def tArr1 (P : vP) (h b : Nat) (T : vT) : vT := if pho P b = h ∧ pnf P = 0 then sNu (sUp T b (nI h)) (tnu T - 1) else T
def tArr (P : vP) (h : Nat) : Nat → vT → vT
  | 0, T => T
  | n + 1, T => tArr1 P h n (tArr P h n T)
def tThere (P : vP) (h : Nat) (T : vT) (b : Nat) : Bool := decide (pho P b ≤ h) && decide (tpl T b < pnf P)
def tTg (P : vP) (h : Nat) (T : vT) (b : Nat) : Bool := anyLt b (fun i => decide (pho P i ≤ h) && decide (tpl T i = tpl T b))
/-- the floor's bite -/
def tBite (P : vP) (h b f : Nat) (T : vT) : vT :=
  let p := if tld T b ≤ pbi P f then tld T b else pbi P f
  let T1 := sBt (sEa (sOf (sLa (sLd T b (tld T b - p)) f (nI h)) f (tof T f + 1)) f (tea T f + p)) (tbt T + 1)
  let T2 := if tfh T = -1 then sFf (sFh T1 (nI h)) (nI f) else T1
  if pso P f = 1 then sNt T2 b (upd (tnt T b) 0 (pwo P f)) else sNl (sNt T2 b (upd (tnt T b) (tnl T b) (pwo P f))) b (tnl T b + 1)
def tHungry (P : vP) (h f : Nat) (T : vT) : Bool := (decide (tla T f = -1) || decide (phu P < nI h - tla T f)) && decide (0 < pbi P f) && !psu P h
def tEat (P : vP) (h b f : Nat) (T : vT) : vT :=
  let T1 := if pso P f = 3 ∧ pwi P h = true then sLd T b (tld T b / 2) else T
  if 0 < tld T1 b ∧ tHungry P h f T1 = true then tBite P h b f T1 else T1
def tServe1 (P : vP) (h b : Nat) (T : vT) : vT := if tThere P h T b = true ∧ tTg P h T b = false then tEat P h b (tpl T b) T else T
def tServe (P : vP) (h : Nat) : Nat → vT → vT
  | 0, T => T
  | n + 1, T => tServe1 P h n (tServe P h n T)
def tLeave (P : vP) (h b : Nat) (T : vT) : vT :=
  let T1 := sPl (sHd T b false) b (tpl T b + 1)
  let T2 := if (tpl T b + 1) % pwe P = 0 ∧ 2 ≤ tnl T b then sSt (sNt (sNl T1 b (tnl T b - 1)) b (fun i => tnt T b (i + 1))) b (tst T b + 1) else T1
  if tpl T b + 1 = pnf P then sNu (sUp T2 b (nI (h + 1))) (tnu T - 1) else T2
def tClimb1 (P : vP) (h : Nat) (tg : Nat → Bool) (b : Nat) (T : vT) : vT :=
  if tThere P h T b = true ∧ tg b = false then (if pso P (tpl T b) = 2 ∧ thd T b = false ∧ psu P h = false then sHd T b true else tLeave P h b T) else T
def tClimb (P : vP) (h : Nat) (tg : Nat → Bool) : Nat → vT → vT
  | 0, T => T
  | n + 1, T => tClimb1 P h tg n (tClimb P h tg n T)
def tMid (P : vP) (h : Nat) (T : vT) : vT := tServe P h (pnb P) (tArr P h (pnb P) T)
def tHour (P : vP) (h : Nat) (T : vT) : vT := tClimb P h (tTg P h (tMid P h T)) (pnb P) (tMid P h T)
def tRun (P : vP) : Nat → vT
  | 0 => tT0 P
  | h + 1 => tHour P h (tRun P h)
/-! rows on numbers -/
theorem ixF {k N : Nat} (h : k < N) (hN : N < 2 ^ 31) : (nI k < 0 ∨ N ≤ k) = False := by
  simp only [eq_iff_iff, iff_false]
  rintro (h1 | h1)
  · exact nI_pos (by omega) h1
  · omega
theorem nI_le0 {n : Nat} (h : n < 2 ^ 31) : nI n ≤ 0 ↔ n = 0 := (nI_leI h (by decide : (0 : Nat) < 2 ^ 31)).trans (by omega)
theorem nI_eq0 {n : Nat} (h : n < 2 ^ 31) : nI n = 0 ↔ n = 0 := nI_eq h (by decide : (0 : Nat) < 2 ^ 31)
theorem nI_m1 {n : Nat} (h : n < 2 ^ 31) : ¬ nI n = -1 := fun e => by
  have h1 := congrArg Int32.toInt e
  rw [nI_toInt h] at h1
  have h2 : (-1 : Int32).toInt = -1 := by decide
  omega
theorem nI_lt0 {n : Nat} (h : n < 2 ^ 31) : (nI n < 0) = False := eq_false (nI_pos h)
theorem vup_rd (σ : vMem) (n k : Nat) (x : Int32) (a j : Nat) : (vup σ n k x).1 a j = if a = n then (if j = k then x else σ.1 n j) else σ.1 a j := by
  unfold vup
  by_cases h : a = n <;> simp [h, upd]
theorem vup_2 (σ : vMem) (n k : Nat) (x : Int32) : (vup σ n k x).2 = σ.2 := rfl
theorem b2_0 (x : Bool) : b2 x = 0 ↔ x = false := by cases x <;> decide
theorem b2_1 (x : Bool) : b2 x = 1 ↔ x = true := by cases x <;> decide
