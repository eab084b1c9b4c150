theorem ckn {α : Type} {c : Prop} [Decidable c] {x : Option α} {r : α} (h : (if c then none else x) = some r) : ¬ c ∧ x = some r := by
  by_cases hc : c
  · rw [if_pos hc] at h; cases h
  · rw [if_neg hc] at h; exact ⟨hc, h⟩
theorem itc {α : Type} {c : Prop} [Decidable c] {x y : Option α} {r : α} (h : (if c then x else y) = some r) : (c ∧ x = some r) ∨ (¬ c ∧ y = some r) := by
  by_cases hc : c
  · rw [if_pos hc] at h; exact Or.inl ⟨hc, h⟩
  · rw [if_neg hc] at h; exact Or.inr ⟨hc, h⟩
theorem bdc {α β : Type} {x : Option α} {f : α → Option β} {r : β} (h : x.bind f = some r) : ∃ q, x = some q ∧ f q = some r := by
  cases x with
  | none => cases h
  | some q => exact ⟨q, rfl, h⟩
theorem ck5 {a b c : Prop} {n1 m1 n2 m2 : Nat} (h : ¬ (a ∨ b ∨ c ∨ n1 < m1 ∨ n2 < m2)) : ¬ a ∧ ¬ b ∧ ¬ c ∧ m1 ≤ n1 ∧ m2 ≤ n2 := by
  simp only [not_or, Nat.not_lt] at h
  exact h
/-- fewer known locals -/
def vSub : List (Option Value) → List (Option Value) → Prop
  | [], _ => True
  | none :: a, b => vSub a b.tail
  | some v :: a, b => b.head? = some (some v) ∧ vSub a b.tail
theorem vSub_get : ∀ (a b : List (Option Value)) (i : Nat) (v : Value), vSub a b → a[i]? = some (some v) → b[i]? = some (some v)
  | [], _, i, v, _, h => by simp at h
  | none :: a, b, 0, v, _, h => by simp at h
  | none :: a, b, i + 1, v, hs, h => by
    have := vSub_get a b.tail i v hs (by simpa using h)
    cases b with
    | nil => simp at this
    | cons x b => simpa using this
  | some w :: a, b, 0, v, hs, h => by
    have e : w = v := by simpa using h
    subst e
    cases b with
    | nil => simp [vSub] at hs
    | cons x b => simpa [vSub] using hs.1
  | some w :: a, b, i + 1, v, hs, h => by
    have := vSub_get a b.tail i v hs.2 (by simpa using h)
    cases b with
    | nil => simp at this
    | cons x b => simpa using this
theorem V.forget {G : vCfg} {mi : vMI} {ad : Nat → Nat} {Q : Option Value → vMem → Prop} {d pc : Nat} {ls ls' : List (Option Value)} {st : List Value} {σ : vMem} (h : V G mi ad Q d pc ls' st σ) (hs : vSub ls' ls) : V G mi ad Q d pc ls st σ := by
  intro p l e s m args below meth c H locs A D cI cZ la O L P Dd S hA
  exact h p l e s m args below meth c H locs A D cI cZ la O ⟨L.1, L.2.1, fun i v hi => L.2.2 i v (vSub_get _ _ i v hs hi)⟩ P Dd S hA
theorem bp_10 : (Int8.ofInt (10)).toInt32 = (10 : Int32) := by decide
theorem bp_100 : (Int8.ofInt (100)).toInt32 = (100 : Int32) := by decide
theorem bp_104 : (Int8.ofInt (104)).toInt32 = (104 : Int32) := by decide
theorem bp_108 : (Int8.ofInt (108)).toInt32 = (108 : Int32) := by decide
theorem bp_109 : (Int8.ofInt (109)).toInt32 = (109 : Int32) := by decide
theorem bp_11 : (Int8.ofInt (11)).toInt32 = (11 : Int32) := by decide
theorem bp_112 : (Int8.ofInt (112)).toInt32 = (112 : Int32) := by decide
theorem bp_12 : (Int8.ofInt (12)).toInt32 = (12 : Int32) := by decide
theorem bp_16 : (Int8.ofInt (16)).toInt32 = (16 : Int32) := by decide
theorem bp_21 : (Int8.ofInt (21)).toInt32 = (21 : Int32) := by decide
theorem bp_24 : (Int8.ofInt (24)).toInt32 = (24 : Int32) := by decide
theorem bp_30 : (Int8.ofInt (30)).toInt32 = (30 : Int32) := by decide
theorem bp_35 : (Int8.ofInt (35)).toInt32 = (35 : Int32) := by decide
theorem bp_39 : (Int8.ofInt (39)).toInt32 = (39 : Int32) := by decide
theorem bp_40 : (Int8.ofInt (40)).toInt32 = (40 : Int32) := by decide
theorem bp_48 : (Int8.ofInt (48)).toInt32 = (48 : Int32) := by decide
theorem bp_50 : (Int8.ofInt (50)).toInt32 = (50 : Int32) := by decide
theorem bp_57 : (Int8.ofInt (57)).toInt32 = (57 : Int32) := by decide
theorem bp_59 : (Int8.ofInt (59)).toInt32 = (59 : Int32) := by decide
theorem bp_6 : (Int8.ofInt (6)).toInt32 = (6 : Int32) := by decide
theorem bp_60 : (Int8.ofInt (60)).toInt32 = (60 : Int32) := by decide
theorem bp_63 : (Int8.ofInt (63)).toInt32 = (63 : Int32) := by decide
theorem bp_7 : (Int8.ofInt (7)).toInt32 = (7 : Int32) := by decide
theorem bp_8 : (Int8.ofInt (8)).toInt32 = (8 : Int32) := by decide
theorem bp_9 : (Int8.ofInt (9)).toInt32 = (9 : Int32) := by decide
theorem bp_97 : (Int8.ofInt (97)).toInt32 = (97 : Int32) := by decide
theorem bp_99 : (Int8.ofInt (99)).toInt32 = (99 : Int32) := by decide
theorem bp_m10 : (Int8.ofInt (-10)).toInt32 = (-10 : Int32) := by decide
theorem bp_m2 : (Int8.ofInt (-2)).toInt32 = (-2 : Int32) := by decide
theorem bp_m3 : (Int8.ofInt (-3)).toInt32 = (-3 : Int32) := by decide
theorem bp_m4 : (Int8.ofInt (-4)).toInt32 = (-4 : Int32) := by decide
theorem ic_0 : Int32.ofInt (0) = (0 : Int32) := by decide
theorem ic_1 : Int32.ofInt (1) = (1 : Int32) := by decide
theorem ic_2 : Int32.ofInt (2) = (2 : Int32) := by decide
theorem ic_3 : Int32.ofInt (3) = (3 : Int32) := by decide
theorem ic_4 : Int32.ofInt (4) = (4 : Int32) := by decide
theorem ic_5 : Int32.ofInt (5) = (5 : Int32) := by decide
theorem ic_m1 : Int32.ofInt (-1) = (-1 : Int32) := by decide
theorem ii_1 (x : Int32) : x + Int32.ofInt (1) = x + (1 : Int32) := by rw [show Int32.ofInt (1) = (1 : Int32) by decide]
theorem lc_0 : Int64.ofNat (((0 : Fin 2) : Nat)) = (0 : Int64) := by decide
theorem lc_1 : Int64.ofNat (((1 : Fin 2) : Nat)) = (1 : Int64) := by decide
theorem sp_12345 : (Int16.ofInt (12345)).toInt32 = (12345 : Int32) := by decide
theorem sp_255 : (Int16.ofInt (255)).toInt32 = (255 : Int32) := by decide
def GC : vCfg := (40, fun n => match n with
  | 0 => (9, 0)
  | 1 => (6, 0)
  | 2 => (0, 35)
  | 3 => (6, 0)
  | 4 => (0, 63)
  | 5 => (7, 0)
  | 6 => (0, 9)
  | 7 => (0, 9)
  | 8 => (0, 9)
  | 9 => (0, 8)
  | 10 => (0, 8)
  | 11 => (0, 8)
  | 12 => (0, 24)
  | 13 => (8, 0)
  | 14 => (0, 8)
  | 15 => (0, 8)
  | 16 => (0, 8)
  | 17 => (0, 8)
  | 18 => (0, 8)
  | 19 => (0, 168)
  | 20 => (0, 8)
  | 21 => (0, 8)
  | 22 => (0, 9)
  | 23 => (0, 9)
  | 24 => (0, 9)
  | 25 => (3, 0)
  | 26 => (0, 6)
  | 27 => (3, 0)
  | 28 => (0, 6)
  | 29 => (5, 0)
  | 30 => (0, 8)
  | 31 => (0, 8)
  | 32 => (0, 8)
  | 33 => (4, 0)
  | 34 => (0, 4)
  | 35 => (0, 4)
  | 36 => (0, 240)
  | 37 => (2, 0)
  | 38 => (0, 2)
  | _ => (0, 80), fun n => match n with
  | 0 => fun k => match k with
    | 0 => 2
    | 1 => 4
    | 2 => 6
    | 3 => 14
    | 4 => 26
    | 5 => 28
    | 6 => 30
    | 7 => 34
    | 8 => 38
    | 9 => 39
    | 11 => 40
    | _ => 0
  | 1 => fun k => match k with
    | 0 => 3
    | _ => 0
  | 3 => fun k => match k with
    | 0 => 5
    | _ => 0
  | 5 => fun k => match k with
    | 2 => 7
    | 3 => 8
    | 4 => 9
    | 7 => 10
    | 8 => 11
    | 9 => 12
    | 10 => 13
    | _ => 0
  | 13 => fun k => match k with
    | 0 => 6
    | 3 => 15
    | 4 => 16
    | 5 => 17
    | 6 => 18
    | 7 => 19
    | 8 => 20
    | 9 => 21
    | 10 => 22
    | 11 => 23
    | 12 => 24
    | 13 => 25
    | _ => 0
  | 25 => fun k => match k with
    | 0 => 27
    | _ => 0
  | 27 => fun k => match k with
    | 0 => 29
    | _ => 0
  | 29 => fun k => match k with
    | 0 => 31
    | 1 => 32
    | 2 => 33
    | _ => 0
  | 33 => fun k => match k with
    | 0 => 35
    | 1 => 36
    | 2 => 37
    | _ => 0
  | _ => fun _ => 0)
theorem nC_0 : 0 < GC.1 := by decide
theorem gC_0 : GC.2.1 0 = (9, 0) := rfl
theorem nC_1 : 1 < GC.1 := by decide
theorem gC_1 : GC.2.1 1 = (6, 0) := rfl
theorem nC_2 : 2 < GC.1 := by decide
theorem gC_2 : GC.2.1 2 = (0, 35) := rfl
theorem nC_3 : 3 < GC.1 := by decide
theorem gC_3 : GC.2.1 3 = (6, 0) := rfl
theorem nC_4 : 4 < GC.1 := by decide
theorem gC_4 : GC.2.1 4 = (0, 63) := rfl
theorem nC_5 : 5 < GC.1 := by decide
theorem gC_5 : GC.2.1 5 = (7, 0) := rfl
theorem nC_6 : 6 < GC.1 := by decide
theorem gC_6 : GC.2.1 6 = (0, 9) := rfl
theorem nC_7 : 7 < GC.1 := by decide
theorem gC_7 : GC.2.1 7 = (0, 9) := rfl
theorem nC_8 : 8 < GC.1 := by decide
theorem gC_8 : GC.2.1 8 = (0, 9) := rfl
theorem nC_9 : 9 < GC.1 := by decide
theorem gC_9 : GC.2.1 9 = (0, 8) := rfl
theorem nC_10 : 10 < GC.1 := by decide
theorem gC_10 : GC.2.1 10 = (0, 8) := rfl
theorem nC_11 : 11 < GC.1 := by decide
theorem gC_11 : GC.2.1 11 = (0, 8) := rfl
theorem nC_12 : 12 < GC.1 := by decide
theorem gC_12 : GC.2.1 12 = (0, 24) := rfl
theorem nC_13 : 13 < GC.1 := by decide
theorem gC_13 : GC.2.1 13 = (8, 0) := rfl
theorem nC_14 : 14 < GC.1 := by decide
theorem gC_14 : GC.2.1 14 = (0, 8) := rfl
theorem nC_15 : 15 < GC.1 := by decide
theorem gC_15 : GC.2.1 15 = (0, 8) := rfl
theorem nC_16 : 16 < GC.1 := by decide
theorem gC_16 : GC.2.1 16 = (0, 8) := rfl
theorem nC_17 : 17 < GC.1 := by decide
theorem gC_17 : GC.2.1 17 = (0, 8) := rfl
theorem nC_18 : 18 < GC.1 := by decide
theorem gC_18 : GC.2.1 18 = (0, 8) := rfl
theorem nC_19 : 19 < GC.1 := by decide
theorem gC_19 : GC.2.1 19 = (0, 168) := rfl
theorem nC_20 : 20 < GC.1 := by decide
theorem gC_20 : GC.2.1 20 = (0, 8) := rfl
theorem nC_21 : 21 < GC.1 := by decide
theorem gC_21 : GC.2.1 21 = (0, 8) := rfl
theorem nC_22 : 22 < GC.1 := by decide
theorem gC_22 : GC.2.1 22 = (0, 9) := rfl
theorem nC_23 : 23 < GC.1 := by decide
theorem gC_23 : GC.2.1 23 = (0, 9) := rfl
theorem nC_24 : 24 < GC.1 := by decide
theorem gC_24 : GC.2.1 24 = (0, 9) := rfl
theorem nC_25 : 25 < GC.1 := by decide
theorem gC_25 : GC.2.1 25 = (3, 0) := rfl
theorem nC_26 : 26 < GC.1 := by decide
theorem gC_26 : GC.2.1 26 = (0, 6) := rfl
theorem nC_27 : 27 < GC.1 := by decide
theorem gC_27 : GC.2.1 27 = (3, 0) := rfl
theorem nC_28 : 28 < GC.1 := by decide
theorem gC_28 : GC.2.1 28 = (0, 6) := rfl
theorem nC_29 : 29 < GC.1 := by decide
theorem gC_29 : GC.2.1 29 = (5, 0) := rfl
theorem nC_30 : 30 < GC.1 := by decide
theorem gC_30 : GC.2.1 30 = (0, 8) := rfl
theorem nC_31 : 31 < GC.1 := by decide
theorem gC_31 : GC.2.1 31 = (0, 8) := rfl
theorem nC_32 : 32 < GC.1 := by decide
theorem gC_32 : GC.2.1 32 = (0, 8) := rfl
theorem nC_33 : 33 < GC.1 := by decide
theorem gC_33 : GC.2.1 33 = (4, 0) := rfl
theorem nC_34 : 34 < GC.1 := by decide
theorem gC_34 : GC.2.1 34 = (0, 4) := rfl
theorem nC_35 : 35 < GC.1 := by decide
theorem gC_35 : GC.2.1 35 = (0, 4) := rfl
theorem nC_36 : 36 < GC.1 := by decide
theorem gC_36 : GC.2.1 36 = (0, 240) := rfl
theorem nC_37 : 37 < GC.1 := by decide
theorem gC_37 : GC.2.1 37 = (2, 0) := rfl
theorem nC_38 : 38 < GC.1 := by decide
theorem gC_38 : GC.2.1 38 = (0, 2) := rfl
theorem nC_39 : 39 < GC.1 := by decide
theorem gC_39 : GC.2.1 39 = (0, 80) := rfl
theorem eC_0_0 (ad : Nat → Nat) (σ : vMem) : vFld ad GC σ 0 0 (vTy 7 0) = .ref (ad 1) := rfl
theorem eC_0_1 (ad : Nat → Nat) (σ : vMem) : vFld ad GC σ 0 1 (vTy 7 1) = .ref (ad 3) := rfl
theorem eC_0_2 (ad : Nat → Nat) (σ : vMem) : vFld ad GC σ 0 2 (vTy 7 2) = .ref (ad 5) := rfl
theorem eC_0_3 (ad : Nat → Nat) (σ : vMem) : vFld ad GC σ 0 3 (vTy 7 3) = .ref (ad 13) := rfl
theorem eC_0_4 (ad : Nat → Nat) (σ : vMem) : vFld ad GC σ 0 4 (vTy 7 4) = .ref (ad 25) := rfl
theorem eC_0_5 (ad : Nat → Nat) (σ : vMem) : vFld ad GC σ 0 5 (vTy 7 5) = .ref (ad 27) := rfl
theorem eC_0_6 (ad : Nat → Nat) (σ : vMem) : vFld ad GC σ 0 6 (vTy 7 6) = .ref (ad 29) := rfl
theorem eC_0_7 (ad : Nat → Nat) (σ : vMem) : vFld ad GC σ 0 7 (vTy 7 7) = .ref (ad 33) := rfl
theorem eC_0_8 (ad : Nat → Nat) (σ : vMem) : vFld ad GC σ 0 8 (vTy 7 8) = .ref (ad 37) := rfl
theorem eC_0_9 (ad : Nat → Nat) (σ : vMem) : vFld ad GC σ 0 9 (vTy 7 9) = .ref (ad 38) := rfl
theorem eC_0_10 (ad : Nat → Nat) (σ : vMem) : vFld ad GC σ 0 10 (vTy 7 10) = .int (σ.1 0 10) := rfl
theorem eC_0_11 (ad : Nat → Nat) (σ : vMem) : vFld ad GC σ 0 11 (vTy 7 11) = .ref (ad 39) := rfl
theorem eC_0_12 (ad : Nat → Nat) (σ : vMem) : vFld ad GC σ 0 12 (vTy 7 12) = .long (σ.2 0 12) := rfl
theorem eC_0_13 (ad : Nat → Nat) (σ : vMem) : vFld ad GC σ 0 13 (vTy 7 13) = .long (σ.2 0 13) := rfl
theorem eC_0_14 (ad : Nat → Nat) (σ : vMem) : vFld ad GC σ 0 14 (vTy 7 14) = .int (σ.1 0 14) := rfl
theorem eC_1_0 (ad : Nat → Nat) (σ : vMem) : vFld ad GC σ 1 0 (vTy 4 0) = .ref (ad 2) := rfl
theorem eC_1_1 (ad : Nat → Nat) (σ : vMem) : vFld ad GC σ 1 1 (vTy 4 1) = .int (σ.1 1 1) := rfl
theorem eC_3_0 (ad : Nat → Nat) (σ : vMem) : vFld ad GC σ 3 0 (vTy 4 0) = .ref (ad 4) := rfl
theorem eC_3_1 (ad : Nat → Nat) (σ : vMem) : vFld ad GC σ 3 1 (vTy 4 1) = .int (σ.1 3 1) := rfl
theorem eC_5_0 (ad : Nat → Nat) (σ : vMem) : vFld ad GC σ 5 0 (vTy 5 0) = .int (σ.1 5 0) := rfl
theorem eC_5_1 (ad : Nat → Nat) (σ : vMem) : vFld ad GC σ 5 1 (vTy 5 1) = .int (σ.1 5 1) := rfl
theorem eC_5_2 (ad : Nat → Nat) (σ : vMem) : vFld ad GC σ 5 2 (vTy 5 2) = .ref (ad 6) := rfl
theorem eC_5_3 (ad : Nat → Nat) (σ : vMem) : vFld ad GC σ 5 3 (vTy 5 3) = .ref (ad 7) := rfl
theorem eC_5_4 (ad : Nat → Nat) (σ : vMem) : vFld ad GC σ 5 4 (vTy 5 4) = .ref (ad 8) := rfl
theorem eC_5_5 (ad : Nat → Nat) (σ : vMem) : vFld ad GC σ 5 5 (vTy 5 5) = .int (σ.1 5 5) := rfl
theorem eC_5_6 (ad : Nat → Nat) (σ : vMem) : vFld ad GC σ 5 6 (vTy 5 6) = .int (σ.1 5 6) := rfl
theorem eC_5_7 (ad : Nat → Nat) (σ : vMem) : vFld ad GC σ 5 7 (vTy 5 7) = .ref (ad 9) := rfl
theorem eC_5_8 (ad : Nat → Nat) (σ : vMem) : vFld ad GC σ 5 8 (vTy 5 8) = .ref (ad 10) := rfl
theorem eC_5_9 (ad : Nat → Nat) (σ : vMem) : vFld ad GC σ 5 9 (vTy 5 9) = .ref (ad 11) := rfl
theorem eC_5_10 (ad : Nat → Nat) (σ : vMem) : vFld ad GC σ 5 10 (vTy 5 10) = .ref (ad 12) := rfl
theorem eC_5_11 (ad : Nat → Nat) (σ : vMem) : vFld ad GC σ 5 11 (vTy 5 11) = .int (σ.1 5 11) := rfl
theorem eC_5_12 (ad : Nat → Nat) (σ : vMem) : vFld ad GC σ 5 12 (vTy 5 12) = .int (σ.1 5 12) := rfl
theorem eC_13_0 (ad : Nat → Nat) (σ : vMem) : vFld ad GC σ 13 0 (vTy 6 0) = .ref (ad 5) := rfl
theorem eC_13_1 (ad : Nat → Nat) (σ : vMem) : vFld ad GC σ 13 1 (vTy 6 1) = .int (σ.1 13 1) := rfl
theorem eC_13_2 (ad : Nat → Nat) (σ : vMem) : vFld ad GC σ 13 2 (vTy 6 2) = .int (σ.1 13 2) := rfl
theorem eC_13_3 (ad : Nat → Nat) (σ : vMem) : vFld ad GC σ 13 3 (vTy 6 3) = .ref (ad 14) := rfl
theorem eC_13_4 (ad : Nat → Nat) (σ : vMem) : vFld ad GC σ 13 4 (vTy 6 4) = .ref (ad 15) := rfl
theorem eC_13_5 (ad : Nat → Nat) (σ : vMem) : vFld ad GC σ 13 5 (vTy 6 5) = .ref (ad 16) := rfl
theorem eC_13_6 (ad : Nat → Nat) (σ : vMem) : vFld ad GC σ 13 6 (vTy 6 6) = .ref (ad 17) := rfl
theorem eC_13_7 (ad : Nat → Nat) (σ : vMem) : vFld ad GC σ 13 7 (vTy 6 7) = .ref (ad 18) := rfl
theorem eC_13_8 (ad : Nat → Nat) (σ : vMem) : vFld ad GC σ 13 8 (vTy 6 8) = .ref (ad 19) := rfl
theorem eC_13_9 (ad : Nat → Nat) (σ : vMem) : vFld ad GC σ 13 9 (vTy 6 9) = .ref (ad 20) := rfl
theorem eC_13_10 (ad : Nat → Nat) (σ : vMem) : vFld ad GC σ 13 10 (vTy 6 10) = .ref (ad 21) := rfl
theorem eC_13_11 (ad : Nat → Nat) (σ : vMem) : vFld ad GC σ 13 11 (vTy 6 11) = .ref (ad 22) := rfl
theorem eC_13_12 (ad : Nat → Nat) (σ : vMem) : vFld ad GC σ 13 12 (vTy 6 12) = .ref (ad 23) := rfl
theorem eC_13_13 (ad : Nat → Nat) (σ : vMem) : vFld ad GC σ 13 13 (vTy 6 13) = .ref (ad 24) := rfl
theorem eC_13_14 (ad : Nat → Nat) (σ : vMem) : vFld ad GC σ 13 14 (vTy 6 14) = .int (σ.1 13 14) := rfl
theorem eC_13_15 (ad : Nat → Nat) (σ : vMem) : vFld ad GC σ 13 15 (vTy 6 15) = .int (σ.1 13 15) := rfl
theorem eC_13_16 (ad : Nat → Nat) (σ : vMem) : vFld ad GC σ 13 16 (vTy 6 16) = .int (σ.1 13 16) := rfl
theorem eC_13_17 (ad : Nat → Nat) (σ : vMem) : vFld ad GC σ 13 17 (vTy 6 17) = .int (σ.1 13 17) := rfl
theorem eC_25_0 (ad : Nat → Nat) (σ : vMem) : vFld ad GC σ 25 0 (vTy 1 0) = .ref (ad 26) := rfl
theorem eC_25_1 (ad : Nat → Nat) (σ : vMem) : vFld ad GC σ 25 1 (vTy 1 1) = .int (σ.1 25 1) := rfl
theorem eC_27_0 (ad : Nat → Nat) (σ : vMem) : vFld ad GC σ 27 0 (vTy 1 0) = .ref (ad 28) := rfl
theorem eC_27_1 (ad : Nat → Nat) (σ : vMem) : vFld ad GC σ 27 1 (vTy 1 1) = .int (σ.1 27 1) := rfl
theorem eC_29_0 (ad : Nat → Nat) (σ : vMem) : vFld ad GC σ 29 0 (vTy 3 0) = .ref (ad 30) := rfl
theorem eC_29_1 (ad : Nat → Nat) (σ : vMem) : vFld ad GC σ 29 1 (vTy 3 1) = .ref (ad 31) := rfl
theorem eC_29_2 (ad : Nat → Nat) (σ : vMem) : vFld ad GC σ 29 2 (vTy 3 2) = .ref (ad 32) := rfl
theorem eC_29_3 (ad : Nat → Nat) (σ : vMem) : vFld ad GC σ 29 3 (vTy 3 3) = .int (σ.1 29 3) := rfl
theorem eC_33_0 (ad : Nat → Nat) (σ : vMem) : vFld ad GC σ 33 0 (vTy 2 0) = .ref (ad 34) := rfl
theorem eC_33_1 (ad : Nat → Nat) (σ : vMem) : vFld ad GC σ 33 1 (vTy 2 1) = .ref (ad 35) := rfl
theorem eC_33_2 (ad : Nat → Nat) (σ : vMem) : vFld ad GC σ 33 2 (vTy 2 2) = .ref (ad 36) := rfl
theorem eC_37_0 (ad : Nat → Nat) (σ : vMem) : vFld ad GC σ 37 0 (vTy 0 0) = .int (σ.1 37 0) := rfl
theorem eC_37_1 (ad : Nat → Nat) (σ : vMem) : vFld ad GC σ 37 1 (vTy 0 1) = .int (σ.1 37 1) := rfl
def GM : vCfg := (36, fun n => match n with
  | 0 => (10, 0)
  | 1 => (0, 2)
  | 2 => (0, 126)
  | 3 => (0, 10)
  | 4 => (0, 10)
  | 5 => (0, 10)
  | 6 => (0, 9)
  | 7 => (0, 9)
  | 8 => (0, 9)
  | 9 => (0, 27)
  | 10 => (0, 6)
  | 11 => (0, 6)
  | 12 => (0, 8)
  | 13 => (0, 8)
  | 14 => (0, 8)
  | 15 => (0, 192)
  | 16 => (1, 8)
  | 17 => (0, 8)
  | 18 => (0, 8)
  | 19 => (0, 9)
  | 20 => (0, 9)
  | 21 => (0, 9)
  | 22 => (0, 320)
  | 23 => (0, 320)
  | 24 => (0, 320)
  | 25 => (1, 320)
  | 26 => (0, 2)
  | 27 => (0, 8)
  | 28 => (0, 8)
  | 29 => (0, 8)
  | 30 => (0, 80)
  | 31 => (1, 4)
  | 32 => (0, 4)
  | 33 => (0, 4)
  | 34 => (0, 240)
  | _ => (0, 60), fun n => match n with
  | 0 => fun k => match k with
    | 0 => 2
    | 1 => 3
    | 3 => 4
    | 4 => 5
    | 5 => 6
    | 7 => 7
    | 8 => 8
    | 9 => 9
    | 10 => 10
    | 14 => 11
    | 16 => 12
    | 20 => 13
    | 21 => 14
    | 22 => 15
    | 23 => 16
    | 24 => 17
    | 25 => 18
    | 26 => 19
    | 27 => 20
    | 28 => 21
    | 29 => 22
    | 32 => 23
    | 33 => 24
    | 34 => 25
    | 35 => 26
    | 36 => 27
    | 38 => 28
    | 39 => 29
    | 40 => 30
    | 41 => 31
    | 42 => 32
    | 43 => 33
    | 44 => 34
    | 45 => 35
    | 46 => 36
    | _ => 0
  | _ => fun _ => 0)
theorem nM_0 : 0 < GM.1 := by decide
theorem gM_0 : GM.2.1 0 = (10, 0) := rfl
theorem nM_1 : 1 < GM.1 := by decide
theorem gM_1 : GM.2.1 1 = (0, 2) := rfl
theorem nM_2 : 2 < GM.1 := by decide
theorem gM_2 : GM.2.1 2 = (0, 126) := rfl
theorem nM_3 : 3 < GM.1 := by decide
theorem gM_3 : GM.2.1 3 = (0, 10) := rfl
theorem nM_4 : 4 < GM.1 := by decide
theorem gM_4 : GM.2.1 4 = (0, 10) := rfl
theorem nM_5 : 5 < GM.1 := by decide
theorem gM_5 : GM.2.1 5 = (0, 10) := rfl
theorem nM_6 : 6 < GM.1 := by decide
theorem gM_6 : GM.2.1 6 = (0, 9) := rfl
theorem nM_7 : 7 < GM.1 := by decide
theorem gM_7 : GM.2.1 7 = (0, 9) := rfl
theorem nM_8 : 8 < GM.1 := by decide
theorem gM_8 : GM.2.1 8 = (0, 9) := rfl
theorem nM_9 : 9 < GM.1 := by decide
theorem gM_9 : GM.2.1 9 = (0, 27) := rfl
theorem nM_10 : 10 < GM.1 := by decide
theorem gM_10 : GM.2.1 10 = (0, 6) := rfl
theorem nM_11 : 11 < GM.1 := by decide
theorem gM_11 : GM.2.1 11 = (0, 6) := rfl
theorem nM_12 : 12 < GM.1 := by decide
theorem gM_12 : GM.2.1 12 = (0, 8) := rfl
theorem nM_13 : 13 < GM.1 := by decide
theorem gM_13 : GM.2.1 13 = (0, 8) := rfl
theorem nM_14 : 14 < GM.1 := by decide
theorem gM_14 : GM.2.1 14 = (0, 8) := rfl
theorem nM_15 : 15 < GM.1 := by decide
theorem gM_15 : GM.2.1 15 = (0, 192) := rfl
theorem nM_16 : 16 < GM.1 := by decide
theorem gM_16 : GM.2.1 16 = (1, 8) := rfl
theorem nM_17 : 17 < GM.1 := by decide
theorem gM_17 : GM.2.1 17 = (0, 8) := rfl
theorem nM_18 : 18 < GM.1 := by decide
theorem gM_18 : GM.2.1 18 = (0, 8) := rfl
theorem nM_19 : 19 < GM.1 := by decide
theorem gM_19 : GM.2.1 19 = (0, 9) := rfl
theorem nM_20 : 20 < GM.1 := by decide
theorem gM_20 : GM.2.1 20 = (0, 9) := rfl
theorem nM_21 : 21 < GM.1 := by decide
theorem gM_21 : GM.2.1 21 = (0, 9) := rfl
theorem nM_22 : 22 < GM.1 := by decide
theorem gM_22 : GM.2.1 22 = (0, 320) := rfl
theorem nM_23 : 23 < GM.1 := by decide
theorem gM_23 : GM.2.1 23 = (0, 320) := rfl
theorem nM_24 : 24 < GM.1 := by decide
theorem gM_24 : GM.2.1 24 = (0, 320) := rfl
theorem nM_25 : 25 < GM.1 := by decide
theorem gM_25 : GM.2.1 25 = (1, 320) := rfl
theorem nM_26 : 26 < GM.1 := by decide
theorem gM_26 : GM.2.1 26 = (0, 2) := rfl
theorem nM_27 : 27 < GM.1 := by decide
theorem gM_27 : GM.2.1 27 = (0, 8) := rfl
theorem nM_28 : 28 < GM.1 := by decide
theorem gM_28 : GM.2.1 28 = (0, 8) := rfl
theorem nM_29 : 29 < GM.1 := by decide
theorem gM_29 : GM.2.1 29 = (0, 8) := rfl
theorem nM_30 : 30 < GM.1 := by decide
theorem gM_30 : GM.2.1 30 = (0, 80) := rfl
theorem nM_31 : 31 < GM.1 := by decide
theorem gM_31 : GM.2.1 31 = (1, 4) := rfl
theorem nM_32 : 32 < GM.1 := by decide
theorem gM_32 : GM.2.1 32 = (0, 4) := rfl
theorem nM_33 : 33 < GM.1 := by decide
theorem gM_33 : GM.2.1 33 = (0, 4) := rfl
theorem nM_34 : 34 < GM.1 := by decide
theorem gM_34 : GM.2.1 34 = (0, 240) := rfl
theorem nM_35 : 35 < GM.1 := by decide
theorem gM_35 : GM.2.1 35 = (0, 60) := rfl
theorem eM_0_0 (ad : Nat → Nat) (σ : vMem) : vFld ad GM σ 0 0 (vTy 8 0) = .ref (ad 1) := rfl
theorem eM_0_1 (ad : Nat → Nat) (σ : vMem) : vFld ad GM σ 0 1 (vTy 8 1) = .ref (ad 2) := rfl
theorem eM_0_2 (ad : Nat → Nat) (σ : vMem) : vFld ad GM σ 0 2 (vTy 8 2) = .int (σ.1 0 2) := rfl
theorem eM_0_3 (ad : Nat → Nat) (σ : vMem) : vFld ad GM σ 0 3 (vTy 8 3) = .ref (ad 3) := rfl
theorem eM_0_4 (ad : Nat → Nat) (σ : vMem) : vFld ad GM σ 0 4 (vTy 8 4) = .ref (ad 4) := rfl
theorem eM_0_5 (ad : Nat → Nat) (σ : vMem) : vFld ad GM σ 0 5 (vTy 8 5) = .ref (ad 5) := rfl
theorem eM_0_6 (ad : Nat → Nat) (σ : vMem) : vFld ad GM σ 0 6 (vTy 8 6) = .int (σ.1 0 6) := rfl
theorem eM_0_7 (ad : Nat → Nat) (σ : vMem) : vFld ad GM σ 0 7 (vTy 8 7) = .ref (ad 6) := rfl
theorem eM_0_8 (ad : Nat → Nat) (σ : vMem) : vFld ad GM σ 0 8 (vTy 8 8) = .ref (ad 7) := rfl
theorem eM_0_9 (ad : Nat → Nat) (σ : vMem) : vFld ad GM σ 0 9 (vTy 8 9) = .ref (ad 8) := rfl
theorem eM_0_10 (ad : Nat → Nat) (σ : vMem) : vFld ad GM σ 0 10 (vTy 8 10) = .ref (ad 9) := rfl
theorem eM_0_11 (ad : Nat → Nat) (σ : vMem) : vFld ad GM σ 0 11 (vTy 8 11) = .int (σ.1 0 11) := rfl
theorem eM_0_12 (ad : Nat → Nat) (σ : vMem) : vFld ad GM σ 0 12 (vTy 8 12) = .int (σ.1 0 12) := rfl
theorem eM_0_13 (ad : Nat → Nat) (σ : vMem) : vFld ad GM σ 0 13 (vTy 8 13) = .int (σ.1 0 13) := rfl
theorem eM_0_14 (ad : Nat → Nat) (σ : vMem) : vFld ad GM σ 0 14 (vTy 8 14) = .ref (ad 10) := rfl
theorem eM_0_15 (ad : Nat → Nat) (σ : vMem) : vFld ad GM σ 0 15 (vTy 8 15) = .int (σ.1 0 15) := rfl
theorem eM_0_16 (ad : Nat → Nat) (σ : vMem) : vFld ad GM σ 0 16 (vTy 8 16) = .ref (ad 11) := rfl
theorem eM_0_17 (ad : Nat → Nat) (σ : vMem) : vFld ad GM σ 0 17 (vTy 8 17) = .long (σ.2 0 17) := rfl
theorem eM_0_18 (ad : Nat → Nat) (σ : vMem) : vFld ad GM σ 0 18 (vTy 8 18) = .long (σ.2 0 18) := rfl
theorem eM_0_19 (ad : Nat → Nat) (σ : vMem) : vFld ad GM σ 0 19 (vTy 8 19) = .int (σ.1 0 19) := rfl
theorem eM_0_20 (ad : Nat → Nat) (σ : vMem) : vFld ad GM σ 0 20 (vTy 8 20) = .ref (ad 12) := rfl
theorem eM_0_21 (ad : Nat → Nat) (σ : vMem) : vFld ad GM σ 0 21 (vTy 8 21) = .ref (ad 13) := rfl
theorem eM_0_22 (ad : Nat → Nat) (σ : vMem) : vFld ad GM σ 0 22 (vTy 8 22) = .ref (ad 14) := rfl
theorem eM_0_23 (ad : Nat → Nat) (σ : vMem) : vFld ad GM σ 0 23 (vTy 8 23) = .ref (ad 15) := rfl
theorem eM_0_24 (ad : Nat → Nat) (σ : vMem) : vFld ad GM σ 0 24 (vTy 8 24) = .ref (ad 16) := rfl
theorem eM_0_25 (ad : Nat → Nat) (σ : vMem) : vFld ad GM σ 0 25 (vTy 8 25) = .ref (ad 17) := rfl
theorem eM_0_26 (ad : Nat → Nat) (σ : vMem) : vFld ad GM σ 0 26 (vTy 8 26) = .ref (ad 18) := rfl
theorem eM_0_27 (ad : Nat → Nat) (σ : vMem) : vFld ad GM σ 0 27 (vTy 8 27) = .ref (ad 19) := rfl
theorem eM_0_28 (ad : Nat → Nat) (σ : vMem) : vFld ad GM σ 0 28 (vTy 8 28) = .ref (ad 20) := rfl
theorem eM_0_29 (ad : Nat → Nat) (σ : vMem) : vFld ad GM σ 0 29 (vTy 8 29) = .ref (ad 21) := rfl
theorem eM_0_30 (ad : Nat → Nat) (σ : vMem) : vFld ad GM σ 0 30 (vTy 8 30) = .int (σ.1 0 30) := rfl
theorem eM_0_31 (ad : Nat → Nat) (σ : vMem) : vFld ad GM σ 0 31 (vTy 8 31) = .int (σ.1 0 31) := rfl
theorem eM_0_32 (ad : Nat → Nat) (σ : vMem) : vFld ad GM σ 0 32 (vTy 8 32) = .ref (ad 22) := rfl
theorem eM_0_33 (ad : Nat → Nat) (σ : vMem) : vFld ad GM σ 0 33 (vTy 8 33) = .ref (ad 23) := rfl
theorem eM_0_34 (ad : Nat → Nat) (σ : vMem) : vFld ad GM σ 0 34 (vTy 8 34) = .ref (ad 24) := rfl
theorem eM_0_35 (ad : Nat → Nat) (σ : vMem) : vFld ad GM σ 0 35 (vTy 8 35) = .ref (ad 25) := rfl
theorem eM_0_36 (ad : Nat → Nat) (σ : vMem) : vFld ad GM σ 0 36 (vTy 8 36) = .ref (ad 26) := rfl
theorem eM_0_37 (ad : Nat → Nat) (σ : vMem) : vFld ad GM σ 0 37 (vTy 8 37) = .int (σ.1 0 37) := rfl
theorem eM_0_38 (ad : Nat → Nat) (σ : vMem) : vFld ad GM σ 0 38 (vTy 8 38) = .ref (ad 27) := rfl
theorem eM_0_39 (ad : Nat → Nat) (σ : vMem) : vFld ad GM σ 0 39 (vTy 8 39) = .ref (ad 28) := rfl
theorem eM_0_40 (ad : Nat → Nat) (σ : vMem) : vFld ad GM σ 0 40 (vTy 8 40) = .ref (ad 29) := rfl
theorem eM_0_41 (ad : Nat → Nat) (σ : vMem) : vFld ad GM σ 0 41 (vTy 8 41) = .ref (ad 30) := rfl
theorem eM_0_42 (ad : Nat → Nat) (σ : vMem) : vFld ad GM σ 0 42 (vTy 8 42) = .ref (ad 31) := rfl
theorem eM_0_43 (ad : Nat → Nat) (σ : vMem) : vFld ad GM σ 0 43 (vTy 8 43) = .ref (ad 32) := rfl
theorem eM_0_44 (ad : Nat → Nat) (σ : vMem) : vFld ad GM σ 0 44 (vTy 8 44) = .ref (ad 33) := rfl
theorem eM_0_45 (ad : Nat → Nat) (σ : vMem) : vFld ad GM σ 0 45 (vTy 8 45) = .ref (ad 34) := rfl
theorem eM_0_46 (ad : Nat → Nat) (σ : vMem) : vFld ad GM σ 0 46 (vTy 8 46) = .ref (ad 35) := rfl
theorem eM_0_47 (ad : Nat → Nat) (σ : vMem) : vFld ad GM σ 0 47 (vTy 8 47) = .int (σ.1 0 47) := rfl
