/-! letters; what was seen; never -/
def LtP (P : vP) : Prop := (∀ f, f < pnf P → ∃ j, j < 8 ∧ pwo P f = nI j) ∧ ∀ b, b < pnb P → ∀ i, i < ple P b → ∃ j, j < 8 ∧ pte P b i = nI j
def TL (P : vP) (T : vT) : Prop := ∀ b, b < pnb P → ∀ i, i < tnl T b → ∃ j, j < 8 ∧ tnt T b i = nI j
theorem TL.of {P : vP} {T U : vT} (h : TL P T) (e1 : tnl U = tnl T) (e2 : tnt U = tnt T) : TL P U := by
  unfold TL at h ⊢
  rw [e1, e2]
  exact h
theorem TL.mi {P : vP} {T : vT} (hL : LtP P) {b f : Nat} (hf : f < pnf P) (h : TL P T) : TL P (sNt T b (upd (tnt T b) 0 (pwo P f))) := by
  intro c hc i hi
  have hi : i < tnl T c := hi
  show ∃ j, j < 8 ∧ va_up (tnt T) b (upd (tnt T b) 0 (pwo P f)) c i = nI j
  unfold va_up
  by_cases e : c = b
  · subst e
    rw [if_pos rfl]
    by_cases q : i = 0
    · subst q; rw [pk_us]; exact hL.1 f hf
    · rw [pk_un q]; exact h c hc i hi
  · rw [if_neg e]; exact h c hc i hi
theorem TL.wo {P : vP} {T : vT} (hL : LtP P) {b f : Nat} (hf : f < pnf P) (h : TL P T) : TL P (sNl (sNt T b (upd (tnt T b) (tnl T b) (pwo P f))) b (tnl T b + 1)) := by
  intro c hc i hi
  have hi : i < va_up (tnl T) b (tnl T b + 1) c := hi
  show ∃ j, j < 8 ∧ va_up (tnt T) b (upd (tnt T b) (tnl T b) (pwo P f)) c i = nI j
  unfold va_up at hi ⊢
  by_cases e : c = b
  · subst e
    rw [if_pos rfl] at hi ⊢
    by_cases q : i = tnl T c
    · subst q; rw [pk_us]; exact hL.1 f hf
    · rw [pk_un q]; exact h c hc i (by omega)
  · rw [if_neg e] at hi ⊢; exact h c hc i hi
theorem TL.lv {P : vP} {T : vT} {b : Nat} (h : TL P T) : TL P (sSt (sNt (sNl T b (tnl T b - 1)) b (fun i => tnt T b (i + 1))) b (tst T b + 1)) := by
  intro c hc i hi
  have hi : i < va_up (tnl T) b (tnl T b - 1) c := hi
  show ∃ j, j < 8 ∧ va_up (tnt T) b (fun i => tnt T b (i + 1)) c i = nI j
  unfold va_up at hi ⊢
  by_cases e : c = b
  · subst e
    rw [if_pos rfl] at hi ⊢
    exact h c hc (i + 1) (by omega)
  · rw [if_neg e] at hi ⊢; exact h c hc i hi
theorem tBite_TL {P : vP} {h b f : Nat} {T : vT} (hL : LtP P) (hf : f < pnf P) (hT : TL P T) : TL P (tBite P h b f T) := by
  unfold tBite
  simp only
  split
  · split
    · exact (TL.mi hL hf hT).of rfl rfl
    · exact (TL.mi hL hf hT).of rfl rfl
  · split
    · exact (TL.wo hL hf hT).of rfl rfl
    · exact (TL.wo hL hf hT).of rfl rfl
theorem tEat_TL {P : vP} {h b f : Nat} {T : vT} (hL : LtP P) (hf : f < pnf P) (hT : TL P T) : TL P (tEat P h b f T) := by
  unfold tEat
  by_cases q : pso P f = 3 ∧ pwi P h = true
  · simp only [q, and_self, ↓reduceIte]
    have k := hT.of (U := sLd T b (tld T b / 2)) rfl rfl
    split
    · exact tBite_TL hL hf k
    · exact k
  · simp only [if_neg q]
    split
    · exact tBite_TL hL hf hT
    · exact hT
theorem tServe_TL {P : vP} (hL : LtP P) {h : Nat} {T : vT} (hT : TL P T) : ∀ n, TL P (tServe P h n T)
  | 0 => hT
  | n + 1 => by
    have k := tServe_TL hL (h := h) hT n
    rw [tServe, tServe1]
    split
    · rename_i q
      have q1 := q.1
      unfold tThere at q1
      have hf : tpl (tServe P h n T) n < pnf P := by
        have := (Bool.and_eq_true _ _).mp q1
        exact of_decide_eq_true this.2
      exact tEat_TL hL hf k
    · exact k
theorem tClimb_TL {P : vP} {h : Nat} {tg : Nat → Bool} {T : vT} (hT : TL P T) : ∀ n, TL P (tClimb P h tg n T)
  | 0 => hT
  | n + 1 => by
    have k := tClimb_TL (h := h) (tg := tg) hT n
    rw [tClimb, tClimb1]
    split
    · split
      · exact k.of rfl rfl
      · unfold tLeave
        simp only
        split
        · split
          · exact (TL.lv (b := n) k).of rfl rfl
          · exact k.of rfl rfl
        · split
          · exact (TL.lv (b := n) k).of rfl rfl
          · exact k.of rfl rfl
    · exact k
theorem tRun_TL {P : vP} (hL : LtP P) : ∀ h, TL P (tRun P h)
  | 0 => fun b hb i hi => hL.2 b hb i hi
  | h + 1 => by
    have k := tRun_TL hL h
    obtain ⟨-, -, -, a1, a2, -⟩ := tArr_fix P h (tRun P h) (pnb P)
    have k1 := k.of a1 a2
    have k2 := tServe_TL hL (h := h) k1 (pnb P)
    rw [tRun, tHour]
    exact tClimb_TL k2 (pnb P)
theorem isL_val {x : Int32} (hx : isL x = true) : ∃ a, a < 8 ∧ x - 97 = nI a := by
  unfold isL at hx
  have hx : ¬ x < 97 ∧ ¬ 104 < x := by simpa using hx
  have h0 : ¬ x < 0 := fun q => hx.1 (Int32.lt_trans q (by decide))
  obtain ⟨j, hj, rfl⟩ := nI_of h0
  have a1 : ¬ j < 97 := fun q => hx.1 ((nI_ltI (b := 97) hj (by decide)).mpr q)
  have a2 : ¬ 104 < j := fun q => hx.2 ((nI_ltI (a := 104) (by decide) hj).mpr q)
  exact ⟨j - 97, by omega, pk_sub (b := 97) (by omega)⟩
theorem LtP_PA {A : vA} (hA : WA A) (w s : Nat → Bool) : LtP (PA A w s) := by
  refine ⟨fun f hf => ?_, fun b hb i hi => ?_⟩
  · obtain ⟨q1, q2, q3, q4, q5, -⟩ := floor_ok hA hf
    have := q5 (4 * f + 2) q2
    unfold okF at this
    rw [if_neg (by omega), if_neg (by omega), if_pos (by omega)] at this
    exact isL_val this
  · obtain ⟨-, -, -, q4, -, -⟩ := bask_ok hA hb
    obtain ⟨-, -, -, -, -, g5, g6, -⟩ := cd5 q4
    have hi : i < sz (t1 A) (n1 A) (sA A b) := hi
    show ∃ j, j < 8 ∧ t1 A (sA A b + 4 + i) - 97 = nI j
    have key : isL (bt (t1 A) (n1 A) (sA A b + 4 + i)) = true := by
      unfold sz at hi
      by_cases c5 : isL (bt (t1 A) (n1 A) (sA A b + 5)) = true
      · rw [if_pos c5] at hi
        by_cases c6 : isL (bt (t1 A) (n1 A) (sA A b + 6)) = true
        · rw [if_pos c6] at hi
          rcases (show i = 0 ∨ i = 1 ∨ i = 2 by omega) with rfl | rfl | rfl
          · exact g5
          · exact c5
          · exact c6
        · rw [if_neg c6] at hi
          rcases (show i = 0 ∨ i = 1 by omega) with rfl | rfl
          · exact g5
          · exact c5
      · rw [if_neg c5] at hi
        have : i = 0 := by omega
        subst this
        exact g5
    rw [bt_in (bt_lt key)] at key
    exact isL_val key
def okS (A : vA) (P : vP) (T : vT) (k : Nat) : Bool := decide ((aet A k).1 < pnb P) && decide ((if (aet A k).2.1 < tnl T (aet A k).1 then tnt T (aet A k).1 (aet A k).2.1 else 8) = nI (aet A k).2.2)
def allB (p : Nat → Bool) : Nat → Bool
  | 0 => true
  | n + 1 => allB p n && p n
theorem allB_F {p : Nat → Bool} {i : Nat} (hp : allB p i = false) : ∀ d, allB p (i + d) = false
  | 0 => hp
  | d + 1 => by rw [← Nat.add_assoc, allB, allB_F hp d]; rfl
/-- all that was seen fits -/
def seenB (A : vA) (P : vP) (T : vT) : Bool := allB (okS A P T) (aen A)
theorem let_eq {T : vT} {b i s : Nat} (hs : s ≤ 8) (hl : i < tnl T b → ∃ j, j < 8 ∧ tnt T b i = nI j) : (rNote T b i = if s = 8 then -1 else nI s) = ((if i < tnl T b then tnt T b i else 8) = nI s) := by
  unfold rNote
  by_cases q : i < tnl T b
  · obtain ⟨j, hj, e⟩ := hl q
    rw [if_pos q, if_pos q, e]
    by_cases z : s = 8
    · subst z
      rw [if_pos rfl]
      have a1 : ¬ nI j = -1 := nI_m1 (by omega)
      have a2 : ¬ nI j = nI 8 := fun w => by have := (nI_eq (by omega) (by omega)).mp w; omega
      simp only [a1, a2]
    · rw [if_neg z]
  · rw [if_neg q, if_neg q]
    by_cases z : s = 8
    · subst z
      rw [if_pos rfl]
      exact propext ⟨fun _ => rfl, fun _ => rfl⟩
    · rw [if_neg z]
      have a1 : ¬ (-1 : Int32) = nI s := fun w => nI_m1 (by omega) w.symm
      have a2 : ¬ (8 : Int32) = nI s := fun w => z ((nI_eq (a := 8) (by omega) (by omega)).mp w).symm
      simp only [a1, a2]
theorem c_agree {A : vA} (hA : WA A) {σ0 : vMem} {P : vP} {w y : Bool} {sn : Nat → Bool} {T : vT} {σ : vMem} (hP : WP P) (h : CS σ0 P w y sn T σ) (h21 : ∀ k, k < pnb P → tst T k + tnl T k ≤ 21) (hL : TL P T) (hE : σ.1 29 3 = nI (aen A) ∧ ∀ k, k < aen A → σ.1 30 k = nI (aet A k).1 ∧ σ.1 31 k = nI (aet A k).2.1 ∧ σ.1 32 k = (if (aet A k).2.2 = 8 then -1 else nI (aet A k).2.2)) : fX3_agree σ = some (b2 (seenB A P T), σ) := by
  obtain ⟨hE1, hE2⟩ := hE
  obtain ⟨a8, hB⟩ := hA.2.2.2.2.2.1
  have hnb := h.dc.1.2.1
  have h8 := hP.2.1
  have key : ∀ (k n i : Nat), i + k = aen A → k < n → allB (okS A P T) i = true → LfX3_agree_2 n (nI i) σ = some (b2 (seenB A P T), σ) := by
    intro k
    induction k with
    | zero =>
      intro n i hik hn ha
      obtain ⟨n, rfl⟩ : ∃ j, n = j + 1 := ⟨n - 1, by omega⟩
      have : i = aen A := by omega
      subst this
      show fX3_agree_2 _ _ _ = _
      unfold fX3_agree_2 seenB
      rw [hE1, if_pos (Int32.le_refl _), ha]
      rfl
    | succ k ih =>
      intro n i hik hn ha
      obtain ⟨n, rfl⟩ : ∃ j, n = j + 1 := ⟨n - 1, by omega⟩
      have hlt : (nI (aen A) ≤ nI i) = False := eq_false (fun z => by have := (nI_leI (by omega) (by omega)).mp z; omega)
      obtain ⟨e1, e2, e3⟩ := hE2 i (by omega)
      obtain ⟨b1, b2', b3⟩ := hB i (by omega)
      have fin : okS A P T i = false → b2 (seenB A P T) = 0 := fun q => by
        have : allB (okS A P T) (i + 1 + k) = false := allB_F (by rw [allB, q, Bool.and_false]) k
        rw [show i + 1 + k = aen A by omega] at this
        unfold seenB
        rw [this]
        rfl
      show fX3_agree_2 _ _ _ = _
      unfold fX3_agree_2 fX3_agree_51
      simp only [hE1, hlt, ↓reduceIte, nI_clamp (show i < 2 ^ 31 by omega), ixF (show i < 8 by omega) (by decide), e1, e2, e3, hnb]
      have hle := nI_leI (a := pnb P) (b := (aet A i).1) (by omega) (by omega)
      by_cases q : (aet A i).1 < pnb P
      · rw [if_neg (fun z => by have := hle.mp z; omega), c_letter hP h q (h21 _ q) (by omega)]
        simp only [Option.bind, e3]
        have le := let_eq (T := T) (b := (aet A i).1) (i := (aet A i).2.1) b3 (fun z => hL _ q _ z)
        rw [nI_1]
        by_cases z : rNote T (aet A i).1 (aet A i).2.1 = if (aet A i).2.2 = 8 then -1 else nI (aet A i).2.2
        · rw [if_pos z]
          refine ih n (i + 1) (by omega) (by omega) ?_
          rw [allB, ha]
          unfold okS
          rw [decide_eq_true q, decide_eq_true (le ▸ z)]
          rfl
        · rw [if_neg z, fin]
          unfold okS
          rw [decide_eq_true q, decide_eq_false (le ▸ z)]
          rfl
      · rw [if_pos (hle.mpr (by omega)), fin]
        unfold okS
        rw [decide_eq_false q]
        rfl
  exact key (aen A) 200 0 (by omega) (by omega) rfl
theorem m_isSeenL {A : vA} (hA : WA A) {σ : vMem} {P : vP} {T : vT} (hP : WP P) (h0 : σ.1 0 6 = nI (pnb P)) (h14 : ∀ k, k < pnb P → σ.1 14 k = nI (tnl T k)) (h15 : ∀ k, k < pnb P → ∀ i, i < tnl T k → σ.1 15 (24 * k + i) = tnt T k i) (h21 : ∀ k, k < pnb P → tst T k + tnl T k ≤ 21) (hE : σ.1 0 37 = nI (aen A) ∧ ∀ k, k < aen A → σ.1 27 k = nI (aet A k).1 ∧ σ.1 28 k = nI (aet A k).2.1 ∧ σ.1 29 k = nI (aet A k).2.2) : LfX8_isSeen_8 200 1 0 σ = some (b2 (seenB A P T), σ) := by
  obtain ⟨hE1, hE2⟩ := hE
  obtain ⟨a8, hB⟩ := hA.2.2.2.2.2.1
  have h8 := hP.2.1
  have key : ∀ (k n i : Nat), i + k = aen A → k < n → LfX8_isSeen_8 n (b2 (allB (okS A P T) i)) (nI i) σ = some (b2 (seenB A P T), σ) := by
    intro k
    induction k with
    | zero =>
      intro n i hik hn
      obtain ⟨n, rfl⟩ : ∃ j, n = j + 1 := ⟨n - 1, by omega⟩
      have : i = aen A := by omega
      subst this
      show fX8_isSeen_8 _ _ _ _ = _
      unfold fX8_isSeen_8 fX8_isSeen_92
      rw [hE1, if_pos (Int32.le_refl _)]
      simp only [b2_01, ↓reduceIte]
      rfl
    | succ k ih =>
      intro n i hik hn
      obtain ⟨n, rfl⟩ : ∃ j, n = j + 1 := ⟨n - 1, by omega⟩
      have hlt : (nI (aen A) ≤ nI i) = False := eq_false (fun z => by have := (nI_leI (by omega) (by omega)).mp z; omega)
      obtain ⟨e1, e2, e3⟩ := hE2 i (by omega)
      obtain ⟨b1, b2', b3⟩ := hB i (by omega)
      show fX8_isSeen_8 _ _ _ _ = _
      unfold fX8_isSeen_8 fX8_isSeen_92
      simp only [hE1, hlt, ↓reduceIte, b2_0]
      by_cases p : allB (okS A P T) i = false
      · rw [if_pos p, p]
        have : allB (okS A P T) (i + (k + 1)) = false := allB_F p (k + 1)
        rw [hik] at this
        unfold seenB
        rw [this]
        rfl
      · rw [if_neg p]
        have p : allB (okS A P T) i = true := by simpa using p
        have nx := ih n (i + 1) (by omega) (by omega)
        rw [allB, p, Bool.true_and] at nx
        unfold fX8_isSeen_71 fX8_isSeen_84 fX8_isSeen_85
        simp only [nI_clamp (show i < 2 ^ 31 by omega), ixF (show i < 8 by omega) (by decide), ↓reduceIte, e1, e2, e3, h0, nI_1]
        have hle := nI_leI (a := pnb P) (b := (aet A i).1) (by omega) (by omega)
        by_cases q : (aet A i).1 < pnb P
        · rw [if_neg (fun z => by have := hle.mp z; omega)]
          simp only [nI_clamp (show (aet A i).1 < 2 ^ 31 by omega), ixF (show (aet A i).1 < 8 by omega) (by decide), ↓reduceIte]
          rw [h14 _ q]
          have hm := h21 _ q
          have hle2 := nI_leI (a := tnl T (aet A i).1) (b := (aet A i).2.1) (by omega) (by omega)
          have fin : ∀ x : Int32, x = (if (aet A i).2.1 < tnl T (aet A i).1 then tnt T (aet A i).1 (aet A i).2.1 else 8) → (if x = nI (aet A i).2.2 then LfX8_isSeen_8 n 1 (nI (i + 1)) σ else LfX8_isSeen_8 n 0 (nI (i + 1)) σ) = some (b2 (seenB A P T), σ) := by
            intro x hx
            subst hx
            unfold okS at nx
            rw [decide_eq_true q, Bool.true_and] at nx
            by_cases z : (if (aet A i).2.1 < tnl T (aet A i).1 then tnt T (aet A i).1 (aet A i).2.1 else 8) = nI (aet A i).2.2
            · rw [if_pos z]; rw [decide_eq_true z] at nx; exact nx
            · rw [if_neg z]; rw [decide_eq_false z] at nx; exact nx
          by_cases z : (aet A i).2.1 < tnl T (aet A i).1
          · rw [if_neg (fun z => by have := hle2.mp z; omega)]
            have e5 : 24 * nI (aet A i).1 + nI (aet A i).2.1 = nI (24 * (aet A i).1 + (aet A i).2.1) := by
              rw [show (24 : Int32) = nI 24 from rfl, pk_mul, nI_add]
            simp only [e5, nI_clamp (show 24 * (aet A i).1 + (aet A i).2.1 < 2 ^ 31 by omega), ixF (show 24 * (aet A i).1 + (aet A i).2.1 < 192 by omega) (by decide), ↓reduceIte]
            rw [h15 _ q _ z]
            exact fin _ (by rw [if_pos z])
          · rw [if_pos (hle2.mpr (by omega))]
            exact fin _ (by rw [if_neg z])
        · rw [if_pos (hle.mpr (by omega))]
          unfold okS at nx
          rw [decide_eq_false q, Bool.false_and] at nx
          exact nx
  exact key (aen A) 200 0 (by omega) (by omega)
theorem m_isSeen {A : vA} (hA : WA A) {w s : Int64} {σ : vMem} (h : MTo A w s σ) : ∃ σ', fX8_isSeen σ = some (b2 (seenB A (PA A (bitAt w) (bitAt s)) (tRun (PA A (bitAt w) (bitAt s)) 40)), σ') ∧ MTo A w s σ' ∧ ME σ (PA A (bitAt w) (bitAt s)) σ' := by
  have hP := WP_PA hA (bitAt w) (bitAt s)
  obtain ⟨σ', a1, a2, a3⟩ := m_runR hA h
  refine ⟨σ', ?_, a2, a3⟩
  unfold fX8_isSeen
  rw [a1]
  exact m_isSeenL hA hP a2.2.1.1.2 a3.1.2.2.2.1 a3.1.2.2.2.2.1 (fun k hk => (T21 hP hk).1) a2.1.2.2.2.2.1
/-- bits of what holds -/
def orB (p : Nat → Bool) : Nat → Int32
  | 0 => 0
  | n + 1 => if p n = true then orB p n ||| ((1 : Int32) <<< (nI n &&& 31)) else orB p n
noncomputable def sNe (A : vA) (k : Nat) : Bool := seenB A (PB A k) (tRun (PB A k) 40)
noncomputable def rNever (A : vA) : Int32 := orB (sNe A) (awn A)
theorem c_neverR {A : vA} (hA : WA A) {σ : vMem} (h : RC A σ) : ∃ σ', fX7_never σ = some (rNever A, σ') ∧ RC A σ' := by
  have h6 := hA.2.2.2.1.1
  have key : ∀ (k n i : Nat) (τ : vMem), i + k = awn A → k < n → RC A τ → ∃ σ', LfX7_never_4 n (orB (sNe A) i) (nI i) τ = some (rNever A, σ') ∧ RC A σ' := by
    intro k
    induction k with
    | zero =>
      intro n i τ hik hn hR
      obtain ⟨n, rfl⟩ : ∃ j, n = j + 1 := ⟨n - 1, by omega⟩
      have : i = awn A := by omega
      subst this
      refine ⟨τ, ?_, hR⟩
      show fX7_never_4 _ _ _ _ = _
      unfold fX7_never_4
      rw [hR.2.2.2.1.1, if_pos (Int32.le_refl _)]
      rfl
    | succ k ih =>
      intro n i τ hik hn hR
      obtain ⟨n, rfl⟩ : ∃ j, n = j + 1 := ⟨n - 1, by omega⟩
      have hlt : (nI (awn A) ≤ nI i) = False := eq_false (fun z => by have := (nI_leI (by omega) (by omega)).mp z; omega)
      have hP := WP_PA hA (bitAt (wBut A i)) (bitAt (sAll A))
      obtain ⟨τ1, c1, c2, c3⟩ := c_goR hA hR (wBut A i) (sAll A) (Nat.le_refl 40)
      obtain ⟨w, y, sn, c4⟩ := c3.ct
      have c5 : fX3_agree τ1 = some (b2 (sNe A i), τ1) := c_agree hA hP c4 (fun k hk => (T21 hP hk).1) (tRun_TL (LtP_PA hA _ _) 40) c2.2.2.2.2.2.1
      obtain ⟨σ', e1, e2⟩ := ih n (i + 1) τ1 (by omega) (by omega) c2
      refine ⟨σ', ?_, e2⟩
      show fX7_never_4 _ _ _ _ = _
      unfold fX7_never_4 fX7_never_59
      rw [hR.2.2.2.1.1]
      simp only [hlt, ↓reduceIte]
      rw [c_but25 hA hR (by omega)]
      simp only [Option.bind]
      rw [c_all27 hA hR]
      simp only
      rw [show (40 : Int32) = nI 40 from rfl, c1]
      simp only
      rw [c5]
      simp only [nI_1, b2_0]
      rw [orB] at e1
      by_cases q : sNe A i = true
      · rw [if_pos q] at e1
        rw [if_neg (by rw [q]; decide)]
        exact e1
      · rw [if_neg q] at e1
        rw [if_pos (by simpa using q)]
        exact e1
  exact key (awn A) 200 0 σ (by omega) (by omega) h
theorem m_neverNow {A : vA} (hA : WA A) {σ : vMem} (h : RM A σ) : ∃ σ', fX8_neverNow σ = some (rNever A, σ') ∧ RM A σ' ∧ MD A σ' := by
  have h6 := hA.2.2.2.1.1
  obtain ⟨σ1, a1, a2⟩ := m_asTold hA h
  have key : ∀ (k n i : Nat) (w : Int64) (τ : vMem), i + k = awn A → k < n → MTo A w (sAll A) τ → ∃ σ', LfX8_neverNow_8 n (orB (sNe A) i) (nI i) τ = some (rNever A, σ') ∧ RM A σ' ∧ MD A σ' := by
    intro k
    induction k with
    | zero =>
      intro n i w τ hik hn hM
      obtain ⟨n, rfl⟩ : ∃ j, n = j + 1 := ⟨n - 1, by omega⟩
      have : i = awn A := by omega
      subst this
      refine ⟨τ, ?_, hM.1, hM.2.1⟩
      show fX8_neverNow_8 _ _ _ _ = _
      unfold fX8_neverNow_8
      rw [hM.1.2.2.1.1, if_pos (Int32.le_refl _)]
      rfl
    | succ k ih =>
      intro n i w τ hik hn hM
      obtain ⟨n, rfl⟩ : ∃ j, n = j + 1 := ⟨n - 1, by omega⟩
      have hlt : (nI (awn A) ≤ nI i) = False := eq_false (fun z => by have := (nI_leI (by omega) (by omega)).mp z; omega)
      obtain ⟨τ1, c1, c2, c3⟩ := m_isSeen hA (hM.wind (wBut A i))
      have c1 : fX8_isSeen (vupL τ 0 17 (wBut A i)) = some (b2 (sNe A i), τ1) := c1
      obtain ⟨σ', e1, e2⟩ := ih n (i + 1) _ τ1 (by omega) (by omega) c2
      refine ⟨σ', ?_, e2⟩
      show fX8_neverNow_8 _ _ _ _ = _
      unfold fX8_neverNow_8
      rw [hM.1.2.2.1.1]
      simp only [hlt, ↓reduceIte]
      rw [m_but hA hM.1 (by omega)]
      simp only [Option.bind]
      unfold fX8_neverNow_27 fX8_neverNow_42
      rw [c1]
      simp only [Option.bind, nI_1, b2_0]
      rw [orB] at e1
      by_cases q : sNe A i = true
      · rw [if_pos q] at e1
        rw [if_neg (by rw [q]; decide)]
        exact e1
      · rw [if_neg q] at e1
        rw [if_pos (by simpa using q), Int32.or_zero]
        exact e1
  obtain ⟨σ', b1, b2⟩ := key (awn A) 200 0 _ σ1 (by omega) (by omega) a2
  refine ⟨σ', ?_, b2⟩
  unfold fX8_neverNow
  rw [a1]
  exact b1
theorem q_never {A : vA} (hA : WA A) : vJ A fX7_never fX8_never := by
  refine ⟨rNever A, A, hA, fun σ h => c_neverR hA h, fun σ h => ?_⟩
  obtain ⟨σ', a1, a2, a3⟩ := m_neverNow hA h
  refine ⟨σ', ?_, a2⟩
  unfold fX8_never
  rw [a1]
  rfl
