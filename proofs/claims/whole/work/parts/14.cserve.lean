set_option maxRecDepth 100000 in
theorem mk_bit : ∀ m : Fin 512, ∀ f : Fin 9, (nI m.val >>> (nI f.val &&& 31)) &&& 1 = b2 (m.val.testBit f.val) := by decide +kernel
set_option maxRecDepth 100000 in
theorem mk_or : ∀ m : Fin 512, ∀ f : Fin 9, nI m.val ||| ((1 : Int32) <<< (nI f.val &&& 31)) = nI (m.val ||| 2 ^ f.val) ∧ m.val ||| 2 ^ f.val < 512 := by decide +kernel
def tM (P : vP) (h : Nat) (T : vT) (b : Nat) (m : Nat) : Prop := m < 512 ∧ ∀ f, f < pnf P → m.testBit f = anyLt b (fun i => decide (pho P i ≤ h) && decide (tpl T i = f))
section CV
variable {σ0 : vMem} {P : vP} {sn : Nat → Bool} {T : vT} {σ : vMem} {hh : Nat}
theorem c_eat (hP : WP P) {b f m : Nat} (h : CS σ0 P (pwi P hh) (psu P hh) sn T σ) (hb : b < pnb P) (hf : f < pnf P) (hB : ∀ c, c < pnb P → tst T c + tnl T c ≤ 21 ∧ 1 ≤ tnl T c) (hl : tst T b + tnl T b < 21) (h99 : tld T b ≤ 99) (K : Int32 → Int32 → Int32 → vMem → Option vMem) (htg : ¬ σ.1 16 b = 1) (l2 : Int32) :
    ∃ σ', fX6_serve_55 K (nI hh) l2 (nI b) (nI f) σ = K (nI hh) (l2 ||| ((1 : Int32) <<< (nI f &&& 31))) (nI (b + 1)) σ' ∧ CS σ0 P (pwi P hh) (psu P hh) sn (tEat P hh b f T) σ' ∧ σ'.1 16 = σ.1 16 := by
  have hb8 : b < 8 := Nat.lt_of_lt_of_le hb hP.2.1
  have hf9 : f < 9 := Nat.lt_of_lt_of_le hf hP.1
  have hcb : (nI b).toNatClampNeg = b := nI_clamp (by omega)
  have hcf : (nI f).toNatClampNeg = f := nI_clamp (by omega)
  have hxb := ixF hb8 (by decide)
  have hxf := ixF hf9 (by decide)
  have e6 := (h.dc.2.1 f hf).1
  have ewi := h.ewi
  have e15 := h.e15 hb
  have two : nI (tld T b) / 2 = nI (tld T b / 2) := pk_div (d := 2) (by omega) (by decide) (by decide)
  -- behind the wind
  have key : ∀ (U : vT) (τ : vMem), CS σ0 P (pwi P hh) (psu P hh) sn U τ → tld U b ≤ 99 → tst U = tst T → tnl U = tnl T → τ.1 16 = σ.1 16 →
      ∃ σ', fX6_serve_106 K (nI hh) (l2 ||| ((1 : Int32) <<< (nI f &&& 31))) (nI b) (nI f) τ = K (nI hh) (l2 ||| ((1 : Int32) <<< (nI f &&& 31))) (nI (b + 1)) σ' ∧ CS σ0 P (pwi P hh) (psu P hh) sn (if 0 < tld U b ∧ tHungry P hh f U = true then tBite P hh b f U else U) σ' ∧ σ'.1 16 = σ.1 16 := by
    intro U τ hU h9 q1 q2 q3
    have e15 := hU.e15 hb
    unfold fX6_serve_106
    simp only [hcb, hxb, ↓reduceIte, e15, nI_le0 (show tld U b < 2 ^ 31 by omega)]
    by_cases c0 : tld U b = 0
    · rw [if_pos c0, if_neg (by omega)]
      refine ⟨τ, ?_, hU, q3⟩
      unfold fX6_serve_133
      rw [nI_1]
    · rw [if_neg c0, c_wants hU hP hf]
      simp only [Option.bind]
      by_cases c1 : tHungry P hh f U = true
      · have hif : (if 0 < tld U b ∧ tHungry P hh f U = true then tBite P hh b f U else U) = tBite P hh b f U := if_pos ⟨by omega, c1⟩
        rw [hif, c1]
        simp only [show ¬ (b2 true = 0) by decide, ↓reduceIte]
        obtain ⟨σ', a1, a2, a3⟩ := c_bite (hh := hh) hU hP hb hf (by rw [q1, q2]; exact hB) (by rw [q1, q2]; exact hl) h9
        rw [a1]
        refine ⟨σ', ?_, a2, a3.trans q3⟩
        show fX6_serve_133 K _ _ _ σ' = _
        unfold fX6_serve_133
        rw [nI_1]
      · rw [Bool.not_eq_true] at c1
        have hif : (if 0 < tld U b ∧ tHungry P hh f U = true then tBite P hh b f U else U) = U := if_neg (by simp [c1])
        rw [hif, c1]
        simp only [show (b2 false = 0) by decide, ↓reduceIte]
        refine ⟨τ, ?_, hU, q3⟩
        unfold fX6_serve_133
        rw [nI_1]
  unfold fX6_serve_55
  simp only [hcb, hcf, hxb, hxf, ↓reduceIte, htg, e6, ewi, e15, two, b2_0]
  unfold tEat
  by_cases c3 : pso P f = 3
  · cases hw : pwi P hh with
    | false =>
      simp only [c3, ↓reduceIte, hw, Bool.false_eq_true, and_false]
      have := key T σ h h99 rfl rfl rfl
      rw [hw] at this
      exact this
    | true =>
      simp only [c3, ↓reduceIte, hw, Bool.true_eq_false, and_self]
      have := key (sLd T b (tld T b / 2)) (vup σ 15 b (nI (tld T b / 2))) h.ld (by simp only [tld, va_up, ↓reduceIte]; simp only [tld] at h99; omega) rfl rfl (vup_ne _ _ (by decide))
      rw [hw] at this
      exact this
  · simp only [c3, ↓reduceIte, false_and]
    exact key T σ h h99 rfl rfl rfl
theorem c_serve1 (hP : WP P) {b m : Nat} (h : CS σ0 P (pwi P hh) (psu P hh) sn T σ) (hsn : ∀ c, sn c = decide (pho P c ≤ hh)) (hb : b < pnb P) (hB : ∀ c, c < pnb P → tst T c + tnl T c ≤ 21 ∧ 1 ≤ tnl T c) (hl : tThere P hh T b = true → tst T b + tnl T b < 21) (h99 : tld T b ≤ 99) (hpl : tpl T b ≤ 9) (hm : tM P hh T b m) (K : Int32 → Int32 → Int32 → vMem → Option vMem) :
    ∃ σ' m', fX6_serve_4 K (nI hh) (nI m) (nI b) σ = K (nI hh) (nI m') (nI (b + 1)) σ' ∧ CS σ0 P (pwi P hh) (psu P hh) sn (tServe1 P hh b T) σ' ∧ tM P hh T (b + 1) m' ∧
      (∀ c, σ'.1 16 c = if c = b ∧ tThere P hh T b = true then b2 (tTg P hh T b) else σ.1 16 c) := by
  have hb8 : b < 8 := Nat.lt_of_lt_of_le hb hP.2.1
  have hnf := hP.1
  have hcb : (nI b).toNatClampNeg = b := nI_clamp (by omega)
  have hxb := ixF hb8 (by decide)
  have e55 := h.dc.1.2.1
  have e50 := h.dc.1.1
  have e14 := h.e14 hb
  have hnb : (nI (pnb P) ≤ nI b) = False := eq_false (fun q => by have := (nI_leI (by have := hP.2.1; omega) (by omega)).mp q; omega)
  unfold fX6_serve_4
  simp only [hcb, hxb, ↓reduceIte, e55, e50, e14, hnb]
  rw [hsn b]
  have hgo : ∀ f, tpl T b = f → pho P b ≤ hh → ∀ m', (∀ g, g < pnf P → m'.testBit g = (m.testBit g || decide (f = g))) → m' < 512 → tM P hh T (b + 1) m' := by
    intro f ef hs m' hm' hlt
    refine ⟨hlt, fun g hg => ?_⟩
    rw [hm' g hg, hm.2 g hg, anyLt]
    simp [hs, ef]
  by_cases hs : pho P b ≤ hh
  · simp only [hs, decide_true, ↓reduceIte, nI_lt0 (show tpl T b < 2 ^ 31 by omega), nI_ltI (show tpl T b < 2 ^ 31 by omega) (show pnf P < 2 ^ 31 by omega)]
    by_cases hp : tpl T b < pnf P
    · have hth : tThere P hh T b = true := by simp [tThere, hs, hp]
      have hf9 : tpl T b < 9 := by omega
      have hbit := mk_bit ⟨m, hm.1⟩ ⟨tpl T b, hf9⟩
      have hor := mk_or ⟨m, hm.1⟩ ⟨tpl T b, hf9⟩
      dsimp only at hbit hor
      have htg : m.testBit (tpl T b) = tTg P hh T b := hm.2 _ hp
      rw [if_pos hp, hbit, htg]
      have h1 : CS σ0 P (pwi P hh) (psu P hh) sn T (vup σ 16 b (b2 (tTg P hh T b))) := h.tg
      have t1 : ∀ c, (vup σ 16 b (b2 (tTg P hh T b))).1 16 c = if c = b ∧ tThere P hh T b = true then b2 (tTg P hh T b) else σ.1 16 c := fun c => by
        rw [vup_rd]
        simp [hth]
      have hM : tM P hh T (b + 1) (m ||| 2 ^ tpl T b) := hgo _ rfl hs _ (fun g _ => by
        rw [Nat.testBit_or, Nat.testBit_two_pow]) hor.2
      cases hg : tTg P hh T b with
      | true =>
        refine ⟨vup σ 16 b (b2 true), m ||| 2 ^ tpl T b, ?_, ?_, hM, ?_⟩
        · unfold fX6_serve_55
          simp only [hcb, hxb, ↓reduceIte, vup_rd, b2_1]
          unfold fX6_serve_133
          rw [hor.1, nI_1]
        · unfold tServe1
          rw [if_neg (by simp [hg])]
          rw [← hg]; exact h1
        · intro c
          have := t1 c
          rw [hg] at this
          exact this
      | false =>
        rw [hg] at h1
        obtain ⟨σ', a1, a2, a3⟩ := c_eat (m := m) hP h1 hb hp hB (hl hth) h99 K (by rw [vup_rd]; simp only [↓reduceIte]; decide) (nI m)
        refine ⟨σ', m ||| 2 ^ tpl T b, ?_, ?_, hM, fun c => ?_⟩
        · rw [a1, hor.1]
        · unfold tServe1
          rw [if_pos ⟨hth, hg⟩]
          exact a2
        · rw [a3]
          have := t1 c
          rw [hg] at this
          exact this
    · have hth : tThere P hh T b = false := by simp [tThere, hp]
      rw [if_neg hp]
      refine ⟨σ, m, ?_, ?_, ?_, fun c => by simp [hth]⟩
      · unfold fX6_serve_133
        rw [nI_1]
      · unfold tServe1
        rw [if_neg (by simp [hth])]
        exact h
      · refine ⟨hm.1, fun g hg => ?_⟩
        rw [hm.2 g hg, anyLt]
        have : ¬ tpl T b = g := by omega
        simp [this]
  · have hth : tThere P hh T b = false := by simp [tThere, hs]
    simp only [hs, decide_false, Bool.false_eq_true, ↓reduceIte, show ((-1 : Int32) < 0) by decide]
    refine ⟨σ, m, ?_, ?_, ?_, fun c => by simp [hth]⟩
    · unfold fX6_serve_133
      rw [nI_1]
    · unfold tServe1
      rw [if_neg (by simp [hth])]
      exact h
    · refine ⟨hm.1, fun g hg => ?_⟩
      rw [hm.2 g hg, anyLt]
      simp [hs]
end CV
