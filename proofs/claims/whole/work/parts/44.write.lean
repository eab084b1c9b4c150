/-! write -/
theorem c_letterX {σ : vMem} {k i st nl : Nat} {nt : Nat → Int32} (hk : k < 8) (h20 : σ.1 20 k = nI st) (h21 : σ.1 21 k = nI (st + nl)) (h19 : ∀ i, i < nl → σ.1 19 (21 * k + st + i) = nt i) (hb : st + nl ≤ 21) (hi : i < nl) : fX6_letter (nI k) (nI i) σ = some (nt i, σ) := by
  unfold fX6_letter fX6_letter_34 fX6_letter_35 fX6_letters
  simp only [Option.bind, nI_lt0 (show i < 2 ^ 31 by omega), nI_clamp (show k < 2 ^ 31 by omega), ixF hk (by decide), ↓reduceIte, h20, h21]
  rw [pk_sub (by omega), Nat.add_sub_cancel_left]
  rw [if_neg (fun z => by have := (nI_leI (a := nl) (b := i) (by omega) (by omega)).mp z; omega)]
  have e5 : nI k * 21 + nI st + nI i = nI (21 * k + st + i) := by
    rw [show (21 : Int32) = nI 21 from rfl, pk_mul, nI_add, nI_add, Nat.mul_comm]
  rw [e5, nI_clamp (by omega)]
  simp only [ixF (show 21 * k + st + i < 168 by omega) (by decide), ↓reduceIte]
  rw [h19 i hi]
theorem c_writeL {s f k st nl M : Nat} {nt : Nat → Int32} (hs : s < 4) (hf : f ≤ 2) (hk : k < 8) (hb : st + nl ≤ 21) (hM : M ≤ nl) : ∀ (d n i : Nat) (σ : vMem), i + d = M → d < n → σ.1 34 s = nI f → σ.1 20 k = nI st → σ.1 21 k = nI (st + nl) → (∀ i, i < nl → σ.1 19 (21 * k + st + i) = nt i) → ∃ σ', LfX7_write_63 n (nI k) (nI s) (nI M) (nI i) σ = some (nI M, σ') ∧ (∀ a, a ≠ 36 → σ'.1 a = σ.1 a) ∧ (∀ j, σ'.1 36 j = if 60 * s + i ≤ j ∧ j < 60 * s + M then kept f (nt (j - 60 * s)) else σ.1 36 j) := by
  intro d
  induction d with
  | zero =>
    intro n i σ hik hn _ _ _ _
    obtain ⟨n, rfl⟩ : ∃ j, n = j + 1 := ⟨n - 1, by omega⟩
    have : i = M := by omega
    subst this
    refine ⟨σ, ?_, fun _ _ => rfl, fun j => by rw [if_neg (by omega)]⟩
    show fX7_write_63 _ _ _ _ _ _ = _
    unfold fX7_write_63
    rw [if_pos (Int32.le_refl _)]
  | succ d ih =>
    intro n i σ hik hn e34 h20 h21 h19
    obtain ⟨n, rfl⟩ : ∃ j, n = j + 1 := ⟨n - 1, by omega⟩
    have hlt : (nI M ≤ nI i) = False := eq_false (fun z => by have := (nI_leI (by omega) (by omega)).mp z; omega)
    obtain ⟨σ', a1, a2, a3⟩ := ih n (i + 1) (vup σ 36 (60 * s + i) (kept f (nt i))) (by omega) (by omega) (by rw [vup_ne _ _ (by decide)]; exact e34) (by rw [vup_ne _ _ (by decide)]; exact h20) (by rw [vup_ne _ _ (by decide)]; exact h21) (by rw [vup_ne _ _ (by decide)]; exact h19)
    refine ⟨σ', ?_, fun a ha => (a2 a ha).trans (vup_ne _ _ ha), fun j => ?_⟩
    · show fX7_write_63 _ _ _ _ _ _ = _
      unfold fX7_write_63
      simp only [hlt, ↓reduceIte]
      rw [c_letterX hk h20 h21 h19 hb (by omega)]
      simp only [Option.bind]
      rw [c_store hs hf (by omega) e34]
      simp only [nI_1]
      exact a1
    · rw [a3 j]
      simp only [vup_rd, ↓reduceIte]
      by_cases q : j = 60 * s + i
      · rw [if_neg (by omega), if_pos q, if_pos (by omega), show j - 60 * s = i by omega]
      · rw [if_neg q]
        by_cases w : 60 * s + (i + 1) ≤ j ∧ j < 60 * s + M
        · rw [if_pos w, if_pos (by omega)]
        · rw [if_neg w, if_neg (by omega)]
theorem m_writeL {s f k nl z M : Nat} {nt : Nat → Int32} (hs : s < 4) (hf : f ≤ 2) (hk : k < 8) (hb : nl ≤ 21) (hz : z ≤ 60) (hM : M = if nl < z then nl else z) : ∀ (d n i : Nat) (σ : vMem), i + d = M → d < n → σ.1 32 s = nI f → σ.1 33 s = nI z → σ.1 14 k = nI nl → (∀ i, i < nl → σ.1 15 (24 * k + i) = nt i) → ∃ σ', LfX8_write_39 n (nI k) (nI s) (nI i) σ = some (nI M, σ') ∧ (∀ a, a ≠ 34 → σ'.1 a = σ.1 a) ∧ (∀ j, σ'.1 34 j = if 60 * s + i ≤ j ∧ j < 60 * s + M then kept f (nt (j - 60 * s)) else σ.1 34 j) := by
  have hM1 : M ≤ nl := by rw [hM]; split <;> omega
  have hM2 : M ≤ z := by rw [hM]; split <;> omega
  intro d
  induction d with
  | zero =>
    intro n i σ hik hn e32 e33 h14 h15
    obtain ⟨n, rfl⟩ : ∃ j, n = j + 1 := ⟨n - 1, by omega⟩
    have : i = M := by omega
    subst this
    refine ⟨σ, ?_, fun _ _ => rfl, fun j => by rw [if_neg (by omega)]⟩
    show fX8_write_39 _ _ _ _ _ = _
    unfold fX8_write_39 fX8_write_82
    simp only [nI_clamp (show s < 2 ^ 31 by omega), ixF hs (by decide), nI_clamp (show k < 2 ^ 31 by omega), ixF hk (by decide), ↓reduceIte, e33, h14]
    by_cases q : nl < z
    · rw [if_pos q] at hM
      subst hM
      rw [if_neg (fun w => by have := (nI_leI (by omega) (by omega)).mp w; omega), if_pos (Int32.le_refl _)]
    · rw [if_neg q] at hM
      subst hM
      rw [if_pos (Int32.le_refl _)]
  | succ d ih =>
    intro n i σ hik hn e32 e33 h14 h15
    obtain ⟨n, rfl⟩ : ∃ j, n = j + 1 := ⟨n - 1, by omega⟩
    have hlt : (nI z ≤ nI i) = False := eq_false (fun z => by have := (nI_leI (by omega) (by omega)).mp z; omega)
    have hlt2 : (nI nl ≤ nI i) = False := eq_false (fun z => by have := (nI_leI (by omega) (by omega)).mp z; omega)
    obtain ⟨σ', a1, a2, a3⟩ := ih n (i + 1) (vup σ 34 (60 * s + i) (kept f (nt i))) (by omega) (by omega) (by rw [vup_ne _ _ (by decide)]; exact e32) (by rw [vup_ne _ _ (by decide)]; exact e33) (by rw [vup_ne _ _ (by decide)]; exact h14) (by rw [vup_ne _ _ (by decide)]; exact h15)
    refine ⟨σ', ?_, fun a ha => (a2 a ha).trans (vup_ne _ _ ha), fun j => ?_⟩
    · show fX8_write_39 _ _ _ _ _ = _
      unfold fX8_write_39
      have e5 : 24 * nI k + nI i = nI (24 * k + i) := by
        rw [show (24 : Int32) = nI 24 from rfl, pk_mul, nI_add]
      simp only [nI_clamp (show s < 2 ^ 31 by omega), ixF hs (by decide), nI_clamp (show k < 2 ^ 31 by omega), ixF hk (by decide), ↓reduceIte, e33, h14, hlt, hlt2, e5, nI_clamp (show 24 * k + i < 2 ^ 31 by omega), ixF (show 24 * k + i < 192 by omega) (by decide), h15 i (by omega)]
      rw [m_keep hs hf (by omega) e32]
      simp only [Option.bind, nI_1]
      exact a1
    · rw [a3 j]
      simp only [vup_rd, ↓reduceIte]
      by_cases q : j = 60 * s + i
      · rw [if_neg (by omega), if_pos q, if_pos (by omega), show j - 60 * s = i by omega]
      · rw [if_neg q]
        by_cases w : 60 * s + (i + 1) ≤ j ∧ j < 60 * s + M
        · rw [if_pos w, if_pos (by omega)]
        · rw [if_neg w, if_neg (by omega)]
theorem q_write {A : vA} (hA : WA A) (x y : Int32) : vJ A (fX7_write x y) (fX8_write x y) := by
  have h8 := nbA_le hA
  have hP := WP_PA hA (bitAt (wAll A)) (bitAt (sAll A))
  by_cases p : inR (nbA A) x = true
  · obtain ⟨k, hk, rfl⟩ := inR_ex (by omega) p
    by_cases q : inR 4 y = true
    · obtain ⟨s, hs, rfl⟩ := inR_ex (by omega) q
      rcases w : asy A s with _ | ⟨f, z, it⟩
      · refine ⟨-11, aF A 1, hA, fun σ h => ?_, fun σ h => ?_⟩
        · obtain ⟨σ', a1, a2⟩ := c_found 1 σ h
          refine ⟨σ', ?_, a2⟩
          unfold fX7_write
          rw [c_isBasket h, p]
          simp only [Option.bind, b2_0, Bool.true_eq_false, ↓reduceIte]
          rw [c_isSheet, q]
          simp only [b2_0, Bool.true_eq_false, ↓reduceIte]
          rw [c_isLost hA h hs, w]
          simp only [Option.isNone_none, b2_0, Bool.true_eq_false, ↓reduceIte, a1]
          rfl
        · obtain ⟨σ1, b1, b2, b3⟩ := m_isBasket hA h (nI k)
          obtain ⟨σ', a1, a2⟩ := m_meets 1 σ1 b2
          refine ⟨σ', ?_, a2⟩
          unfold fX8_write
          rw [b1, p]
          simp only [Option.bind, b2_0, Bool.true_eq_false, ↓reduceIte]
          rw [m_isSheet, q]
          simp only [b2_0, Bool.true_eq_false, ↓reduceIte, nI_clamp (show s < 2 ^ 31 by omega), ixF hs (by decide), m_lost b2 hs, w, Option.isNone_none, a1]
          rfl
      · obtain ⟨f2, z60⟩ := hA.2.2.2.2.2.2 s hs f z it w
        have h21 : tst (TT A) k + tnl (TT A) k ≤ 21 ∧ 1 ≤ tnl (TT A) k := T21 hP hk
        let M := if tnl (TT A) k < z then tnl (TT A) k else z
        have hM1 : M ≤ tnl (TT A) k := by show (if tnl (TT A) k < z then tnl (TT A) k else z) ≤ _; split <;> omega
        have hM2 : M ≤ z := by show (if tnl (TT A) k < z then tnl (TT A) k else z) ≤ _; split <;> omega
        refine ⟨nI M, aY A (va_up (asy A) s (some (f, z, fun j => if j < M then kept f (tnt (TT A) k j) else it j))), hA.sheets (fun _ _ _ w => by cases w; exact ⟨f2, z60⟩), fun σ h => ?_, fun σ h => ?_⟩
        · obtain ⟨σ1, a1, a2, ww, yy, sn, a3⟩ := c_told hA h
          have e := a2.sh hs
          rw [w] at e
          obtain ⟨e1, e2, e3⟩ := e.2 f z it rfl
          obtain ⟨σ', b1, b2, b3⟩ := c_writeL (nt := tnt (TT A) k) hs f2 (show k < 8 by omega) h21.1 hM1 M 200 0 σ1 (by omega) (by omega) e1 (a3.2.2.2.2.2.2.1 k hk) (a3.2.2.2.2.2.2.2.1 k hk) (a3.2.2.2.2.2.2.2.2.1 k hk)
          refine ⟨σ', ?_, ?_⟩
          · unfold fX7_write
            rw [c_isBasket h, p]
            simp only [Option.bind, b2_0, Bool.true_eq_false, ↓reduceIte]
            rw [c_isSheet, q]
            simp only [b2_0, Bool.true_eq_false, ↓reduceIte]
            rw [c_isLost hA h hs, w]
            simp only [Option.isNone_some, b2_0, ↓reduceIte, a1, nI_clamp (show s < 2 ^ 31 by omega), ixF hs (by decide)]
            rw [c_letters hP a3 hk]
            simp only [e2]
            have em : (if nI (tnl (TT A) k) < nI z then nI (tnl (TT A) k) else nI z) = nI M := by
              show _ = nI (if tnl (TT A) k < z then tnl (TT A) k else z)
              by_cases t : tnl (TT A) k < z
              · rw [if_pos t, if_pos ((nI_ltI (by omega) (by omega)).mpr t)]
              · rw [if_neg t, if_neg (fun u => t ((nI_ltI (by omega) (by omega)).mp u))]
            exact (congrArg (fun u => LfX7_write_63 200 (nI k) (nI s) u 0 σ1) em).trans b1
          · refine a2.sheet1 hA (fun a _ _ h3 => b2 a h3) (fun j _ => by rw [b2 34 (by decide)]) (fun j _ => by rw [b2 35 (by decide)]) (fun j hj => by rw [b3 j, if_neg (by omega)]) ⟨(fun w => nomatch w), fun f' z' it' w => ?_⟩
            cases w
            refine ⟨by rw [b2 34 (by decide)]; exact e1, by rw [b2 35 (by decide)]; exact e2, fun j hj => ?_⟩
            show _ = (if j < M then kept f (tnt (TT A) k j) else it j)
            rw [b3]
            by_cases t : j < M
            · rw [if_pos (by omega), if_pos t, show 60 * s + j - 60 * s = j by omega]
            · rw [if_neg (by omega), if_neg t]; exact e3 j hj
        · obtain ⟨σ1, c1, c2, c3⟩ := m_isBasket hA h (nI k)
          obtain ⟨σ0, σ2, a1, a2, a3⟩ := m_told hA c2
          have e := a2.1.sh hs
          rw [w] at e
          obtain ⟨e0, e1, e2, e3⟩ := e.2 f z it rfl
          obtain ⟨σ', b1, b2, b3⟩ := m_writeL (nt := tnt (TT A) k) (M := M) hs f2 (show k < 8 by omega) (show tnl (TT A) k ≤ 21 by omega) z60 rfl M 200 0 σ2 (by omega) (by omega) e1 e2 (a3.1.2.2.2.1 k hk) (a3.1.2.2.2.2.1 k hk)
          refine ⟨σ', ?_, ?_⟩
          · unfold fX8_write
            rw [c1, p]
            simp only [Option.bind, b2_0, Bool.true_eq_false, ↓reduceIte]
            rw [m_isSheet, q]
            simp only [b2_0, Bool.true_eq_false, ↓reduceIte, nI_clamp (show s < 2 ^ 31 by omega), ixF hs (by decide), m_lost c2 hs, w, Option.isNone_some, Bool.false_eq_true, a1]
            exact b1
          · refine a2.1.sheet1 hA (fun a _ _ _ _ h3 _ => b2 a h3) (fun j => by rw [b2 0 (by decide)]) (fun j _ => by rw [b2 31 (by decide)]) (fun j _ => by rw [b2 32 (by decide)]) (fun j _ => by rw [b2 33 (by decide)]) (fun j hj => by rw [b3 j, if_neg (by omega)]) ⟨(fun w => nomatch w), fun f' z' it' w => ?_⟩
            cases w
            refine ⟨by rw [b2 31 (by decide)]; exact e0, by rw [b2 32 (by decide)]; exact e1, by rw [b2 33 (by decide)]; exact e2, fun j hj => ?_⟩
            show _ = (if j < M then kept f (tnt (TT A) k j) else it j)
            rw [b3]
            by_cases t : j < M
            · rw [if_pos (by omega), if_pos t, show 60 * s + j - 60 * s = j by omega]
            · rw [if_neg (by omega), if_neg t]; exact e3 j hj
    · have q := inR_F q
      refine ⟨-2, A, hA, fun σ h => ⟨σ, ?_, h⟩, fun σ h => ?_⟩
      · unfold fX7_write
        rw [c_isBasket h, p]
        simp only [Option.bind, b2_0, Bool.true_eq_false, ↓reduceIte]
        rw [c_isSheet, q]
        rfl
      · obtain ⟨σ1, b1, b2, b3⟩ := m_isBasket hA h (nI k)
        refine ⟨σ1, ?_, b2⟩
        unfold fX8_write
        rw [b1, p]
        simp only [Option.bind, b2_0, Bool.true_eq_false, ↓reduceIte]
        rw [m_isSheet, q]
        rfl
  · have p := inR_F p
    refine ⟨-2, A, hA, fun σ h => ⟨σ, ?_, h⟩, fun σ h => ?_⟩
    · unfold fX7_write
      rw [c_isBasket h, p]
      rfl
    · obtain ⟨σ1, b1, b2, b3⟩ := m_isBasket hA h x
      refine ⟨σ1, ?_, b2⟩
      unfold fX8_write
      rw [b1, p]
      rfl
