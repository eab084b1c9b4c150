/-! sheet, put, get -/
theorem c_makeL {s N : Nat} (hs : s < 4) (hN : N ≤ 60) : ∀ (k n i : Nat) (σ : vMem), i + k = N → k < n → ∃ σ', LfX2_make_17 n (nI s) (nI N) (nI i) σ = some σ' ∧ (∀ a, a ≠ 36 → σ'.1 a = σ.1 a) ∧ (∀ j, σ'.1 36 j = if 60 * s + i ≤ j ∧ j < 60 * s + N then 0 else σ.1 36 j) := by
  intro k
  induction k with
  | zero =>
    intro n i σ hik hn
    obtain ⟨n, rfl⟩ : ∃ j, n = j + 1 := ⟨n - 1, by omega⟩
    have : i = N := by omega
    subst this
    refine ⟨σ, ?_, fun _ _ => rfl, fun j => by rw [if_neg (by omega)]⟩
    show fX2_make_17 _ _ _ _ _ = _
    unfold fX2_make_17
    rw [if_pos (Int32.le_refl _)]
  | succ k ih =>
    intro n i σ hik hn
    obtain ⟨n, rfl⟩ : ∃ j, n = j + 1 := ⟨n - 1, by omega⟩
    have hlt : (nI N ≤ nI i) = False := eq_false (fun z => by have := (nI_leI (by omega) (by omega)).mp z; omega)
    obtain ⟨σ', a1, a2, a3⟩ := ih n (i + 1) (vup σ 36 (60 * s + i) 0) (by omega) (by omega)
    refine ⟨σ', ?_, fun a ha => (a2 a ha).trans (vup_ne _ _ ha), fun j => ?_⟩
    · show fX2_make_17 _ _ _ _ _ = _
      unfold fX2_make_17 fX2_make_36
      have e : nI s * 60 + nI i = nI (60 * s + i) := by rw [show (60 : Int32) = nI 60 from rfl, pk_mul, nI_add, Nat.mul_comm]
      simp only [hlt, ↓reduceIte, e, nI_clamp (show 60 * s + i < 2 ^ 31 by omega), ixF (show 60 * s + i < 240 by omega) (by decide), nI_1]
      exact a1
    · rw [a3 j]
      simp only [vup_rd, ↓reduceIte]
      by_cases q : j = 60 * s + i
      · rw [if_neg (by omega), if_pos q, if_pos (by omega)]
      · rw [if_neg q]
        by_cases w : 60 * s + (i + 1) ≤ j ∧ j < 60 * s + N
        · rw [if_pos w, if_pos (by omega)]
        · rw [if_neg w, if_neg (by omega)]
theorem m_sheetL {s : Nat} (hs : s < 4) (r : Int32) : ∀ (k n i : Nat) (σ : vMem), i + k = 60 → k < n → ∃ σ', LfX8_sheet_59 n (nI s) r (nI i) σ = some (r, σ') ∧ (∀ a, a ≠ 34 → σ'.1 a = σ.1 a) ∧ (∀ j, σ'.1 34 j = if 60 * s + i ≤ j ∧ j < 60 * s + 60 then 0 else σ.1 34 j) := by
  intro k
  induction k with
  | zero =>
    intro n i σ hik hn
    obtain ⟨n, rfl⟩ : ∃ j, n = j + 1 := ⟨n - 1, by omega⟩
    have : i = 60 := by omega
    subst this
    refine ⟨σ, ?_, fun _ _ => rfl, fun j => by rw [if_neg (by omega)]⟩
    show fX8_sheet_59 _ _ _ _ _ = _
    unfold fX8_sheet_59
    rw [if_pos (by decide)]
  | succ k ih =>
    intro n i σ hik hn
    obtain ⟨n, rfl⟩ : ∃ j, n = j + 1 := ⟨n - 1, by omega⟩
    have hlt : ((60 : Int32) ≤ nI i) = False := eq_false (fun z => by have := (nI_leI (a := 60) (by omega) (by omega)).mp z; omega)
    obtain ⟨σ', a1, a2, a3⟩ := ih n (i + 1) (vup σ 34 (60 * s + i) 0) (by omega) (by omega)
    refine ⟨σ', ?_, fun a ha => (a2 a ha).trans (vup_ne _ _ ha), fun j => ?_⟩
    · show fX8_sheet_59 _ _ _ _ _ = _
      unfold fX8_sheet_59 fX8_sheet_79
      have e : 60 * nI s + nI i = nI (60 * s + i) := by rw [show (60 : Int32) = nI 60 from rfl, pk_mul, nI_add]
      simp only [hlt, ↓reduceIte, e, nI_clamp (show 60 * s + i < 2 ^ 31 by omega), ixF (show 60 * s + i < 240 by omega) (by decide), nI_1]
      exact a1
    · rw [a3 j]
      simp only [vup_rd, ↓reduceIte]
      by_cases q : j = 60 * s + i
      · rw [if_neg (by omega), if_pos q, if_pos (by omega)]
      · rw [if_neg q]
        by_cases w : 60 * s + (i + 1) ≤ j ∧ j < 60 * s + 60
        · rw [if_pos w, if_pos (by omega)]
        · rw [if_neg w, if_neg (by omega)]
theorem q_sheet {A : vA} (hA : WA A) (x y z : Int32) : vJ A (fX7_sheet x y z) (fX8_sheet x y z) := by
  by_cases q : inR 4 x = true
  · obtain ⟨s, hs, rfl⟩ := inR_ex (by omega) q
    by_cases p : inR 3 y = true
    · obtain ⟨f, hf, rfl⟩ := inR_ex (by omega) p
      by_cases r : z ≤ 60
      · by_cases z0 : 0 ≤ z
        · have zn : ¬ z < 0 := Int32.not_lt.mpr z0
          obtain ⟨n, hn, rfl⟩ := nI_of zn
          have n60 : n ≤ 60 := (nI_leI (b := 60) hn (by decide)).mp r
          refine ⟨nI n, aY A (va_up (asy A) s (some (f, n, fun _ => 0))), hA.sheets (fun _ _ _ w => by cases w; exact ⟨by omega, n60⟩), fun σ h => ?_, fun σ h => ?_⟩
          · obtain ⟨σ', a1, a2, a3⟩ := c_makeL hs n60 n 200 0 (vup (vup σ 34 s (nI f)) 35 s (nI n)) (by omega) (by omega)
            refine ⟨σ', ?_, ?_⟩
            · unfold fX7_sheet
              rw [c_isSheet, q]
              simp only [Option.bind, b2_0, Bool.true_eq_false, ↓reduceIte]
              rw [c_isForm, p]
              unfold fX2_make fX2_make_7 fX2_make_14
              simp only [b2_0, Bool.true_eq_false, ↓reduceIte, r, z0, nI_clamp (show s < 2 ^ 31 by omega), ixF hs (by decide)]
              rw [show LfX2_make_17 200 (nI s) (nI n) 0 (vup (vup σ 34 s (nI f)) 35 s (nI n)) = some σ' from a1]
            · refine h.sheet1 hA (fun a h1 h2 h3 => by rw [a2 a h3, vup_ne _ _ h2, vup_ne _ _ h1]) (fun k hk => by rw [a2 34 (by decide)]; simp [vup_rd, hk]) (fun k hk => by rw [a2 35 (by decide)]; simp [vup_rd, hk]) (fun k hk => by rw [a3 k, if_neg (by omega)]; simp [vup_rd]) ⟨(fun w => nomatch w), fun f' z' it' w => ?_⟩
              cases w
              refine ⟨by rw [a2 34 (by decide)]; simp [vup_rd], by rw [a2 35 (by decide)]; simp [vup_rd], fun i hi => by rw [a3 _, if_pos (by omega)]⟩
          · obtain ⟨σ', a1, a2, a3⟩ := m_sheetL hs (nI n) 60 200 0 (vup (vup (vup σ 31 s 1) 32 s (nI f)) 33 s (nI n)) (by omega) (by omega)
            refine ⟨σ', ?_, ?_⟩
            · unfold fX8_sheet
              rw [m_isSheet, q]
              simp only [Option.bind, b2_0, Bool.true_eq_false, ↓reduceIte]
              rw [m_in2, p]
              unfold fX8_sheet_42 fX8_sheet_49 fX8_sheet_56
              simp only [b2_0, Bool.true_eq_false, ↓reduceIte, r, z0, nI_clamp (show s < 2 ^ 31 by omega), ixF hs (by decide)]
              exact a1
            · refine h.sheet1 hA (fun a h0 h1 h2 h3 h4 _ => by rw [a2 a h4, vup_ne _ _ h3, vup_ne _ _ h2, vup_ne _ _ h1]) (fun k => by rw [a2 0 (by decide)]; simp [vup_rd]) (fun k hk => by rw [a2 31 (by decide)]; simp [vup_rd, hk]) (fun k hk => by rw [a2 32 (by decide)]; simp [vup_rd, hk]) (fun k hk => by rw [a2 33 (by decide)]; simp [vup_rd, hk]) (fun k hk => by rw [a3 k, if_neg (by omega)]; simp [vup_rd]) ⟨(fun w => nomatch w), fun f' z' it' w => ?_⟩
              cases w
              refine ⟨by rw [a2 31 (by decide)]; simp [vup_rd], by rw [a2 32 (by decide)]; simp [vup_rd], by rw [a2 33 (by decide)]; simp [vup_rd], fun i hi => by rw [a3 _, if_pos (by omega)]⟩
        · refine ⟨-15, aF A 5, hA, fun σ h => ?_, fun σ h => ?_⟩
          · obtain ⟨σ', a1, a2⟩ := c_found 5 σ h
            refine ⟨σ', ?_, a2⟩
            unfold fX7_sheet
            rw [c_isSheet, q]
            simp only [Option.bind, b2_0, Bool.true_eq_false, ↓reduceIte]
            rw [c_isForm, p]
            simp only [b2_0, Bool.true_eq_false, ↓reduceIte, r, z0, a1]
            rfl
          · obtain ⟨σ', a1, a2⟩ := m_meets 5 σ h
            refine ⟨σ', ?_, a2⟩
            unfold fX8_sheet
            rw [m_isSheet, q]
            simp only [Option.bind, b2_0, Bool.true_eq_false, ↓reduceIte]
            rw [m_in2, p]
            simp only [b2_0, Bool.true_eq_false, ↓reduceIte, r, z0, a1]
            rfl
      · refine ⟨-2, A, hA, fun σ h => ⟨σ, ?_, h⟩, fun σ h => ⟨σ, ?_, h⟩⟩
        · unfold fX7_sheet
          rw [c_isSheet, q]
          simp only [Option.bind, b2_0, Bool.true_eq_false, ↓reduceIte]
          rw [c_isForm, p]
          simp only [b2_0, Bool.true_eq_false, ↓reduceIte, r]
          rfl
        · unfold fX8_sheet
          rw [m_isSheet, q]
          simp only [Option.bind, b2_0, Bool.true_eq_false, ↓reduceIte]
          rw [m_in2, p]
          simp only [b2_0, Bool.true_eq_false, ↓reduceIte, r]
          rfl
    · have p := inR_F p
      refine ⟨-2, A, hA, fun σ h => ⟨σ, ?_, h⟩, fun σ h => ⟨σ, ?_, h⟩⟩
      · unfold fX7_sheet
        rw [c_isSheet, q]
        simp only [Option.bind, b2_0, Bool.true_eq_false, ↓reduceIte]
        rw [c_isForm, p]
        rfl
      · unfold fX8_sheet
        rw [m_isSheet, q]
        simp only [Option.bind, b2_0, Bool.true_eq_false, ↓reduceIte]
        rw [m_in2, p]
        rfl
  · have q := inR_F q
    refine ⟨-2, A, hA, fun σ h => ⟨σ, ?_, h⟩, fun σ h => ⟨σ, ?_, h⟩⟩
    · unfold fX7_sheet
      rw [c_isSheet, q]
      rfl
    · unfold fX8_sheet
      rw [m_isSheet, q]
      rfl
/-- the finding in the way of an item -/
def wrongR (A : vA) (s f : Nat) (x : Int32) : Int32 := match asy A s with
  | none => 1
  | some (g, z, _) => if g = f then (if inR z x = true then 0 else 2) else 3
theorem c_has1 {σ : vMem} {s z : Nat} (hs : s < 4) (hz : z ≤ 60) (h : σ.1 35 s = nI z) (x : Int32) : fX2_hasItems (nI s) x 1 σ = some (b2 (inR z x), σ) := by
  unfold fX2_hasItems fX2_hasItems_34 fX2_hasItems_35
  simp only [nI_clamp (show s < 2 ^ 31 by omega), ixF hs (by decide), ↓reduceIte, h]
  rw [if_neg (show ¬ (1 : Int32) < 0 by decide)]
  by_cases q : inR z x = true
  · obtain ⟨k, hk, rfl⟩ := inR_ex (by omega) q
    rw [q]
    have l1 : ¬ nI z < 1 := fun w => by have := (nI_ltI (b := 1) (by omega) (by decide)).mp w; omega
    have l2 : ¬ nI z - 1 < nI k := fun w => by
      rw [show nI z - 1 = nI (z - 1) from pk_sub (b := 1) (by omega)] at w
      have := (nI_ltI (by omega) (by omega)).mp w
      omega
    simp only [nI_lt0 (show k < 2 ^ 31 by omega), l1, l2, ↓reduceIte]
    rfl
  · have q := inR_F q
    rw [q]
    rcases inR_F2 q with q1 | ⟨q1, q2⟩
    · simp only [q1, ↓reduceIte]; rfl
    · simp only [q1, ↓reduceIte]
      obtain ⟨k, hk, rfl⟩ := nI_of q1
      have q2 := (nI_leI (by omega) hk).mp q2
      by_cases l1 : nI z < 1
      · simp only [l1, ↓reduceIte]; rfl
      · have z1 : ¬ z < 1 := fun w => l1 ((nI_ltI (b := 1) (by omega) (by decide)).mpr w)
        have l2 : nI z - 1 < nI k := by
          rw [show nI z - 1 = nI (z - 1) from pk_sub (b := 1) (by omega)]
          exact (nI_ltI (by omega) hk).mpr (by omega)
        simp only [l1, l2, ↓reduceIte]; rfl
theorem c_wrong {A : vA} (hA : WA A) {σ : vMem} (h : RC A σ) {s f : Nat} (hs : s < 4) (hf : f < 3) (x : Int32) : fX2_wrongWith (nI s) (nI f) x σ = some (wrongR A s f x, σ) := by
  unfold fX2_wrongWith fX2_wrongWith_37 wrongR
  rw [c_isLost hA h hs]
  have e := h.sh hs
  rcases w : asy A s with _ | ⟨g, z, it⟩
  · rfl
  · rw [w] at e
    obtain ⟨g2, z60⟩ := hA.2.2.2.2.2.2 s hs g z it w
    obtain ⟨e1, e2, e3⟩ := e.2 g z it rfl
    simp only [Option.bind, Option.isNone_some, b2_0, ↓reduceIte, nI_clamp (show s < 2 ^ 31 by omega), ixF hs (by decide), e1]
    by_cases q : g = f
    · subst q
      rw [if_pos rfl, if_pos rfl, c_has1 hs z60 e2]
      by_cases p : inR z x = true
      · rw [p]; rfl
      · rw [inR_F p]; rfl
    · rw [if_neg (fun w => q ((nI_eq (by omega) (by omega)).mp w)), if_neg q]
theorem m_lacks {A : vA} (hA : WA A) {σ : vMem} (h : RM A σ) {s f : Nat} (hs : s < 4) (hf : f < 3) (x : Int32) : fX8_lacks (nI s) (nI f) x σ = some (wrongR A s f x, σ) := by
  unfold fX8_lacks fX8_lacks_48 wrongR
  have e := h.sh hs
  simp only [nI_clamp (show s < 2 ^ 31 by omega), ixF hs (by decide), ↓reduceIte, m_lost h hs]
  rcases w : asy A s with _ | ⟨g, z, it⟩
  · rfl
  · rw [w] at e
    obtain ⟨g2, z60⟩ := hA.2.2.2.2.2.2 s hs g z it w
    obtain ⟨e0, e1, e2, e3⟩ := e.2 g z it rfl
    simp only [Option.isNone_some, Bool.false_eq_true, ↓reduceIte, e1, e2]
    by_cases q : g = f
    · subst q
      rw [if_pos rfl, if_pos rfl, m_inR (by omega)]
      by_cases p : inR z x = true
      · rw [p]; rfl
      · rw [inR_F p]; rfl
    · rw [if_neg (fun w => q ((nI_eq (by omega) (by omega)).mp w)), if_neg q]
/-- what a form keeps of a number -/
def kept (f : Nat) (v : Int32) : Int32 := if f = 0 then v.toInt8.toInt32 else if f = 1 then v.toInt16.toInt32 else v
theorem c_store {σ : vMem} {s f i : Nat} (hs : s < 4) (hf : f ≤ 2) (hi : i < 60) (e : σ.1 34 s = nI f) (v : Int32) : fX2_store (nI s) (nI i) v σ = some (vup σ 36 (60 * s + i) (kept f v)) := by
  unfold fX2_store fX2_store_30 kept
  have e2 : nI s * 60 + nI i = nI (60 * s + i) := by rw [show (60 : Int32) = nI 60 from rfl, pk_mul, nI_add, Nat.mul_comm]
  simp only [nI_clamp (show s < 2 ^ 31 by omega), ixF hs (by decide), ↓reduceIte, e, e2, nI_clamp (show 60 * s + i < 2 ^ 31 by omega), ixF (show 60 * s + i < 240 by omega) (by decide)]
  rcases (show f = 0 ∨ f = 1 ∨ f = 2 by omega) with rfl | rfl | rfl <;> rfl
theorem m_keep {σ : vMem} {s f i : Nat} (hs : s < 4) (hf : f ≤ 2) (hi : i < 60) (e : σ.1 32 s = nI f) (v : Int32) : fX8_keep (nI s) (nI i) v σ = some (vup σ 34 (60 * s + i) (kept f v)) := by
  unfold fX8_keep fX8_keep_40 kept
  have e2 : 60 * nI s + nI i = nI (60 * s + i) := by rw [show (60 : Int32) = nI 60 from rfl, pk_mul, nI_add]
  simp only [nI_clamp (show s < 2 ^ 31 by omega), ixF hs (by decide), ↓reduceIte, e, e2, nI_clamp (show 60 * s + i < 2 ^ 31 by omega), ixF (show 60 * s + i < 240 by omega) (by decide)]
  rcases (show f = 0 ∨ f = 1 ∨ f = 2 by omega) with rfl | rfl | rfl <;> rfl
theorem q_put {A : vA} (hA : WA A) (x y u v : Int32) : vJ A (fX7_put x y u v) (fX8_put x y u v) := by
  by_cases q : inR 4 x = true
  · obtain ⟨s, hs, rfl⟩ := inR_ex (by omega) q
    by_cases p : inR 3 y = true
    · obtain ⟨f, hf, rfl⟩ := inR_ex (by omega) p
      by_cases r : wrongR A s f u = 0
      · rcases w : asy A s with _ | ⟨g, z, it⟩
        · unfold wrongR at r; rw [w] at r; exact absurd r (show ¬ (1 : Int32) = 0 by decide)
        · obtain ⟨g2, z60⟩ := hA.2.2.2.2.2.2 s hs g z it w
          have r2 := r
          unfold wrongR at r2
          rw [w] at r2
          have gf : g = f := by
            by_cases t : g = f
            · exact t
            · simp only [t, ↓reduceIte] at r2; exact absurd r2 (by decide)
          have iu : inR z u = true := by
            by_cases t : inR z u = true
            · exact t
            · simp only [gf, t, ↓reduceIte] at r2; exact absurd r2 (by decide)
          obtain ⟨i, hi, rfl⟩ := inR_ex (by omega) iu
          subst gf
          refine ⟨1, aY A (va_up (asy A) s (some (g, z, va_up it i (kept g v)))), hA.sheets (fun _ _ _ w => by cases w; exact ⟨g2, z60⟩), fun σ h => ⟨vup σ 36 (60 * s + i) (kept g v), ?_, ?_⟩, fun σ h => ⟨vup σ 34 (60 * s + i) (kept g v), ?_, ?_⟩⟩
          · have e := h.sh hs
            rw [w] at e
            unfold fX7_put
            rw [c_isSheet, q]
            simp only [Option.bind, b2_0, Bool.true_eq_false, ↓reduceIte]
            rw [c_isForm, p]
            simp only [b2_0, Bool.true_eq_false, ↓reduceIte]
            rw [c_wrong hA h hs hf, r]
            simp only [↓reduceIte]
            rw [c_store hs g2 (by omega) (e.2 g z it rfl).1]
          · have e := h.sh hs
            rw [w] at e
            obtain ⟨e1, e2, e3⟩ := e.2 g z it rfl
            refine h.sheet1 hA (fun a _ _ h3 => vup_ne _ _ h3) (fun k _ => by simp [vup_rd]) (fun k _ => by simp [vup_rd]) (fun k hk => by simp only [vup_rd, ↓reduceIte]; rw [if_neg (by omega)]) ⟨(fun w => nomatch w), fun f' z' it' w => ?_⟩
            cases w
            refine ⟨by simp only [vup_rd, Nat.reduceEqDiff, ↓reduceIte]; exact e1, by simp only [vup_rd, Nat.reduceEqDiff, ↓reduceIte]; exact e2, fun j hj => ?_⟩
            simp only [vup_rd, ↓reduceIte]
            unfold va_up
            by_cases t : j = i
            · rw [if_pos (by omega), if_pos t]
            · rw [if_neg (by omega), if_neg t]; exact e3 j hj
          · have e := h.sh hs
            rw [w] at e
            unfold fX8_put
            rw [m_isSheet, q]
            simp only [Option.bind, b2_0, Bool.true_eq_false, ↓reduceIte]
            rw [m_in2, p]
            simp only [b2_0, Bool.true_eq_false, ↓reduceIte]
            rw [m_lacks hA h hs hf, r]
            simp only [Int32.le_refl, ↓reduceIte]
            rw [m_keep hs g2 (by omega) (e.2 g z it rfl).2.1]
          · have e := h.sh hs
            rw [w] at e
            obtain ⟨e0, e1, e2, e3⟩ := e.2 g z it rfl
            refine h.sheet1 hA (fun a _ _ _ _ h3 _ => vup_ne _ _ h3) (fun k => by simp [vup_rd]) (fun k _ => by simp [vup_rd]) (fun k _ => by simp [vup_rd]) (fun k _ => by simp [vup_rd]) (fun k hk => by simp only [vup_rd, ↓reduceIte]; rw [if_neg (by omega)]) ⟨(fun w => nomatch w), fun f' z' it' w => ?_⟩
            cases w
            refine ⟨by simp only [vup_rd, Nat.reduceEqDiff, ↓reduceIte]; exact e0, by simp only [vup_rd, Nat.reduceEqDiff, ↓reduceIte]; exact e1, by simp only [vup_rd, Nat.reduceEqDiff, ↓reduceIte]; exact e2, fun j hj => ?_⟩
            simp only [vup_rd, ↓reduceIte]
            unfold va_up
            by_cases t : j = i
            · rw [if_pos (by omega), if_pos t]
            · rw [if_neg (by omega), if_neg t]; exact e3 j hj
      · refine ⟨-10 - wrongR A s f u, aF A (wrongR A s f u), hA, fun σ h => ?_, fun σ h => ?_⟩
        · obtain ⟨σ', a1, a2⟩ := c_found (wrongR A s f u) σ h
          refine ⟨σ', ?_, a2⟩
          unfold fX7_put
          rw [c_isSheet, q]
          simp only [Option.bind, b2_0, Bool.true_eq_false, ↓reduceIte]
          rw [c_isForm, p]
          simp only [b2_0, Bool.true_eq_false, ↓reduceIte]
          rw [c_wrong hA h hs hf]
          simp only [r, ↓reduceIte, a1]
        · obtain ⟨σ', a1, a2⟩ := m_meets (wrongR A s f u) σ h
          refine ⟨σ', ?_, a2⟩
          have nl : ¬ wrongR A s f u ≤ 0 := by
            unfold wrongR at r ⊢
            rcases w : asy A s with _ | ⟨g, z, it⟩
            · exact (show ¬ (1 : Int32) ≤ 0 by decide)
            · rw [w] at r
              simp only at r ⊢
              by_cases t : g = f
              · by_cases t2 : inR z u = true
                · simp only [t, t2, ↓reduceIte] at r; exact absurd trivial r
                · simp only [t, t2, ↓reduceIte]; decide
              · simp only [t, ↓reduceIte]; decide
          unfold fX8_put
          rw [m_isSheet, q]
          simp only [Option.bind, b2_0, Bool.true_eq_false, ↓reduceIte]
          rw [m_in2, p]
          simp only [b2_0, Bool.true_eq_false, ↓reduceIte]
          rw [m_lacks hA h hs hf]
          simp only [nl, ↓reduceIte, a1]
    · have p := inR_F p
      refine ⟨-2, A, hA, fun σ h => ⟨σ, ?_, h⟩, fun σ h => ⟨σ, ?_, h⟩⟩
      · unfold fX7_put
        rw [c_isSheet, q]
        simp only [Option.bind, b2_0, Bool.true_eq_false, ↓reduceIte]
        rw [c_isForm, p]
        rfl
      · unfold fX8_put
        rw [m_isSheet, q]
        simp only [Option.bind, b2_0, Bool.true_eq_false, ↓reduceIte]
        rw [m_in2, p]
        rfl
  · have q := inR_F q
    refine ⟨-2, A, hA, fun σ h => ⟨σ, ?_, h⟩, fun σ h => ⟨σ, ?_, h⟩⟩
    · unfold fX7_put
      rw [c_isSheet, q]
      rfl
    · unfold fX8_put
      rw [m_isSheet, q]
      rfl
theorem q_get {A : vA} (hA : WA A) (x y u : Int32) : vJ A (fX7_get x y u) (fX8_get x y u) := by
  by_cases q : inR 4 x = true
  · obtain ⟨s, hs, rfl⟩ := inR_ex (by omega) q
    by_cases p : inR 3 y = true
    · obtain ⟨f, hf, rfl⟩ := inR_ex (by omega) p
      by_cases r : wrongR A s f u = 0
      · rcases w : asy A s with _ | ⟨g, z, it⟩
        · unfold wrongR at r; rw [w] at r; exact absurd r (show ¬ (1 : Int32) = 0 by decide)
        · obtain ⟨g2, z60⟩ := hA.2.2.2.2.2.2 s hs g z it w
          have r2 := r
          unfold wrongR at r2
          rw [w] at r2
          have gf : g = f := by
            by_cases t : g = f
            · exact t
            · simp only [t, ↓reduceIte] at r2; exact absurd r2 (by decide)
          have iu : inR z u = true := by
            by_cases t : inR z u = true
            · exact t
            · simp only [gf, t, ↓reduceIte] at r2; exact absurd r2 (by decide)
          obtain ⟨i, hi, rfl⟩ := inR_ex (by omega) iu
          subst gf
          refine ⟨it i, A, hA, fun σ h => ⟨σ, ?_, h⟩, fun σ h => ⟨σ, ?_, h⟩⟩
          · have e := h.sh hs
            rw [w] at e
            unfold fX7_get
            rw [c_isSheet, q]
            simp only [Option.bind, b2_0, Bool.true_eq_false, ↓reduceIte]
            rw [c_isForm, p]
            simp only [b2_0, Bool.true_eq_false, ↓reduceIte]
            rw [c_wrong hA h hs hf, r]
            have e2 : nI s * 60 + nI i = nI (60 * s + i) := by rw [show (60 : Int32) = nI 60 from rfl, pk_mul, nI_add, Nat.mul_comm]
            unfold fX2_item
            simp only [↓reduceIte, e2, nI_clamp (show 60 * s + i < 2 ^ 31 by omega), ixF (show 60 * s + i < 240 by omega) (by decide), (e.2 g z it rfl).2.2 i hi]
          · have e := h.sh hs
            rw [w] at e
            unfold fX8_get
            rw [m_isSheet, q]
            simp only [Option.bind, b2_0, Bool.true_eq_false, ↓reduceIte]
            rw [m_in2, p]
            simp only [b2_0, Bool.true_eq_false, ↓reduceIte]
            rw [m_lacks hA h hs hf, r]
            have e2 : 60 * nI s + nI i = nI (60 * s + i) := by rw [show (60 : Int32) = nI 60 from rfl, pk_mul, nI_add]
            simp only [Int32.le_refl, ↓reduceIte, e2, nI_clamp (show 60 * s + i < 2 ^ 31 by omega), ixF (show 60 * s + i < 240 by omega) (by decide), (e.2 g z it rfl).2.2.2 i hi]
      · refine ⟨-2147483648, aF A (wrongR A s f u), hA, fun σ h => ?_, fun σ h => ?_⟩
        · obtain ⟨σ', a1, a2⟩ := c_found (wrongR A s f u) σ h
          refine ⟨σ', ?_, a2⟩
          unfold fX7_get
          rw [c_isSheet, q]
          simp only [Option.bind, b2_0, Bool.true_eq_false, ↓reduceIte]
          rw [c_isForm, p]
          simp only [b2_0, Bool.true_eq_false, ↓reduceIte]
          rw [c_wrong hA h hs hf]
          simp only [r, ↓reduceIte, a1]
        · obtain ⟨σ', a1, a2⟩ := m_meets (wrongR A s f u) σ h
          have nl : ¬ wrongR A s f u ≤ 0 := by
            unfold wrongR at r ⊢
            rcases w : asy A s with _ | ⟨g, z, it⟩
            · exact (show ¬ (1 : Int32) ≤ 0 by decide)
            · rw [w] at r
              simp only at r ⊢
              by_cases t : g = f
              · by_cases t2 : inR z u = true
                · simp only [t, t2, ↓reduceIte] at r; exact absurd trivial r
                · simp only [t, t2, ↓reduceIte]; decide
              · simp only [t, ↓reduceIte]; decide
          refine ⟨vup σ 0 47 (wrongR A s f u), ?_, h.finding (fun a ha => vup_ne _ _ ha) (fun k hk => by simp [vup_rd, hk]) (by simp [vup_rd])⟩
          unfold fX8_get fX8_get_40
          rw [m_isSheet, q]
          simp only [Option.bind, b2_0, Bool.true_eq_false, ↓reduceIte]
          rw [m_in2, p]
          simp only [b2_0, Bool.true_eq_false, ↓reduceIte]
          rw [m_lacks hA h hs hf]
          simp only [nl, ↓reduceIte]
    · have p := inR_F p
      refine ⟨-2147483648, A, hA, fun σ h => ⟨σ, ?_, h⟩, fun σ h => ⟨σ, ?_, h⟩⟩
      · unfold fX7_get
        rw [c_isSheet, q]
        simp only [Option.bind, b2_0, Bool.true_eq_false, ↓reduceIte]
        rw [c_isForm, p]
        rfl
      · unfold fX8_get
        rw [m_isSheet, q]
        simp only [Option.bind, b2_0, Bool.true_eq_false, ↓reduceIte]
        rw [m_in2, p]
        rfl
  · have q := inR_F q
    refine ⟨-2147483648, A, hA, fun σ h => ⟨σ, ?_, h⟩, fun σ h => ⟨σ, ?_, h⟩⟩
    · unfold fX7_get
      rw [c_isSheet, q]
      rfl
    · unfold fX8_get
      rw [m_isSheet, q]
      rfl
