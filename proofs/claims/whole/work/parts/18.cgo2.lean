theorem vcp_rd (σ : vMem) (a0 a1 sp dp n a j : Nat) : (vcp σ a0 a1 sp dp n).1 a j = if a = a1 then (if dp ≤ j ∧ j < dp + n then σ.1 a0 (sp + (j - dp)) else σ.1 a1 j) else σ.1 a j := by
  unfold vcp va_cpy
  by_cases h : a = a1 <;> simp [h]
theorem vcp_ne (σ : vMem) {a0 a1 sp dp n a : Nat} (h : a ≠ a1) : (vcp σ a0 a1 sp dp n).1 a = σ.1 a := by simp [vcp, h]
theorem Fr13.cp {σ τ : vMem} (h : Fr13 σ τ) {a0 a1 sp dp n : Nat} (h1 : 13 ≤ a1) (h2 : a1 ≤ 24) : Fr13 σ (vcp τ a0 a1 sp dp n) := ⟨fun a ha => by
  rw [vcp_ne _ (by omega)]
  exact h.1 a ha, h.2⟩
def bitAt (x : Int64) (h : Nat) : Bool := decide (lg_cmp ((x >>> ((nI h).toInt64 &&& 63)) &&& 1) 1 = 0)
/-- baskets below b stand at their beginning -/
def B1 (σ0 : vMem) (P : vP) (b : Nat) (σ : vMem) : Prop := Fr13 σ0 σ ∧ σ.1 13 = σ0.1 13 ∧ ∀ c, c < b → σ.1 14 c = -1 ∧ σ.1 15 c = nI (plo P c) ∧ σ.1 16 c = 0 ∧ σ.1 17 c = -1 ∧ σ.1 18 c = 0 ∧ σ.1 20 c = 0 ∧ σ.1 21 c = nI (ple P c) ∧ ∀ i, i < ple P c → σ.1 19 (21 * c + i) = pte P c i
/-- floors below f too -/
def B2 (σ0 : vMem) (P : vP) (f : Nat) (σ : vMem) : Prop := Fr13 σ0 σ ∧ (σ.1 13 1 = σ0.1 13 1 ∧ σ.1 13 2 = σ0.1 13 2 ∧ σ.1 13 14 = nI (pnb P)) ∧ (∀ c, c < pnb P → σ.1 14 c = -1 ∧ σ.1 15 c = nI (plo P c) ∧ σ.1 16 c = 0 ∧ σ.1 17 c = -1 ∧ σ.1 18 c = 0 ∧ σ.1 20 c = 0 ∧ σ.1 21 c = nI (ple P c) ∧ ∀ i, i < ple P c → σ.1 19 (21 * c + i) = pte P c i) ∧ ∀ c, c < f → σ.1 22 c = -1 ∧ σ.1 23 c = 0 ∧ σ.1 24 c = 0
section CY
variable {σ0 : vMem} {P : vP}
theorem c_beg2 (hP : WP P) (hD : DC P σ0) {w y : Bool} (hw : σ0.1 13 1 = b2 w) (hy : σ0.1 13 2 = b2 y) : ∀ (k n f : Nat) (σ : vMem), f + k = pnf P → k < n → B2 σ0 P f σ → ∃ σ', LfX6_begin_119 n (nI f) σ = some σ' ∧ CS σ0 P w y (fun _ => false) (tT0 P) σ' ∧ (∀ c, c < pnb P → σ'.1 16 c = 0) := by
  intro k
  induction k with
  | zero =>
    intro n f σ hfk hn hB
    obtain ⟨n, rfl⟩ : ∃ j, n = j + 1 := ⟨n - 1, by omega⟩
    obtain ⟨fr, ⟨g1, g2, g3⟩, hb, hf⟩ := hB
    have hfe : f = pnf P := by omega
    subst hfe
    have e50 := (fr.dc hD).1.1
    refine ⟨vup (vup (vup σ 13 15 0) 13 16 (-1)) 13 17 (-1), ?_, ⟨⟨hD, ((fr.up (by decide) (by decide)).up (by decide) (by decide)).up (by decide) (by decide)⟩, ⟨?_, ?_⟩, fun c hc => ?_, fun c hc => ?_, fun c hc => ?_, fun c hc => ?_, fun c hc => ?_, fun c hc => ?_, fun c hc i hi => ?_, fun c hc => ?_, fun c hc => ?_, fun c hc => ?_, ?_, ?_, ?_, ?_⟩, fun c hc => ?_⟩
    · show fX6_begin_119 _ _ _ = _
      unfold fX6_begin_119
      rw [e50, if_pos (Int32.le_refl _)]
      rfl
    all_goals simp only [vup_rd, Nat.reduceEqDiff, ↓reduceIte]
    · rw [g1, hw]
    · rw [g2, hy]
    · exact (hb c hc).1
    · exact (hb c hc).2.1
    · exact (hb c hc).2.2.2.1
    · exact (hb c hc).2.2.2.2.1
    · exact (hb c hc).2.2.2.2.2.1
    · rw [(hb c hc).2.2.2.2.2.2.1]
      show _ = nI (0 + ple P c)
      rw [Nat.zero_add]
    · exact (hb c hc).2.2.2.2.2.2.2 i hi
    · exact (hf c hc).1
    · exact (hf c hc).2.1
    · exact (hf c hc).2.2
    · exact g3
    · exact (hb c hc).2.2.1
  | succ k ih =>
    intro n f σ hfk hn hB
    obtain ⟨n, rfl⟩ : ∃ j, n = j + 1 := ⟨n - 1, by omega⟩
    obtain ⟨fr, ⟨g1, g2, g3⟩, hb, hf⟩ := hB
    have h9 := hP.1
    have hf9 : f < 9 := by omega
    have e50 := (fr.dc hD).1.1
    have hcf : (nI f).toNatClampNeg = f := nI_clamp (by omega)
    have hxf := ixF hf9 (by decide)
    have hnf : (nI (pnf P) ≤ nI f) = False := eq_false (fun q => by have := (nI_leI (by omega) (by omega)).mp q; omega)
    have hB' : B2 σ0 P (f + 1) (vup (vup (vup σ 22 f (-1)) 23 f 0) 24 f 0) := by
      refine ⟨((fr.up (by decide) (by decide)).up (by decide) (by decide)).up (by decide) (by decide), ⟨?_, ?_, ?_⟩, fun c hc => ?_, fun c hc => ?_⟩
      all_goals simp only [vup_rd, Nat.reduceEqDiff, ↓reduceIte]
      · exact g1
      · exact g2
      · exact g3
      · exact hb c hc
      · by_cases e : c = f
        · subst e; simp
        · simp only [e, ↓reduceIte]
          exact hf c (by omega)
    obtain ⟨σ', a1, a2, a3⟩ := ih n (f + 1) _ (by omega) (by omega) hB'
    refine ⟨σ', ?_, a2, a3⟩
    show fX6_begin_119 _ _ _ = _
    simp only [fX6_begin_119, fX6_begin_137, fX6_begin_144, fX6_begin_151, e50, hcf, hxf, hnf, ↓reduceIte]
    rw [nI_1]
    exact a1
theorem c_beg1 (hP : WP P) (hD : DC P σ0) {w y : Bool} (hw : σ0.1 13 1 = b2 w) (hy : σ0.1 13 2 = b2 y) : ∀ (k n b : Nat) (σ : vMem), b + k = pnb P → k < n → B1 σ0 P b σ → ∃ σ', LfX6_begin_2 n (nI b) σ = some σ' ∧ CS σ0 P w y (fun _ => false) (tT0 P) σ' ∧ (∀ c, c < pnb P → σ'.1 16 c = 0) := by
  intro k
  induction k with
  | zero =>
    intro n b σ hbk hn hB
    obtain ⟨n, rfl⟩ : ∃ j, n = j + 1 := ⟨n - 1, by omega⟩
    obtain ⟨fr, g, hb⟩ := hB
    have hbe : b = pnb P := by omega
    subst hbe
    have h9 := hP.1
    have e55 := (fr.dc hD).1.2.1
    have e50 : (vup σ 13 14 (nI (pnb P))).1 5 0 = nI (pnf P) := ((fr.up (by decide) (by decide)).dc hD).1.1
    have hB' : B2 σ0 P 0 (vup σ 13 14 (nI (pnb P))) := by
      refine ⟨fr.up (by decide) (by decide), ⟨?_, ?_, ?_⟩, fun c hc => ?_, fun c hc => by omega⟩
      all_goals simp only [vup_rd, Nat.reduceEqDiff, ↓reduceIte]
      · rw [g]
      · rw [g]
      · exact hb c hc
    obtain ⟨σ', a1, a2, a3⟩ := c_beg2 hP hD hw hy (pnf P) 200 0 _ (by omega) (by omega) hB'
    refine ⟨σ', ?_, a2, a3⟩
    show fX6_begin_2 _ _ _ = _
    unfold fX6_begin_2
    rw [e55, if_pos (Int32.le_refl _)]
    exact a1
  | succ k ih =>
    intro n b σ hbk hn hB
    obtain ⟨n, rfl⟩ : ∃ j, n = j + 1 := ⟨n - 1, by omega⟩
    obtain ⟨fr, g, hb⟩ := hB
    have h8 := hP.2.1
    have hb8 : b < 8 := by omega
    have hbn : b < pnb P := by omega
    have hcb : (nI b).toNatClampNeg = b := nI_clamp (by omega)
    have hxb := ixF hb8 (by decide)
    have e55 := (fr.dc hD).1.2.1
    obtain ⟨e9, e10, e11, e12⟩ := (fr.dc hD).2.2 b hbn
    have hle := hP.2.2.2.1 b hbn
    have hnb : (nI (pnb P) ≤ nI b) = False := eq_false (fun q => by have := (nI_leI (by omega) (by omega)).mp q; omega)
    have i3 : nI b * 3 = nI (3 * b) := by rw [show (3 : Int32) = nI 3 from rfl, pk_mul, Nat.mul_comm]
    have i21 : nI b * 21 = nI (21 * b) := by rw [show (21 : Int32) = nI 21 from rfl, pk_mul, Nat.mul_comm]
    have c3 : (nI (3 * b)).toNatClampNeg = 3 * b := nI_clamp (by omega)
    have c21 : (nI (21 * b)).toNatClampNeg = 21 * b := nI_clamp (by omega)
    have k3 : (3 : Int32).toNatClampNeg = 3 := by decide
    have x3 : (nI (3 * b) < 0 ∨ nI (21 * b) < 0 ∨ (3 : Int32) < 0 ∨ 24 < 3 * b + 3 ∨ 168 < 21 * b + 3) = False := by
      simp only [nI_lt0 (show 3 * b < 2 ^ 31 by omega), nI_lt0 (show 21 * b < 2 ^ 31 by omega), eq_iff_iff, iff_false, false_or]
      rintro (q | q | q)
      · exact absurd q (by decide)
      · omega
      · omega
    have hB' : B1 σ0 P (b + 1) (vcp (vup (vup (vup (vup (vup (vup (vup σ 14 b (-1)) 15 b (nI (plo P b))) 16 b 0) 17 b (-1)) 18 b 0) 20 b 0) 21 b (nI (ple P b))) 12 19 (3 * b) (21 * b) 3) := by
      refine ⟨?_, ?_, fun c hc => ?_⟩
      · exact (((((((fr.up (by decide) (by decide)).up (by decide) (by decide)).up (by decide) (by decide)).up (by decide) (by decide)).up (by decide) (by decide)).up (by decide) (by decide)).up (by decide) (by decide)).cp (by decide) (by decide)
      · rw [vcp_ne _ (by decide), vup_ne _ _ (by decide), vup_ne _ _ (by decide), vup_ne _ _ (by decide), vup_ne _ _ (by decide), vup_ne _ _ (by decide), vup_ne _ _ (by decide), vup_ne _ _ (by decide)]
        exact g
      · simp only [vcp_rd, vup_rd, Nat.reduceEqDiff, ↓reduceIte]
        by_cases e : c = b
        · subst e
          simp only [↓reduceIte, true_and]
          intro i hi
          rw [if_pos (by omega), show 3 * c + (21 * c + i - 21 * c) = 3 * c + i by omega]
          exact e12 i hi
        · simp only [e, ↓reduceIte]
          obtain ⟨b1, b2, b3, b4, b5, b6, b7, b8⟩ := hb c (by omega)
          refine ⟨b1, b2, b3, b4, b5, b6, b7, fun i hi => ?_⟩
          rw [if_neg ?_]
          · exact b8 i hi
          · have := (hP.2.2.2.1 c (by omega)).2.2.2
            omega
    obtain ⟨σ', a1, a2, a3⟩ := ih n (b + 1) _ (by omega) (by omega) hB'
    refine ⟨σ', ?_, a2, a3⟩
    show fX6_begin_2 _ _ _ = _
    simp only [fX6_begin_2, fX6_begin_20, fX6_begin_35, fX6_begin_42, fX6_begin_49, fX6_begin_56, fX6_begin_63, fX6_begin_78, fX6_begin_100, e55, hcb, hxb, hnb, ↓reduceIte, i3, i21, c3, c21, k3, x3, vup_rd, Nat.reduceEqDiff, e10, e11]
    rw [nI_1]
    exact a1
theorem c_begin (hP : WP P) (hD : DC P σ0) {w y : Bool} (hw : σ0.1 13 1 = b2 w) (hy : σ0.1 13 2 = b2 y) : ∃ σ', fX6_begin σ0 = some σ' ∧ CS σ0 P w y (fun _ => false) (tT0 P) σ' ∧ (∀ c, c < pnb P → σ'.1 16 c = 0) := by
  have := hP.2.1
  exact c_beg1 hP hD hw hy (pnb P) 200 0 σ0 (by omega) (by omega) ⟨Fr13.rf _, rfl, fun c hc => by omega⟩
/-- the end of a trip that stops at hour s -/
def CEnd (σ0 : vMem) (P : vP) (s : Nat) (σ : vMem) : Prop := ∃ w y : Bool, CS σ0 P w y (fun c => decide (pho P c ≤ s)) (if s < 40 then tMid P s (tRun P s) else tRun P 40) σ ∧ (s < 40 → ∀ c, c < pnb P → σ.1 16 c = b2 (tThere P s (tMid P s (tRun P s)) c && tTg P s (tMid P s (tRun P s)) c))
theorem c_goL (hP : WP P) {wb sb : Int64} (hw : pwi P = bitAt wb) (hs : psu P = bitAt sb) {s : Nat} (hs40 : s ≤ 40) : ∀ (k n hh : Nat) (σ : vMem) (w y : Bool), hh + k = 40 → k < n → hh ≤ s → CS σ0 P w y (fun c => decide (pho P c < hh)) (tRun P hh) σ → (∀ c, c < pnb P → (pho P c < hh ∧ tpl (tRun P hh) c < pnf P) ∨ σ.1 16 c = 0) →
    ∃ σ', LfX6_go_7 n wb sb (nI s) (nI hh) σ = some σ' ∧ CEnd σ0 P s σ' := by
  intro k
  induction k with
  | zero =>
    intro n hh σ w y hk hn hhs h ht
    obtain ⟨n, rfl⟩ : ∃ j, n = j + 1 := ⟨n - 1, by omega⟩
    have : hh = 40 := by omega
    subst this
    have : s = 40 := by omega
    subst this
    refine ⟨σ, ?_, w, y, ?_, fun q => absurd q (by decide)⟩
    · show fX6_go_7 _ _ _ _ _ _ = _
      unfold fX6_go_7
      rw [if_pos (by decide)]
      rfl
    · rw [if_neg (by decide)]
      refine h.sent (fun c hc => ?_)
      have := (hP.2.2.2.1 c hc).1
      simp [show pho P c ≤ 40 by omega, show pho P c < 40 by omega]
  | succ k ih =>
    intro n hh σ w y hk hn hhs h ht
    obtain ⟨n, rfl⟩ : ∃ j, n = j + 1 := ⟨n - 1, by omega⟩
    have hI := tRun_TI P hP hh (by omega)
    have h8 := hP.2.1
    have enu := h.enu
    have hnu : tnu (tRun P hh) ≤ 8 := by
      rw [hI.2.2.2]
      have : ∀ m (u : Nat → Int32), ctUp m u ≤ m := fun m u => by
        induction m with
        | zero => exact Nat.le_refl _
        | succ m ih => rw [ctUp]; split <;> omega
      exact Nat.le_trans (this _ _) h8
    have h40 : ((40 : Int32) ≤ nI hh) = False := eq_false (fun q => by have := (nI_leI (a := 40) (by decide) (by omega)).mp q; omega)
    show ∃ σ', fX6_go_7 (LfX6_go_7 n) wb sb (nI s) (nI hh) σ = some σ' ∧ _
    unfold fX6_go_7
    simp only [h40, ↓reduceIte, enu, nI_le0 (show tnu (tRun P hh) < 2 ^ 31 by omega)]
    by_cases hz : tnu (tRun P hh) = 0
    · rw [if_pos hz]
      have hz2 := ctUp_zero (pnb P) (hI.2.2.2.symm.trans hz)
      have hu : ∀ c, c < pnb P → pho P c < hh ∧ tpl (tRun P hh) c = pnf P := fun c hc => (hI.2.2.1 c hc).mp (hz2 c hc)
      have hrun : tRun P s = tRun P hh := by
        have := tRun_idle hP hz (s - hh) (by omega)
        rw [show hh + (s - hh) = s by omega] at this
        exact this
      refine ⟨σ, rfl, w, y, ?_, fun q c hc => ?_⟩
      · have e : (if s < 40 then tMid P s (tRun P s) else tRun P 40) = tRun P hh := by
          by_cases q : s < 40
          · rw [if_pos q, (tIdle (tRun_TI P hP s (by omega)) (by rw [hrun]; exact hz)).1, hrun]
          · rw [if_neg q, ← hrun, show s = 40 by omega]
        rw [e]
        refine h.sent (fun c hc => ?_)
        have := (hu c hc).1
        simp [this, show pho P c ≤ s by omega]
      · rw [(tIdle (tRun_TI P hP s (by omega)) (by rw [hrun]; exact hz)).1, hrun]
        have h1 := hu c hc
        have : tThere P s (tRun P hh) c = false := by simp [tThere]; omega
        rw [this]
        rcases ht c hc with q | q
        · omega
        · rw [q]; rfl
    · rw [if_neg hz]
      have h1 := h.wi (w' := pwi P hh)
      have h2 := h1.su (y' := psu P hh)
      have ew : ∀ (a b : Option vMem), (if lg_cmp ((wb >>> ((nI hh).toInt64 &&& 63)) &&& 1) 1 = 0 then a else b) = if pwi P hh = true then a else b := fun a b => by
        rw [hw]
        unfold bitAt
        simp
      have es : ∀ (a b : Option vMem), (if lg_cmp ((sb >>> ((nI hh).toInt64 &&& 63)) &&& 1) 1 = 0 then a else b) = if psu P hh = true then a else b := fun a b => by
        rw [hs]
        unfold bitAt
        simp
      have step : ∃ σ', fX6_go_61 (LfX6_go_7 n) wb sb (nI s) (nI hh) (vup (vup σ 13 1 (b2 (pwi P hh))) 13 2 (b2 (psu P hh))) = some σ' ∧ CEnd σ0 P s σ' := by
        have ht2 : ∀ c, (vup (vup σ 13 1 (b2 (pwi P hh))) 13 2 (b2 (psu P hh))).1 16 c = σ.1 16 c := fun c => by rw [vup_ne _ _ (by decide), vup_ne _ _ (by decide)]
        generalize vup (vup σ 13 1 (b2 (pwi P hh))) 13 2 (b2 (psu P hh)) = τ at h2 ht2
        obtain ⟨σ1, a1, a2, a3⟩ := c_arr hP (by omega) hI h2
        have hA := tArr_TA P hh (tRun P hh) (by omega) hI
        obtain ⟨σ2, c1, c2, c3⟩ := c_serve hP (fun c => rfl) hA.1 a2
        have f1 := (tServe_fix P hh (tArr P hh (pnb P) (tRun P hh)) (pnb P)).1
        have fa := (tArr_fix P hh (tRun P hh) (pnb P)).2.1
        have tg2 : ∀ c, c < pnb P → σ2.1 16 c = b2 (tThere P hh (tMid P hh (tRun P hh)) c && tTg P hh (tMid P hh (tRun P hh)) c) := fun c hc => by
          rw [c3 c]
          unfold tMid
          rw [tThere_pl f1, tTg_pl f1]
          by_cases q : tThere P hh (tArr P hh (pnb P) (tRun P hh)) c = true
          · rw [if_pos ⟨hc, q⟩, q, Bool.true_and]
          · rw [if_neg (fun z => q z.2)]
            rw [Bool.not_eq_true] at q
            rw [q, a3, ht2 c]
            rcases ht c hc with z | z
            · rw [tThere_pl fa] at q
              simp [tThere] at q
              have := q (by omega)
              omega
            · rw [z]; rfl
        unfold fX6_go_61
        rw [a1]
        show ∃ σ', (fX6_serve (nI hh) σ1).bind _ = some σ' ∧ _
        rw [c1]
        show ∃ σ', (if nI hh = nI s then some σ2 else _) = some σ' ∧ _
        simp only [nI_eq (show hh < 2 ^ 31 by omega) (show s < 2 ^ 31 by omega)]
        by_cases hst : hh = s
        · rw [if_pos hst]
          subst hst
          refine ⟨σ2, rfl, pwi P hh, psu P hh, ?_, fun _ => tg2⟩
          rw [if_pos (by omega)]
          exact c2
        · rw [if_neg hst]
          obtain ⟨σ3, d1, d2, d3⟩ := c_climb hP (by omega) (fun c => rfl) hI c2 (fun c hc q => by rw [tg2 c hc, q, Bool.true_and])
          rw [d1]
          show ∃ σ', LfX6_go_7 n wb sb (nI s) (nI hh + 1) σ3 = some σ' ∧ _
          rw [nI_1]
          refine ih n (hh + 1) σ3 _ _ (by omega) (by omega) (by omega) (d2.sent (fun c hc => by simp; omega)) (fun c hc => ?_)
          have hTC := tClimb_TC (by omega) hI (pnb P) (Nat.le_refl _)
          by_cases q : tThere P hh (tMid P hh (tRun P hh)) c = true
          · by_cases q2 : tTg P hh (tMid P hh (tRun P hh)) c = true
            · left
              have q3 : pho P c ≤ hh ∧ tpl (tMid P hh (tRun P hh)) c < pnf P := by simpa [tThere] using q
              refine ⟨by omega, ?_⟩
              have : ∀ m, tpl (tClimb P hh (tTg P hh (tMid P hh (tRun P hh))) m (tMid P hh (tRun P hh))) c = tpl (tMid P hh (tRun P hh)) c := fun m => by
                induction m with
                | zero => rfl
                | succ m ihm =>
                  rw [tClimb]
                  unfold tClimb1
                  split
                  · rename_i z
                    split
                    · exact ihm
                    · rw [(tLeave_fix P hh m _).1]
                      by_cases e : c = m
                      · subst e
                        rw [q2] at z
                        exact absurd z.2 (by decide)
                      · simp only [va_up, e, ↓reduceIte]
                        exact ihm
                  · exact ihm
              show tpl (tClimb P hh _ (pnb P) _) c < _
              rw [this]
              exact q3.2
            · right
              rw [Bool.not_eq_true] at q2
              rw [d3, tg2 c hc, q, q2]
              rfl
          · right
            rw [Bool.not_eq_true] at q
            rw [d3, tg2 c hc, q]
            rfl
      unfold fX6_go_38 fX6_go_41 fX6_go_58
      rw [ew]
      cases hwv : pwi P hh <;> cases hsv : psu P hh <;> simp only [es, hsv, ↓reduceIte, Bool.false_eq_true] <;> rw [hwv, hsv] at step <;> (first | exact step | (simp only [show ¬ ¬ ((0 : Int32) = 0 ∨ (0 : Int32) = 1) by decide, show ¬ ¬ ((1 : Int32) = 0 ∨ (1 : Int32) = 1) by decide, ↓reduceIte]; exact step))
theorem c_go (hP : WP P) (hD : DC P σ0) {w y : Bool} (h1 : σ0.1 13 1 = b2 w) (h2 : σ0.1 13 2 = b2 y) {wb sb : Int64} (hw : pwi P = bitAt wb) (hs : psu P = bitAt sb) {s : Nat} (hs40 : s ≤ 40) : ∃ σ', fX6_go wb sb (nI s) σ0 = some σ' ∧ CEnd σ0 P s σ' := by
  obtain ⟨σ1, a1, a2, a3⟩ := c_begin hP hD h1 h2
  obtain ⟨σ', b1, b2⟩ := c_goL hP hw hs hs40 40 200 0 σ1 w y (by omega) (by omega) (by omega) (a2.sent (fun c _ => by simp)) (fun c hc => Or.inr (a3 c hc))
  refine ⟨σ', ?_, b2⟩
  unfold fX6_go
  rw [a1]
  exact b1
end CY
