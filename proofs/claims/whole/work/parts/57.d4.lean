/-! digest: the reference -/
theorem m_hourDigest {A : vA} (hA : WA A) {σ : vMem} (h : RM A σ) {t b : Nat} (ht : t < 40) (hb : b < nbA A) (x : Int64) : ∃ σ', fX8_hourDigest x (nI t) (nI b) σ = some (dHour A t b x, σ') ∧ RM A σ' := by
  have key : ∀ (k n i : Nat) (τ : vMem), i + k = 4 → k < n → RM A τ → ∃ σ', LfX8_hourDigest_6 n (nI t) (nI b) (iter (fun h y => mx h (rAt A t b y).toInt64) i x) (nI i) τ = some (dHour A t b x, σ') ∧ RM A σ' := by
    intro k
    induction k with
    | zero =>
      intro n i τ hik hn hR
      obtain ⟨n, rfl⟩ : ∃ j, n = j + 1 := ⟨n - 1, by omega⟩
      have : i = 4 := by omega
      subst this
      refine ⟨τ, ?_, hR⟩
      have c5 : (4 : Int32) ≤ nI 4 := by decide
      show fX8_hourDigest_6 _ _ _ _ _ _ = _
      unfold fX8_hourDigest_6 dHour
      rw [if_pos c5]
    | succ k ih =>
      intro n i τ hik hn hR
      obtain ⟨n, rfl⟩ : ∃ j, n = j + 1 := ⟨n - 1, by omega⟩
      have hlt : ¬ (4 : Int32) ≤ nI i := fun z => by have := (nI_leI (a := 4) (by decide) (by omega)).mp z; omega
      obtain ⟨τ1, a1, a2, a3⟩ := m_atOf hA hR ht hb (show i < 4 by omega)
      obtain ⟨σ', b1, b2⟩ := ih n (i + 1) τ1 (by omega) (by omega) a2
      refine ⟨σ', ?_, b2⟩
      show fX8_hourDigest_6 _ _ _ _ _ _ = _
      unfold fX8_hourDigest_6
      rw [if_neg hlt, a1, Option.bind_some, mx_e, nI_1]
      rw [iter_s] at b1
      exact b1
  obtain ⟨σ', a1, a2⟩ := key 4 200 0 σ (by omega) (by omega) h
  rw [iter_0] at a1
  exact ⟨σ', a1, a2⟩
theorem m_plansEnd {A : vA} (hA : WA A) {σ : vMem} (h : RM A σ) {b : Nat} (hb : b < nbA A) (x : Int64) (K : Int32 → Int64 → Int32 → vMem → Option (Int64 × vMem)) : ∃ σ', fX8_basketDigest_96 K (nI b) x (nI 4) σ = some (dPlans A x b, σ') ∧ RM A σ' ∧ MD A σ' := by
  obtain ⟨σ1, a1, a2, a3⟩ := m_sendOf hA h hb 0
  obtain ⟨σ2, b1, b2, b3⟩ := m_sendOf hA a2 hb 1
  obtain ⟨σ3, c1, c2, c3⟩ := m_loafOf hA b2 hb (m := 5) (by omega)
  have c1 : fX8_loafOf (nI b) 5 σ2 = some (rLoaf A b 5, σ3) := c1
  obtain ⟨σ4, d1, d2, d3, d4⟩ := m_feedBy hA c2 hb
  have d5 := m_ofRow (rFed_in A b) d4 (i := 0) (Or.inr (Or.inl rfl))
  obtain ⟨σ5, e1, e2, e3⟩ := m_gustOf hA d2 (c := 5) (m := 3) (by omega) hb (by omega) 0
  obtain ⟨σ6, f1, f2, f3⟩ := m_gustOf hA e2 (c := 5) (m := 3) (by omega) hb (by omega) 1
  have e1 : fX8_gustOf 5 (nI b) 3 0 σ4 = some (rGu A 5 b 3 0, σ5) := e1
  have f1 : fX8_gustOf 5 (nI b) 3 1 σ5 = some (rGu A 5 b 3 1, σ6) := f1
  refine ⟨σ6, ?_, f2, f3⟩
  have c5 : (4 : Int32) ≤ nI 4 := by decide
  unfold fX8_basketDigest_96 dPlans
  rw [if_pos c5, a1, Option.bind_some, b1, Option.bind_some, c1, Option.bind_some, d1, Option.bind_some, d5, Option.bind_some, e1, Option.bind_some, f1, Option.bind_some, mx_e, mx_e, mx_e, mx_e, mx_e, mx_e, mx_e]
theorem m_way96 {A : vA} (hA : WA A) {b : Nat} (hb : b < nbA A) (x2 : Int64) : ∀ (k n i : Nat) (τ : vMem), i + k = 4 → k < n → RM A τ → ∃ σ', LfX8_basketDigest_96 n (nI b) (iter (fun h y => mx h (rNote (TT A) b y).toInt64) i x2) (nI i) τ = some (dPlans A (iter (fun h y => mx h (rNote (TT A) b y).toInt64) 4 x2) b, σ') ∧ RM A σ' ∧ MD A σ' := by
  intro k
  induction k with
  | zero =>
    intro n i τ hik hn hR
    obtain ⟨n, rfl⟩ : ∃ j, n = j + 1 := ⟨n - 1, by omega⟩
    have : i = 4 := by omega
    subst this
    exact m_plansEnd hA hR hb _ (LfX8_basketDigest_96 n)
  | succ k ih =>
    intro n i τ hik hn hR
    obtain ⟨n, rfl⟩ : ∃ j, n = j + 1 := ⟨n - 1, by omega⟩
    have hlt : ¬ (4 : Int32) ≤ nI i := fun z => by have := (nI_leI (a := 4) (by decide) (by omega)).mp z; omega
    obtain ⟨τ1, a1, a2, a3⟩ := m_noteOf hA hR hb (show i < 12 by omega)
    obtain ⟨σ', b1, b2⟩ := ih n (i + 1) τ1 (by omega) (by omega) a2
    refine ⟨σ', ?_, b2⟩
    show fX8_basketDigest_96 _ _ _ _ _ = _
    unfold fX8_basketDigest_96
    rw [if_neg hlt, a1, Option.bind_some, mx_e, nI_1]
    rw [iter_s] at b1
    exact b1
theorem m_wayEnd {A : vA} (hA : WA A) {b : Nat} (hb : b < nbA A) (x1 : Int64) {τ : vMem} (hR : RM A τ) (K : Int32 → Int64 → Int32 → vMem → Option (Int64 × vMem)) : ∃ σ', fX8_basketDigest_6 K (nI b) x1 (nI 6) τ = some (dPlans A (iter (fun h y => mx h (rNote (TT A) b y).toInt64) 4 (mx (dHour A 39 b (dHour A 12 b (dHour A 5 b (dHour A 0 b x1)))) (rComes A b).toInt64)) b, σ') ∧ RM A σ' ∧ MD A σ' := by
  obtain ⟨τ1, a1, a2⟩ := m_hourDigest hA hR (t := 0) (by omega) hb x1
  obtain ⟨τ2, b1, b2⟩ := m_hourDigest hA a2 (t := 5) (by omega) hb (dHour A 0 b x1)
  obtain ⟨τ3, c1, c2⟩ := m_hourDigest hA b2 (t := 12) (by omega) hb (dHour A 5 b (dHour A 0 b x1))
  obtain ⟨τ4, d1, d2⟩ := m_hourDigest hA c2 (t := 39) (by omega) hb (dHour A 12 b (dHour A 5 b (dHour A 0 b x1)))
  obtain ⟨τ5, e1, e2, e3⟩ := m_comesOf hA d2 hb
  obtain ⟨σ', f1, f2⟩ := m_way96 hA hb (mx (dHour A 39 b (dHour A 12 b (dHour A 5 b (dHour A 0 b x1)))) (rComes A b).toInt64) 4 200 0 τ5 (by omega) (by omega) e2
  have a1 : fX8_hourDigest x1 0 (nI b) τ = some (dHour A 0 b x1, τ1) := a1
  have b1 : fX8_hourDigest (dHour A 0 b x1) 5 (nI b) τ1 = some (dHour A 5 b (dHour A 0 b x1), τ2) := b1
  have c1 : fX8_hourDigest (dHour A 5 b (dHour A 0 b x1)) 12 (nI b) τ2 = some (dHour A 12 b (dHour A 5 b (dHour A 0 b x1)), τ3) := c1
  have d1 : fX8_hourDigest (dHour A 12 b (dHour A 5 b (dHour A 0 b x1))) 39 (nI b) τ3 = some (dHour A 39 b (dHour A 12 b (dHour A 5 b (dHour A 0 b x1))), τ4) := d1
  refine ⟨σ', ?_, f2⟩
  have c5 : (6 : Int32) ≤ nI 6 := by decide
  unfold fX8_basketDigest_6
  rw [if_pos c5, a1, Option.bind_some, b1, Option.bind_some, c1, Option.bind_some, d1, Option.bind_some, e1, Option.bind_some, mx_e]
  rw [iter_0] at f1
  exact f1
theorem m_basketDigest {A : vA} (hA : WA A) {σ : vMem} (h : RM A σ) (hD : MD A σ) {b : Nat} (hb : b < nbA A) (x : Int64) : ∃ σ', fX8_basketDigest x (nI b) σ = some (dPlans A (dWay A x b) b, σ') ∧ RM A σ' ∧ MD A σ' := by
  have key : ∀ (k n i : Nat) (τ : vMem), i + k = 6 → k < n → RM A τ → MD A τ → ∃ σ', LfX8_basketDigest_6 n (nI b) (iter (fun h y => mx h (rBasket A b y).toInt64) i x) (nI i) τ = some (dPlans A (dWay A x b) b, σ') ∧ RM A σ' ∧ MD A σ' := by
    intro k
    induction k with
    | zero =>
      intro n i τ hik hn hR _
      obtain ⟨n, rfl⟩ : ∃ j, n = j + 1 := ⟨n - 1, by omega⟩
      have : i = 6 := by omega
      subst this
      unfold dWay
      exact m_wayEnd hA hb _ hR (LfX8_basketDigest_6 n)
    | succ k ih =>
      intro n i τ hik hn hR hM
      obtain ⟨n, rfl⟩ : ∃ j, n = j + 1 := ⟨n - 1, by omega⟩
      have hlt : ¬ (6 : Int32) ≤ nI i := fun z => by have := (nI_leI (a := 6) (by decide) (by omega)).mp z; omega
      have a1 := m_basketOf hA hM hb (show i < 6 by omega)
      obtain ⟨σ', b1, b2⟩ := ih n (i + 1) τ (by omega) (by omega) hR hM
      refine ⟨σ', ?_, b2⟩
      show fX8_basketDigest_6 _ _ _ _ _ = _
      unfold fX8_basketDigest_6
      rw [if_neg hlt, a1, Option.bind_some, mx_e, nI_1]
      rw [iter_s] at b1
      exact b1
  obtain ⟨σ', a1, a2⟩ := key 6 200 0 σ (by omega) (by omega) h hD
  rw [iter_0] at a1
  exact ⟨σ', a1, a2⟩
theorem m_floorEnd {A : vA} (hA : WA A) {σ : vMem} (h : RM A σ) {f : Nat} (hf : f < nfA A) (x : Int64) (K : Int32 → Int64 → Int32 → vMem → Option (Int64 × vMem)) : ∃ σ', fX8_floorDigest_6 K (nI f) x (nI 3) σ = some (mx (mx (mx (mx (mx x (rBites A f 0).toInt64) (rBites A f 1).toInt64) (rWas A f 0).toInt64) (rWas A f 1).toInt64) (rAsk A f).toInt64, σ') ∧ RM A σ' ∧ MD A σ' := by
  obtain ⟨τ1, a1, a2, a3⟩ := m_bitesOf hA h hf 0
  obtain ⟨τ2, b1, b2, b3⟩ := m_bitesOf hA a2 hf 1
  obtain ⟨τ3, c1, c2, c3⟩ := m_wasOf hA b2 hf (y := 0) (by decide)
  obtain ⟨τ4, d1, d2, d3⟩ := m_wasOf hA c2 hf (y := 1) (by decide)
  obtain ⟨τ5, e1, e2, e3⟩ := m_askOf hA d2 hf
  refine ⟨τ5, ?_, e2, e3⟩
  have c5 : (3 : Int32) ≤ nI 3 := by decide
  unfold fX8_floorDigest_6
  rw [if_pos c5, a1, Option.bind_some, b1, Option.bind_some, c1, Option.bind_some, d1, Option.bind_some, e1, Option.bind_some, mx_e, mx_e, mx_e, mx_e, mx_e]
theorem m_floorDigest {A : vA} (hA : WA A) {σ : vMem} (h : RM A σ) (hD : MD A σ) {f : Nat} (hf : f < nfA A) (x : Int64) : ∃ σ', fX8_floorDigest x (nI f) σ = some (dFloor A x f, σ') ∧ RM A σ' ∧ MD A σ' := by
  have key : ∀ (k n i : Nat) (τ : vMem), i + k = 3 → k < n → RM A τ → MD A τ → ∃ σ', LfX8_floorDigest_6 n (nI f) (iter (fun h y => mx h (rFloor A f (nI y)).toInt64) i x) (nI i) τ = some (dFloor A x f, σ') ∧ RM A σ' ∧ MD A σ' := by
    intro k
    induction k with
    | zero =>
      intro n i τ hik hn hR hM
      obtain ⟨n, rfl⟩ : ∃ j, n = j + 1 := ⟨n - 1, by omega⟩
      have : i = 3 := by omega
      subst this
      unfold dFloor
      exact m_floorEnd hA hR hf _ (LfX8_floorDigest_6 n)
    | succ k ih =>
      intro n i τ hik hn hR hM
      obtain ⟨n, rfl⟩ : ∃ j, n = j + 1 := ⟨n - 1, by omega⟩
      have hlt : ¬ (3 : Int32) ≤ nI i := fun z => by have := (nI_leI (a := 3) (by decide) (by omega)).mp z; omega
      have a1 := m_floorOf hA hM hf (nI i)
      obtain ⟨σ', b1, b2⟩ := ih n (i + 1) τ (by omega) (by omega) hR hM
      refine ⟨σ', ?_, b2⟩
      show fX8_floorDigest_6 _ _ _ _ _ = _
      unfold fX8_floorDigest_6
      rw [if_neg hlt, a1, Option.bind_some, mx_e, nI_1]
      rw [iter_s] at b1
      exact b1
  obtain ⟨σ', a1, a2⟩ := key 3 200 0 σ (by omega) (by omega) h hD
  rw [iter_0] at a1
  exact ⟨σ', a1, a2⟩
theorem m_digestEnd {A : vA} (hA : WA A) {σ : vMem} (h : RM A σ) (hD : MD A σ) (x : Int64) (K : Int64 → Int32 → vMem → Option (Int64 × vMem)) : ∃ σ', fX8_digest_82 K x (nI (nbA A)) σ = some (dEnd A x, σ') ∧ RM A σ' := by
  obtain ⟨σ1, a1, a2, a3⟩ := m_famineNow hA h
  obtain ⟨σ2, b1, b2, b3⟩ := m_firstOf hA a2 0
  obtain ⟨σ3, c1, c2, c3⟩ := m_firstOf hA b2 1
  obtain ⟨σ4, d1, d2, d3⟩ := m_greedyNow hA c2
  obtain ⟨σ5, e1, e2, e3⟩ := m_stillOf hA d2 0
  obtain ⟨σ6, f1, f2, f3⟩ := m_stillOf hA e2 1
  obtain ⟨σ7, g1, g2, g3⟩ := m_neverNow hA f2
  obtain ⟨σ8, i1, i2, i3⟩ := m_weekOf hA g2 7 (N := 5) (by omega) 0
  obtain ⟨σ9, j1, j2, j3⟩ := m_weekOf hA i2 7 (N := 5) (by omega) 1
  have i1 : fX8_weekOf 7 5 0 σ7 = some (rWeek A 7 5 0, σ8) := i1
  have j1 : fX8_weekOf 7 5 1 σ8 = some (rWeek A 7 5 1, σ9) := j1
  refine ⟨σ9, ?_, j2⟩
  unfold fX8_digest_82 dEnd
  rw [hD.1.2, if_pos (Int32.le_refl _), a1, Option.bind_some, b1, Option.bind_some, c1, Option.bind_some, d1, Option.bind_some, e1, Option.bind_some, f1, Option.bind_some, g1, Option.bind_some, i1, Option.bind_some, j1, Option.bind_some, mx_e, mx_e, mx_e, mx_e, mx_e, mx_e, mx_e, mx_e, mx_e]
theorem m_digest82 {A : vA} (hA : WA A) (x : Int64) : ∀ (k n i : Nat) (τ : vMem), i + k = nbA A → k < n → RM A τ → MD A τ → ∃ σ', LfX8_digest_82 n (iter (fun h b => dPlans A (dWay A h b) b) i x) (nI i) τ = some (dEnd A (iter (fun h b => dPlans A (dWay A h b) b) (nbA A) x), σ') ∧ RM A σ' := by
  have h8 := nbA_le hA
  intro k
  induction k with
  | zero =>
    intro n i τ hik hn hR hM
    obtain ⟨n, rfl⟩ : ∃ j, n = j + 1 := ⟨n - 1, by omega⟩
    have : i = nbA A := by omega
    subst this
    exact m_digestEnd hA hR hM _ (LfX8_digest_82 n)
  | succ k ih =>
    intro n i τ hik hn hR hM
    obtain ⟨n, rfl⟩ : ∃ j, n = j + 1 := ⟨n - 1, by omega⟩
    have hlt : ¬ nI (nbA A) ≤ nI i := fun z => by have := (nI_leI (by omega) (by omega)).mp z; omega
    obtain ⟨τ1, a1, a2, a3⟩ := m_basketDigest hA hR hM (show i < nbA A by omega) (iter (fun h b => dPlans A (dWay A h b) b) i x)
    obtain ⟨σ', c1, c2⟩ := ih n (i + 1) τ1 (by omega) (by omega) a2 a3
    refine ⟨σ', ?_, c2⟩
    show fX8_digest_82 _ _ _ _ = _
    unfold fX8_digest_82
    rw [hM.1.2, if_neg hlt, a1, Option.bind_some, nI_1]
    rw [iter_s] at c1
    exact c1
theorem m_digest59 {A : vA} (hA : WA A) (x : Int64) : ∀ (k n i : Nat) (τ : vMem), i + k = nfA A → k < n → RM A τ → MD A τ → ∃ σ', LfX8_digest_59 n (iter (fun h f => dFloor A h f) i x) (nI i) τ = some (dEnd A (iter (fun h b => dPlans A (dWay A h b) b) (nbA A) (iter (fun h f => dFloor A h f) (nfA A) x)), σ') ∧ RM A σ' := by
  have h8 := nbA_le hA
  have h9 := nfA_le hA
  intro k
  induction k with
  | zero =>
    intro n i τ hik hn hR hM
    obtain ⟨n, rfl⟩ : ∃ j, n = j + 1 := ⟨n - 1, by omega⟩
    have : i = nfA A := by omega
    subst this
    obtain ⟨σ', a1, a2⟩ := m_digest82 hA (iter (fun h f => dFloor A h f) (nfA A) x) (nbA A) 200 0 τ (by omega) (by omega) hR hM
    refine ⟨σ', ?_, a2⟩
    show fX8_digest_59 _ _ _ _ = _
    unfold fX8_digest_59
    rw [hM.1.1, if_pos (Int32.le_refl _)]
    rw [iter_0] at a1
    exact a1
  | succ k ih =>
    intro n i τ hik hn hR hM
    obtain ⟨n, rfl⟩ : ∃ j, n = j + 1 := ⟨n - 1, by omega⟩
    have hlt : ¬ nI (nfA A) ≤ nI i := fun z => by have := (nI_leI (by omega) (by omega)).mp z; omega
    obtain ⟨τ1, a1, a2, a3⟩ := m_floorDigest hA hR hM (show i < nfA A by omega) (iter (fun h f => dFloor A h f) i x)
    obtain ⟨σ', c1, c2⟩ := ih n (i + 1) τ1 (by omega) (by omega) a2 a3
    refine ⟨σ', ?_, c2⟩
    show fX8_digest_59 _ _ _ _ = _
    unfold fX8_digest_59
    rw [hM.1.1, if_neg hlt, a1, Option.bind_some, nI_1]
    rw [iter_s] at c1
    exact c1
theorem m_headEnd {A : vA} (hA : WA A) {τ : vMem} (hR : RM A τ) (x : Int64) (K : Int64 → Int32 → vMem → Option (Int64 × vMem)) : ∃ σ', fX8_digest_6 K x (nI 8) τ = some (dEnd A (iter (fun h b => dPlans A (dWay A h b) b) (nbA A) (iter (fun h f => dFloor A h f) (nfA A) (mx (mx x (fF (t0 A) (n0 A)).toInt64) (fB (t1 A) (n1 A)).1.toInt64))), σ') ∧ RM A σ' := by
  have h9 := nfA_le hA
  obtain ⟨τ1, b1, b2, b3, -⟩ := m_faultOf hA hR 0
  have hR1 := hR.fr b2
  obtain ⟨τ2, c1, c2, c3, -⟩ := m_faultOf hA hR1 1
  have hR2 := hR1.fr c2
  rw [if_pos rfl] at b1
  rw [if_neg (by decide)] at c1
  obtain ⟨σ', a1, a2⟩ := m_digest59 hA (mx (mx x (fF (t0 A) (n0 A)).toInt64) (fB (t1 A) (n1 A)).1.toInt64) (nfA A) 200 0 τ2 (by omega) (by omega) hR2 c3
  refine ⟨σ', ?_, a2⟩
  have c5 : (8 : Int32) ≤ nI 8 := by decide
  unfold fX8_digest_6
  rw [if_pos c5, b1, Option.bind_some, c1, Option.bind_some, mx_e, mx_e]
  rw [iter_0] at a1
  exact a1
theorem m_digestR {A : vA} (hA : WA A) {σ : vMem} (h : RM A σ) : ∃ σ', fX8_digest σ = some (rDigest A, σ') ∧ RM A σ' := by
  have key : ∀ (k n i : Nat) (τ : vMem), i + k = 8 → k < n → RM A τ → ∃ σ', LfX8_digest_6 n (iter (fun h y => mx h (rCount A (nI y)).toInt64) i 17) (nI i) τ = some (rDigest A, σ') ∧ RM A σ' := by
    intro k
    induction k with
    | zero =>
      intro n i τ hik hn hR
      obtain ⟨n, rfl⟩ : ∃ j, n = j + 1 := ⟨n - 1, by omega⟩
      have : i = 8 := by omega
      subst this
      unfold rDigest dHead
      exact m_headEnd hA hR _ (LfX8_digest_6 n)
    | succ k ih =>
      intro n i τ hik hn hR
      obtain ⟨n, rfl⟩ : ∃ j, n = j + 1 := ⟨n - 1, by omega⟩
      have hlt : ¬ (8 : Int32) ≤ nI i := fun z => by have := (nI_leI (a := 8) (by decide) (by omega)).mp z; omega
      obtain ⟨τ1, a1, a2, -⟩ := m_countR hA (nI i) hR
      obtain ⟨σ', c1, c2⟩ := ih n (i + 1) τ1 (by omega) (by omega) a2
      refine ⟨σ', ?_, c2⟩
      show fX8_digest_6 _ _ _ _ = _
      unfold fX8_digest_6
      rw [if_neg hlt, a1, Option.bind_some, mx_e, nI_1]
      rw [iter_s] at c1
      exact c1
  obtain ⟨σ', a1, a2⟩ := key 8 200 0 σ (by omega) (by omega) h
  rw [iter_0] at a1
  exact ⟨σ', a1, a2⟩
theorem q_digest {A : vA} (hA : WA A) : vJ A fX7_digest fX8_digest := ⟨rDigest A, A, hA, fun _ h => c_digestR hA h, fun _ h => m_digestR hA h⟩
