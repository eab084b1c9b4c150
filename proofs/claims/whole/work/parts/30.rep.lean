/-! the state between the calls -/
/-- two texts; hunger, wear; winds; Sundays; seen; sheets; finding -/
abbrev vA : Type := (Nat × (Nat → Int32)) × (Nat × (Nat → Int32)) × (Int32 × Nat) × (Nat × (Nat → Nat)) × (Nat × (Nat → Nat)) × (Nat × (Nat → Nat × Nat × Nat)) × (Nat → Option (Nat × Nat × (Nat → Int32))) × Int32
abbrev n0 (A : vA) : Nat := A.1.1
abbrev t0 (A : vA) : Nat → Int32 := A.1.2
abbrev n1 (A : vA) : Nat := A.2.1.1
abbrev t1 (A : vA) : Nat → Int32 := A.2.1.2
abbrev ahu (A : vA) : Int32 := A.2.2.1.1
abbrev awe (A : vA) : Nat := A.2.2.1.2
abbrev awn (A : vA) : Nat := A.2.2.2.1.1
abbrev awh (A : vA) : Nat → Nat := A.2.2.2.1.2
abbrev asn (A : vA) : Nat := A.2.2.2.2.1.1
abbrev ash (A : vA) : Nat → Nat := A.2.2.2.2.1.2
abbrev aen (A : vA) : Nat := A.2.2.2.2.2.1.1
abbrev aet (A : vA) : Nat → Nat × Nat × Nat := A.2.2.2.2.2.1.2
abbrev asy (A : vA) : Nat → Option (Nat × Nat × (Nat → Int32)) := A.2.2.2.2.2.2.1
abbrev afi (A : vA) : Int32 := A.2.2.2.2.2.2.2
def WA (A : vA) : Prop := n0 A ≤ 35 ∧ n1 A ≤ 63 ∧ (1 ≤ awe A ∧ awe A ≤ 9) ∧ (awn A ≤ 6 ∧ ∀ k, k < awn A → awh A k < 40) ∧ (asn A ≤ 6 ∧ ∀ k, k < asn A → ash A k < 40) ∧ (aen A ≤ 8 ∧ ∀ k, k < aen A → (aet A k).1 ≤ 7 ∧ (aet A k).2.1 ≤ 11 ∧ (aet A k).2.2 ≤ 8) ∧ ∀ s, s < 4 → ∀ f z it, asy A s = some (f, z, it) → f ≤ 2 ∧ z ≤ 60
noncomputable def fF (t : Nat → Int32) (n : Nat) : Int32 := Classical.epsilon (FF t n)
noncomputable def fB (t : Nat → Int32) (n : Nat) : Int32 × Nat := Classical.epsilon (fun q : Int32 × Nat => RB t n q.1 q.2)
theorem FF_ex (t : Nat → Int32) {n : Nat} (hn : n ≤ 35) : FF t n (fF t n) := by
  obtain ⟨r, -, -, h, -⟩ := c_readFloors (t := t) hn (σ := (fun a k => if a = 1 then nI n else t k, fun _ _ => 0)) rfl (fun _ _ => rfl)
  exact Classical.epsilon_spec (p := FF t n) ⟨r, h⟩
theorem RB_ex (t : Nat → Int32) {n : Nat} (hn : n ≤ 63) : RB t n (fB t n).1 (fB t n).2 := by
  obtain ⟨r, c, -, -, h, -⟩ := c_readBaskets (t := t) hn (σ := (fun a k => if a = 3 then nI n else t k, fun _ _ => 0)) rfl (fun _ _ => rfl)
  exact Classical.epsilon_spec (p := fun q : Int32 × Nat => RB t n q.1 q.2) ⟨(r, c), h⟩
noncomputable def nfA (A : vA) : Nat := if fF (t0 A) (n0 A) = -1 then (n0 A + 1) / 4 else 0
noncomputable def nbA (A : vA) : Nat := if (fB (t1 A) (n1 A)).1 = -1 then (fB (t1 A) (n1 A)).2 else 0
abbrev sA (A : vA) (k : Nat) : Nat := st (t1 A) (n1 A) k
/-- the data of the trip -/
noncomputable def PA (A : vA) (w s : Nat → Bool) : vP :=
  ((nfA A, nbA A), (fun f => sortI (t0 A (4 * f)), fun f => (t0 A (4 * f + 1) - 48).toNatClampNeg, fun f => t0 A (4 * f + 2) - 97),
    (fun k => (10 * (t1 A (sA A k) - 48) + (t1 A (sA A k + 1) - 48)).toNatClampNeg, fun k => (10 * (t1 A (sA A k + 2) - 48) + (t1 A (sA A k + 3) - 48)).toNatClampNeg, fun k => sz (t1 A) (n1 A) (sA A k), fun k i => t1 A (sA A k + 4 + i) - 97), (ahu A, awe A), (w, s))
theorem isF_val {x h : Int32} {m : Nat} (hm : m ≤ 9) (hh : h = nI (48 + m)) (hx : isF x h = true) : ∃ a, a ≤ m ∧ x - 48 = nI a := by
  unfold isF at hx
  have hx : ¬ x < 48 ∧ ¬ h < x := by simpa using hx
  have h0 : ¬ x < 0 := fun q => hx.1 (Int32.lt_trans q (by decide))
  obtain ⟨j, hj, rfl⟩ := nI_of h0
  have a1 : ¬ j < 48 := fun q => hx.1 ((nI_ltI (b := 48) hj (by decide)).mpr q)
  have a2 : ¬ 48 + m < j := fun q => hx.2 (by rw [hh]; exact (nI_ltI (by omega) hj).mpr q)
  exact ⟨j - 48, by omega, pk_sub (b := 48) (by omega)⟩
theorem floor_ok {A : vA} (hA : WA A) {f : Nat} (hf : f < nfA A) : fF (t0 A) (n0 A) = -1 ∧ 4 * f + 2 < n0 A ∧ nfA A = (n0 A + 1) / 4 ∧ f < 9 ∧ (∀ j, j < n0 A → okF (t0 A) j = true) ∧ ∃ a, a ≤ 9 ∧ t0 A (4 * f + 1) - 48 = nI a := by
  have hn := hA.1
  unfold nfA at hf ⊢
  by_cases q : fF (t0 A) (n0 A) = -1
  · rw [if_pos q] at hf ⊢
    have h1 := FF_ex (t0 A) hn
    rw [q] at h1
    obtain ⟨ok, hz⟩ := FF_m1 hn h1
    refine ⟨q, by omega, rfl, by omega, ok, ?_⟩
    have := ok (4 * f + 1) (by omega)
    unfold okF at this
    rw [if_neg (by omega), if_pos (by omega)] at this
    exact isF_val (m := 9) (by omega) (by decide) this
  · rw [if_neg q] at hf
    omega
theorem cd_le5 (t : Nat → Int32) (n k : Nat) : cd t n k ≤ 5 := by
  unfold cd
  split
  · omega
  · split
    · omega
    · split
      · omega
      · split
        · omega
        · split <;> omega
theorem DC.of5 {P : vP} {σ τ : vMem} (h : DC P σ) (e : ∀ a, 5 ≤ a → a ≤ 12 → τ.1 a = σ.1 a) : DC P τ := by
  unfold DC at h ⊢
  rw [e 5 (by decide) (by decide), e 6 (by decide) (by decide), e 7 (by decide) (by decide), e 8 (by decide) (by decide), e 9 (by decide) (by decide), e 10 (by decide) (by decide), e 11 (by decide) (by decide), e 12 (by decide) (by decide)]
  exact h
theorem bask_ok {A : vA} (hA : WA A) {k : Nat} (hk : k < nbA A) : (fB (t1 A) (n1 A)).1 = -1 ∧ nbA A = (fB (t1 A) (n1 A)).2 ∧ nbA A ≤ 8 ∧ cd (t1 A) (n1 A) k = 5 ∧ (∃ a, a ≤ 29 ∧ 10 * (t1 A (sA A k) - 48) + (t1 A (sA A k + 1) - 48) = nI a) ∧ ∃ a, a ≤ 99 ∧ 10 * (t1 A (sA A k + 2) - 48) + (t1 A (sA A k + 3) - 48) = nI a := by
  have hn := hA.2.1
  unfold nbA at hk ⊢
  by_cases q : (fB (t1 A) (n1 A)).1 = -1
  · rw [if_pos q] at hk ⊢
    obtain ⟨j, h1, h2, h3⟩ := RB_ex (t1 A) hn
    obtain ⟨hs, -, h8⟩ := st_le j h1
    have hr := congrArg Prod.fst h3
    have hc := congrArg Prod.snd h3
    simp only at hr hc
    rw [q] at hr
    unfold resB at hr hc
    by_cases z1 : n1 A = 0
    · rw [if_pos z1] at hc; simp only at hc; omega
    · rw [if_neg z1] at hr hc
      by_cases z2 : cd (t1 A) (n1 A) j < 5
      · rw [if_pos z2] at hc; simp only at hc; omega
      · rw [if_neg z2] at hr hc
        by_cases z3 : en (t1 A) (n1 A) j = n1 A
        · rw [if_pos z3] at hc
          simp only at hc
          have hcd : cd (t1 A) (n1 A) j = 5 := by
            have := cd_le5 (t1 A) (n1 A) j
            omega
          have ck : cd (t1 A) (n1 A) k = 5 := by
            by_cases e : k = j
            · rw [e]; exact hcd
            · exact (h1 k (by omega)).1
          obtain ⟨g0, g1, g2, g3, g4, g5, g6, -⟩ := cd5 ck
          have gj := (cd5 hcd).1
          rw [bt_in (by omega)] at g1 g2 g3 g4
          obtain ⟨a, ha, ea⟩ := isF_val (m := 2) (by omega) (by decide) g1
          obtain ⟨b, hb, eb⟩ := isF_val (m := 9) (by omega) (by decide) g2
          obtain ⟨c, hc', ec⟩ := isF_val (m := 9) (by omega) (by decide) g3
          obtain ⟨d, hd, ed⟩ := isF_val (m := 9) (by omega) (by decide) g4
          refine ⟨q, rfl, by omega, ck, ⟨10 * a + b, by omega, ?_⟩, ⟨10 * c + d, by omega, ?_⟩⟩
          · rw [ea, eb, show (10 : Int32) = nI 10 from rfl, pk_mul, nI_add]
          · rw [ec, ed, show (10 : Int32) = nI 10 from rfl, pk_mul, nI_add]
        · rw [if_neg z3] at hc; simp only at hc; omega
  · rw [if_neg q] at hk
    omega
theorem nbA_le {A : vA} (hA : WA A) : nbA A ≤ 8 := by
  by_cases q : nbA A = 0
  · omega
  · exact (bask_ok hA (k := 0) (by omega)).2.2.1
theorem WP_PA {A : vA} (hA : WA A) (w s : Nat → Bool) : WP (PA A w s) := by
  refine ⟨?_, nbA_le hA, fun f hf => ?_, fun k hk => ?_, hA.2.2.1.1, hA.2.2.1.2⟩
  · show nfA A ≤ 9
    have := hA.1
    unfold nfA
    split <;> omega
  · obtain ⟨-, -, -, -, -, a, ha, e⟩ := floor_ok hA hf
    show (t0 A (4 * f + 1) - 48).toNatClampNeg ≤ 9
    rw [e, nI_clamp (by omega)]
    exact ha
  · obtain ⟨-, -, -, -, ⟨a, ha, e⟩, b, hb, e2⟩ := bask_ok hA hk
    have hs := sz_in (t1 A) (n1 A) (sA A k)
    refine ⟨?_, ?_, hs.1, hs.2⟩
    · show (10 * (t1 A (sA A k) - 48) + (t1 A (sA A k + 1) - 48)).toNatClampNeg ≤ 29
      rw [e, nI_clamp (by omega)]; exact ha
    · show (10 * (t1 A (sA A k + 2) - 48) + (t1 A (sA A k + 3) - 48)).toNatClampNeg ≤ 99
      rw [e2, nI_clamp (by omega)]; exact hb
/-- the class's memory holds the state -/
def RC (A : vA) (σ : vMem) : Prop :=
  ((σ.1 1 1 = nI (n0 A) ∧ ∀ k, k < n0 A → σ.1 2 k = t0 A k) ∧ (σ.1 3 1 = nI (n1 A) ∧ ∀ k, k < n1 A → σ.1 4 k = t1 A k)) ∧
  (σ.1 5 1 = fF (t0 A) (n0 A) ∧ σ.1 5 6 = (fB (t1 A) (n1 A)).1 ∧ ∀ w s, DC (PA A w s) σ) ∧
  (∃ w y : Bool, σ.1 13 1 = b2 w ∧ σ.1 13 2 = b2 y) ∧
  (σ.1 25 1 = nI (awn A) ∧ ∀ k, k < awn A → σ.1 26 k = nI (awh A k)) ∧ (σ.1 27 1 = nI (asn A) ∧ ∀ k, k < asn A → σ.1 28 k = nI (ash A k)) ∧
  (σ.1 29 3 = nI (aen A) ∧ ∀ k, k < aen A → σ.1 30 k = nI (aet A k).1 ∧ σ.1 31 k = nI (aet A k).2.1 ∧ σ.1 32 k = (if (aet A k).2.2 = 8 then -1 else nI (aet A k).2.2)) ∧
  (∀ s, s < 4 → (asy A s = none → σ.1 35 s = -1) ∧ ∀ f z it, asy A s = some (f, z, it) → σ.1 34 s = nI f ∧ σ.1 35 s = nI z ∧ ∀ i, i < z → σ.1 36 (60 * s + i) = it i) ∧
  σ.1 0 14 = afi A
/-- the reference's memory holds the state -/
def RM (A : vA) (σ : vMem) : Prop :=
  (HT σ 0 (n0 A) (t0 A) ∧ HT σ 1 (n1 A) (t1 A)) ∧ (σ.1 0 11 = ahu A ∧ σ.1 0 12 = nI (awe A)) ∧
  (σ.1 0 13 = nI (awn A) ∧ ∀ k, k < awn A → σ.1 10 k = nI (awh A k)) ∧ (σ.1 0 15 = nI (asn A) ∧ ∀ k, k < asn A → σ.1 11 k = nI (ash A k)) ∧
  (σ.1 0 37 = nI (aen A) ∧ ∀ k, k < aen A → σ.1 27 k = nI (aet A k).1 ∧ σ.1 28 k = nI (aet A k).2.1 ∧ σ.1 29 k = nI (aet A k).2.2) ∧
  (∀ s, s < 4 → (asy A s = none → σ.1 31 s = 0) ∧ ∀ f z it, asy A s = some (f, z, it) → σ.1 31 s = 1 ∧ σ.1 32 s = nI f ∧ σ.1 33 s = nI z ∧ ∀ i, i < z → σ.1 34 (60 * s + i) = it i) ∧
  σ.1 0 47 = afi A
/-- the reference: what lasts is as it was -/
def FrM (σ τ : vMem) : Prop := (∀ a, a = 1 ∨ a = 2 ∨ a = 10 ∨ a = 11 ∨ a = 27 ∨ a = 28 ∨ a = 29 ∨ a = 31 ∨ a = 32 ∨ a = 33 ∨ a = 34 → τ.1 a = σ.1 a) ∧ (∀ k, k = 11 ∨ k = 12 ∨ k = 13 ∨ k = 15 ∨ k = 37 ∨ k = 47 → τ.1 0 k = σ.1 0 k)
theorem FrM.rf (σ : vMem) : FrM σ σ := ⟨fun _ _ => rfl, fun _ _ => rfl⟩
theorem FrM.tr {a b c : vMem} (h : FrM a b) (h2 : FrM b c) : FrM a c := ⟨fun x hx => (h2.1 x hx).trans (h.1 x hx), fun x hx => (h2.2 x hx).trans (h.2 x hx)⟩
theorem RM.fr {A : vA} {σ τ : vMem} (h : RM A σ) (hf : FrM σ τ) : RM A τ := by
  obtain ⟨f1, f2⟩ := hf
  unfold RM HT at h ⊢
  rw [f1 1 (by decide), f1 2 (by decide), f1 10 (by decide), f1 11 (by decide), f1 27 (by decide), f1 28 (by decide), f1 29 (by decide), f1 31 (by decide), f1 32 (by decide), f1 33 (by decide), f1 34 (by decide), f2 11 (by decide), f2 12 (by decide), f2 13 (by decide), f2 15 (by decide), f2 37 (by decide), f2 47 (by decide)]
  exact h
theorem Fr12.m {σ τ : vMem} (h : Fr12 σ τ) : FrM σ τ := ⟨fun a ha => h.1 a (by omega) (by omega), fun k hk => h.2.1 k (by omega) (by omega)⟩
theorem Fr345.m {σ τ : vMem} (h : Fr345 σ τ) : FrM σ τ := ⟨fun a ha => h.1 a (by omega) (by omega) (by omega) (by omega), fun k hk => h.2.1 k (by omega)⟩
theorem Fr69.m {σ τ : vMem} (h : Fr69 σ τ) : FrM σ τ := ⟨fun a ha => h.1 a (by omega) (by omega), fun k hk => h.2.1 k (by omega)⟩
/-- the class: what lasts is as it was -/
def FrC (σ τ : vMem) : Prop := (∀ a, (1 ≤ a ∧ a ≤ 12) ∨ (25 ≤ a ∧ a ≤ 36) → τ.1 a = σ.1 a) ∧ τ.1 0 14 = σ.1 0 14 ∧ ∃ w y : Bool, τ.1 13 1 = b2 w ∧ τ.1 13 2 = b2 y
theorem RC.fr {A : vA} {σ τ : vMem} (h : RC A σ) (hf : FrC σ τ) : RC A τ := by
  obtain ⟨f1, f2, f3⟩ := hf
  obtain ⟨h1, ⟨h2a, h2b, h2c⟩, h3, h4, h5, h6, h7, h8⟩ := h
  refine ⟨?_, ⟨?_, ?_, fun w s => (h2c w s).of5 (fun a ha hb => f1 a (Or.inl ⟨by omega, hb⟩))⟩, f3, ?_, ?_, ?_, ?_, f2.trans h8⟩
  · rw [f1 1 (by decide), f1 2 (by decide), f1 3 (by decide), f1 4 (by decide)]; exact h1
  · rw [f1 5 (by decide)]; exact h2a
  · rw [f1 5 (by decide)]; exact h2b
  · rw [f1 25 (by decide), f1 26 (by decide)]; exact h4
  · rw [f1 27 (by decide), f1 28 (by decide)]; exact h5
  · rw [f1 29 (by decide), f1 30 (by decide), f1 31 (by decide), f1 32 (by decide)]; exact h6
  · rw [f1 34 (by decide), f1 35 (by decide), f1 36 (by decide)]; exact h7
