/-! the tower's data changed in one place: send, loaf -/
abbrev pHo (P : vP) (b v : Nat) : vP := (P.1, P.2.1, (va_up (pho P) b v, P.2.2.1.2), P.2.2.2)
abbrev pLo (P : vP) (b v : Nat) : vP := (P.1, P.2.1, (P.2.2.1.1, va_up (plo P) b v, P.2.2.1.2.2), P.2.2.2)
abbrev pBi (P : vP) (f v : Nat) : vP := (P.1, (P.2.1.1, va_up (pbi P) f v, P.2.1.2.2), P.2.2)
abbrev pWo (P : vP) (f : Nat) (v : Int32) : vP := (P.1, (P.2.1.1, P.2.1.2.1, va_up (pwo P) f v), P.2.2)
theorem WP.ho {P : vP} (h : WP P) {b v : Nat} (hv : v ≤ 29) : WP (pHo P b v) := ⟨h.1, h.2.1, h.2.2.1, fun c hc => by
  obtain ⟨a1, a2⟩ := h.2.2.2.1 c hc
  refine ⟨?_, a2⟩
  show va_up (pho P) b v c ≤ 29
  unfold va_up
  split <;> assumption, h.2.2.2.2⟩
theorem WP.lo {P : vP} (h : WP P) {b v : Nat} (hv : v ≤ 99) : WP (pLo P b v) := ⟨h.1, h.2.1, h.2.2.1, fun c hc => by
  obtain ⟨a1, a2, a3⟩ := h.2.2.2.1 c hc
  refine ⟨a1, ?_, a3⟩
  show va_up (plo P) b v c ≤ 99
  unfold va_up
  split <;> assumption, h.2.2.2.2⟩
theorem WP.bi {P : vP} (h : WP P) {f v : Nat} (hv : v ≤ 9) : WP (pBi P f v) := ⟨h.1, h.2.1, fun c hc => by
  have a1 := h.2.2.1 c hc
  show va_up (pbi P) f v c ≤ 9
  unfold va_up
  split <;> assumption, h.2.2.2.1, h.2.2.2.2⟩
theorem WP.wo {P : vP} (h : WP P) {f : Nat} {v : Int32} : WP (pWo P f v) := h
/-- the class holds A, but for place b of cell c of its tower -/
def RX (A : vA) (c b : Nat) (σ0 σ : vMem) : Prop := RC A σ0 ∧ (∀ a, (1 ≤ a ∧ a ≤ 12) ∨ (25 ≤ a ∧ a ≤ 36) → a ≠ c → σ.1 a = σ0.1 a) ∧ (∀ j, j ≠ b → σ.1 c j = σ0.1 c j) ∧ σ.1 0 14 = σ0.1 0 14 ∧ ∃ w y : Bool, σ.1 13 1 = b2 w ∧ σ.1 13 2 = b2 y
theorem RX.rf {A : vA} {c b : Nat} {σ : vMem} (h : RC A σ) : RX A c b σ σ := ⟨h, fun _ _ _ => rfl, fun _ _ => rfl, rfl, h.2.2.1⟩
theorem RX.up {A : vA} {c b : Nat} {σ0 σ : vMem} (h : RX A c b σ0 σ) (hc : 6 ≤ c) (hc2 : c ≤ 12) (x : Int32) : RX A c b σ0 (vup σ c b x) := by
  obtain ⟨h1, h2, h3, h4, h5⟩ := h
  refine ⟨h1, fun a ha hn => by rw [vup_ne _ _ hn]; exact h2 a ha hn, fun j hj => ?_, by rw [vup_ne _ _ (by omega)]; exact h4, by rw [vup_ne _ _ (by omega)]; exact h5⟩
  rw [vup_rd, if_pos rfl, if_neg hj]
  exact h3 j hj
theorem RX.back {A : vA} {c b : Nat} {σ0 σ : vMem} (h : RX A c b σ0 σ) (hc : 6 ≤ c) (hc2 : c ≤ 12) {x : Int32} (hx : x = σ0.1 c b) : RC A (vup σ c b x) := by
  obtain ⟨h1, h2, h3, h4, h5⟩ := h
  refine h1.fr ⟨fun a ha => ?_, by rw [vup_ne _ _ (by omega)]; exact h4, by rw [vup_ne _ _ (by omega)]; exact h5⟩
  by_cases e : a = c
  · subst e
    funext j
    rw [vup_rd, if_pos rfl]
    by_cases q : j = b
    · rw [if_pos q, q, hx]
    · rw [if_neg q]; exact h3 j q
  · rw [vup_ne _ _ e]; exact h2 a ha e
theorem RX.fr {A : vA} {c b : Nat} {σ0 σ τ : vMem} (h : RX A c b σ0 σ) (hc : 6 ≤ c) (hc2 : c ≤ 12) (f : ∀ a, a = 0 ∨ a = 13 ∨ (1 ≤ a ∧ a ≤ 12) ∨ (25 ≤ a ∧ a ≤ 36) → τ.1 a = σ.1 a) : RX A c b σ0 τ := by
  obtain ⟨h1, h2, h3, h4, h5⟩ := h
  exact ⟨h1, fun a ha hn => (f a (by omega)).trans (h2 a ha hn), fun j hj => by rw [f c (by omega)]; exact h3 j hj, by rw [f 0 (by omega)]; exact h4, by rw [f 13 (by omega)]; exact h5⟩
theorem RX.go {A : vA} {c b : Nat} {σ0 σ τ : vMem} (h : RX A c b σ0 σ) (hc : 6 ≤ c) (hc2 : c ≤ 12) (f : Fr13 σ τ) {w y : Bool} (e1 : τ.1 13 1 = b2 w) (e2 : τ.1 13 2 = b2 y) : RX A c b σ0 τ := by
  obtain ⟨h1, h2, h3, h4, h5⟩ := h
  exact ⟨h1, fun a ha hn => (f.1 a (by omega)).trans (h2 a ha hn), fun j hj => by rw [f.1 c (by omega)]; exact h3 j hj, by rw [f.1 0 (by omega)]; exact h4, w, y, e1, e2⟩
theorem c_chos25x {A : vA} (hA : WA A) {σ : vMem} (h : σ.1 25 1 = nI (awn A) ∧ ∀ k, k < awn A → σ.1 26 k = nI (awh A k)) (w : Int32) : fX1_chosen_25 w σ = some (wB (awh A) (selI w) (awn A), σ) := by
  obtain ⟨h1, h2⟩ := h
  have h6 := hA.2.2.2.1.1
  have key : ∀ (k n i : Nat), i + k = awn A → k < n → LfX1_chosen_25_5 n w (wB (awh A) (selI w) i) (nI i) σ = some (wB (awh A) (selI w) (awn A), σ) := by
    intro k
    induction k with
    | zero =>
      intro n i hik hn
      obtain ⟨n, rfl⟩ : ∃ j, n = j + 1 := ⟨n - 1, by omega⟩
      have : i = awn A := by omega
      subst this
      show fX1_chosen_25_5 _ _ _ _ _ = _
      unfold fX1_chosen_25_5
      rw [h1, if_pos (Int32.le_refl _)]
    | succ k ih =>
      intro n i hik hn
      obtain ⟨n, rfl⟩ : ∃ j, n = j + 1 := ⟨n - 1, by omega⟩
      have hci : (nI i).toNatClampNeg = i := nI_clamp (by omega)
      have hxi := ixF (show i < 6 by omega) (by decide)
      have hlt : (nI (awn A) ≤ nI i) = False := eq_false (fun z => by have := (nI_leI (by omega) (by omega)).mp z; omega)
      show fX1_chosen_25_5 _ _ _ _ _ = _
      unfold fX1_chosen_25_5 fX1_chosen_25_36
      simp only [h1, hlt, ↓reduceIte, hci, hxi, h2 i (by omega), nI_1]
      have := ih n (i + 1) (by omega) (by omega)
      rw [wB] at this
      unfold selI at this ⊢
      by_cases z : (w >>> (nI i &&& 31)) &&& 1 = 1
      · rw [if_pos z]
        simp only [z, decide_true, ↓reduceIte] at this
        exact this
      · rw [if_neg z]
        simp only [z, decide_false, Bool.false_eq_true, ↓reduceIte] at this
        exact this
  exact key (awn A) 200 0 (by omega) (by omega)
theorem c_chos27x {A : vA} (hA : WA A) {σ : vMem} (h : σ.1 27 1 = nI (asn A) ∧ ∀ k, k < asn A → σ.1 28 k = nI (ash A k)) (w : Int32) : fX1_chosen_27 w σ = some (wB (ash A) (selI w) (asn A), σ) := by
  obtain ⟨h1, h2⟩ := h
  have h6 := hA.2.2.2.2.1.1
  have key : ∀ (k n i : Nat), i + k = asn A → k < n → LfX1_chosen_27_5 n w (wB (ash A) (selI w) i) (nI i) σ = some (wB (ash A) (selI w) (asn A), σ) := by
    intro k
    induction k with
    | zero =>
      intro n i hik hn
      obtain ⟨n, rfl⟩ : ∃ j, n = j + 1 := ⟨n - 1, by omega⟩
      have : i = asn A := by omega
      subst this
      show fX1_chosen_27_5 _ _ _ _ _ = _
      unfold fX1_chosen_27_5
      rw [h1, if_pos (Int32.le_refl _)]
    | succ k ih =>
      intro n i hik hn
      obtain ⟨n, rfl⟩ : ∃ j, n = j + 1 := ⟨n - 1, by omega⟩
      have hci : (nI i).toNatClampNeg = i := nI_clamp (by omega)
      have hxi := ixF (show i < 6 by omega) (by decide)
      have hlt : (nI (asn A) ≤ nI i) = False := eq_false (fun z => by have := (nI_leI (by omega) (by omega)).mp z; omega)
      show fX1_chosen_27_5 _ _ _ _ _ = _
      unfold fX1_chosen_27_5 fX1_chosen_27_36
      simp only [h1, hlt, ↓reduceIte, hci, hxi, h2 i (by omega), nI_1]
      have := ih n (i + 1) (by omega) (by omega)
      rw [wB] at this
      unfold selI at this ⊢
      by_cases z : (w >>> (nI i &&& 31)) &&& 1 = 1
      · rw [if_pos z]
        simp only [z, decide_true, ↓reduceIte] at this
        exact this
      · rw [if_neg z]
        simp only [z, decide_false, Bool.false_eq_true, ↓reduceIte] at this
        exact this
  exact key (asn A) 200 0 (by omega) (by omega)
theorem c_all25x {A : vA} (hA : WA A) {σ : vMem} (h : σ.1 25 1 = nI (awn A) ∧ ∀ k, k < awn A → σ.1 26 k = nI (awh A k)) : fX1_all_25 σ = some (wAll A, σ) := by
  unfold fX1_all_25
  rw [c_chos25x hA h]
  simp only [Option.bind]
  unfold wAll
  rw [wB_cong (awn A) (fun k hk => selI_m1 ⟨k, Nat.lt_of_lt_of_le hk hA.2.2.2.1.1⟩)]
theorem c_all27x {A : vA} (hA : WA A) {σ : vMem} (h : σ.1 27 1 = nI (asn A) ∧ ∀ k, k < asn A → σ.1 28 k = nI (ash A k)) : fX1_all_27 σ = some (sAll A, σ) := by
  unfold fX1_all_27
  rw [c_chos27x hA h]
  simp only [Option.bind]
  unfold sAll
  rw [wB_cong (asn A) (fun k hk => selI_m1 ⟨k, Nat.lt_of_lt_of_le hk hA.2.2.2.2.1.1⟩)]
theorem RX.w25 {A : vA} {c b : Nat} {σ0 σ : vMem} (h : RX A c b σ0 σ) (hc2 : c ≤ 12) : (σ.1 25 1 = nI (awn A) ∧ ∀ k, k < awn A → σ.1 26 k = nI (awh A k)) ∧ (σ.1 27 1 = nI (asn A) ∧ ∀ k, k < asn A → σ.1 28 k = nI (ash A k)) := by
  rw [h.2.1 25 (by omega) (by omega), h.2.1 26 (by omega) (by omega), h.2.1 27 (by omega) (by omega), h.2.1 28 (by omega) (by omega)]
  exact ⟨h.1.2.2.2.1, h.1.2.2.2.2.1⟩
theorem RX.se {A : vA} {c b : Nat} {σ0 σ : vMem} (h : RX A c b σ0 σ) (hc2 : c ≤ 12) : σ.1 29 3 = nI (aen A) ∧ ∀ k, k < aen A → σ.1 30 k = nI (aet A k).1 ∧ σ.1 31 k = nI (aet A k).2.1 ∧ σ.1 32 k = (if (aet A k).2.2 = 8 then -1 else nI (aet A k).2.2) := by
  rw [h.2.1 29 (by omega) (by omega), h.2.1 30 (by omega) (by omega), h.2.1 31 (by omega) (by omega), h.2.1 32 (by omega) (by omega)]
  exact h.1.2.2.2.2.2.1
/-- gone as told over changed data -/
theorem c_goX {A : vA} {c b : Nat} {σ0 σ : vMem} (h : RX A c b σ0 σ) (hc : 6 ≤ c) (hc2 : c ≤ 12) {P : vP} (hP : WP P) (hD : DC P σ) {wb sb : Int64} (hw : pwi P = bitAt wb) (hs : psu P = bitAt sb) : ∃ σ', fX6_go wb sb 40 σ = some σ' ∧ RX A c b σ0 σ' ∧ CT σ P σ' := by
  obtain ⟨w, y, f1, f2⟩ := h.2.2.2.2
  obtain ⟨σ', a1, a2⟩ := c_go hP hD f1 f2 hw hs (Nat.le_refl 40)
  obtain ⟨w', y', sn, a3⟩ := a2.ct
  exact ⟨σ', a1, h.go hc hc2 a3.1.2 a3.2.1.1 a3.2.1.2, w', y', sn, a3⟩
theorem c_toldX {A : vA} (hA : WA A) {c b : Nat} {σ0 σ : vMem} (h : RX A c b σ0 σ) (hc : 6 ≤ c) (hc2 : c ≤ 12) {P : vP} (hP : WP P) (hD : DC P σ) (hw : pwi P = bitAt (wAll A)) (hs : psu P = bitAt (sAll A)) : ∃ σ', fX7_goAsTold σ = some σ' ∧ RX A c b σ0 σ' ∧ CT σ P σ' := by
  obtain ⟨σ', a1, a2, a3⟩ := c_goX h hc hc2 hP hD hw hs
  obtain ⟨w1, w2⟩ := h.w25 hc2
  refine ⟨σ', ?_, a2, a3⟩
  unfold fX7_goAsTold
  rw [c_all25x hA w1]
  simp only [Option.bind]
  rw [c_all27x hA w2]
  simp only
  rw [a1]
theorem RX.dc0 {A : vA} {c b : Nat} {σ0 σ : vMem} (h : RX A c b σ0 σ) (hc : 6 ≤ c) : σ.1 5 0 = nI (nfA A) ∧ σ.1 5 5 = nI (nbA A) ∧ σ.1 5 11 = ahu A ∧ σ.1 5 12 = nI (awe A) := by
  rw [h.2.1 5 (by omega) (by omega)]
  exact (h.1.2.1.2.2 (fun _ => true) (fun _ => true)).1
theorem RX.ho {A : vA} {b v : Nat} {σ0 σ : vMem} (h : RX A 9 b σ0 σ) (e : σ.1 9 b = nI v) : DC (pHo (PT A) b v) σ := by
  obtain ⟨-, d2, d3⟩ := h.1.2.1.2.2 (bitAt (wAll A)) (bitAt (sAll A))
  refine ⟨h.dc0 (by omega), ?_, fun k hk => ?_⟩
  · rw [h.2.1 6 (by omega) (by omega), h.2.1 7 (by omega) (by omega), h.2.1 8 (by omega) (by omega)]; exact d2
  · obtain ⟨x1, x2⟩ := d3 k hk
    rw [h.2.1 10 (by omega) (by omega), h.2.1 11 (by omega) (by omega), h.2.1 12 (by omega) (by omega)]
    refine ⟨?_, x2⟩
    show _ = nI (va_up (pho (PT A)) b v k)
    unfold va_up
    by_cases q : k = b
    · rw [if_pos q, q]; exact e
    · rw [if_neg q, h.2.2.1 k q]; exact x1
theorem RX.lo {A : vA} {b v : Nat} {σ0 σ : vMem} (h : RX A 10 b σ0 σ) (e : σ.1 10 b = nI v) : DC (pLo (PT A) b v) σ := by
  obtain ⟨-, d2, d3⟩ := h.1.2.1.2.2 (bitAt (wAll A)) (bitAt (sAll A))
  refine ⟨h.dc0 (by omega), ?_, fun k hk => ?_⟩
  · rw [h.2.1 6 (by omega) (by omega), h.2.1 7 (by omega) (by omega), h.2.1 8 (by omega) (by omega)]; exact d2
  · obtain ⟨x1, x2, x3⟩ := d3 k hk
    rw [h.2.1 9 (by omega) (by omega), h.2.1 11 (by omega) (by omega), h.2.1 12 (by omega) (by omega)]
    refine ⟨x1, ?_, x3⟩
    show _ = nI (va_up (plo (PT A)) b v k)
    unfold va_up
    by_cases q : k = b
    · rw [if_pos q, q]; exact e
    · rw [if_neg q, h.2.2.1 k q]; exact x2
theorem RX.bi {A : vA} {b v : Nat} {σ0 σ : vMem} (h : RX A 7 b σ0 σ) (e : σ.1 7 b = nI v) : DC (pBi (PT A) b v) σ := by
  obtain ⟨-, d2, d3⟩ := h.1.2.1.2.2 (bitAt (wAll A)) (bitAt (sAll A))
  refine ⟨h.dc0 (by omega), fun k hk => ?_, ?_⟩
  · obtain ⟨x1, x2, x3⟩ := d2 k hk
    rw [h.2.1 6 (by omega) (by omega), h.2.1 8 (by omega) (by omega)]
    refine ⟨x1, ?_, x3⟩
    show _ = nI (va_up (pbi (PT A)) b v k)
    unfold va_up
    by_cases q : k = b
    · rw [if_pos q, q]; exact e
    · rw [if_neg q, h.2.2.1 k q]; exact x2
  · rw [h.2.1 9 (by omega) (by omega), h.2.1 10 (by omega) (by omega), h.2.1 11 (by omega) (by omega), h.2.1 12 (by omega) (by omega)]; exact d3
theorem RX.wo {A : vA} {b : Nat} {v : Int32} {σ0 σ : vMem} (h : RX A 8 b σ0 σ) (e : σ.1 8 b = v) : DC (pWo (PT A) b v) σ := by
  obtain ⟨-, d2, d3⟩ := h.1.2.1.2.2 (bitAt (wAll A)) (bitAt (sAll A))
  refine ⟨h.dc0 (by omega), fun k hk => ?_, ?_⟩
  · obtain ⟨x1, x2, x3⟩ := d2 k hk
    rw [h.2.1 6 (by omega) (by omega), h.2.1 7 (by omega) (by omega)]
    refine ⟨x1, x2, ?_⟩
    show _ = va_up (pwo (PT A)) b v k
    unfold va_up
    by_cases q : k = b
    · rw [if_pos q, q]; exact e
    · rw [if_neg q, h.2.2.1 k q]; exact x3
  · rw [h.2.1 9 (by omega) (by omega), h.2.1 10 (by omega) (by omega), h.2.1 11 (by omega) (by omega), h.2.1 12 (by omega) (by omega)]; exact d3
/-- the reference holds A as told, but for place b of cell c of what it read -/
def MX (A : vA) (w s : Int64) (c b : Nat) (σ0 σ : vMem) : Prop := MTo A w s σ0 ∧ RM A σ ∧ (∀ a, 3 ≤ a → a ≤ 9 → a ≠ c → σ.1 a = σ0.1 a) ∧ (∀ j, j ≠ b → σ.1 c j = σ0.1 c j) ∧ (∀ k, k = 2 ∨ k = 6 ∨ k = 19 → σ.1 0 k = σ0.1 0 k) ∧ σ.2 0 17 = w ∧ σ.2 0 18 = s
theorem MX.rf {A : vA} {w s : Int64} {c b : Nat} {σ : vMem} (h : MTo A w s σ) : MX A w s c b σ σ := ⟨h, h.1, fun _ _ _ _ => rfl, fun _ _ => rfl, fun _ _ => rfl, h.2.2.1, h.2.2.2.1⟩
theorem MX.up {A : vA} {w s : Int64} {c b : Nat} {σ0 σ : vMem} (h : MX A w s c b σ0 σ) (hc : 3 ≤ c) (hc2 : c ≤ 9) (x : Int32) : MX A w s c b σ0 (vup σ c b x) := by
  obtain ⟨h1, h2, h3, h4, h5, h6, h7⟩ := h
  refine ⟨h1, h2.fr ⟨fun a ha => vup_ne _ _ (by omega), fun k hk => by rw [vup_ne _ _ (by omega)]⟩, fun a ha hb hn => by rw [vup_ne _ _ hn]; exact h3 a ha hb hn, fun j hj => ?_, fun k hk => by rw [vup_ne _ _ (by omega)]; exact h5 k hk, h6, h7⟩
  rw [vup_rd, if_pos rfl, if_neg hj]
  exact h4 j hj
theorem MX.back {A : vA} {w s : Int64} {c b : Nat} {σ0 σ : vMem} (h : MX A w s c b σ0 σ) (hc : 3 ≤ c) (hc2 : c ≤ 9) {x : Int32} (hx : x = σ0.1 c b) : MTo A w s (vup σ c b x) := by
  obtain ⟨h1, h2, h3, h4, h5, h6, h7⟩ := h
  have ea : ∀ a, 3 ≤ a → a ≤ 9 → (vup σ c b x).1 a = σ0.1 a := fun a ha hb => by
    by_cases e : a = c
    · subst e
      funext j
      rw [vup_rd, if_pos rfl]
      by_cases q : j = b
      · rw [if_pos q, q, hx]
      · rw [if_neg q]; exact h4 j q
    · rw [vup_ne _ _ e]; exact h3 a ha hb e
  have e0 : ∀ k, k = 2 ∨ k = 6 ∨ k = 19 → (vup σ c b x).1 0 k = σ0.1 0 k := fun k hk => by rw [vup_ne _ _ (by omega)]; exact h5 k hk
  refine ⟨h2.fr ⟨fun a ha => vup_ne _ _ (by omega), fun k hk => by rw [vup_ne _ _ (by omega)]⟩, ?_, h6, h7, ?_⟩
  · have := h1.2.1
    unfold MD at this ⊢
    rw [ea 3 (by omega) (by omega), ea 4 (by omega) (by omega), ea 5 (by omega) (by omega), ea 6 (by omega) (by omega), ea 7 (by omega) (by omega), ea 8 (by omega) (by omega), ea 9 (by omega) (by omega), e0 2 (by omega), e0 6 (by omega)]
    exact this
  · rw [e0 19 (by omega)]; exact h1.2.2.2.2
theorem MX.run {A : vA} {w s : Int64} {c b : Nat} {σ0 σ τ : vMem} (h : MX A w s c b σ0 σ) (hc : 3 ≤ c) (hc2 : c ≤ 9) (f : Fr12 σ τ) : MX A w s c b σ0 τ := by
  obtain ⟨h1, h2, h3, h4, h5, h6, h7⟩ := h
  exact ⟨h1, h2.fr f.m, fun a ha hb hn => (f.1 a (by omega) (by omega)).trans (h3 a ha hb hn), fun j hj => by rw [f.1 c (by omega) (by omega)]; exact h4 j hj, fun k hk => (f.2.1 k (by omega) (by omega)).trans (h5 k hk), by rw [f.2.2]; exact h6, by rw [f.2.2]; exact h7⟩
theorem MX.other {A : vA} {w s : Int64} {c b : Nat} {σ0 σ τ : vMem} (h : MX A w s c b σ0 σ) {z : Nat} (hz : z = 26 ∨ z = 30) (f : ∀ a, a ≠ z → τ.1 a = σ.1 a) (f2 : τ.2 = σ.2) (hc2 : c ≤ 9) : MX A w s c b σ0 τ := by
  obtain ⟨h1, h2, h3, h4, h5, h6, h7⟩ := h
  exact ⟨h1, h2.fr ⟨fun a ha => f a (by omega), fun k hk => by rw [f 0 (by omega)]⟩, fun a ha hb hn => (f a (by omega)).trans (h3 a ha hb hn), fun j hj => by rw [f c (by omega)]; exact h4 j hj, fun k hk => by rw [f 0 (by omega)]; exact h5 k hk, by rw [f2]; exact h6, by rw [f2]; exact h7⟩
theorem MX.hd {A : vA} (hA : WA A) {w s : Int64} {c b : Nat} {σ0 σ : vMem} (h : MX A w s c b σ0 σ) : ((σ.1 0 2 = nI (nfA A) ∧ σ.1 0 6 = nI (nbA A) ∧ σ.1 0 11 = ahu A ∧ σ.1 0 12 = nI (awe A)) ∧ bitAt w = bitAt (σ.2 0 17) ∧ bitAt s = bitAt (σ.2 0 18)) ∧ ∀ f, f < nfA A → bitAt (σ.1 0 19).toInt64 f = false := by
  obtain ⟨h1, h2, h3, h4, h5, h6, h7⟩ := h
  have h9 := nfA_le hA
  refine ⟨⟨⟨?_, ?_, h2.2.1.1, h2.2.1.2⟩, by rw [h6], by rw [h7]⟩, fun f hf => ?_⟩
  · rw [h5 2 (by omega)]; exact h1.2.1.1.1
  · rw [h5 6 (by omega)]; exact h1.2.1.1.2
  · rw [h5 19 (by omega), h1.2.2.2.2]
    exact bitAt_0 ⟨f, by omega⟩
theorem tb9 {A : vA} (hA : WA A) {f : Nat} (hf : f < nfA A) : (t0 A (4 * f + 1) - 48).toNatClampNeg ≤ 9 := by
  obtain ⟨-, -, -, q9, -, a, ha, ea⟩ := floor_ok hA hf
  rw [ea, nI_clamp (by omega)]; exact ha
theorem MX.ho {A : vA} (hA : WA A) {w s : Int64} {b v : Nat} {σ0 σ : vMem} (h : MX A w s 6 b σ0 σ) (e : σ.1 6 b = nI v) : DM (pHo (PA A (bitAt w) (bitAt s)) b v) σ := by
  obtain ⟨⟨a1, a2⟩, a3⟩ := h.hd hA
  obtain ⟨-, d3, d4⟩ := h.1.2.1
  refine ⟨a1, a2, ⟨fun f => (t0 A (4 * f + 1) - 48).toNatClampNeg, fun f hf => ?_⟩, fun k hk => ?_⟩
  · obtain ⟨e3, e4, e5⟩ := d3 f hf
    rw [h.2.2.1 3 (by omega) (by omega) (by omega), h.2.2.1 4 (by omega) (by omega) (by omega), h.2.2.1 5 (by omega) (by omega) (by omega), a3 f hf]
    exact ⟨e3, tb9 hA hf, e4, rfl, e5⟩
  · obtain ⟨x1, x2⟩ := d4 k hk
    rw [h.2.2.1 7 (by omega) (by omega) (by omega), h.2.2.1 8 (by omega) (by omega) (by omega), h.2.2.1 9 (by omega) (by omega) (by omega)]
    refine ⟨?_, x2⟩
    show _ = nI (va_up (pho (PA A (bitAt w) (bitAt s))) b v k)
    unfold va_up
    by_cases q : k = b
    · rw [if_pos q, q]; exact e
    · rw [if_neg q, h.2.2.2.1 k q]; exact x1
theorem MX.lo {A : vA} (hA : WA A) {w s : Int64} {b v : Nat} {σ0 σ : vMem} (h : MX A w s 7 b σ0 σ) (e : σ.1 7 b = nI v) : DM (pLo (PA A (bitAt w) (bitAt s)) b v) σ := by
  obtain ⟨⟨a1, a2⟩, a3⟩ := h.hd hA
  obtain ⟨-, d3, d4⟩ := h.1.2.1
  refine ⟨a1, a2, ⟨fun f => (t0 A (4 * f + 1) - 48).toNatClampNeg, fun f hf => ?_⟩, fun k hk => ?_⟩
  · obtain ⟨e3, e4, e5⟩ := d3 f hf
    rw [h.2.2.1 3 (by omega) (by omega) (by omega), h.2.2.1 4 (by omega) (by omega) (by omega), h.2.2.1 5 (by omega) (by omega) (by omega), a3 f hf]
    exact ⟨e3, tb9 hA hf, e4, rfl, e5⟩
  · obtain ⟨x1, x2, x3⟩ := d4 k hk
    rw [h.2.2.1 6 (by omega) (by omega) (by omega), h.2.2.1 8 (by omega) (by omega) (by omega), h.2.2.1 9 (by omega) (by omega) (by omega)]
    refine ⟨x1, ?_, x3⟩
    show _ = nI (va_up (plo (PA A (bitAt w) (bitAt s))) b v k)
    unfold va_up
    by_cases q : k = b
    · rw [if_pos q, q]; exact e
    · rw [if_neg q, h.2.2.2.1 k q]; exact x2
theorem MX.bi {A : vA} (hA : WA A) {w s : Int64} {b v : Nat} (hv : v ≤ 9) {σ0 σ : vMem} (h : MX A w s 4 b σ0 σ) (e : σ.1 4 b = nI v) : DM (pBi (PA A (bitAt w) (bitAt s)) b v) σ := by
  obtain ⟨⟨a1, a2⟩, a3⟩ := h.hd hA
  obtain ⟨-, d3, d4⟩ := h.1.2.1
  refine ⟨a1, a2, ⟨va_up (fun f => (t0 A (4 * f + 1) - 48).toNatClampNeg) b v, fun f hf => ?_⟩, ?_⟩
  · obtain ⟨e3, e4, e5⟩ := d3 f hf
    rw [h.2.2.1 3 (by omega) (by omega) (by omega), h.2.2.1 5 (by omega) (by omega) (by omega), a3 f hf]
    refine ⟨e3, ?_, ?_, rfl, e5⟩
    · unfold va_up
      split
      · exact hv
      · exact tb9 hA hf
    · unfold va_up
      by_cases q : f = b
      · rw [if_pos q, q]; exact e
      · rw [if_neg q, h.2.2.2.1 f q]; exact e4
  · rw [h.2.2.1 6 (by omega) (by omega) (by omega), h.2.2.1 7 (by omega) (by omega) (by omega), h.2.2.1 8 (by omega) (by omega) (by omega), h.2.2.1 9 (by omega) (by omega) (by omega)]
    exact d4
theorem MX.wo {A : vA} (hA : WA A) {w s : Int64} {b : Nat} {v : Int32} {σ0 σ : vMem} (h : MX A w s 5 b σ0 σ) (e : σ.1 5 b = v) : DM (pWo (PA A (bitAt w) (bitAt s)) b v) σ := by
  obtain ⟨⟨a1, a2⟩, a3⟩ := h.hd hA
  obtain ⟨-, d3, d4⟩ := h.1.2.1
  refine ⟨a1, a2, ⟨fun f => (t0 A (4 * f + 1) - 48).toNatClampNeg, fun f hf => ?_⟩, ?_⟩
  · obtain ⟨e3, e4, e5⟩ := d3 f hf
    rw [h.2.2.1 3 (by omega) (by omega) (by omega), h.2.2.1 4 (by omega) (by omega) (by omega), a3 f hf]
    refine ⟨e3, tb9 hA hf, e4, rfl, ?_⟩
    show _ = va_up (pwo (PA A (bitAt w) (bitAt s))) b v f
    unfold va_up
    by_cases q : f = b
    · rw [if_pos q, q]; exact e
    · rw [if_neg q, h.2.2.2.1 f q]; exact e5
  · rw [h.2.2.1 6 (by omega) (by omega) (by omega), h.2.2.1 7 (by omega) (by omega) (by omega), h.2.2.1 8 (by omega) (by omega) (by omega), h.2.2.1 9 (by omega) (by omega) (by omega)]
    exact d4
theorem m_runX {A : vA} {w s : Int64} {c b : Nat} {σ0 σ : vMem} (h : MX A w s c b σ0 σ) (hc : 3 ≤ c) (hc2 : c ≤ 9) {P : vP} (hP : WP P) (hD : DM P σ) : ∃ σ', fX8_runs σ = some σ' ∧ MX A w s c b σ0 σ' ∧ ME σ P σ' := by
  obtain ⟨σ', a1, a2⟩ := m_runs hP hD
  exact ⟨σ', a1, h.run hc hc2 a2.1.1.1.2, a2⟩
