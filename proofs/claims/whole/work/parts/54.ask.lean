/-! ask -/
theorem orB_ex (p : Nat → Bool) : ∀ n, n ≤ 10 → ∃ m, m < 1024 ∧ orB p n = nI m
  | 0, _ => ⟨0, by omega, rfl⟩
  | n + 1, h => by
    obtain ⟨m, hm, e⟩ := orB_ex p n (by omega)
    rw [orB]
    split
    · obtain ⟨e1, e2⟩ := ask_or ⟨m, hm⟩ ⟨n, by omega⟩
      exact ⟨m ||| 2 ^ n, e2, by rw [e]; exact e1⟩
    · exact ⟨m, hm, e⟩
/-- how many of the first n leave what v leaves -/
def heapN (s : Nat → Bool) (l : Nat → Int32) (v : Nat) : Nat → Nat
  | 0 => 0
  | n + 1 => if s v = true ∧ s n = true ∧ l v = l n then heapN s l v n + 1 else heapN s l v n
theorem heapN_le (s : Nat → Bool) (l : Nat → Int32) (v : Nat) : ∀ n, heapN s l v n ≤ n
  | 0 => Nat.le_refl _
  | n + 1 => by
    have := heapN_le s l v n
    rw [heapN]
    split <;> omega
def mostN (s : Nat → Bool) (l : Nat → Int32) : Nat → Nat
  | 0 => 0
  | n + 1 => if mostN s l n < heapN s l n 10 then heapN s l n 10 else mostN s l n
theorem mostN_le (s : Nat → Bool) (l : Nat → Int32) : ∀ n, mostN s l n ≤ 10
  | 0 => by unfold mostN; omega
  | n + 1 => by
    have := mostN_le s l n
    have := heapN_le s l n 10
    rw [mostN]
    split <;> omega
section
variable {bits : Int32} {b : Nat} {l : Nat → Int32} {σ : vMem}
theorem c_heap18 (hb : b < 8) (hl : ∀ v, v < 10 → σ.1 39 (8 * v + b) = l v) (K : Int32 → Int32 → Int32 → Int32 → vMem → Option (Int32 × vMem)) {v : Nat} (hv : v < 10) {g : Nat} (hg : g ≤ 10) : ∀ (d n w : Nat), w + d = 10 → d < n → LfX7_greatestHeap_18 K n (nI b) bits (nI g) (nI v) (nI (heapN (selI bits) l v w)) (nI w) σ = K (nI b) bits (nI (if g < heapN (selI bits) l v 10 then heapN (selI bits) l v 10 else g)) (nI (v + 1)) σ := by
  intro d
  induction d with
  | zero =>
    intro n w hw hn
    obtain ⟨n, rfl⟩ : ∃ j, n = j + 1 := ⟨n - 1, by omega⟩
    have : w = 10 := by omega
    subst this
    have hh := heapN_le (selI bits) l v 10
    show fX7_greatestHeap_18 _ _ _ _ _ _ _ _ _ = _
    unfold fX7_greatestHeap_18
    rw [show (10 : Int32) = nI 10 from rfl, if_pos (Int32.le_refl _), nI_1]
    congr 1
    by_cases q : g < heapN (selI bits) l v 10
    · rw [if_pos q, if_pos ((nI_ltI (by omega) (by omega)).mpr q)]
    · rw [if_neg q, if_neg (fun z => q ((nI_ltI (by omega) (by omega)).mp z))]
  | succ d ih =>
    intro n w hw hn
    obtain ⟨n, rfl⟩ : ∃ j, n = j + 1 := ⟨n - 1, by omega⟩
    have hlt : (nI 10 ≤ nI w) = False := eq_false (fun z => by have := (nI_leI (by omega) (by omega)).mp z; omega)
    have nx := ih n (w + 1) (by omega) (by omega)
    rw [heapN] at nx
    have e1 : nI v * 8 + nI b = nI (8 * v + b) := by rw [show (8 : Int32) = nI 8 from rfl, pk_mul, nI_add, Nat.mul_comm]
    have e2 : nI w * 8 + nI b = nI (8 * w + b) := by rw [show (8 : Int32) = nI 8 from rfl, pk_mul, nI_add, Nat.mul_comm]
    show fX7_greatestHeap_18 _ _ _ _ _ _ _ _ _ = _
    unfold fX7_greatestHeap_18 fX7_greatestHeap_49 fX7_greatestHeap_50 fX7_greatestHeap_87
    rw [show (10 : Int32) = nI 10 from rfl]
    simp only [hlt, ↓reduceIte, e1, e2, nI_clamp (show 8 * v + b < 2 ^ 31 by omega), ixF (show 8 * v + b < 80 by omega) (by decide), nI_clamp (show 8 * w + b < 2 ^ 31 by omega), ixF (show 8 * w + b < 80 by omega) (by decide), nI_1, hl v hv, hl w (by omega), if_neg (show ¬ (1 : Int32) = 0 by decide)]
    unfold selI at nx ⊢
    by_cases p : (bits >>> (nI v &&& 31)) &&& 1 = 1
    · rw [if_pos p]
      by_cases q : (bits >>> (nI w &&& 31)) &&& 1 = 1
      · rw [if_pos q]
        by_cases r : l v = l w
        · rw [if_pos r]
          rw [if_pos ⟨decide_eq_true p, decide_eq_true q, r⟩] at nx
          exact nx
        · rw [if_neg r]
          rw [if_neg (fun z => r z.2.2)] at nx
          exact nx
      · rw [if_neg q]
        rw [if_neg (fun z => q (of_decide_eq_true z.2.1))] at nx
        exact nx
    · rw [if_neg p]
      rw [if_neg (fun z => p (of_decide_eq_true z.1))] at nx
      exact nx
theorem c_heap (hb : b < 8) (hl : ∀ v, v < 10 → σ.1 39 (8 * v + b) = l v) : fX7_greatestHeap (nI b) bits σ = some (nI (mostN (selI bits) l 10), σ) := by
  have key : ∀ (d n v : Nat), v + d = 10 → d < n → LfX7_greatestHeap_5 n (nI b) bits (nI (mostN (selI bits) l v)) (nI v) σ = some (nI (mostN (selI bits) l 10), σ) := by
    intro d
    induction d with
    | zero =>
      intro n v hv hn
      obtain ⟨n, rfl⟩ : ∃ j, n = j + 1 := ⟨n - 1, by omega⟩
      have : v = 10 := by omega
      subst this
      show fX7_greatestHeap_5 _ _ _ _ _ _ = _
      unfold fX7_greatestHeap_5
      rw [show (10 : Int32) = nI 10 from rfl, if_pos (Int32.le_refl _)]
    | succ d ih =>
      intro n v hv hn
      obtain ⟨n, rfl⟩ : ∃ j, n = j + 1 := ⟨n - 1, by omega⟩
      have hlt : ¬ nI 10 ≤ nI v := fun z => by have := (nI_leI (by omega) (by omega)).mp z; omega
      have nx := ih n (v + 1) (by omega) (by omega)
      rw [mostN] at nx
      show fX7_greatestHeap_5 _ _ _ _ _ _ = _
      unfold fX7_greatestHeap_5
      rw [show (10 : Int32) = nI 10 from rfl, if_neg hlt]
      exact (c_heap18 hb hl (LfX7_greatestHeap_5 n) (show v < 10 by omega) (mostN_le _ _ v) 10 200 0 (by omega) (by omega)).trans nx
  exact key 10 200 0 (by omega) (by omega)
theorem m_ask43 (hs : ∀ k, k < 10 → bitAt bits.toInt64 k = selI bits k) (hb : b < 8) (hl : ∀ v, v < 10 → σ.1 30 (8 * v + b) = l v) (K15 : Int32 → Int32 → Int32 → Int32 → vMem → Option (Int32 × vMem)) (K : Int32 → Int32 → Int32 → Int32 → Int32 → Int32 → vMem → Option (Int32 × vMem)) (l3 l4 : Int32) {v : Nat} (hv : v < 10) {g : Nat} (hg : g ≤ 10) : ∀ (d n w : Nat), w + d = 10 → d < n → LfX8_askOf_43 K15 K n bits l3 l4 (nI b) (nI g) (nI v) (nI (heapN (selI bits) l v w)) (nI w) σ = K bits l3 l4 (nI b) (nI (if g < heapN (selI bits) l v 10 then heapN (selI bits) l v 10 else g)) (nI (v + 1)) σ := by
  intro d
  induction d with
  | zero =>
    intro n w hw hn
    obtain ⟨n, rfl⟩ : ∃ j, n = j + 1 := ⟨n - 1, by omega⟩
    have : w = 10 := by omega
    subst this
    have hh := heapN_le (selI bits) l v 10
    show fX8_askOf_43 _ _ _ _ _ _ _ _ _ _ _ _ = _
    unfold fX8_askOf_43 fX8_askOf_129
    rw [show (10 : Int32) = nI 10 from rfl, if_pos (Int32.le_refl _), nI_1]
    by_cases q : g < heapN (selI bits) l v 10
    · rw [if_pos q, if_neg (fun z => by have := (nI_leI (by omega) (by omega)).mp z; omega)]
    · rw [if_neg q, if_pos ((nI_leI (by omega) (by omega)).mpr (by omega))]
  | succ d ih =>
    intro n w hw hn
    obtain ⟨n, rfl⟩ : ∃ j, n = j + 1 := ⟨n - 1, by omega⟩
    have hlt : (nI 10 ≤ nI w) = False := eq_false (fun z => by have := (nI_leI (by omega) (by omega)).mp z; omega)
    have nx := ih n (w + 1) (by omega) (by omega)
    rw [heapN] at nx
    have e1 : 8 * nI v + nI b = nI (8 * v + b) := by rw [show (8 : Int32) = nI 8 from rfl, pk_mul, nI_add]
    have e2 : 8 * nI w + nI b = nI (8 * w + b) := by rw [show (8 : Int32) = nI 8 from rfl, pk_mul, nI_add]
    show fX8_askOf_43 _ _ _ _ _ _ _ _ _ _ _ _ = _
    unfold fX8_askOf_43 fX8_askOf_105 fX8_askOf_106
    rw [show (10 : Int32) = nI 10 from rfl]
    simp only [hlt, ↓reduceIte, m_isIn, Option.bind, b2_0, e1, e2, nI_clamp (show 8 * v + b < 2 ^ 31 by omega), ixF (show 8 * v + b < 80 by omega) (by decide), nI_clamp (show 8 * w + b < 2 ^ 31 by omega), ixF (show 8 * w + b < 80 by omega) (by decide), nI_1, hl v hv, hl w (by omega), i32_add0]
    rw [hs v hv, hs w (by omega)]
    by_cases p : selI bits v = true
    · rw [if_neg (by rw [p]; decide)]
      by_cases q : selI bits w = true
      · rw [if_neg (by rw [q]; decide)]
        by_cases r : l v = l w
        · rw [if_pos r]
          rw [if_pos ⟨p, q, r⟩] at nx
          exact nx
        · rw [if_neg r]
          rw [if_neg (fun z => r z.2.2)] at nx
          exact nx
      · rw [if_pos (by simpa using q)]
        rw [if_neg (fun z => q z.2.1)] at nx
        exact nx
    · rw [if_pos (by simpa using p)]
      rw [if_neg (fun z => p z.1)] at nx
      exact nx
/-- the body of the reference's loop over the baskets -/
theorem m_ask30 (hs : ∀ k, k < 10 → bitAt bits.toInt64 k = selI bits k) (hb : b < 8) (hl : ∀ v, v < 10 → σ.1 30 (8 * v + b) = l v) (K15 : Int32 → Int32 → Int32 → Int32 → vMem → Option (Int32 × vMem)) (l3 l4 : Int32) : LfX8_askOf_30 K15 200 bits l3 l4 (nI b) 0 0 σ = if l3 = -1 ∨ ¬ l4 ≤ nI (mostN (selI bits) l 10) then K15 bits (nI b) (nI (mostN (selI bits) l 10)) (nI (b + 1)) σ else K15 bits l3 l4 (nI (b + 1)) σ := by
  have key : ∀ (d n v : Nat), v + d = 10 → d < n → LfX8_askOf_30 K15 n bits l3 l4 (nI b) (nI (mostN (selI bits) l v)) (nI v) σ = if l3 = -1 ∨ ¬ l4 ≤ nI (mostN (selI bits) l 10) then K15 bits (nI b) (nI (mostN (selI bits) l 10)) (nI (b + 1)) σ else K15 bits l3 l4 (nI (b + 1)) σ := by
    intro d
    induction d with
    | zero =>
      intro n v hv hn
      obtain ⟨n, rfl⟩ : ∃ j, n = j + 1 := ⟨n - 1, by omega⟩
      have : v = 10 := by omega
      subst this
      show fX8_askOf_30 _ _ _ _ _ _ _ _ _ = _
      unfold fX8_askOf_30 fX8_askOf_149 fX8_askOf_154 fX8_askOf_167 fX8_askOf_180
      rw [show (10 : Int32) = nI 10 from rfl, if_pos (Int32.le_refl _)]
      simp only [nI_1, if_neg (show ¬ (1 : Int32) = 0 by decide), ↓reduceIte]
      by_cases p : l3 = -1
      · rw [if_pos p, if_pos (Or.inl p)]
      · rw [if_neg p]
        by_cases q : l4 ≤ nI (mostN (selI bits) l 10)
        · rw [if_pos q, if_neg (by rintro (z | z); exact p z; exact z q)]
        · rw [if_neg q, if_pos (Or.inr q)]
    | succ d ih =>
      intro n v hv hn
      obtain ⟨n, rfl⟩ : ∃ j, n = j + 1 := ⟨n - 1, by omega⟩
      have hlt : ¬ nI 10 ≤ nI v := fun z => by have := (nI_leI (by omega) (by omega)).mp z; omega
      have nx := ih n (v + 1) (by omega) (by omega)
      rw [mostN] at nx
      show fX8_askOf_30 _ _ _ _ _ _ _ _ _ = _
      unfold fX8_askOf_30
      rw [show (10 : Int32) = nI 10 from rfl, if_neg hlt]
      exact (m_ask43 hs hb hl K15 (LfX8_askOf_30 K15 n) l3 l4 (show v < 10 by omega) (mostN_le _ _ v) 10 200 0 (by omega) (by omega)).trans nx
  exact key 10 200 0 (by omega) (by omega)
end
noncomputable def aMo (A : vA) (f b : Nat) : Nat := mostN (selI (orB (sWb A f) 10)) (fun v => nI (lw A f v b)) 10
noncomputable def gAs (A : vA) (f b : Nat) : Nat := 10 - aMo A f b
noncomputable def rAsk (A : vA) (f : Nat) : Int32 := bW (gAs A f) (nbA A)
theorem c_askR {A : vA} (hA : WA A) {σ : vMem} (h : RC A σ) {f : Nat} (hf : f < nfA A) : ∃ σ', fX7_ask (nI f) σ = some (rAsk A f, σ') ∧ RC A σ' := by
  have h8 := nbA_le hA
  have h9 := nfA_le hA
  obtain ⟨σ1, a1, a2, a3⟩ := c_fitB hA h hf
  generalize hbits : orB (sWb A f) 10 = bits at a1
  obtain ⟨σ2, b1, b2, b3, b4⟩ := c_clear (σ := σ1) (gAs A f)
  have key : ∀ (k n i : Nat) (τ : vMem), i + k = nbA A → k < n → BestS (gAs A f) i τ → (∀ a, a ≠ 37 → τ.1 a = σ1.1 a) → ∃ σ', LfX7_ask_26 n bits (nI i) τ = some (rAsk A f, σ') ∧ RC A σ' := by
    intro k
    induction k with
    | zero =>
      intro n i τ hik hn hb he
      obtain ⟨n, rfl⟩ : ∃ j, n = j + 1 := ⟨n - 1, by omega⟩
      have : i = nbA A := by omega
      subst this
      have hR := a2.of37 he
      refine ⟨τ, ?_, hR⟩
      show fX7_ask_26 _ _ _ _ = _
      unfold fX7_ask_26 rAsk
      rw [hR.nb, if_pos (Int32.le_refl _), hb.1]
      rfl
    | succ k ih =>
      intro n i τ hik hn hb he
      obtain ⟨n, rfl⟩ : ∃ j, n = j + 1 := ⟨n - 1, by omega⟩
      have hR := a2.of37 he
      have hlt : (nI (nbA A) ≤ nI i) = False := eq_false (fun z => by have := (nI_leI (by omega) (by omega)).mp z; omega)
      have hh : fX7_greatestHeap (nI i) bits τ = some (nI (aMo A f i), τ) := by
        unfold aMo
        rw [hbits]
        exact c_heap (by omega) (fun v hv => by rw [he 39 (by decide)]; exact a3 v hv i (by omega))
      have m10 : aMo A f i ≤ 10 := mostN_le _ _ _
      have e10 : (10 : Int32) - nI (aMo A f i) = nI (gAs A f i) := pk_sub (a := 10) m10
      obtain ⟨τ', c1, c2, c3, c4⟩ := c_offer (g := gAs A f) (n := i) (fun j _ => by show 10 - aMo A f j < 2 ^ 31; omega) (by omega) hb
      obtain ⟨σ', d1, d2⟩ := ih n (i + 1) τ' (by omega) (by omega) c2 (fun a ha => (c3 a ha).trans (he a ha))
      refine ⟨σ', ?_, d2⟩
      show fX7_ask_26 _ _ _ _ = _
      unfold fX7_ask_26
      rw [hR.nb]
      simp only [hlt, ↓reduceIte]
      rw [hh]
      simp only [Option.bind]
      rw [e10, c1]
      simp only [nI_1]
      exact d1
  obtain ⟨σ', d1, d2⟩ := key (nbA A) 200 0 σ2 (by omega) (by omega) b2 b3
  refine ⟨σ', ?_, d2⟩
  unfold fX7_ask
  rw [c_isFloor h, inR_nI (by omega) hf]
  simp only [Option.bind, b2_0, Bool.true_eq_false, ↓reduceIte]
  rw [a1]
  simp only
  rw [b1]
  exact d1
theorem m_askOf {A : vA} (hA : WA A) {σ : vMem} (h : RM A σ) {f : Nat} (hf : f < nfA A) : ∃ σ', fX8_askOf (nI f) σ = some (rAsk A f, σ') ∧ RM A σ' ∧ MD A σ' := by
  have h8 := nbA_le hA
  have h9 := nfA_le hA
  obtain ⟨σ1, a1, a2, a3, a4⟩ := m_wasOf0 hA h hf
  obtain ⟨m, hm, em⟩ := orB_ex (sWb A f) 10 (Nat.le_refl _)
  have hs : ∀ k, k < 10 → bitAt (orB (sWb A f) 10).toInt64 k = selI (orB (sWb A f) 10) k := fun k hk => by rw [em]; exact ask_bit ⟨m, hm⟩ ⟨k, hk⟩
  generalize hbits : orB (sWb A f) 10 = bits at a1 hs
  have key : ∀ (k n i : Nat) (y : Int32), i + k = nbA A → k < n → (0 < i → y = nI (aMo A f (bestF (gAs A f) i))) → LfX8_askOf_15 n bits (bW (gAs A f) i) y (nI i) σ1 = some (rAsk A f, σ1) := by
    intro k
    induction k with
    | zero =>
      intro n i y hik hn hy
      obtain ⟨n, rfl⟩ : ∃ j, n = j + 1 := ⟨n - 1, by omega⟩
      have : i = nbA A := by omega
      subst this
      show fX8_askOf_15 _ _ _ _ _ _ = _
      unfold fX8_askOf_15 rAsk
      rw [a3.1.2, if_pos (Int32.le_refl _)]
    | succ k ih =>
      intro n i y hik hn hy
      obtain ⟨n, rfl⟩ : ∃ j, n = j + 1 := ⟨n - 1, by omega⟩
      have hlt : ¬ nI (nbA A) ≤ nI i := fun z => by have := (nI_leI (by omega) (by omega)).mp z; omega
      have st := m_ask30 (b := i) (l := fun v => nI (lw A f v i)) (σ := σ1) hs (by omega) (fun v hv => a4 v hv i (by omega)) (LfX8_askOf_15 n) (bW (gAs A f) i) y
      have e0 : mostN (selI bits) (fun v => nI (lw A f v i)) 10 = aMo A f i := by unfold aMo; rw [hbits]
      rw [e0] at st
      show fX8_askOf_15 _ _ _ _ _ _ = _
      unfold fX8_askOf_15
      rw [a3.1.2, if_neg hlt]
      refine st.trans ?_
      have m10 : ∀ j, aMo A f j ≤ 10 := fun j => mostN_le _ _ _
      by_cases z : i = 0
      · subst z
        rw [if_pos (Or.inl (show bW (gAs A f) 0 = -1 from if_pos rfl))]
        have e1 : bestF (gAs A f) 1 = 0 := by rw [bestF, if_pos rfl]
        have nx := ih n 1 (nI (aMo A f 0)) (by omega) (by omega) (fun _ => by rw [e1])
        have e2 : bW (gAs A f) 1 = nI 0 := by unfold bW; rw [if_neg (by decide), e1]
        rw [e2] at nx
        exact nx
      · have hb := bestF_lt (gAs A f) i (by omega)
        have e1 : bW (gAs A f) i = nI (bestF (gAs A f) i) := if_neg z
        have hy := hy (by omega)
        have hle := nI_leI (a := aMo A f (bestF (gAs A f) i)) (b := aMo A f i) (by have := m10 (bestF (gAs A f) i); omega) (by have := m10 i; omega)
        have hbs : bestF (gAs A f) (i + 1) = if gAs A f i ≤ gAs A f (bestF (gAs A f) i) then bestF (gAs A f) i else i := by rw [bestF, if_neg z]
        have i1 := m10 i
        have i2 := m10 (bestF (gAs A f) i)
        by_cases q : aMo A f (bestF (gAs A f) i) ≤ aMo A f i
        · have g1 : gAs A f i ≤ gAs A f (bestF (gAs A f) i) := by show 10 - aMo A f i ≤ 10 - aMo A f (bestF (gAs A f) i); omega
          rw [if_pos g1] at hbs
          rw [if_neg (by rintro (w | w)
                         · rw [e1] at w; exact nI_m1 (by omega) w
                         · rw [hy] at w; exact w (hle.mpr q))]
          have nx := ih n (i + 1) y (by omega) (by omega) (fun _ => by rw [hbs]; exact hy)
          have e2 : bW (gAs A f) (i + 1) = bW (gAs A f) i := by rw [e1]; unfold bW; rw [if_neg (Nat.succ_ne_zero i), hbs]
          rw [e2] at nx
          exact nx
        · have g1 : ¬ gAs A f i ≤ gAs A f (bestF (gAs A f) i) := by show ¬ 10 - aMo A f i ≤ 10 - aMo A f (bestF (gAs A f) i); omega
          rw [if_neg g1] at hbs
          rw [if_pos (Or.inr (by rw [hy]; exact fun w => q (hle.mp w)))]
          have nx := ih n (i + 1) (nI (aMo A f i)) (by omega) (by omega) (fun _ => by rw [hbs])
          have e2 : bW (gAs A f) (i + 1) = nI i := by unfold bW; rw [if_neg (Nat.succ_ne_zero i), hbs]
          rw [e2] at nx
          exact nx
  refine ⟨σ1, ?_, a2, a3⟩
  unfold fX8_askOf
  rw [a1]
  exact key (nbA A) 200 0 0 (by omega) (by omega) (fun z => absurd z (Nat.lt_irrefl _))
theorem q_ask {A : vA} (hA : WA A) (x : Int32) : vJ A (fX7_ask x) (fX8_ask x) := by
  have h9 := nfA_le hA
  by_cases q : inR (nfA A) x = true
  · obtain ⟨k, hk, rfl⟩ := inR_ex (by omega) q
    refine ⟨rAsk A k, A, hA, fun σ h => c_askR hA h hk, fun σ h => ?_⟩
    obtain ⟨σ1, a1, a2, a3⟩ := m_isFloor hA h (nI k)
    obtain ⟨σ', b1, b2, b3⟩ := m_askOf hA a2 hk
    refine ⟨σ', ?_, b2⟩
    unfold fX8_ask fX8_ask_18
    rw [a1, q]
    simp only [Option.bind, b2_0, Bool.true_eq_false, ↓reduceIte, b1]
  · have q := inR_F q
    refine ⟨-2, A, hA, fun σ h => ⟨σ, ?_, h⟩, fun σ h => ?_⟩
    · unfold fX7_ask
      rw [c_isFloor h, q]
      rfl
    · obtain ⟨σ', a1, a2, a3⟩ := m_isFloor hA h x
      refine ⟨σ', ?_, a2⟩
      unfold fX8_ask
      rw [a1, q]
      rfl
