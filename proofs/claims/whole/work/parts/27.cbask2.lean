section CBl
variable {t : Nat → Int32} {n : Nat} {σ0 : vMem}
/-- d bytes of basket k are read -/
def QB (t : Nat → Int32) (n : Nat) (σ0 : vMem) (k d : Nat) (τ : vMem) : Prop := Fr912 σ0 τ ∧ τ.1 5 5 = nI (k + 1) ∧ DB t n k τ ∧ (τ.1 9 k = if 2 ≤ d then 10 * (t (st t n k) - 48) + (t (st t n k + 1) - 48) else 10 * (t (st t n k) - 48)) ∧ (4 ≤ d → τ.1 10 k = 10 * (t (st t n k + 2) - 48) + (t (st t n k + 3) - 48)) ∧ (d = 3 → τ.1 10 k = 10 * (t (st t n k + 2) - 48)) ∧ (5 ≤ d → τ.1 11 k = nI (d - 4)) ∧ ∀ i, i + 4 < d → τ.1 12 (3 * k + i) = t (st t n k + 4 + i) - 97
/-- how the parse ends -/
def PE (t : Nat → Int32) (n : Nat) (σ0 : vMem) (x : Option (Int32 × vMem)) : Prop := ∃ r c σ', x = some (r, σ') ∧ RB t n r c ∧ Fr912 σ0 σ' ∧ (r = -1 → σ'.1 5 5 = nI c ∧ DB t n c σ')
theorem QB_step {k d : Nat} {τ : vMem} (hk : k < 8) (hd1 : 1 ≤ d) (hd : d < 7) (h : QB t n σ0 k d τ) : ∃ τ', fX5_keepBasketByte (nI d) (t (st t n k + d)) τ = some τ' ∧ QB t n σ0 k (d + 1) τ' := by
  obtain ⟨fr, h5, hD, h9, h10, h10', h11, h12⟩ := h
  obtain ⟨-, hK⟩ := c_keep (σ := τ) hk (t (st t n k + d))
  obtain ⟨k1, k2, k3, kp⟩ := hK h5
  have hd7 : d = 1 ∨ d = 2 ∨ d = 3 ∨ 4 ≤ d := by omega
  rcases hd7 with rfl | rfl | rfl | hd4
  · refine ⟨_, k1, fr.up (by decide) (by decide), ?_, fun j hj => ?_, ?_, fun q => by omega, fun q => by omega, fun q => by omega, fun i hi => by omega⟩
    · rw [vup_ne _ _ (by decide)]; exact h5
    · have := hD j hj
      simpa only [vup_rd, Nat.reduceEqDiff, ↓reduceIte, show ¬ j = k by omega] using this
    · rw [vup_rd, if_pos rfl, if_pos rfl, h9]
      rfl
  · refine ⟨_, k2, fr.up (by decide) (by decide), ?_, fun j hj => ?_, ?_, fun q => by omega, fun q => ?_, fun q => by omega, fun i hi => by omega⟩
    · rw [vup_ne _ _ (by decide)]; exact h5
    · have := hD j hj
      simpa only [vup_rd, Nat.reduceEqDiff, ↓reduceIte, show ¬ j = k by omega] using this
    · rw [vup_ne _ _ (by decide), h9]; rfl
    · rw [vup_rd, if_pos rfl, if_pos rfl]
  · refine ⟨_, k3, fr.up (by decide) (by decide), ?_, fun j hj => ?_, ?_, fun q => ?_, fun q => by omega, fun q => by omega, fun i hi => by omega⟩
    · rw [vup_ne _ _ (by decide)]; exact h5
    · have := hD j hj
      simpa only [vup_rd, Nat.reduceEqDiff, ↓reduceIte, show ¬ j = k by omega] using this
    · rw [vup_ne _ _ (by decide), h9]; rfl
    · rw [vup_rd, if_pos rfl, if_pos rfl, h10' rfl]
  · refine ⟨_, kp d hd4 hd, (fr.up (by decide) (by decide)).up (by decide) (by decide), ?_, fun j hj => ?_, ?_, fun q => ?_, fun q => by omega, fun q => ?_, fun i hi => ?_⟩
    · rw [vup_ne _ _ (by decide), vup_ne _ _ (by decide)]; exact h5
    · obtain ⟨d1, d2, d3, d4⟩ := hD j hj
      simp only [vup_rd, Nat.reduceEqDiff, ↓reduceIte, show ¬ j = k by omega]
      refine ⟨d1, d2, d3, fun i hi => ?_⟩
      have := (sz_in t n (st t n j)).2
      rw [if_neg (by omega)]
      exact d4 i hi
    · rw [vup_ne _ _ (by decide), vup_ne _ _ (by decide), h9, if_pos (by omega), if_pos (by omega)]
    · rw [vup_ne _ _ (by decide), vup_ne _ _ (by decide)]; exact h10 hd4
    · rw [vup_ne _ _ (by decide), vup_rd, if_pos rfl, if_pos rfl, show d + 1 - 4 = d - 3 by omega]
    · rw [vup_rd, if_pos rfl]
      by_cases e : i = d - 4
      · rw [if_pos (by omega), e, show st t n k + 4 + (d - 4) = st t n k + d by omega]
      · rw [if_neg (by omega), vup_ne _ _ (by decide)]
        exact h12 i (by omega)
variable (hn : n ≤ 63) (h3 : σ0.1 3 1 = nI n) (h4 : ∀ i, i < n → σ0.1 4 i = t i)
theorem Fr912.e3 {τ : vMem} (h : Fr912 σ0 τ) (h3 : σ0.1 3 1 = nI n) : τ.1 3 1 = nI n := by rw [h.1 3 (by decide) (by decide)]; exact h3
theorem Fr912.e4 {τ : vMem} (h : Fr912 σ0 τ) (h4 : ∀ i, i < n → σ0.1 4 i = t i) {i : Nat} (hi : i < n) : τ.1 4 i = t i := by rw [h.1 4 (by decide) (by decide)]; exact h4 i hi
theorem c_fail {k d : Nat} (hn0 : n ≠ 0) (hn : n ≤ 63) (hc : ∀ j, j < k → cont t n j) (hd : cd t n k = d) (hd5 : d < 5) {τ : vMem} (fr : Fr912 σ0 τ) (hle : st t n k + d ≤ n) : PE t n σ0 (some (nI (st t n k + d), τ)) := by
  refine ⟨_, 0, τ, rfl, ⟨k, hc, fun q => by have := q.1; omega, ?_⟩, fr, fun q => absurd q (nI_m1 (by omega))⟩
  unfold resB
  rw [if_neg hn0, if_pos (by omega), hd]
theorem bt_in {i : Nat} (h : i < n) : bt t n i = t i := if_pos h
/-- one byte of basket k, d well ones ahead of it -/
theorem c_one {k d m : Nat} (hn : n ≤ 63) (h3 : σ0.1 3 1 = nI n) (h4 : ∀ i, i < n → σ0.1 4 i = t i) (hk : k < 8) (hd1 : 1 ≤ d) (hd : d ≤ 4) (hc : ∀ j, j < k → cont t n j) {τ : vMem} (h : QB t n σ0 k d τ) (hn0 : n ≠ 0) (hle : st t n k + d ≤ n)
    (hbad : tkB d (k + 1) (bt t n (st t n k + d)) = false → cd t n k = d) (hgo : ∀ τ', QB t n σ0 k (d + 1) τ' → st t n k + d < n → tkB d (k + 1) (bt t n (st t n k + d)) = true → PE t n σ0 (LfX5_takeBaskets_4 m (nI (d + 1)) (nI (st t n k + (d + 1))) τ')) : PE t n σ0 (LfX5_takeBaskets_4 (m + 1) (nI d) (nI (st t n k + d)) τ) := by
  by_cases q : st t n k + d < n
  · rw [bt_in q] at hbad hgo
    rw [c_byte (t := t) hn q (h.1.e3 h3) (h.1.e4 h4 q) h.2.1 (by omega) (by omega), if_neg (by omega)]
    by_cases z : tkB d (k + 1) (t (st t n k + d)) = false
    · rw [if_pos z]
      exact c_fail hn0 hn hc (hbad z) (by omega) h.1 hle
    · rw [if_neg z]
      rw [Bool.not_eq_false] at z
      obtain ⟨τ', a1, a2⟩ := QB_step hk hd1 (by omega) h
      rw [a1]
      exact hgo τ' a2 q z
  · have e : st t n k + d = n := by omega
    rw [e, c_bend hn (h.1.e3 h3) (by omega), if_neg (by omega)]
    have hz : tkB d (k + 1) (bt t n (st t n k + d)) = false := by
      unfold bt
      rw [if_neg q]
      unfold tkB
      rw [if_neg (by omega)]
      split
      · exact isF_m1
      · rw [isL_m1]; simp
    have key := c_fail (σ0 := σ0) hn0 hn hc (hbad hz) (by omega) h.1 hle
    have e2 : nI (st t n k + d) = nI n := by rw [e]
    rw [e2] at key
    exact key
/-- behind a good basket -/
theorem c_good {k m : Nat} (hn : n ≤ 63) (h3 : σ0.1 3 1 = nI n) (h4 : ∀ i, i < n → σ0.1 4 i = t i) (hk : k < 8) (hc : ∀ j, j < k → cont t n j) (h5 : cd t n k = 5) {τ : vMem} {e : Nat} (he : e = sz t n (st t n k)) (h : QB t n σ0 k (4 + e) τ)
    (hgo : cont t n k → PE t n σ0 (LfX5_takeBaskets_4 m 0 (nI (st t n (k + 1))) τ)) (hbad : en t n k < n → t (en t n k) ≠ 59 → tkB (4 + e) (k + 1) (t (en t n k)) = false) : PE t n σ0 (LfX5_takeBaskets_4 (m + 1) (nI (4 + e)) (nI (st t n k + (4 + e))) τ) := by
  have hen : en t n k = st t n k + (4 + e) := by unfold en; omega
  have hsz := sz_in t n (st t n k)
  obtain ⟨-, -, -, -, -, -, l1, l2⟩ := cd5 h5
  have hD : DB t n (k + 1) τ := fun j hj => by
    by_cases q : j = k
    · subst q
      obtain ⟨-, -, -, h9, h10, -, h11, h12⟩ := h
      rw [if_pos (by omega)] at h9
      refine ⟨h9, h10 (by omega), ?_, fun i hi => h12 i (by omega)⟩
      rw [h11 (by omega), he]
      congr 1
      omega
    · exact h.2.2.1 j (by omega)
  by_cases q : en t n k < n
  · rw [← hen, c_byte (t := t) hn q (h.1.e3 h3) (h.1.e4 h4 q) h.2.1 (by omega) (by omega)]
    by_cases z : t (en t n k) = 59
    · rw [if_pos ⟨by omega, z⟩]
      have := hgo ⟨h5, q, z⟩
      rw [show st t n (k + 1) = en t n k + 1 by rw [st]; unfold en; omega] at this
      exact this
    · rw [if_neg (fun w => z w.2), if_pos (hbad q z)]
      refine ⟨_, 0, τ, rfl, ⟨k, hc, fun w => z w.2.2, ?_⟩, h.1, fun w => absurd w (nI_m1 (by omega))⟩
      unfold resB
      rw [if_neg (by omega), if_neg (by omega), if_neg (by omega)]
  · have e2 : en t n k = n := by omega
    rw [← hen, e2, c_bend hn (h.1.e3 h3) (by omega), if_pos (by omega)]
    refine ⟨_, k + 1, τ, rfl, ⟨k, hc, fun w => q w.2.1, ?_⟩, h.1, fun _ => ⟨h.2.1, hD⟩⟩
    unfold resB
    rw [if_neg (by omega), if_neg (by omega), if_pos e2]
theorem c_basketsL (hn : n ≤ 63) (h3 : σ0.1 3 1 = nI n) (h4 : ∀ i, i < n → σ0.1 4 i = t i) : ∀ (q m k : Nat) (σ : vMem), k + q = 9 → n - st t n k + 1 < m → (∀ j, j < k → cont t n j) → Fr912 σ0 σ → σ.1 5 5 = nI k → DB t n k σ → PE t n σ0 (LfX5_takeBaskets_4 m 0 (nI (st t n k)) σ) := by
  intro q
  induction q with
  | zero =>
    intro m k σ hkq hm hc
    have := (st_le k hc).2.2
    omega
  | succ q ih =>
    intro m k σ hkq hm hc fr h5 hD
    obtain ⟨hs, hs0, hk8⟩ := st_le k hc
    obtain ⟨m, rfl⟩ : ∃ j, m = j + 1 := ⟨m - 1, by omega⟩
    by_cases hn0 : n = 0
    · subst hn0
      have hk0 : k = 0 := by
        rcases hs0 with z | z
        · exact z
        · omega
      subst hk0
      have := c_bend (n := 0) (p := 0) (m := m) (by omega) (fr.e3 h3) (by omega)
      rw [show st t 0 0 = 0 from rfl, show (0 : Int32) = nI 0 from rfl, this]
      refine ⟨-1, 0, σ, by simp, ⟨0, hc, fun w => by have := w.2.1; omega, by simp [resB]⟩, fr, fun _ => ⟨h5, hD⟩⟩
    -- the first byte
    by_cases q0 : st t n k < n
    · rw [show (0 : Int32) = nI 0 from rfl, c_byte (t := t) hn q0 (fr.e3 h3) (fr.e4 h4 q0) h5 hk8 (by omega), if_neg (by omega)]
      have b0 : bt t n (st t n k) = t (st t n k) := bt_in q0
      by_cases z0 : tkB 0 k (t (st t n k)) = false
      · rw [if_pos z0]
        have := c_fail (σ0 := σ0) (d := 0) hn0 hn hc (by
          unfold cd
          rw [if_pos]
          rw [b0]
          intro w
          simp [tkB, w.1, w.2] at z0) (by omega) fr (by omega)
        simpa using this
      · rw [if_neg z0]
        rw [Bool.not_eq_false] at z0
        have z0' : k < 8 ∧ isF (t (st t n k)) 50 = true := by simpa [tkB] using z0
        have hk := z0'.1
        have hF0 : ¬ ¬ (k < 8 ∧ isF (bt t n (st t n k)) 50 = true) := Decidable.not_not.mpr ⟨hk, by rw [b0]; exact z0'.2⟩
        have hkeep := (c_keep (σ := σ) hk (t (st t n k))).1 h5
        rw [show nI 0 = (0 : Int32) from rfl, hkeep]
        simp only [Option.bind]
        have Q1 : QB t n σ0 k 1 (vup (vup σ 5 5 (nI (k + 1))) 9 k (10 * (t (st t n k) - 48))) := by
          refine ⟨(fr.up5).up (by decide) (by decide), ?_, fun j hj => ?_, ?_, fun w => by omega, fun w => by omega, fun w => by omega, fun i hi => by omega⟩
          · rw [vup_ne _ _ (by decide), vup_rd]; simp
          · have := hD j hj
            simpa only [vup_rd, Nat.reduceEqDiff, ↓reduceIte, show ¬ j = k by omega] using this
          · rw [vup_rd, if_pos rfl, if_pos rfl]; rfl
        generalize vup (vup σ 5 5 (nI (k + 1))) 9 k (10 * (t (st t n k) - 48)) = τ1 at Q1
        obtain ⟨m, rfl⟩ : ∃ j, m = j + 1 := ⟨m - 1, by omega⟩
        refine c_one (d := 1) hn h3 h4 hk (by omega) (by omega) hc Q1 hn0 (by omega) (fun w => by
          unfold cd
          rw [if_neg hF0, if_pos (by simpa [tkB] using w)]) (fun τ2 Q2 l1 w1 => ?_)
        have w1' : ¬ isF (bt t n (st t n k + 1)) 57 = false := by simpa [tkB] using w1
        obtain ⟨m, rfl⟩ : ∃ j, m = j + 1 := ⟨m - 1, by omega⟩
        refine c_one (d := 2) hn h3 h4 hk (by omega) (by omega) hc Q2 hn0 (by omega) (fun w => by
          unfold cd
          rw [if_neg hF0, if_neg w1', if_pos (by simpa [tkB] using w)]) (fun τ3 Q3 l2 w2 => ?_)
        have w2' : ¬ isF (bt t n (st t n k + 2)) 57 = false := by simpa [tkB] using w2
        obtain ⟨m, rfl⟩ : ∃ j, m = j + 1 := ⟨m - 1, by omega⟩
        refine c_one (d := 3) hn h3 h4 hk (by omega) (by omega) hc Q3 hn0 (by omega) (fun w => by
          unfold cd
          rw [if_neg hF0, if_neg w1', if_neg w2', if_pos (by simpa [tkB] using w)]) (fun τ4 Q4 l3 w3 => ?_)
        have w3' : ¬ isF (bt t n (st t n k + 3)) 57 = false := by simpa [tkB] using w3
        obtain ⟨m, rfl⟩ : ∃ j, m = j + 1 := ⟨m - 1, by omega⟩
        refine c_one (d := 4) hn h3 h4 hk (by omega) (by omega) hc Q4 hn0 (by omega) (fun w => by
          unfold cd
          rw [if_neg hF0, if_neg w1', if_neg w2', if_neg w3', if_pos (by simpa [tkB] using w)]) (fun τ5 Q5 l4 w4 => ?_)
        have w4' : ¬ isL (bt t n (st t n k + 4)) = false := by simpa [tkB] using w4
        have h5' : cd t n k = 5 := by
          unfold cd
          rw [if_neg hF0, if_neg w1', if_neg w2', if_neg w3', if_neg w4']
        -- the letters behind the first one
        have nextB : ∀ (m' : Nat) (τ : vMem), n - st t n (k + 1) + 1 < m' → cont t n k → Fr912 σ0 τ → τ.1 5 5 = nI (k + 1) → DB t n (k + 1) τ → PE t n σ0 (LfX5_takeBaskets_4 m' 0 (nI (st t n (k + 1))) τ) := fun m' τ hm' hck f1 f2 f3 => ih m' (k + 1) τ (by omega) hm' (fun j hj => by
          by_cases e : j = k
          · rw [e]; exact hck
          · exact hc j (by omega)) f1 f2 f3
        have full : ∀ (e : Nat) (τ : vMem), e = sz t n (st t n k) → QB t n σ0 k (4 + e) τ → DB t n (k + 1) τ := fun e τ he hQ j hj => by
          have hsz := sz_in t n (st t n k)
          by_cases q : j = k
          · subst q
            obtain ⟨-, -, -, g9, g10, -, g11, g12⟩ := hQ
            rw [if_pos (by omega)] at g9
            refine ⟨g9, g10 (by omega), ?_, fun i hi => g12 i (by omega)⟩
            rw [g11 (by omega), he]
            congr 1
            omega
          · exact hQ.2.2.1 j (by omega)
        have hst1 : st t n (k + 1) = st t n k + sz t n (st t n k) + 5 := rfl
        by_cases y1 : isL (bt t n (st t n k + 5)) = true
        · have l5 := bt_lt y1
          rw [show st t n k + (4 + 1) = st t n k + 5 by omega]
          obtain ⟨m, rfl⟩ : ∃ j, m = j + 1 := ⟨m - 1, by omega⟩
          rw [c_byte (t := t) hn l5 (Q5.1.e3 h3) (Q5.1.e4 h4 l5) Q5.2.1 (by omega) (by omega)]
          rw [bt_in l5] at y1
          have n59 : ¬ t (st t n k + 5) = 59 := fun z => by rw [z] at y1; exact absurd y1 (by decide)
          rw [if_neg (fun z => n59 z.2), if_neg (by simp [tkB, y1])]
          obtain ⟨τ6, a6, Q6⟩ := QB_step hk (by omega) (by omega) Q5
          rw [show (4 : Nat) + 1 = 5 from rfl] at a6 ⊢
          rw [a6]
          simp only [Option.bind]
          by_cases y2 : isL (bt t n (st t n k + 6)) = true
          · have l6 := bt_lt y2
            obtain ⟨m, rfl⟩ : ∃ j, m = j + 1 := ⟨m - 1, by omega⟩
            rw [show st t n k + 5 + 1 = st t n k + 6 by omega]
            rw [c_byte (t := t) hn l6 (Q6.1.e3 h3) (Q6.1.e4 h4 l6) Q6.2.1 (by omega) (by omega)]
            rw [bt_in l6] at y2
            have n59' : ¬ t (st t n k + 6) = 59 := fun z => by rw [z] at y2; exact absurd y2 (by decide)
            rw [if_neg (fun z => n59' z.2), if_neg (by simp [tkB, y2])]
            obtain ⟨τ7, a7, Q7⟩ := QB_step hk (by omega) (by omega) Q6
            rw [show (5 : Nat) + 1 = 6 from rfl] at a7 ⊢
            rw [a7]
            simp only [Option.bind]
            have hsz3 : 3 = sz t n (st t n k) := by unfold sz; rw [if_pos (by rw [bt_in l5]; exact y1), if_pos (by rw [bt_in l6]; exact y2)]
            obtain ⟨m, rfl⟩ : ∃ j, m = j + 1 := ⟨m - 1, by omega⟩
            have := c_good (m := m) hn h3 h4 hk hc h5' hsz3 Q7 (fun hck => nextB m τ7 (by have := hck.2.1; unfold en at this; omega) hck Q7.1 Q7.2.1 (full 3 τ7 hsz3 Q7)) (fun _ _ => by simp [tkB])
            rw [show st t n k + 6 + 1 = st t n k + (4 + 3) by omega]
            exact this
          · have hsz2 : 2 = sz t n (st t n k) := by unfold sz; rw [if_pos (by rw [bt_in l5]; exact y1), if_neg y2]
            obtain ⟨m, rfl⟩ : ∃ j, m = j + 1 := ⟨m - 1, by omega⟩
            have := c_good (m := m) hn h3 h4 hk hc h5' hsz2 Q6 (fun hck => nextB m τ6 (by have := hck.2.1; unfold en at this; omega) hck Q6.1 Q6.2.1 (full 2 τ6 hsz2 Q6)) (fun hlt _ => by
              have e6 : en t n k = st t n k + 6 := by unfold en; omega
              rw [e6] at hlt ⊢
              rw [bt_in hlt] at y2
              simpa [tkB] using y2)
            rw [show st t n k + 5 + 1 = st t n k + (4 + 2) by omega]
            exact this
        · have hsz1 : 1 = sz t n (st t n k) := by unfold sz; rw [if_neg y1]
          obtain ⟨m, rfl⟩ : ∃ j, m = j + 1 := ⟨m - 1, by omega⟩
          exact c_good (m := m) hn h3 h4 hk hc h5' hsz1 Q5 (fun hck => nextB m τ5 (by have := hck.2.1; unfold en at this; omega) hck Q5.1 Q5.2.1 (full 1 τ5 hsz1 Q5)) (fun hlt _ => by
            have e6 : en t n k = st t n k + 5 := by unfold en; omega
            rw [e6] at hlt ⊢
            rw [bt_in hlt] at y1
            simpa [tkB] using y1)
    · have e : st t n k = n := by omega
      have := c_bend (p := 0) (m := m) hn (fr.e3 h3) (by omega)
      rw [show (0 : Int32) = nI 0 from rfl, e, this, if_neg (by omega)]
      have := c_fail (σ0 := σ0) (d := 0) hn0 hn hc (by
        unfold cd
        rw [if_pos]
        unfold bt
        rw [if_neg q0]
        exact fun w => absurd w.2 (by decide)) (by omega) fr (by omega)
      rw [Nat.add_zero, e] at this
      exact this
end CBl
