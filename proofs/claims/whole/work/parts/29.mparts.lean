section MP
variable {t : Nat → Int32} {n : Nat} {σ0 : vMem}
def PM (t : Nat → Int32) (n : Nat) (σ0 : vMem) (x : Option (Int32 × vMem)) : Prop := ∃ r c σ', x = some (r, σ') ∧ RB t n r c ∧ Fr69 σ0 σ' ∧ σ'.1 0 6 = nI (if r = -1 then c else 0) ∧ (r = -1 → DN t n c σ')
theorem m_partsL1 (hn : n ≤ 63) (hT : HT σ0 1 n t) : ∀ (q m k : Nat) (σ : vMem), k + q = 9 → q < m → (∀ j, j < k → cont t n j) → Fr69 σ0 σ → σ.1 0 6 = 0 → DN t n k σ → PM t n σ0 (LfX8_readsParts_37 m 1 (nI k) (nI (st t n k)) σ) := by
  intro q
  induction q with
  | zero =>
    intro m k σ hkq hm hc
    have := (st_le k hc).2.2
    omega
  | succ q ih =>
    intro m k σ hkq hm hc fr h06 hD
    obtain ⟨m, rfl⟩ : ∃ j, m = j + 1 := ⟨m - 1, by omega⟩
    obtain ⟨hs, hs0, hk8⟩ := st_le k hc
    have hTσ := hT.fr fr
    have e11 : σ.1 1 1 = nI n := hTσ.1
    have c1 : (1 : Int32).toNatClampNeg = 1 := by decide
    have x1 : ((1 : Int32) < 0 ∨ 2 ≤ 1) = False := eq_false (by decide)
    obtain ⟨rA, rB⟩ := m_readsBasket (σ0 := σ0) hn hk8 hs hTσ fr hD
    have body : n ≠ 0 → PM t n σ0 (fX8_readsParts_51 (LfX8_readsParts_37 m) 1 (nI k) (nI (st t n k)) σ) := fun hn0 => by
      unfold fX8_readsParts_51
      rw [if_neg (by decide)]
      by_cases h5 : cd t n k < 5
      · rw [rA h5]
        simp only [Option.bind]
        unfold fX8_readsParts_70
        have hle : st t n k + cd t n k ≤ n := by
          unfold cd at h5 ⊢
          split
          · omega
          · rename_i z0
            have z0 := Decidable.not_not.mp z0
            have := bt_ltF z0.2
            split
            · omega
            · rename_i z1
              rw [Bool.not_eq_false] at z1
              have := bt_ltF z1
              split
              · omega
              · rename_i z2
                rw [Bool.not_eq_false] at z2
                have := bt_ltF z2
                split
                · omega
                · rename_i z3
                  rw [Bool.not_eq_false] at z3
                  have := bt_ltF z3
                  split
                  · omega
                  · rename_i z4
                    rw [if_neg (Decidable.not_not.mpr z0), if_neg (by rw [z1]; decide), if_neg (by rw [z2]; decide), if_neg (by rw [z3]; decide), if_neg z4] at h5
                    omega
        have hneg : ¬ (0 ≤ -nI (cd t n k) - 1) := by
          have h5' : cd t n k = 0 ∨ cd t n k = 1 ∨ cd t n k = 2 ∨ cd t n k = 3 ∨ cd t n k = 4 := by omega
          rcases h5' with z | z | z | z | z <;> rw [z] <;> decide
        have hval : nI (st t n k) - (-nI (cd t n k) - 1) - 1 = nI (st t n k + cd t n k) := by
          have hs' : -nI (cd t n k) - 1 = -nI (cd t n k + 1) := by
            have h5' : cd t n k = 0 ∨ cd t n k = 1 ∨ cd t n k = 2 ∨ cd t n k = 3 ∨ cd t n k = 4 := by omega
            rcases h5' with z | z | z | z | z <;> rw [z] <;> decide
          rw [hs', Int32.sub_neg, nI_add, show (1 : Int32) = nI 1 from rfl, pk_sub (by omega)]
          congr 1
        rw [if_neg hneg, hval]
        refine ⟨_, 0, σ, rfl, ⟨k, hc, fun w => by have := w.1; omega, ?_⟩, fr, ?_, fun z => absurd z (nI_m1 (by omega))⟩
        · unfold resB; rw [if_neg hn0, if_pos h5]
        · rw [if_neg (nI_m1 (by omega))]; exact h06
      · have h55 : cd t n k = 5 := by
          unfold cd at h5 ⊢
          repeat' split
          all_goals first | rfl | (exfalso; apply h5; simp_all; done) | skip
          all_goals (exfalso; apply h5)
          all_goals (repeat' split)
          all_goals first | omega | (simp_all; done)
        obtain ⟨τ, a1, frτ, hDτ, z0⟩ := rB h55
        have h06τ : τ.1 0 6 = 0 := by rw [z0]; exact h06
        obtain ⟨hk, -, -, -, -, -, l4, len⟩ := cd5 h55
        have hsz := sz_in t n (st t n k)
        have hTτ := hT.fr frτ
        rw [a1]
        simp only [Option.bind]
        unfold fX8_readsParts_70
        rw [if_pos (show (0 : Int32) ≤ nI (4 + sz t n (st t n k)) from nI_pos' (by omega)), c1]
        simp only [x1, ↓reduceIte]
        have een : nI (st t n k) + nI (4 + sz t n (st t n k)) = nI (en t n k) := by rw [nI_add]; unfold en; congr 1; omega
        rw [hTτ.1, een]
        simp only [nI_eq (show en t n k < 2 ^ 31 by omega) (show n < 2 ^ 31 by omega)]
        by_cases z : en t n k = n
        · rw [if_pos z, if_neg (by decide)]
          unfold fX8_readsParts_115 fX8_readsParts_118 fX8_readsParts_132 fX8_readsParts_135
          rw [if_pos rfl, vup_same _ 0 2 rfl, nI_1]
          refine ⟨-1, k + 1, _, rfl, ⟨k, hc, fun w => by have := w.2.1; omega, ?_⟩, ⟨fun a h0 ha => by rw [vup_ne _ _ h0]; exact frτ.1 a h0 ha, fun j hj => by rw [vup_rd, if_pos rfl, if_neg hj]; exact frτ.2.1 j hj, frτ.2.2⟩, ?_, fun _ j hj => ?_⟩
          · unfold resB; rw [if_neg hn0, if_neg h5, if_pos z]
          · rw [if_pos rfl, vup_rd]; simp
          · have := hDτ j hj
            simpa only [vup_rd, Nat.reduceEqDiff, ↓reduceIte] using this
        · rw [if_neg z]
          have hlt : en t n k < n := by omega
          rw [show fX8_byteAt 1 (nI (en t n k)) τ = some (bt t n (en t n k), τ) from m_byteAt hTτ (by decide) hn (by omega), bt_in hlt]
          simp only [Option.bind]
          by_cases y : t (en t n k) = 59
          · rw [if_pos y, nI_1, nI_1, show en t n k + 1 = st t n (k + 1) by rw [st]; unfold en; omega]
            exact ih m (k + 1) τ (by omega) (by omega) (fun j hj => by
              by_cases e : j = k
              · rw [e]; exact ⟨h55, hlt, y⟩
              · exact hc j (by omega)) frτ h06τ hDτ
          · rw [if_neg y]
            refine ⟨_, 0, τ, rfl, ⟨k, hc, fun w => y w.2.2, ?_⟩, frτ, ?_, fun z => absurd z (nI_m1 (by omega))⟩
            · unfold resB; rw [if_neg hn0, if_neg h5, if_neg z]
            · rw [if_neg (nI_m1 (by omega))]; exact h06τ
    show PM t n σ0 (fX8_readsParts_37 _ _ _ _ _)
    unfold fX8_readsParts_37
    rw [c1]
    simp only [x1, ↓reduceIte, e11, nI_ltI (show st t n k < 2 ^ 31 by omega) (show n < 2 ^ 31 by omega), nI_le0 (show st t n k < 2 ^ 31 by omega)]
    by_cases w1 : st t n k < n
    · rw [if_pos w1]
      exact body (by omega)
    · rw [if_neg w1]
      by_cases w2 : st t n k = 0
      · rw [if_pos w2]
        have hn0 : n = 0 := by omega
        have hk0 : k = 0 := by
          rcases hs0 with z | z
          · exact z
          · omega
        subst hk0
        subst hn0
        refine ⟨-1, 0, σ, rfl, ⟨0, hc, fun w => by have := w.2.1; omega, by simp [resB]⟩, fr, ?_, fun _ j hj => absurd hj (Nat.not_lt_zero _)⟩
        rw [if_pos rfl]; exact h06
      · rw [if_neg w2]
        exact body (by omega)
end MP
