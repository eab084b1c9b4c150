/-! the first state, the law's loop -/
def A0 : vA := ((0, fun _ => 0), (0, fun _ => 0), (3, 4), (0, fun _ => 0), (0, fun _ => 0), (0, fun _ => (0, 0, 0)), (fun _ => none), 0)
theorem no_lt {p : Nat → Prop} : ∀ k, k < 0 → p k := fun _ h => absurd h (Nat.not_lt_zero _)
theorem WA_0 : WA A0 := ⟨Nat.zero_le _, Nat.zero_le _, ⟨(show 1 ≤ 4 by decide), (show 4 ≤ 9 by decide)⟩, ⟨Nat.zero_le _, no_lt⟩, ⟨Nat.zero_le _, no_lt⟩, ⟨Nat.zero_le _, no_lt⟩, fun s _ f z it h => nomatch h⟩
theorem fF_0 (t : Nat → Int32) : fF t 0 = -1 := FF_one (FF_ex t (Nat.zero_le _)) (Or.inr ⟨no_lt, by rw [if_pos (Or.inl rfl)]⟩)
theorem fB_0 (t : Nat → Int32) : fB t 0 = (-1, 0) := by
  obtain ⟨k, -, -, h⟩ := RB_ex t (n := 0) (Nat.zero_le _)
  unfold resB at h
  rw [if_pos rfl] at h
  exact h
theorem nfA_0 : nfA A0 = 0 := by
  show (if fF (fun _ => 0) 0 = -1 then (0 + 1) / 4 else 0) = 0
  split <;> rfl
theorem nbA_0 : nbA A0 = 0 := by
  show (if (fB (fun _ => 0) 0).1 = -1 then (fB (fun _ => 0) 0).2 else 0) = 0
  rw [fB_0]
  split <;> rfl
theorem RC_0 : RC A0 sC0 := by
  refine ⟨⟨⟨rfl, no_lt⟩, ⟨rfl, no_lt⟩⟩, ⟨?_, ?_, fun w s => ⟨⟨?_, ?_, rfl, rfl⟩, fun f hf => ?_, fun b hb => ?_⟩⟩, ⟨false, false, rfl, rfl⟩, ⟨rfl, no_lt⟩, ⟨rfl, no_lt⟩, ⟨rfl, no_lt⟩, fun s hs => ⟨fun _ => ?_, fun f z it h => nomatch h⟩, rfl⟩
  · show sC0.1 5 1 = fF (fun _ => 0) 0
    rw [fF_0]; rfl
  · show sC0.1 5 6 = (fB (fun _ => 0) 0).1
    rw [fB_0]; rfl
  · show sC0.1 5 0 = nI (nfA A0)
    rw [nfA_0]; rfl
  · show sC0.1 5 5 = nI (nbA A0)
    rw [nbA_0]; rfl
  · have hf : f < nfA A0 := hf
    rw [nfA_0] at hf
    omega
  · have hb : b < nbA A0 := hb
    rw [nbA_0] at hb
    omega
  · rcases (show s = 0 ∨ s = 1 ∨ s = 2 ∨ s = 3 by omega) with rfl | rfl | rfl | rfl <;> rfl
theorem RM_0 : RM A0 sM0 := ⟨⟨⟨rfl, no_lt⟩, ⟨rfl, no_lt⟩⟩, ⟨rfl, rfl⟩, ⟨rfl, no_lt⟩, ⟨rfl, no_lt⟩, ⟨rfl, no_lt⟩, fun s hs => ⟨fun _ => rfl, fun f z it h => nomatch h⟩, rfl⟩
theorem len6 {L i : Nat} (hL : L ≤ 384) (hi : i < 2 ^ 31) (h : ¬ nI L - 6 < nI i) : i + 6 ≤ L := by
  by_cases q : L < 6
  · exfalso
    apply h
    have hp : (0 : Int32) ≤ nI i := nI_pos' hi
    refine Int32.lt_of_lt_of_le ?_ hp
    rcases (show L = 0 ∨ L = 1 ∨ L = 2 ∨ L = 3 ∨ L = 4 ∨ L = 5 by omega) with rfl | rfl | rfl | rfl | rfl | rfl <;> decide
  · rw [show nI L - 6 = nI (L - 6) from pk_sub (b := 6) (by omega)] at h
    have : ¬ L - 6 < i := fun z => h ((nI_ltI (by omega) hi).mpr z)
    omega
theorem law_loop {Z : vSt} (hL : Z.2.1 ≤ 384) : ∀ (n i : Nat) (A : vA) (σ τ : vMem), Z.2.1 - i < n → i ≤ Z.2.1 + 6 → WA A → RC A σ → RM A τ → J Z 18 (lLs Z i) [] σ τ := by
  intro n
  induction n with
  | zero => intro i A σ τ h; exact absurd h (Nat.not_lt_zero _)
  | succ n ih =>
    intro i A σ τ hn hiL hA hR hM
    refine J.iload_n dL_18 rfl ?_
    refine J.aload_n dL_19 rfl ?_
    refine J.slen dL_20 ?_
    refine J.bipush (v := 6) (by decide) dL_21 ?_
    refine J.isub dL_23 ?_
    refine J.icmp_gt (tgt := 1315) dL_24 (by decide) (fun _ => J.done dL_1315 dL_1316) (fun h => ?_)
    have hi : i + 6 ≤ Z.2.1 := len6 hL (by omega) h
    refine J.aload_n dL_27 rfl ?_
    refine J.iload_n dL_28 rfl ?_
    refine J.sld (vp_in_nI (by omega) (by omega)) dL_29 ?_
    refine J.bipush (v := 63) (by decide) dL_30 ?_
    refine J.iand dL_32 ?_
    obtain ⟨k, hk, ek⟩ := pk_andE (Z.2.2.1 (nI i).toNatClampNeg) (m := 63) 6 (by decide)
    rw [ek]
    clear ek
    have next : ∀ B σ' τ', WA B → RC B σ' → RM B τ' → J Z 1309 (lLs Z i) [] σ' τ' := fun B σ' τ' h1 h2 h3 => by
      refine J.iinc (x := nI i) (v := nI (i + 6)) dL_1309 rfl (by rw [show Int32.ofInt 6 = nI 6 from by decide, nI_add]) (by decide) rfl ?_
      refine J.goto (tgt := 18) dL_1312 (by decide) ?_
      exact ih (i + 6) B σ' τ' (by omega) (by omega) h1 h2 h3
    by_cases q : k ≤ 36
    · match k, q with
      | 0, _ => exact J.tableIn (x := nI 0) (off := 163) (tgt := 196) dL_33 (by decide) (by decide) (by decide) (by decide) (lcs_0 hA hR hM hL hi next)
      | 1, _ => exact J.tableIn (x := nI 1) (off := 196) (tgt := 229) dL_33 (by decide) (by decide) (by decide) (by decide) (lcs_1 hA hR hM hL hi next)
      | 2, _ => exact J.tableIn (x := nI 2) (off := 219) (tgt := 252) dL_33 (by decide) (by decide) (by decide) (by decide) (lcs_2 hA hR hM hL hi next)
      | 3, _ => exact J.tableIn (x := nI 3) (off := 242) (tgt := 275) dL_33 (by decide) (by decide) (by decide) (by decide) (lcs_3 hA hR hM hL hi next)
      | 4, _ => exact J.tableIn (x := nI 4) (off := 265) (tgt := 298) dL_33 (by decide) (by decide) (by decide) (by decide) (lcs_4 hA hR hM hL hi next)
      | 5, _ => exact J.tableIn (x := nI 5) (off := 298) (tgt := 331) dL_33 (by decide) (by decide) (by decide) (by decide) (lcs_5 hA hR hM hL hi next)
      | 6, _ => exact J.tableIn (x := nI 6) (off := 331) (tgt := 364) dL_33 (by decide) (by decide) (by decide) (by decide) (lcs_6 hA hR hM hL hi next)
      | 7, _ => exact J.tableIn (x := nI 7) (off := 364) (tgt := 397) dL_33 (by decide) (by decide) (by decide) (by decide) (lcs_7 hA hR hM hL hi next)
      | 8, _ => exact J.tableIn (x := nI 8) (off := 387) (tgt := 420) dL_33 (by decide) (by decide) (by decide) (by decide) (lcs_8 hA hR hM hL hi next)
      | 9, _ => exact J.tableIn (x := nI 9) (off := 410) (tgt := 443) dL_33 (by decide) (by decide) (by decide) (by decide) (lcs_9 hA hR hM hL hi next)
      | 10, _ => exact J.tableIn (x := nI 10) (off := 433) (tgt := 466) dL_33 (by decide) (by decide) (by decide) (by decide) (lcs_10 hA hR hM hL hi next)
      | 11, _ => exact J.tableIn (x := nI 11) (off := 456) (tgt := 489) dL_33 (by decide) (by decide) (by decide) (by decide) (lcs_11 hA hR hM hL hi next)
      | 12, _ => exact J.tableIn (x := nI 12) (off := 499) (tgt := 532) dL_33 (by decide) (by decide) (by decide) (by decide) (lcs_12 hA hR hM hL hi next)
      | 13, _ => exact J.tableIn (x := nI 13) (off := 532) (tgt := 565) dL_33 (by decide) (by decide) (by decide) (by decide) (lcs_13 hA hR hM hL hi next)
      | 14, _ => exact J.tableIn (x := nI 14) (off := 555) (tgt := 588) dL_33 (by decide) (by decide) (by decide) (by decide) (lcs_14 hA hR hM hL hi next)
      | 15, _ => exact J.tableIn (x := nI 15) (off := 588) (tgt := 621) dL_33 (by decide) (by decide) (by decide) (by decide) (lcs_15 hA hR hM hL hi next)
      | 16, _ => exact J.tableIn (x := nI 16) (off := 601) (tgt := 634) dL_33 (by decide) (by decide) (by decide) (by decide) (lcs_16 hA hR hM hL hi next)
      | 17, _ => exact J.tableIn (x := nI 17) (off := 624) (tgt := 657) dL_33 (by decide) (by decide) (by decide) (by decide) (lcs_17 hA hR hM hL hi next)
      | 18, _ => exact J.tableIn (x := nI 18) (off := 637) (tgt := 670) dL_33 (by decide) (by decide) (by decide) (by decide) (lcs_18 hA hR hM hL hi next)
      | 19, _ => exact J.tableIn (x := nI 19) (off := 670) (tgt := 703) dL_33 (by decide) (by decide) (by decide) (by decide) (lcs_19 hA hR hM hL hi next)
      | 20, _ => exact J.tableIn (x := nI 20) (off := 703) (tgt := 736) dL_33 (by decide) (by decide) (by decide) (by decide) (lcs_20 hA hR hM hL hi next)
      | 21, _ => exact J.tableIn (x := nI 21) (off := 736) (tgt := 769) dL_33 (by decide) (by decide) (by decide) (by decide) (lcs_21 hA hR hM hL hi next)
      | 22, _ => exact J.tableIn (x := nI 22) (off := 759) (tgt := 792) dL_33 (by decide) (by decide) (by decide) (by decide) (lcs_22 hA hR hM hL hi next)
      | 23, _ => exact J.tableIn (x := nI 23) (off := 802) (tgt := 835) dL_33 (by decide) (by decide) (by decide) (by decide) (lcs_23 hA hR hM hL hi next)
      | 24, _ => exact J.tableIn (x := nI 24) (off := 815) (tgt := 848) dL_33 (by decide) (by decide) (by decide) (by decide) (lcs_24 hA hR hM hL hi next)
      | 25, _ => exact J.tableIn (x := nI 25) (off := 828) (tgt := 861) dL_33 (by decide) (by decide) (by decide) (by decide) (lcs_25 hA hR hM hL hi next)
      | 26, _ => exact J.tableIn (x := nI 26) (off := 861) (tgt := 894) dL_33 (by decide) (by decide) (by decide) (by decide) (lcs_26 hA hR hM hL hi next)
      | 27, _ => exact J.tableIn (x := nI 27) (off := 884) (tgt := 917) dL_33 (by decide) (by decide) (by decide) (by decide) (lcs_27 hA hR hM hL hi next)
      | 28, _ => exact J.tableIn (x := nI 28) (off := 938) (tgt := 971) dL_33 (by decide) (by decide) (by decide) (by decide) (lcs_28 hA hR hM hL hi next)
      | 29, _ => exact J.tableIn (x := nI 29) (off := 981) (tgt := 1014) dL_33 (by decide) (by decide) (by decide) (by decide) (lcs_29 hA hR hM hL hi next)
      | 30, _ => exact J.tableIn (x := nI 30) (off := 1024) (tgt := 1057) dL_33 (by decide) (by decide) (by decide) (by decide) (lcs_30 hA hR hM hL hi next)
      | 31, _ => exact J.tableIn (x := nI 31) (off := 1047) (tgt := 1080) dL_33 (by decide) (by decide) (by decide) (by decide) (lcs_31 hA hR hM hL hi next)
      | 32, _ => exact J.tableIn (x := nI 32) (off := 1100) (tgt := 1133) dL_33 (by decide) (by decide) (by decide) (by decide) (lcs_32 hA hR hM hL hi next)
      | 33, _ => exact J.tableIn (x := nI 33) (off := 1143) (tgt := 1176) dL_33 (by decide) (by decide) (by decide) (by decide) (lcs_33 hA hR hM hL hi next)
      | 34, _ => exact J.tableIn (x := nI 34) (off := 1206) (tgt := 1239) dL_33 (by decide) (by decide) (by decide) (by decide) (lcs_34 hA hR hM hL hi next)
      | 35, _ => exact J.tableIn (x := nI 35) (off := 1239) (tgt := 1272) dL_33 (by decide) (by decide) (by decide) (by decide) (lcs_35 hA hR hM hL hi next)
      | 36, _ => exact J.tableIn (x := nI 36) (off := 1262) (tgt := 1295) dL_33 (by decide) (by decide) (by decide) (by decide) (lcs_36 hA hR hM hL hi next)
      | k + 37, q => exact absurd q (by omega)
    · refine J.tableOut (tgt := 1309) dL_33 (Or.inr ?_) (by decide) (next A σ τ hA hR hM)
      rw [nI_toInt (by omega)]
      omega
