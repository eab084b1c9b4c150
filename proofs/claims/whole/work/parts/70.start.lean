/-! the law from its entry -/
section LN
variable {p : Program} {l : Launch} {e : Env} {s : State} {m : MethodId} {below : List Frame} {meth : Method} {c : Code} {H : Heap} {locs : List Loc} {la : Array Slot} {b : Nat} {D : va_G} {cI cZ : ClassId} {ws : va_W} {Zf : State → Prop} {pc cells slots : Nat} {st : List Value}
theorem lAfterK {wc : va_W} {Q' : va_W → Prop} {mc' ms' : Nat} {st0 : List Value} {a : Array Value}
    (P : va_P D classes (ws ++ wc) H) (Dd : va_D (fun q => s.heap.size ≤ q) (ws ++ wc)) (S : va_S (fun q => s.heap.size ≤ q) s.heap H locs)
    (hk : ∀ w1, Q' w1 → ∀ H' locs', va_P D classes (ws ++ w1) H' → va_D (fun q => s.heap.size ≤ q) (ws ++ w1) → va_S (fun q => s.heap.size ≤ q) s.heap H' locs' → W p l e room_1 s m #[Value.ref b] below meth c H' locs' (cells + mc') (slots + ms') Zf (F0 m (pc + 3) la st))
    (hr : va_Run p l e room_1 s m #[Value.ref b] below meth c H locs cells slots mc' ms' (F0 m pc la st0) st (kQ D (va_A wc H.size) Q' a) (va_A wc H.size)) :
    W p l e room_1 s m #[Value.ref b] below meth c H locs cells slots Zf (F0 m pc la st0) := by
  intro T hT X
  obtain ⟨v, st₀, t, T', L1, h0, X', hL, e1, e2, ⟨w1, hv, hq, hP1, hD1, hz, hkk⟩, stp⟩ := hr T hT X
  cases hv
  rw [h0] at hz hkk
  have hF : ∀ q, va_A wc H.size q → s.heap.size ≤ q := fun q h => by
    rcases h with ⟨k, x, h⟩ | h
    · exact Dd.right.2 k _ h
    · exact Nat.le_trans S.1 h
  have S1 : va_S (fun q => s.heap.size ≤ q) s.heap T'.heap (locs ++ L1) := ⟨Nat.le_trans S.1 (by rw [e1]; exact hz), fun q h1 h2 => by
      rw [e1, hkk q (Nat.lt_of_lt_of_le h1 S.1) (fun z => h2 (hF q z))]
      exact S.2.1 q h1 h2, fun q hq => by
      rcases List.mem_append.mp hq with h | h
      · exact S.2.2 q h
      · exact hF _ (hL q h)⟩
  obtain ⟨hP2, hD2⟩ := kJoin (H1 := T'.heap) P Dd (fun q h1 h2 => by rw [e1]; exact hkk q h1 h2) hF (by rw [e1]; exact hP1) hD1
  obtain ⟨t2, a1, b1⟩ := hk w1 hq T'.heap (locs ++ L1) hP2 hD2 S1 T' rfl X'
  exact ⟨t2, stp t2 a1, b1⟩
/-- new, dup, the constructor -/
theorem lNew {mn : vMI} {idx idx2 ci M mc' ms' d' : Nat} {T : u_T} {fs : List Value} {Q' : Nat → va_W → Prop} {L : Nat} {xs : Nat → Int32} (O : lOK b L xs p s m meth c D cI cZ) (hN4 : vN4 s) (hla : la.size = 4) (P : va_P D classes ws H) (Dd : va_D (fun q => s.heap.size ≤ q) ws) (S : va_S (fun q => s.heap.size ≤ q) s.heap H locs)
    (hd0 : decode code pc = .ok (.new idx, 3)) (hd1 : decode code (pc + 3) = .ok (.dup, 1)) (hd2 : decode code (pc + 3 + 1) = .ok (.invokespecial idx2, 3)) (hcl : Cond.classLink R_law idx mn.1.cls ∈ vTbl) (hin : Cond.instantiable mn.1.cls M ∈ vTbl) (hl : Cond.methodLink R_law idx2 mn.1 ∈ vTbl) (hf : vMfI mn 0) (hc : classes[ci]? = some (mn.1.cls, T, M)) (hfs : ∀ j, j < M → defaultValue (vTy ci j) = vp_V fs j) (hdd : d' ≤ 11) (hlen : ∀ q, (lg_sl [.ref q]).length ≤ mn.2.2.1) (hst : ∀ q, ((Value.ref q :: st).map fun v => v.category).sum ≤ 8)
    (h1 : cells + 1 ≤ 600000) (h2 : slots + M ≤ 7302250) (h3 : cells + 1 + mc' ≤ 600000) (h4 : slots + M + ms' ≤ 7302250)
    (hK : ∀ q, K mn D cI cZ (Q' q) d' mc' ms' 0 (vEn [.ref q] mn.2.2.1) [] [(q, .inr (ci, fs))] 0 0)
    (k : ∀ q w1, Q' q w1 → ∀ H' locs', va_P D classes (ws ++ w1) H' → va_D (fun q => s.heap.size ≤ q) (ws ++ w1) → va_S (fun q => s.heap.size ≤ q) s.heap H' locs' → W p l e room_1 s m #[Value.ref b] below meth c H' locs' (cells + 1 + mc') (slots + M + ms') Zf (F0 m (pc + 3 + 1 + 3) la (.ref q :: st))) :
    W p l e room_1 s m #[Value.ref b] below meth c H locs cells slots Zf (F0 m pc la st) := by
  obtain ⟨⟨hpl, hco, hini, hds, h21⟩, hins, hnm, hret⟩ := hf
  have hts := O.2.2.2.2.2.2.1
  refine va_new O.1 O.2.1 hts (vIn hc) (vTy ci) (vTy_ok hc) O.2.2.2.2.2.1 (hts _ hcl) (hts _ hin) (hts _ hini) O.2.2.2.2.2.2.2.1 P Dd S (fun _ h => h) hc hfs h1 h2 hd0 (fun q H1 hP hD hS => ?_)
  refine lv_dup O.1 O.2.1 hd1 rfl ?_
  obtain ⟨my, mb, ml, mr⟩ := mn
  have hret : mr = none := hret
  subst hret
  refine lAfterK (a := (Value.ref q :: []).toArray) (Q' := Q' q) hP hD hS (fun w1 hw H' locs' P' D' S' => k q w1 hw H' locs' P' D' S') ?_
  exact va_runI (As := []) (rest := .ref q :: st) ⟨O.1, O.2.1, O.2.2.1, O.2.2.2.2.2.1, hts⟩ (K.met hpl hnm (hlen q) (hK q) l H1.size) ⟨callB_of 0 hts (vGoodWs hco) rfl rfl rfl (hts _ hini) (hts _ hl) hds (by
      refine ⟨?_, ?_⟩
      · show d' + 1 ≤ 14
        omega
      · show 8 + (ml + 11) + 40 * d' ≤ 558
        have : ml ≤ 21 := h21
        omega), hnm, hts _ hins⟩ ⟨kPre_blind, fun U hU hW => ⟨rfl, by rw [hU], by rw [hU]; exact hP.right, va_K.moved hW.alike O.2.2.2.2.2.2.2.1, hD.right.weaken (fun _ _ _ _ => trivial), vNst.warm hW O.2.2.2.2.1, vN4.warm hW hN4⟩⟩ rfl rfl hla rfl (lv_room (hst q)) hd2 ⟨h3, h4⟩
end LN
theorem arrK {s : State} {ty : FieldType} {cA : ClassId} {kA : Class} {comp : ClassId} (h2 : s.vm.classes[cA]? = some kA) (h3 : kA.kind = .array comp ty) : ArrOfT s cA ty := fun n z => ⟨fun k h => (by cases h), kA, h2, comp, h3⟩
set_option maxRecDepth 100000 in
theorem law_words {b : Nat} {s : State} (hts : ∀ w ∈ lw_tbl, w.before #[Value.ref b] s = true) : vNst s ∧ vN4 s := by
  refine ⟨va_Nw.of rfl (hts _ (List.mem_of_getElem? (i := 194) (by decide +kernel))), va_Nw.of rfl (hts _ (List.mem_of_getElem? (i := 119) (by decide +kernel))), va_Nw.of rfl (hts _ (List.mem_of_getElem? (i := 260) (by decide +kernel))), va_Nw.of rfl (hts _ (List.mem_of_getElem? (i := 274) (by decide +kernel))), va_Nw.of rfl (hts _ (List.mem_of_getElem? (i := 313) (by decide +kernel)))⟩
theorem law_known {b : Nat} {s : State} (htv : ∀ w ∈ vTbl, w.before #[Value.ref b] s = true) : ∃ (D : va_G) (cI cZ : ClassId), va_K D classes (vTys cI cZ) s := by
  obtain ⟨c0, iS0, hKn0⟩ := u_known (C := RX0) (T := TX0) (N := 2) (n := 2) htv vIn0 (htv _ isX0)
  obtain ⟨c1, iS1, hKn1⟩ := u_known (C := RX1) (T := TX1) (N := 2) (n := 2) htv vIn1 (htv _ isX1)
  obtain ⟨c2, iS2, hKn2⟩ := u_known (C := RX2) (T := TX2) (N := 3) (n := 3) htv vIn2 (htv _ isX2)
  obtain ⟨c3, iS3, hKn3⟩ := u_known (C := RX3) (T := TX3) (N := 4) (n := 4) htv vIn3 (htv _ isX3)
  obtain ⟨c4, iS4, hKn4⟩ := u_known (C := RX4) (T := TX4) (N := 2) (n := 2) htv vIn4 (htv _ isX4)
  obtain ⟨c5, iS5, hKn5⟩ := u_known (C := RX5) (T := TX5) (N := 13) (n := 13) htv vIn5 (htv _ isX5)
  obtain ⟨c6, iS6, hKn6⟩ := u_known (C := RX6) (T := TX6) (N := 18) (n := 18) htv vIn6 (htv _ isX6)
  obtain ⟨c7, iS7, hKn7⟩ := u_known (C := RX7) (T := TX7) (N := 15) (n := 15) htv vIn7 (htv _ isX7)
  obtain ⟨c8, iS8, hKn8⟩ := u_known (C := RX8) (T := TX8) (N := 48) (n := 48) htv vIn8 (htv _ isX8)
  obtain ⟨cI, kI, comI, f1, f2, f3⟩ := Cond.arrayClass_spec (htv _ ar_int)
  obtain ⟨cZ, kZ, comZ, g1, g2, g3⟩ := Cond.arrayClass_spec (htv _ ar_boo)
  refine ⟨(fun k => if k = 0 then c0 else if k = 1 then c1 else if k = 2 then c2 else if k = 3 then c3 else if k = 4 then c4 else if k = 5 then c5 else if k = 6 then c6 else if k = 7 then c7 else c8, fun k => if k = 0 then iS0 else if k = 1 then iS1 else if k = 2 then iS2 else if k = 3 then iS3 else if k = 4 then iS4 else if k = 5 then iS5 else if k = 6 then iS6 else if k = 7 then iS7 else iS8), cI, cZ, fun k q hq => ?_, fun k q hq => ?_⟩
  · match k, hq with
    | 0, hq => cases hq; exact hKn0
    | 1, hq => cases hq; exact hKn1
    | 2, hq => cases hq; exact hKn2
    | 3, hq => cases hq; exact hKn3
    | 4, hq => cases hq; exact hKn4
    | 5, hq => cases hq; exact hKn5
    | 6, hq => cases hq; exact hKn6
    | 7, hq => cases hq; exact hKn7
    | 8, hq => cases hq; exact hKn8
    | k + 9, hq => simp [classes] at hq
  · match k, hq with
    | 0, hq => cases hq; exact ⟨arrK f2 f3, f1⟩
    | 1, hq => cases hq; exact ⟨arrK g2 g3, g1⟩
    | k + 2, hq => simp [vTys] at hq
set_option maxHeartbeats 4000000 in
theorem whole_start {p : Program} {e : Env} {s : State} {m : MethodId} {below : List Frame} {meth : Method} {c : Code} (l : Launch) (hflags : l.flags = flags0) {b L : Nat} {xs : Nat → Int32} (hL : L ≤ 384) (C0 : lw_At p s m meth c b L xs) : W p l e room_1 s m #[Value.ref b] below meth c s.heap [] 0 0 (lw_Z below #[Value.ref b] s) (entryFrame m ([Value.ref b] : List Value).toArray 4) := by
  obtain ⟨hx, hb, hr, hml, hown, hts, hX, hbl, hlocks, hgv⟩ := id C0
  have htv : ∀ w ∈ vTbl, w.before #[Value.ref b] s = true := fun w hw => hts w (List.mem_filter.mp hw).1
  obtain ⟨hN, hN4⟩ := law_words hts
  obtain ⟨D, cI, cZ, hK⟩ := law_known htv
  have O : lOK b L xs p s m meth c D cI cZ := ⟨hx, hb, hml, ⟨hr, hlocks⟩, hN, hown, htv, hK, hX, hbl⟩
  have hl := lv_entry ([.ref b]) (n := 4) (Nat.le_of_ble_eq_true rfl)
  rw [lg_entry_eq]
  generalize (lg_sl ([.ref b]) ++ List.replicate (4 - (lg_sl ([.ref b])).length) Slot.unset).toArray = la at hl ⊢
  have L0 : vLk la 4 [some (.ref b), none, none, none] := ⟨hl.1, hl.2.1, fun i v hi => hl.2.2 (i, v) (vEn_args (vs := [.ref b]) (n := 4) hi)⟩
  refine lNew (mn := mX7_init) (ci := 7) (T := TX7) (M := 15) (fs := [.null, .null, .null, .null, .null, .null, .null, .null, .null, .null, .int 0, .null, .long 0, .long 0, .int 0]) (mc' := 39) (ms' := 838) (d' := 2) (Q' := fun q w => ∃ ad : Nat → Nat, ad 0 = q ∧ w = vW cI cZ ad GC sC0) (ws := []) (cells := 0) (slots := 0) (st := []) O hN4 L0.1 (fun k q h => by simp at h) ⟨fun i j p q h => by simp at h, fun k q h => by simp at h⟩ va_S.rf dL_0 dL_3 dL_4 clL_7 isX7 lkL_9 hiX7_init rfl df7 (by decide) (fun _ => Nat.le_of_ble_eq_true rfl) (fun _ => Nat.le_of_ble_eq_true rfl) (Nat.le_of_ble_eq_true rfl) (Nat.le_of_ble_eq_true rfl) (Nat.le_of_ble_eq_true rfl) (Nat.le_of_ble_eq_true rfl) (fun q => kX7) (fun q w1 hw H1 locs1 P1 D1 S1 => ?_)
  obtain ⟨aC, hq0, rfl⟩ := hw
  subst hq0
  refine lv_astore_n hx hb dL_7 rfl (vLk_has L0) (by decide) rfl (fun la1 h => ?_)
  have L1 := vLk_set1 (i := 1) rfl h
  refine lNew (mn := mX8_init) (ci := 8) (T := TX8) (M := 48) (fs := [.null, .null, .int 0, .null, .null, .null, .int 0, .null, .null, .null, .null, .int 0, .int 0, .int 0, .null, .int 0, .null, .long 0, .long 0, .int 0, .null, .null, .null, .null, .null, .null, .null, .null, .null, .null, .int 0, .int 0, .null, .null, .null, .null, .null, .int 0, .null, .null, .null, .null, .null, .null, .null, .null, .null, .int 0]) (mc' := 35) (ms' := 2189) (d' := 1) (Q' := fun q w => ∃ ad : Nat → Nat, ad 0 = q ∧ w = vW cI cZ ad GM sM0) (ws := vW cI cZ aC GC sC0) (st := []) O hN4 L1.1 P1 D1 S1 dL_8 dL_11 dL_12 clL_10 isX8 lkL_12 hiX8_init rfl df8 (by decide) (fun _ => Nat.le_of_ble_eq_true rfl) (fun _ => Nat.le_of_ble_eq_true rfl) (Nat.le_of_ble_eq_true rfl) (Nat.le_of_ble_eq_true rfl) (Nat.le_of_ble_eq_true rfl) (Nat.le_of_ble_eq_true rfl) (fun q => kX8) (fun q w2 hw H2 locs2 P2 D2 S2 => ?_)
  obtain ⟨aM, hq0, rfl⟩ := hw
  subst hq0
  refine lv_astore_n hx hb dL_15 rfl (vLk_has L1) (by decide) rfl (fun la2 h => ?_)
  have L2 := vLk_set1 (i := 2) rfl h
  refine lv_iconst (v := 0) hx hb dL_16 (by decide) ?_
  refine lv_istore_n hx hb dL_17 rfl (vLk_has L2) (by decide) rfl (fun la3 h => ?_)
  have L3 := vLk_set1 (i := 3) rfl h
  exact law_loop (Z := (b, L, xs, aC, aM)) hL (L + 1) 0 A0 sC0 sM0 (by show L - 0 < L + 1; omega) (Nat.zero_le _) WA_0 RC_0 RM_0 p l e s m below meth c H2 locs2 la3 D cI cZ O L3 (va_P.comm P2) (va_D.comm D2) S2
