/-! a constructor calls a constructor -/
section KC
variable {mi : vMI} {D : va_G} {cI cZ : ClassId} {Q : va_W → Prop} {d mc ms pc : Nat} {ls : List (Option Value)} {st : List Value} {ws : va_W} {cells slots : Nat}
theorem kAfter {p : Program} {l : Launch} {e : Env} {s : State} {m : MethodId} {args : Array Value} {below : List Frame} {meth : Method} {c : Code} {H : Heap} {locs : List Loc} {A : Nat → Prop} {la : Array Slot} {st0 : List Value} {a : Array Value} {wc : va_W} {Q' : va_W → Prop} {mc' ms' : Nat}
    (O : vOK mi p s m meth c args D cI cZ) (N : vN4 s ∧ meth.name = "<init>") (L : vLk la mi.2.2.1 ls) (P : va_P D classes (ws ++ wc) H) (Dd : va_D A (ws ++ wc)) (S : va_S A s.heap H locs) (hA : ∀ q, s.heap.size ≤ q → A q)
    (hk : ∀ w1, Q' w1 → K mi D cI cZ Q d mc ms (pc + 3) ls st (ws ++ w1) (cells + mc') (slots + ms'))
    (hr : va_Run p l e (kRm d mc ms) s m args below meth c H locs cells slots mc' ms' (F0 m pc la st0) st (kQ D (va_A wc H.size) Q' a) (va_A wc H.size)) :
    W p l e (kRm d mc ms) s m args below meth c H locs cells slots (MQ below (kQ D A Q) args s mc ms A) (F0 m pc la st0) := by
  intro T hT X
  obtain ⟨v, st₀, t, T', L1, h0, X', hL, e1, e2, ⟨w1, hv, hq, hP1, hD1, hz, hkk⟩, stp⟩ := hr T hT X
  cases hv
  rw [h0] at hz hkk
  have hF : ∀ q, va_A wc H.size q → A q := fun q h => by
    rcases h with ⟨k, x, h⟩ | h
    · exact Dd.right.2 k _ h
    · exact hA q (Nat.le_trans S.1 h)
  have S1 : va_S A s.heap T'.heap (locs ++ L1) := ⟨Nat.le_trans S.1 (by rw [e1]; exact hz), fun q h1 h2 => by
      rw [e1, hkk q (Nat.lt_of_lt_of_le h1 S.1) (fun z => h2 (hF q z))]
      exact S.2.1 q h1 h2, fun q hq => by
      rcases List.mem_append.mp hq with h | h
      · exact S.2.2 q h
      · exact hF _ (hL q h)⟩
  obtain ⟨hP2, hD2⟩ := kJoin (H1 := T'.heap) P Dd (fun q h1 h2 => by rw [e1]; exact hkk q h1 h2) hF (by rw [e1]; exact hP1) hD1
  obtain ⟨t2, a1, b1⟩ := hk w1 hq p l e s m args below meth c T'.heap (locs ++ L1) A la O N L hP2 hD2 S1 hA T' rfl X'
  exact ⟨t2, stp t2 a1, b1⟩
theorem kRm_le {d' mc' ms' : Nat} {mn : vMI} (h : d' < d) (h21 : mn.2.2.1 ≤ 21) : (kRm d' mc' ms').frames + 1 ≤ (kRm d mc ms).frames ∧ 8 + (mn.2.2.1 + 11) + (kRm d' mc' ms').locals ≤ (kRm d mc ms).locals := by
  refine ⟨h, ?_⟩
  show 8 + (mn.2.2.1 + 11) + 40 * d' ≤ 40 * d
  omega
/-- the tables' words of a constructor -/
def vMfI (mn : vMI) (n : Nat) : Prop := vMf mn n ∧ Cond.instanceMethod mn.1 ∈ vTbl ∧ mn.1.name = "<init>" ∧ mn.2.2.2 = none
theorem K.call {mn : vMI} {idx n d' mc' ms' cells' slots' q : Nat} {x : va_E} {As : List Value} {Q' : va_W → Prop} (hd : decode mi.2.1 pc = .ok (.invokespecial idx, 3)) (hl : Cond.methodLink mi.1.cls idx mn.1 ∈ vTbl) (hf : vMfI mn n) (hn : As.length = n) (hdd : d' < d) (hlen : (lg_sl (.ref q :: As)).length ≤ mn.2.2.1) (hst : (st.map fun v => v.category).sum ≤ 8) (h1 : cells + mc' = cells') (h2 : slots + ms' = slots') (h3 : cells' ≤ mc) (h4 : slots' ≤ ms)
    (hk : K mn D cI cZ Q' d' mc' ms' 0 (vEn (.ref q :: As) mn.2.2.1) [] [(q, x)] 0 0) (k : ∀ w1, Q' w1 → K mi D cI cZ Q d mc ms (pc + 3) ls st (ws ++ w1) cells' slots') : K mi D cI cZ Q d mc ms pc ls (As.reverse ++ .ref q :: st) (ws ++ [(q, x)]) cells slots := by
  intro p l e s m args below meth c H locs A la O N L P Dd S hA
  subst h1; subst h2
  obtain ⟨⟨hpl, hco, hin, hds, h21⟩, hins, hnm, hret⟩ := hf
  have hts := O.2.2.2.2.2.2.1
  obtain ⟨my, mb, ml, mr⟩ := mn
  have hret : mr = none := hret
  subst hret
  refine kAfter O N L P Dd S hA k (va_runI (As := As) (rest := st) ⟨O.1, O.2.1, O.2.2.1, O.2.2.2.2.2.1, hts⟩ (K.met hpl hnm hlen hk l H.size) ⟨callB_of n hts (vGoodWs hco) rfl rfl rfl (hts _ hin) (hts _ hl) hds (kRm_le (mn := (my, mb, ml, none)) hdd h21), hnm, hts _ hins⟩ ⟨kPre_blind, fun U hU hW => ⟨rfl, by rw [hU], by rw [hU]; exact P.right, va_K.moved hW.alike O.2.2.2.2.2.2.2, Dd.right.weaken (fun _ _ _ _ => trivial), vNst.warm hW O.2.2.2.2.1.2, vN4.warm hW N.1⟩⟩ rfl hn L.1 rfl (lv_room hst) hd ⟨h3, h4⟩)
theorem K.callN {mn : vMI} {idx n d' mc' ms' cells' slots' q : Nat} {host : String} {x : va_E} {As : List Value} {Q' : va_W → Prop} (hd : decode mi.2.1 pc = .ok (.invokespecial idx, 3)) (hl : ∀ s, vN4 s → va_Nw (.methodLinkNest mi.1.cls idx mn.1 host) s) (hf : vMfI mn n) (hn : As.length = n) (hdd : d' < d) (hlen : (lg_sl (.ref q :: As)).length ≤ mn.2.2.1) (hst : (st.map fun v => v.category).sum ≤ 8) (h1 : cells + mc' = cells') (h2 : slots + ms' = slots') (h3 : cells' ≤ mc) (h4 : slots' ≤ ms)
    (hk : K mn D cI cZ Q' d' mc' ms' 0 (vEn (.ref q :: As) mn.2.2.1) [] [(q, x)] 0 0) (k : ∀ w1, Q' w1 → K mi D cI cZ Q d mc ms (pc + 3) ls st (ws ++ w1) cells' slots') : K mi D cI cZ Q d mc ms pc ls (As.reverse ++ .ref q :: st) (ws ++ [(q, x)]) cells slots := by
  intro p l e s m args below meth c H locs A la O N L P Dd S hA
  subst h1; subst h2
  obtain ⟨⟨hpl, hco, hin, hds, h21⟩, hins, hnm, hret⟩ := hf
  have hts := O.2.2.2.2.2.2.1
  obtain ⟨my, mb, ml, mr⟩ := mn
  have hret : mr = none := hret
  subst hret
  refine kAfter O N L P Dd S hA k (va_runIN (As := As) (rest := st) ⟨O.1, O.2.1, O.2.2.1, O.2.2.2.2.2.1, hts⟩ (K.met hpl hnm hlen hk l H.size) ⟨va_cnB n hts (vGoodWs hco) rfl rfl rfl (hl s N.1) (hts _ hin) hds (kRm_le (mn := (my, mb, ml, none)) hdd h21), hnm, hts _ hins⟩ ⟨kPre_blind, fun U hU hW => ⟨rfl, by rw [hU], by rw [hU]; exact P.right, va_K.moved hW.alike O.2.2.2.2.2.2.2, Dd.right.weaken (fun _ _ _ _ => trivial), vNst.warm hW O.2.2.2.2.1.2, vN4.warm hW N.1⟩⟩ rfl hn L.1 rfl (lv_room hst) hd ⟨h3, h4⟩)
end KC
