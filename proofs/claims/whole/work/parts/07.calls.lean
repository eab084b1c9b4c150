/-- the locals with which a method begins -/
def vLs : List Value → List (Option Value)
  | [] => []
  | v :: vs => if v.category = 2 then some v :: none :: vLs vs else some v :: vLs vs
def vEn (vs : List Value) (n : Nat) : List (Option Value) := vLs vs ++ List.replicate (n - (vLs vs).length) none
theorem vLs_args : ∀ (vs : List Value) (i : Nat) (j : Nat) (v : Value), (vLs vs)[j]? = some (some v) → (i + j, v) ∈ lv_args i vs
  | [], i, j, v, h => by simp [vLs] at h
  | w :: vs, i, j, v, h => by
    unfold vLs at h
    unfold lv_args
    by_cases hw : w.category = 2
    · rw [if_pos hw] at h ⊢
      match j, h with
      | 0, h =>
        have : w = v := by simpa using h
        subst this
        exact List.mem_cons_self
      | 1, h => simp at h
      | j + 2, h =>
        have := vLs_args vs (i + 2) j v (by simpa using h)
        rw [show i + (j + 2) = i + 2 + j by omega]
        exact List.mem_cons_of_mem _ this
    · rw [if_neg hw] at h ⊢
      match j, h with
      | 0, h =>
        have : w = v := by simpa using h
        subst this
        exact List.mem_cons_self
      | j + 1, h =>
        have := vLs_args vs (i + 1) j v (by simpa using h)
        rw [show i + (j + 1) = i + 1 + j by omega]
        exact List.mem_cons_of_mem _ this
theorem vEn_args {vs : List Value} {n j : Nat} {v : Value} (h : (vEn vs n)[j]? = some (some v)) : (j, v) ∈ lv_args 0 vs := by
  unfold vEn at h
  rcases Nat.lt_or_ge j (vLs vs).length with q | q
  · rw [List.getElem?_append_left q] at h
    simpa using vLs_args vs 0 j v h
  · rw [List.getElem?_append_right q, List.getElem?_replicate] at h
    split at h <;> cases h
def vPre (D : va_G) (cI cZ : ClassId) (ad : Nat → Nat) (G : vCfg) (σ : vMem) (sz : Nat) (U : State) : Prop := U.heap.size = sz ∧ va_P D classes (vW cI cZ ad G σ) U.heap ∧ va_K D classes (vTys cI cZ) U ∧ va_D (fun _ => True) (vW cI cZ ad G σ) ∧ vNst U
abbrev vWs (mi : vMI) : List Cond := .code mi.1 mi.2.1 mi.2.2.1 mi.2.2.2 :: vTbl
/-- V at a method's beginning is its contract -/
theorem V.met {G : vCfg} {mi : vMI} {ad : Nat → Nat} {Q : Option Value → vMem → Prop} {d : Nat} {σ : vMem} {vs : List Value} (hp : plainName mi.1.cls = true) (hlen : (lg_sl vs).length ≤ mi.2.2.1) (h : V G mi ad Q d 0 (vEn vs mi.2.2.1) [] σ) (l : Launch) (D : va_G) (cI cZ : ClassId) (sz : Nat) :
    Met l mi.1 (vWs mi) (vRm d) (va_Pc vs (vPre D cI cZ ad G σ sz)) (vQ D cI cZ ad G (va_A (vW cI cZ ad G σ) sz) Q) 0 0 (va_A (vW cI cZ ad G σ) sz) := by
  refine Met.ofW (cc := mi.2.1) (maxL := mi.2.2.1) (ret := mi.2.2.2) hp rfl ?_
  intro p e s m args below meth c s₁ B hml hv
  obtain ⟨rfl, hsz, hP, hK, hD0, hNs⟩ := hv
  have hts := atoms_spec (ws := vWs mi) B.pre
  have hown : s.vm.findClass mi.1.cls = some m.cls := findClass_of_methodNamed B.named
  subst hsz
  have hl := lv_entry vs (n := mi.2.2.1) hlen
  rw [lg_entry_eq]
  exact h p l e s m vs.toArray below meth c s.heap [] (va_A (vW cI cZ ad G σ) s.heap.size) D cI cZ _ ⟨B.exec, B.bytes, hml, B.returns, ⟨B.notSynchronized, hNs⟩, hown, fun w hw => hts w (List.mem_cons_of_mem _ hw), hK⟩ ⟨hl.1, hl.2.1, fun i v hi => hl.2.2 (i, v) (vEn_args hi)⟩ hP hD0.self va_S.rf (fun q h => Or.inr h)
theorem vPre_blind {D : va_G} {cI cZ : ClassId} {ad : Nat → Nat} {G : vCfg} {σ : vMem} {sz : Nat} {vs : List Value} : FrameBlind (va_Pc vs (vPre D cI cZ ad G σ sz)) := fun a U g mk q => by
  obtain ⟨q0, q1, qP, qK, qD, qN⟩ := q
  exact ⟨q0, q1, qP, va_K.moved (u := U) (U := U.calling g mk a) (Vm.Alike.refl U.vm) qK, qD, vNst.same (u := U) (U := U.calling g mk a) rfl qN⟩
/-- what comes back from a call -/
def vPv (r : Option Value) (st : List Value) : List Value := match r with
  | none => st
  | some v => v :: st
section VC
variable {G : vCfg} {mi mc : vMI} {ad : Nat → Nat} {Q : Option Value → vMem → Prop} {d d' pc : Nat} {ls : List (Option Value)} {st : List Value} {σ : vMem}
theorem vGoodWs (hc : Cond.code mc.1 mc.2.1 mc.2.2.1 mc.2.2.2 ∈ vTbl) : GoodIn vTbl (vWs mc) := fun w hw => (List.mem_cons.mp hw).elim (fun e => e ▸ ⟨hc, Or.inl rfl⟩) (fun h => vGood vTbl (fun _ h => h) w h)
theorem vRm_le (h : d' < d) (h21 : mc.2.2.1 ≤ 21) : (vRm d').frames + 1 ≤ (vRm d).frames ∧ 8 + (mc.2.2.1 + 11) + (vRm d').locals ≤ (vRm d).locals := by
  refine ⟨h, ?_⟩
  show 8 + (mc.2.2.1 + 11) + 40 * d' ≤ 40 * d
  omega
/-- behind a call: the world as the callee left it -/
theorem vAfter {p : Program} {l : Launch} {e : Env} {s : State} {m : MethodId} {args : Array Value} {below : List Frame} {meth : Method} {c : Code} {H : Heap} {locs : List Loc} {A : Nat → Prop} {D : va_G} {cI cZ : ClassId} {la : Array Slot} {st0 : List Value} {a : Array Value}
    (O : vOK mi p s m meth c args D cI cZ) (L : vLk la mi.2.2.1 ls) (P : va_P D classes (vW cI cZ ad G σ) H) (Dd : va_D A (vW cI cZ ad G σ)) (S : va_S A s.heap H locs) (hA : ∀ q, s.heap.size ≤ q → A q)
    (hr : va_Run p l e (vRm d) s m args below meth c H locs 0 0 0 0 (F0 m pc la st0) st (vQ D cI cZ ad G (va_A (vW cI cZ ad G σ) H.size) (fun r τ => V G mi ad Q d (pc + 3) ls (vPv r st) τ) a) (va_A (vW cI cZ ad G σ) H.size)) :
    W p l e (vRm d) s m args below meth c H locs 0 0 (MQ below (vQ D cI cZ ad G A Q) args s 0 0 A) (F0 m pc la st0) := by
  intro T hT X
  obtain ⟨v, st₀, t, T', L1, h0, X', hL, e1, e2, ⟨r, τ, hv, hp, hb, hz, hk⟩, stp⟩ := hr T hT X
  cases hv
  rw [h0] at hz hk
  have hF : ∀ q, va_A (vW cI cZ ad G σ) H.size q → A q := fun q h => by
    rcases h with ⟨k, x, h⟩ | h
    · exact Dd.2 k _ h
    · exact hA q (Nat.le_trans S.1 h)
  have S1 : va_S A s.heap T'.heap (locs ++ L1) := ⟨Nat.le_trans S.1 (by rw [e1]; exact hz), fun q h1 h2 => by
      rw [e1, hk q (Nat.lt_of_lt_of_le h1 S.1) (fun z => h2 (hF q z))]
      exact S.2.1 q h1 h2, fun q hq => by
      rcases List.mem_append.mp hq with h | h
      · exact S.2.2 q h
      · exact hF _ (hL q h)⟩
  obtain ⟨t2, a1, b1⟩ := hp p l e s m args below meth c T'.heap (locs ++ L1) A D cI cZ la O L (by rw [e1]; exact hb) (vW_D τ Dd) S1 hA T' rfl X'
  refine ⟨t2, stp t2 ?_, b1⟩
  cases v <;> exact a1

theorem V.callV0 {b ci z idx : Nat} (hd : decode mi.2.1 pc = .ok (.invokevirtual idx, 3)) (hl : Cond.methodLink mi.1.cls idx mc.1 ∈ vTbl) (hf : vMfV mc 0) (hb : b < G.1) (hg : G.2.1 b = (ci + 2, z)) (hcl : classes[ci]? = some (mc.1.cls, (classes.getD ci ("", TX0, 0)).2.1, vN ci)) (hdd : d' < d) (hlen : (lg_sl (.ref (ad b) :: [])).length ≤ mc.2.2.1) (hst : (st.map fun v => v.category).sum ≤ 8)
    (k : V G mc ad (fun r τ => V G mi ad Q d (pc + 3) ls (vPv r st) τ) d' 0 (vEn (.ref (ad b) :: []) mc.2.2.1) [] σ) : V G mi ad Q d pc ls (.ref (ad b) :: st) σ := by
  intro p l e s m args below meth c H locs A D cI cZ la O L P Dd S hA
  obtain ⟨⟨hpl, hco, hin, hds, h21⟩, hins, hsel⟩ := hf
  have hts := O.2.2.2.2.2.2.1
  have cw : CallW (vRm d) s args mi.1.cls mc.1.cls idx mc.1 mc.2.1 mc.2.2.1 mc.2.2.2 (vWs mc) (vRm d') 0 0 0 := ⟨callB_of 0 hts (vGoodWs hco) rfl rfl rfl (hts _ hin) (hts _ hl) hds (vRm_le hdd h21), hts _ hins, hts _ hsel⟩
  have hcell : ∃ cellB : Cell, H[ad b]? = some cellB ∧ cellB.vm.isStatics = false ∧ s.vm.findClass mc.1.cls = some cellB.cls := by
    obtain ⟨r, h1, cell, q1, q2, q3, q4⟩ := P b _ (by rw [vW_get _ _ _ _ _ hb, vCell_obj hg])
    have hr := Option.some.inj (h1.symm.trans hcl)
    subst hr
    exact ⟨cell, q1, by rw [q3]; rfl, by rw [q2]; exact (O.2.2.2.2.2.2.2.1 ci _ hcl).2.1⟩
  exact vAfter O L P Dd S hA (va_runV (As := []) (rest := st) ⟨O.1, O.2.1, O.2.2.1, O.2.2.2.2.2.1, hts⟩ (V.met hpl hlen k l D cI cZ H.size) cw ⟨vPre_blind, hcell, fun U hU hW => ⟨rfl, by rw [hU], by rw [hU]; exact P, va_K.moved hW.alike O.2.2.2.2.2.2.2, Dd.weaken (fun _ _ _ _ => trivial), vNst.warm hW O.2.2.2.2.1.2⟩⟩ rfl rfl L.1 rfl (lv_room hst) hd ⟨Nat.le_refl 0, Nat.le_refl 0⟩)
theorem V.callV1 {b ci z idx : Nat} {x1 : Value} (hd : decode mi.2.1 pc = .ok (.invokevirtual idx, 3)) (hl : Cond.methodLink mi.1.cls idx mc.1 ∈ vTbl) (hf : vMfV mc 1) (hb : b < G.1) (hg : G.2.1 b = (ci + 2, z)) (hcl : classes[ci]? = some (mc.1.cls, (classes.getD ci ("", TX0, 0)).2.1, vN ci)) (hdd : d' < d) (hlen : (lg_sl (.ref (ad b) :: [x1])).length ≤ mc.2.2.1) (hst : (st.map fun v => v.category).sum ≤ 8)
    (k : V G mc ad (fun r τ => V G mi ad Q d (pc + 3) ls (vPv r st) τ) d' 0 (vEn (.ref (ad b) :: [x1]) mc.2.2.1) [] σ) : V G mi ad Q d pc ls (x1 :: .ref (ad b) :: st) σ := by
  intro p l e s m args below meth c H locs A D cI cZ la O L P Dd S hA
  obtain ⟨⟨hpl, hco, hin, hds, h21⟩, hins, hsel⟩ := hf
  have hts := O.2.2.2.2.2.2.1
  have cw : CallW (vRm d) s args mi.1.cls mc.1.cls idx mc.1 mc.2.1 mc.2.2.1 mc.2.2.2 (vWs mc) (vRm d') 0 0 1 := ⟨callB_of 1 hts (vGoodWs hco) rfl rfl rfl (hts _ hin) (hts _ hl) hds (vRm_le hdd h21), hts _ hins, hts _ hsel⟩
  have hcell : ∃ cellB : Cell, H[ad b]? = some cellB ∧ cellB.vm.isStatics = false ∧ s.vm.findClass mc.1.cls = some cellB.cls := by
    obtain ⟨r, h1, cell, q1, q2, q3, q4⟩ := P b _ (by rw [vW_get _ _ _ _ _ hb, vCell_obj hg])
    have hr := Option.some.inj (h1.symm.trans hcl)
    subst hr
    exact ⟨cell, q1, by rw [q3]; rfl, by rw [q2]; exact (O.2.2.2.2.2.2.2.1 ci _ hcl).2.1⟩
  exact vAfter O L P Dd S hA (va_runV (As := [x1]) (rest := st) ⟨O.1, O.2.1, O.2.2.1, O.2.2.2.2.2.1, hts⟩ (V.met hpl hlen k l D cI cZ H.size) cw ⟨vPre_blind, hcell, fun U hU hW => ⟨rfl, by rw [hU], by rw [hU]; exact P, va_K.moved hW.alike O.2.2.2.2.2.2.2, Dd.weaken (fun _ _ _ _ => trivial), vNst.warm hW O.2.2.2.2.1.2⟩⟩ rfl rfl L.1 rfl (lv_room hst) hd ⟨Nat.le_refl 0, Nat.le_refl 0⟩)
theorem V.callV2 {b ci z idx : Nat} {x1 x2 : Value} (hd : decode mi.2.1 pc = .ok (.invokevirtual idx, 3)) (hl : Cond.methodLink mi.1.cls idx mc.1 ∈ vTbl) (hf : vMfV mc 2) (hb : b < G.1) (hg : G.2.1 b = (ci + 2, z)) (hcl : classes[ci]? = some (mc.1.cls, (classes.getD ci ("", TX0, 0)).2.1, vN ci)) (hdd : d' < d) (hlen : (lg_sl (.ref (ad b) :: [x1, x2])).length ≤ mc.2.2.1) (hst : (st.map fun v => v.category).sum ≤ 8)
    (k : V G mc ad (fun r τ => V G mi ad Q d (pc + 3) ls (vPv r st) τ) d' 0 (vEn (.ref (ad b) :: [x1, x2]) mc.2.2.1) [] σ) : V G mi ad Q d pc ls (x2 :: x1 :: .ref (ad b) :: st) σ := by
  intro p l e s m args below meth c H locs A D cI cZ la O L P Dd S hA
  obtain ⟨⟨hpl, hco, hin, hds, h21⟩, hins, hsel⟩ := hf
  have hts := O.2.2.2.2.2.2.1
  have cw : CallW (vRm d) s args mi.1.cls mc.1.cls idx mc.1 mc.2.1 mc.2.2.1 mc.2.2.2 (vWs mc) (vRm d') 0 0 2 := ⟨callB_of 2 hts (vGoodWs hco) rfl rfl rfl (hts _ hin) (hts _ hl) hds (vRm_le hdd h21), hts _ hins, hts _ hsel⟩
  have hcell : ∃ cellB : Cell, H[ad b]? = some cellB ∧ cellB.vm.isStatics = false ∧ s.vm.findClass mc.1.cls = some cellB.cls := by
    obtain ⟨r, h1, cell, q1, q2, q3, q4⟩ := P b _ (by rw [vW_get _ _ _ _ _ hb, vCell_obj hg])
    have hr := Option.some.inj (h1.symm.trans hcl)
    subst hr
    exact ⟨cell, q1, by rw [q3]; rfl, by rw [q2]; exact (O.2.2.2.2.2.2.2.1 ci _ hcl).2.1⟩
  exact vAfter O L P Dd S hA (va_runV (As := [x1, x2]) (rest := st) ⟨O.1, O.2.1, O.2.2.1, O.2.2.2.2.2.1, hts⟩ (V.met hpl hlen k l D cI cZ H.size) cw ⟨vPre_blind, hcell, fun U hU hW => ⟨rfl, by rw [hU], by rw [hU]; exact P, va_K.moved hW.alike O.2.2.2.2.2.2.2, Dd.weaken (fun _ _ _ _ => trivial), vNst.warm hW O.2.2.2.2.1.2⟩⟩ rfl rfl L.1 rfl (lv_room hst) hd ⟨Nat.le_refl 0, Nat.le_refl 0⟩)
theorem V.callV3 {b ci z idx : Nat} {x1 x2 x3 : Value} (hd : decode mi.2.1 pc = .ok (.invokevirtual idx, 3)) (hl : Cond.methodLink mi.1.cls idx mc.1 ∈ vTbl) (hf : vMfV mc 3) (hb : b < G.1) (hg : G.2.1 b = (ci + 2, z)) (hcl : classes[ci]? = some (mc.1.cls, (classes.getD ci ("", TX0, 0)).2.1, vN ci)) (hdd : d' < d) (hlen : (lg_sl (.ref (ad b) :: [x1, x2, x3])).length ≤ mc.2.2.1) (hst : (st.map fun v => v.category).sum ≤ 8)
    (k : V G mc ad (fun r τ => V G mi ad Q d (pc + 3) ls (vPv r st) τ) d' 0 (vEn (.ref (ad b) :: [x1, x2, x3]) mc.2.2.1) [] σ) : V G mi ad Q d pc ls (x3 :: x2 :: x1 :: .ref (ad b) :: st) σ := by
  intro p l e s m args below meth c H locs A D cI cZ la O L P Dd S hA
  obtain ⟨⟨hpl, hco, hin, hds, h21⟩, hins, hsel⟩ := hf
  have hts := O.2.2.2.2.2.2.1
  have cw : CallW (vRm d) s args mi.1.cls mc.1.cls idx mc.1 mc.2.1 mc.2.2.1 mc.2.2.2 (vWs mc) (vRm d') 0 0 3 := ⟨callB_of 3 hts (vGoodWs hco) rfl rfl rfl (hts _ hin) (hts _ hl) hds (vRm_le hdd h21), hts _ hins, hts _ hsel⟩
  have hcell : ∃ cellB : Cell, H[ad b]? = some cellB ∧ cellB.vm.isStatics = false ∧ s.vm.findClass mc.1.cls = some cellB.cls := by
    obtain ⟨r, h1, cell, q1, q2, q3, q4⟩ := P b _ (by rw [vW_get _ _ _ _ _ hb, vCell_obj hg])
    have hr := Option.some.inj (h1.symm.trans hcl)
    subst hr
    exact ⟨cell, q1, by rw [q3]; rfl, by rw [q2]; exact (O.2.2.2.2.2.2.2.1 ci _ hcl).2.1⟩
  exact vAfter O L P Dd S hA (va_runV (As := [x1, x2, x3]) (rest := st) ⟨O.1, O.2.1, O.2.2.1, O.2.2.2.2.2.1, hts⟩ (V.met hpl hlen k l D cI cZ H.size) cw ⟨vPre_blind, hcell, fun U hU hW => ⟨rfl, by rw [hU], by rw [hU]; exact P, va_K.moved hW.alike O.2.2.2.2.2.2.2, Dd.weaken (fun _ _ _ _ => trivial), vNst.warm hW O.2.2.2.2.1.2⟩⟩ rfl rfl L.1 rfl (lv_room hst) hd ⟨Nat.le_refl 0, Nat.le_refl 0⟩)
theorem V.callV4 {b ci z idx : Nat} {x1 x2 x3 x4 : Value} (hd : decode mi.2.1 pc = .ok (.invokevirtual idx, 3)) (hl : Cond.methodLink mi.1.cls idx mc.1 ∈ vTbl) (hf : vMfV mc 4) (hb : b < G.1) (hg : G.2.1 b = (ci + 2, z)) (hcl : classes[ci]? = some (mc.1.cls, (classes.getD ci ("", TX0, 0)).2.1, vN ci)) (hdd : d' < d) (hlen : (lg_sl (.ref (ad b) :: [x1, x2, x3, x4])).length ≤ mc.2.2.1) (hst : (st.map fun v => v.category).sum ≤ 8)
    (k : V G mc ad (fun r τ => V G mi ad Q d (pc + 3) ls (vPv r st) τ) d' 0 (vEn (.ref (ad b) :: [x1, x2, x3, x4]) mc.2.2.1) [] σ) : V G mi ad Q d pc ls (x4 :: x3 :: x2 :: x1 :: .ref (ad b) :: st) σ := by
  intro p l e s m args below meth c H locs A D cI cZ la O L P Dd S hA
  obtain ⟨⟨hpl, hco, hin, hds, h21⟩, hins, hsel⟩ := hf
  have hts := O.2.2.2.2.2.2.1
  have cw : CallW (vRm d) s args mi.1.cls mc.1.cls idx mc.1 mc.2.1 mc.2.2.1 mc.2.2.2 (vWs mc) (vRm d') 0 0 4 := ⟨callB_of 4 hts (vGoodWs hco) rfl rfl rfl (hts _ hin) (hts _ hl) hds (vRm_le hdd h21), hts _ hins, hts _ hsel⟩
  have hcell : ∃ cellB : Cell, H[ad b]? = some cellB ∧ cellB.vm.isStatics = false ∧ s.vm.findClass mc.1.cls = some cellB.cls := by
    obtain ⟨r, h1, cell, q1, q2, q3, q4⟩ := P b _ (by rw [vW_get _ _ _ _ _ hb, vCell_obj hg])
    have hr := Option.some.inj (h1.symm.trans hcl)
    subst hr
    exact ⟨cell, q1, by rw [q3]; rfl, by rw [q2]; exact (O.2.2.2.2.2.2.2.1 ci _ hcl).2.1⟩
  exact vAfter O L P Dd S hA (va_runV (As := [x1, x2, x3, x4]) (rest := st) ⟨O.1, O.2.1, O.2.2.1, O.2.2.2.2.2.1, hts⟩ (V.met hpl hlen k l D cI cZ H.size) cw ⟨vPre_blind, hcell, fun U hU hW => ⟨rfl, by rw [hU], by rw [hU]; exact P, va_K.moved hW.alike O.2.2.2.2.2.2.2, Dd.weaken (fun _ _ _ _ => trivial), vNst.warm hW O.2.2.2.2.1.2⟩⟩ rfl rfl L.1 rfl (lv_room hst) hd ⟨Nat.le_refl 0, Nat.le_refl 0⟩)
theorem V.callV5 {b ci z idx : Nat} {x1 x2 x3 x4 x5 : Value} (hd : decode mi.2.1 pc = .ok (.invokevirtual idx, 3)) (hl : Cond.methodLink mi.1.cls idx mc.1 ∈ vTbl) (hf : vMfV mc 5) (hb : b < G.1) (hg : G.2.1 b = (ci + 2, z)) (hcl : classes[ci]? = some (mc.1.cls, (classes.getD ci ("", TX0, 0)).2.1, vN ci)) (hdd : d' < d) (hlen : (lg_sl (.ref (ad b) :: [x1, x2, x3, x4, x5])).length ≤ mc.2.2.1) (hst : (st.map fun v => v.category).sum ≤ 8)
    (k : V G mc ad (fun r τ => V G mi ad Q d (pc + 3) ls (vPv r st) τ) d' 0 (vEn (.ref (ad b) :: [x1, x2, x3, x4, x5]) mc.2.2.1) [] σ) : V G mi ad Q d pc ls (x5 :: x4 :: x3 :: x2 :: x1 :: .ref (ad b) :: st) σ := by
  intro p l e s m args below meth c H locs A D cI cZ la O L P Dd S hA
  obtain ⟨⟨hpl, hco, hin, hds, h21⟩, hins, hsel⟩ := hf
  have hts := O.2.2.2.2.2.2.1
  have cw : CallW (vRm d) s args mi.1.cls mc.1.cls idx mc.1 mc.2.1 mc.2.2.1 mc.2.2.2 (vWs mc) (vRm d') 0 0 5 := ⟨callB_of 5 hts (vGoodWs hco) rfl rfl rfl (hts _ hin) (hts _ hl) hds (vRm_le hdd h21), hts _ hins, hts _ hsel⟩
  have hcell : ∃ cellB : Cell, H[ad b]? = some cellB ∧ cellB.vm.isStatics = false ∧ s.vm.findClass mc.1.cls = some cellB.cls := by
    obtain ⟨r, h1, cell, q1, q2, q3, q4⟩ := P b _ (by rw [vW_get _ _ _ _ _ hb, vCell_obj hg])
    have hr := Option.some.inj (h1.symm.trans hcl)
    subst hr
    exact ⟨cell, q1, by rw [q3]; rfl, by rw [q2]; exact (O.2.2.2.2.2.2.2.1 ci _ hcl).2.1⟩
  exact vAfter O L P Dd S hA (va_runV (As := [x1, x2, x3, x4, x5]) (rest := st) ⟨O.1, O.2.1, O.2.2.1, O.2.2.2.2.2.1, hts⟩ (V.met hpl hlen k l D cI cZ H.size) cw ⟨vPre_blind, hcell, fun U hU hW => ⟨rfl, by rw [hU], by rw [hU]; exact P, va_K.moved hW.alike O.2.2.2.2.2.2.2, Dd.weaken (fun _ _ _ _ => trivial), vNst.warm hW O.2.2.2.2.1.2⟩⟩ rfl rfl L.1 rfl (lv_room hst) hd ⟨Nat.le_refl 0, Nat.le_refl 0⟩)
theorem V.callS0 {idx : Nat} (hd : decode mi.2.1 pc = .ok (.invokestatic idx, 3)) (hl : Cond.methodLink mi.1.cls idx mc.1 ∈ vTbl) (hf : vMfS mc 0) (hdd : d' < d) (hlen : (lg_sl []).length ≤ mc.2.2.1) (hst : (st.map fun v => v.category).sum ≤ 8)
    (k : V G mc ad (fun r τ => V G mi ad Q d (pc + 3) ls (vPv r st) τ) d' 0 (vEn [] mc.2.2.1) [] σ) : V G mi ad Q d pc ls (st) σ := by
  intro p l e s m args below meth c H locs A D cI cZ la O L P Dd S hA
  obtain ⟨⟨hpl, hco, hin, hds, h21⟩, hsta⟩ := hf
  have hts := O.2.2.2.2.2.2.1
  have cw : CallB (vRm d) s args mi.1.cls idx mc.1 mc.2.1 mc.2.2.1 mc.2.2.2 (vWs mc) (vRm d') 0 0 0 ∧ (Cond.static mc.1).before args s = true := ⟨callB_of 0 hts (vGoodWs hco) rfl rfl rfl (hts _ hin) (hts _ hl) hds (vRm_le hdd h21), hts _ hsta⟩
  exact vAfter O L P Dd S hA (va_runS (As := []) (rest := st) ⟨O.1, O.2.1, O.2.2.1, O.2.2.2.2.2.1, hts⟩ (V.met hpl hlen k l D cI cZ H.size) cw ⟨vPre_blind, fun U hU hW => ⟨rfl, by rw [hU], by rw [hU]; exact P, va_K.moved hW.alike O.2.2.2.2.2.2.2, Dd.weaken (fun _ _ _ _ => trivial), vNst.warm hW O.2.2.2.2.1.2⟩⟩ rfl rfl L.1 rfl (lv_room hst) hd ⟨Nat.le_refl 0, Nat.le_refl 0⟩)
theorem V.callS1 {idx : Nat} {x1 : Value} (hd : decode mi.2.1 pc = .ok (.invokestatic idx, 3)) (hl : Cond.methodLink mi.1.cls idx mc.1 ∈ vTbl) (hf : vMfS mc 1) (hdd : d' < d) (hlen : (lg_sl [x1]).length ≤ mc.2.2.1) (hst : (st.map fun v => v.category).sum ≤ 8)
    (k : V G mc ad (fun r τ => V G mi ad Q d (pc + 3) ls (vPv r st) τ) d' 0 (vEn [x1] mc.2.2.1) [] σ) : V G mi ad Q d pc ls (x1 :: st) σ := by
  intro p l e s m args below meth c H locs A D cI cZ la O L P Dd S hA
  obtain ⟨⟨hpl, hco, hin, hds, h21⟩, hsta⟩ := hf
  have hts := O.2.2.2.2.2.2.1
  have cw : CallB (vRm d) s args mi.1.cls idx mc.1 mc.2.1 mc.2.2.1 mc.2.2.2 (vWs mc) (vRm d') 0 0 1 ∧ (Cond.static mc.1).before args s = true := ⟨callB_of 1 hts (vGoodWs hco) rfl rfl rfl (hts _ hin) (hts _ hl) hds (vRm_le hdd h21), hts _ hsta⟩
  exact vAfter O L P Dd S hA (va_runS (As := [x1]) (rest := st) ⟨O.1, O.2.1, O.2.2.1, O.2.2.2.2.2.1, hts⟩ (V.met hpl hlen k l D cI cZ H.size) cw ⟨vPre_blind, fun U hU hW => ⟨rfl, by rw [hU], by rw [hU]; exact P, va_K.moved hW.alike O.2.2.2.2.2.2.2, Dd.weaken (fun _ _ _ _ => trivial), vNst.warm hW O.2.2.2.2.1.2⟩⟩ rfl rfl L.1 rfl (lv_room hst) hd ⟨Nat.le_refl 0, Nat.le_refl 0⟩)
theorem V.callS2 {idx : Nat} {x1 x2 : Value} (hd : decode mi.2.1 pc = .ok (.invokestatic idx, 3)) (hl : Cond.methodLink mi.1.cls idx mc.1 ∈ vTbl) (hf : vMfS mc 2) (hdd : d' < d) (hlen : (lg_sl [x1, x2]).length ≤ mc.2.2.1) (hst : (st.map fun v => v.category).sum ≤ 8)
    (k : V G mc ad (fun r τ => V G mi ad Q d (pc + 3) ls (vPv r st) τ) d' 0 (vEn [x1, x2] mc.2.2.1) [] σ) : V G mi ad Q d pc ls (x2 :: x1 :: st) σ := by
  intro p l e s m args below meth c H locs A D cI cZ la O L P Dd S hA
  obtain ⟨⟨hpl, hco, hin, hds, h21⟩, hsta⟩ := hf
  have hts := O.2.2.2.2.2.2.1
  have cw : CallB (vRm d) s args mi.1.cls idx mc.1 mc.2.1 mc.2.2.1 mc.2.2.2 (vWs mc) (vRm d') 0 0 2 ∧ (Cond.static mc.1).before args s = true := ⟨callB_of 2 hts (vGoodWs hco) rfl rfl rfl (hts _ hin) (hts _ hl) hds (vRm_le hdd h21), hts _ hsta⟩
  exact vAfter O L P Dd S hA (va_runS (As := [x1, x2]) (rest := st) ⟨O.1, O.2.1, O.2.2.1, O.2.2.2.2.2.1, hts⟩ (V.met hpl hlen k l D cI cZ H.size) cw ⟨vPre_blind, fun U hU hW => ⟨rfl, by rw [hU], by rw [hU]; exact P, va_K.moved hW.alike O.2.2.2.2.2.2.2, Dd.weaken (fun _ _ _ _ => trivial), vNst.warm hW O.2.2.2.2.1.2⟩⟩ rfl rfl L.1 rfl (lv_room hst) hd ⟨Nat.le_refl 0, Nat.le_refl 0⟩)
theorem V.callS3 {idx : Nat} {x1 x2 x3 : Value} (hd : decode mi.2.1 pc = .ok (.invokestatic idx, 3)) (hl : Cond.methodLink mi.1.cls idx mc.1 ∈ vTbl) (hf : vMfS mc 3) (hdd : d' < d) (hlen : (lg_sl [x1, x2, x3]).length ≤ mc.2.2.1) (hst : (st.map fun v => v.category).sum ≤ 8)
    (k : V G mc ad (fun r τ => V G mi ad Q d (pc + 3) ls (vPv r st) τ) d' 0 (vEn [x1, x2, x3] mc.2.2.1) [] σ) : V G mi ad Q d pc ls (x3 :: x2 :: x1 :: st) σ := by
  intro p l e s m args below meth c H locs A D cI cZ la O L P Dd S hA
  obtain ⟨⟨hpl, hco, hin, hds, h21⟩, hsta⟩ := hf
  have hts := O.2.2.2.2.2.2.1
  have cw : CallB (vRm d) s args mi.1.cls idx mc.1 mc.2.1 mc.2.2.1 mc.2.2.2 (vWs mc) (vRm d') 0 0 3 ∧ (Cond.static mc.1).before args s = true := ⟨callB_of 3 hts (vGoodWs hco) rfl rfl rfl (hts _ hin) (hts _ hl) hds (vRm_le hdd h21), hts _ hsta⟩
  exact vAfter O L P Dd S hA (va_runS (As := [x1, x2, x3]) (rest := st) ⟨O.1, O.2.1, O.2.2.1, O.2.2.2.2.2.1, hts⟩ (V.met hpl hlen k l D cI cZ H.size) cw ⟨vPre_blind, fun U hU hW => ⟨rfl, by rw [hU], by rw [hU]; exact P, va_K.moved hW.alike O.2.2.2.2.2.2.2, Dd.weaken (fun _ _ _ _ => trivial), vNst.warm hW O.2.2.2.2.1.2⟩⟩ rfl rfl L.1 rfl (lv_room hst) hd ⟨Nat.le_refl 0, Nat.le_refl 0⟩)
theorem V.callS4 {idx : Nat} {x1 x2 x3 x4 : Value} (hd : decode mi.2.1 pc = .ok (.invokestatic idx, 3)) (hl : Cond.methodLink mi.1.cls idx mc.1 ∈ vTbl) (hf : vMfS mc 4) (hdd : d' < d) (hlen : (lg_sl [x1, x2, x3, x4]).length ≤ mc.2.2.1) (hst : (st.map fun v => v.category).sum ≤ 8)
    (k : V G mc ad (fun r τ => V G mi ad Q d (pc + 3) ls (vPv r st) τ) d' 0 (vEn [x1, x2, x3, x4] mc.2.2.1) [] σ) : V G mi ad Q d pc ls (x4 :: x3 :: x2 :: x1 :: st) σ := by
  intro p l e s m args below meth c H locs A D cI cZ la O L P Dd S hA
  obtain ⟨⟨hpl, hco, hin, hds, h21⟩, hsta⟩ := hf
  have hts := O.2.2.2.2.2.2.1
  have cw : CallB (vRm d) s args mi.1.cls idx mc.1 mc.2.1 mc.2.2.1 mc.2.2.2 (vWs mc) (vRm d') 0 0 4 ∧ (Cond.static mc.1).before args s = true := ⟨callB_of 4 hts (vGoodWs hco) rfl rfl rfl (hts _ hin) (hts _ hl) hds (vRm_le hdd h21), hts _ hsta⟩
  exact vAfter O L P Dd S hA (va_runS (As := [x1, x2, x3, x4]) (rest := st) ⟨O.1, O.2.1, O.2.2.1, O.2.2.2.2.2.1, hts⟩ (V.met hpl hlen k l D cI cZ H.size) cw ⟨vPre_blind, fun U hU hW => ⟨rfl, by rw [hU], by rw [hU]; exact P, va_K.moved hW.alike O.2.2.2.2.2.2.2, Dd.weaken (fun _ _ _ _ => trivial), vNst.warm hW O.2.2.2.2.1.2⟩⟩ rfl rfl L.1 rfl (lv_room hst) hd ⟨Nat.le_refl 0, Nat.le_refl 0⟩)
theorem V.callS5 {idx : Nat} {x1 x2 x3 x4 x5 : Value} (hd : decode mi.2.1 pc = .ok (.invokestatic idx, 3)) (hl : Cond.methodLink mi.1.cls idx mc.1 ∈ vTbl) (hf : vMfS mc 5) (hdd : d' < d) (hlen : (lg_sl [x1, x2, x3, x4, x5]).length ≤ mc.2.2.1) (hst : (st.map fun v => v.category).sum ≤ 8)
    (k : V G mc ad (fun r τ => V G mi ad Q d (pc + 3) ls (vPv r st) τ) d' 0 (vEn [x1, x2, x3, x4, x5] mc.2.2.1) [] σ) : V G mi ad Q d pc ls (x5 :: x4 :: x3 :: x2 :: x1 :: st) σ := by
  intro p l e s m args below meth c H locs A D cI cZ la O L P Dd S hA
  obtain ⟨⟨hpl, hco, hin, hds, h21⟩, hsta⟩ := hf
  have hts := O.2.2.2.2.2.2.1
  have cw : CallB (vRm d) s args mi.1.cls idx mc.1 mc.2.1 mc.2.2.1 mc.2.2.2 (vWs mc) (vRm d') 0 0 5 ∧ (Cond.static mc.1).before args s = true := ⟨callB_of 5 hts (vGoodWs hco) rfl rfl rfl (hts _ hin) (hts _ hl) hds (vRm_le hdd h21), hts _ hsta⟩
  exact vAfter O L P Dd S hA (va_runS (As := [x1, x2, x3, x4, x5]) (rest := st) ⟨O.1, O.2.1, O.2.2.1, O.2.2.2.2.2.1, hts⟩ (V.met hpl hlen k l D cI cZ H.size) cw ⟨vPre_blind, fun U hU hW => ⟨rfl, by rw [hU], by rw [hU]; exact P, va_K.moved hW.alike O.2.2.2.2.2.2.2, Dd.weaken (fun _ _ _ _ => trivial), vNst.warm hW O.2.2.2.2.1.2⟩⟩ rfl rfl L.1 rfl (lv_room hst) hd ⟨Nat.le_refl 0, Nat.le_refl 0⟩)
end VC
