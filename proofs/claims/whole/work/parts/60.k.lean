/-! constructors: a judgement over worlds that grow -/
def vN4 (U : State) : Prop := va_Nw (.methodLinkNest "BreadString" 23 yX5_init "BreadString") U ∧ va_Nw (.methodLinkNest "BreadString" 39 yX1_init "BreadString") U ∧ va_Nw (.methodLinkNest "BreadString" 49 yX3_init "BreadString") U ∧ va_Nw (.methodLinkNest "BreadString" 63 yX0_init "BreadString") U
theorem vN4.warm {s U : State} (hW : s.WarmedH U.vm) (h : vN4 s) : vN4 U := ⟨va_Nw.warmM hW h.1, va_Nw.warmM hW h.2.1, va_Nw.warmM hW h.2.2.1, va_Nw.warmM hW h.2.2.2⟩
theorem vN4.same {u U : State} (hvm : u.vm = U.vm) (h : vN4 u) : vN4 U := ⟨va_Nw.same rfl hvm h.1, va_Nw.same rfl hvm h.2.1, va_Nw.same rfl hvm h.2.2.1, va_Nw.same rfl hvm h.2.2.2⟩
def kRm (d mc ms : Nat) : Room := { frames := d, cells := mc, slots := ms, locals := 40 * d }
def kQ (D : va_G) (A : Nat → Prop) (Q : va_W → Prop) : Array Value → State → Outcome → State → Prop := fun _ st oc t => ∃ ws : va_W, oc = .returned none ∧ Q ws ∧ va_P D classes ws t.heap ∧ va_D A ws ∧ va_F A st t
def K (mi : vMI) (D : va_G) (cI cZ : ClassId) (Q : va_W → Prop) (d mc ms pc : Nat) (ls : List (Option Value)) (st : List Value) (ws : va_W) (cells slots : Nat) : Prop :=
  ∀ (p : Program) (l : Launch) (e : Env) (s : State) (m : MethodId) (args : Array Value) (below : List Frame) (meth : Method) (c : Code) (H : Heap) (locs : List Loc) (A : Nat → Prop) (la : Array Slot),
    vOK mi p s m meth c args D cI cZ → (vN4 s ∧ meth.name = "<init>") → vLk la mi.2.2.1 ls → va_P D classes ws H → va_D A ws → va_S A s.heap H locs → (∀ q, s.heap.size ≤ q → A q) →
      W p l e (kRm d mc ms) s m args below meth c H locs cells slots (MQ below (kQ D A Q) args s mc ms A) (F0 m pc la st)
def kPre (D : va_G) (cI cZ : ClassId) (ws : va_W) (sz : Nat) (U : State) : Prop := U.heap.size = sz ∧ va_P D classes ws U.heap ∧ va_K D classes (vTys cI cZ) U ∧ va_D (fun _ => True) ws ∧ vNst U ∧ vN4 U
theorem kPre_blind {D : va_G} {cI cZ : ClassId} {ws : va_W} {sz : Nat} {vs : List Value} : FrameBlind (va_Pc vs (kPre D cI cZ ws sz)) := fun a U g mk q => by
  obtain ⟨q0, q1, qP, qK, qD, qN, qM⟩ := q
  exact ⟨q0, q1, qP, va_K.moved (u := U) (U := U.calling g mk a) (Vm.Alike.refl U.vm) qK, qD, vNst.same (u := U) (U := U.calling g mk a) rfl qN, vN4.same (u := U) (U := U.calling g mk a) rfl qM⟩
theorem K.met {mi : vMI} {D : va_G} {cI cZ : ClassId} {Q : va_W → Prop} {d mc ms : Nat} {ws : va_W} {vs : List Value} (hp : plainName mi.1.cls = true) (hnm : mi.1.name = "<init>") (hlen : (lg_sl vs).length ≤ mi.2.2.1) (h : K mi D cI cZ Q d mc ms 0 (vEn vs mi.2.2.1) [] ws 0 0) (l : Launch) (sz : Nat) :
    Met l mi.1 (vWs mi) (kRm d mc ms) (va_Pc vs (kPre D cI cZ ws sz)) (kQ D (va_A ws sz) Q) mc ms (va_A ws sz) := by
  refine Met.ofW (cc := mi.2.1) (maxL := mi.2.2.1) (ret := mi.2.2.2) hp rfl ?_
  intro p e s m args below meth c s₁ B hml hv
  obtain ⟨rfl, hsz, hP, hK, hD0, hNs, hN4⟩ := hv
  have hts := atoms_spec (ws := vWs mi) B.pre
  have hown : s.vm.findClass mi.1.cls = some m.cls := findClass_of_methodNamed B.named
  have hin : meth.name = "<init>" := (name_of_methodNamed B.named B.method).1.trans hnm
  subst hsz
  have hl := lv_entry vs (n := mi.2.2.1) hlen
  rw [lg_entry_eq]
  exact h p l e s m vs.toArray below meth c s.heap [] (va_A ws s.heap.size) _ ⟨B.exec, B.bytes, hml, B.returns, ⟨B.notSynchronized, hNs⟩, hown, fun w hw => hts w (List.mem_cons_of_mem _ hw), hK⟩ ⟨hN4, hin⟩ ⟨hl.1, hl.2.1, fun i v hi => hl.2.2 (i, v) (vEn_args hi)⟩ hP hD0.self va_S.rf (fun q h => Or.inr h)
section KR
variable {mi : vMI} {D : va_G} {cI cZ : ClassId} {Q : va_W → Prop} {d mc ms pc : Nat} {ls : List (Option Value)} {st : List Value} {ws : va_W} {cells slots : Nat}
theorem K.iconst {n : Int} {v : Int32} (hv : Int32.ofInt n = v) (hd : decode mi.2.1 pc = .ok (.iconst n, 1)) (k : K mi D cI cZ Q d mc ms (pc + 1) ls (.int v :: st) ws cells slots) : K mi D cI cZ Q d mc ms pc ls st ws cells slots := by
  intro p l e s m args below meth c H locs A la O N L P Dd S hA
  exact lv_iconst O.1 O.2.1 hd hv (k p l e s m args below meth c H locs A la O N L P Dd S hA)
theorem K.bipush {n : Int} {v : Int32} (hv : (Int8.ofInt n).toInt32 = v) (hd : decode mi.2.1 pc = .ok (.bipush n, 2)) (k : K mi D cI cZ Q d mc ms (pc + 2) ls (.int v :: st) ws cells slots) : K mi D cI cZ Q d mc ms pc ls st ws cells slots := by
  intro p l e s m args below meth c H locs A la O N L P Dd S hA
  exact lv_bipush O.1 O.2.1 hd hv (k p l e s m args below meth c H locs A la O N L P Dd S hA)
theorem K.sipush {n : Int} {v : Int32} (hv : (Int16.ofInt n).toInt32 = v) (hd : decode mi.2.1 pc = .ok (.sipush n, 3)) (k : K mi D cI cZ Q d mc ms (pc + 3) ls (.int v :: st) ws cells slots) : K mi D cI cZ Q d mc ms pc ls st ws cells slots := by
  intro p l e s m args below meth c H locs A la O N L P Dd S hA
  exact lv_sipush O.1 O.2.1 hd hv (k p l e s m args below meth c H locs A la O N L P Dd S hA)
theorem K.lconst {n : Fin 2} {v : Int64} (hv : Int64.ofNat (n : Nat) = v) (hd : decode mi.2.1 pc = .ok (.lconst n, 1)) (k : K mi D cI cZ Q d mc ms (pc + 1) ls (.long v :: st) ws cells slots) : K mi D cI cZ Q d mc ms pc ls st ws cells slots := by
  intro p l e s m args below meth c H locs A la O N L P Dd S hA
  exact lv_lconst O.1 O.2.1 hd hv (k p l e s m args below meth c H locs A la O N L P Dd S hA)
theorem K.iload_n {j : Fin 4} {x : Int32} (hd : decode mi.2.1 pc = .ok (.iload_n j, 1)) (hl : ls[(j : Nat)]? = some (some (.int x))) (k : K mi D cI cZ Q d mc ms (pc + 1) ls (.int x :: st) ws cells slots) : K mi D cI cZ Q d mc ms pc ls st ws cells slots := by
  intro p l e s m args below meth c H locs A la O N L P Dd S hA
  exact lv_iload_n O.1 O.2.1 hd rfl (L.2.2 _ _ hl) (k p l e s m args below meth c H locs A la O N L P Dd S hA)
theorem K.aload_n {j : Fin 4} {x : Nat} (hd : decode mi.2.1 pc = .ok (.aload_n j, 1)) (hl : ls[(j : Nat)]? = some (some (.ref x))) (k : K mi D cI cZ Q d mc ms (pc + 1) ls (.ref x :: st) ws cells slots) : K mi D cI cZ Q d mc ms pc ls st ws cells slots := by
  intro p l e s m args below meth c H locs A la O N L P Dd S hA
  exact lv_aload_n O.1 O.2.1 hd rfl (L.2.2 _ _ hl) (k p l e s m args below meth c H locs A la O N L P Dd S hA)
theorem K.istore_n {j : Fin 4} {x : Int32} (hd : decode mi.2.1 pc = .ok (.istore_n j, 1)) (hn : (j : Nat) < mi.2.2.1) (h0 : vNo2 ls j = true) (k : K mi D cI cZ Q d mc ms (pc + 1) (ls.set j (some (.int x))) st ws cells slots) : K mi D cI cZ Q d mc ms pc ls (.int x :: st) ws cells slots := by
  intro p l e s m args below meth c H locs A la O N L P Dd S hA
  exact lv_istore_n O.1 O.2.1 hd rfl (vLk_has L) hn rfl (fun la h => k p l e s m args below meth c H locs A la O N (vLk_set1 h0 h) P Dd S hA)
theorem K.iinc {i : Nat} {n : Int} {x v : Int32} (hd : decode mi.2.1 pc = .ok (.iinc i n, 3)) (hl : ls[i]? = some (some (.int x))) (hv : x + Int32.ofInt n = v) (hn : i < mi.2.2.1) (h0 : vNo2 ls i = true) (k : K mi D cI cZ Q d mc ms (pc + 3) (ls.set i (some (.int v))) st ws cells slots) : K mi D cI cZ Q d mc ms pc ls st ws cells slots := by
  intro p l e s m args below meth c H locs A la O N L P Dd S hA
  have hm : (i, Value.int x) ∈ vPrs 0 ls := (vPrs_mem ls 0 (i, .int x)).mpr ⟨Nat.zero_le _, by simpa using hl⟩
  obtain ⟨q, hq⟩ := List.getElem?_of_mem hm
  exact lv_iinc O.1 O.2.1 hd (vLk_has L) hq hv hn rfl (fun la h => k p l e s m args below meth c H locs A la O N (vLk_set1 h0 h) P Dd S hA)
theorem K.dup {x : Value} (h1 : x.category = 1) (hd : decode mi.2.1 pc = .ok (.dup, 1)) (k : K mi D cI cZ Q d mc ms (pc + 1) ls (x :: x :: st) ws cells slots) : K mi D cI cZ Q d mc ms pc ls (x :: st) ws cells slots := by
  intro p l e s m args below meth c H locs A la O N L P Dd S hA
  exact lv_dup O.1 O.2.1 hd h1 (k p l e s m args below meth c H locs A la O N L P Dd S hA)
theorem K.goto {off : Int} {tgt : Nat} (hd : decode mi.2.1 pc = .ok (.goto off, 3)) (ht : (pc : Int) + off = (tgt : Int)) (k : K mi D cI cZ Q d mc ms tgt ls st ws cells slots) : K mi D cI cZ Q d mc ms pc ls st ws cells slots := by
  intro p l e s m args below meth c H locs A la O N L P Dd S hA
  exact lv_goto O.1 O.2.1 hd ht (k p l e s m args below meth c H locs A la O N L P Dd S hA)
theorem K.icmp_geT {x y : Int32} {off : Int} {tgt : Nat} (hd : decode mi.2.1 pc = .ok (.if_icmp .ge off, 3)) (ht : (pc : Int) + off = (tgt : Int)) (h : y ≤ x) (k : K mi D cI cZ Q d mc ms tgt ls st ws cells slots) : K mi D cI cZ Q d mc ms pc ls (.int y :: .int x :: st) ws cells slots := by
  intro p l e s m args below meth c H locs A la O N L P Dd S hA
  exact lv_icmp_ge O.1 O.2.1 hd ht (fun _ => k p l e s m args below meth c H locs A la O N L P Dd S hA) (fun z => absurd h z)
theorem K.icmp_geF {x y : Int32} {off : Int} {tgt : Nat} (hd : decode mi.2.1 pc = .ok (.if_icmp .ge off, 3)) (ht : (pc : Int) + off = (tgt : Int)) (h : ¬ y ≤ x) (k : K mi D cI cZ Q d mc ms (pc + 3) ls st ws cells slots) : K mi D cI cZ Q d mc ms pc ls (.int y :: .int x :: st) ws cells slots := by
  intro p l e s m args below meth c H locs A la O N L P Dd S hA
  exact lv_icmp_ge O.1 O.2.1 hd ht (fun z => absurd z h) (fun _ => k p l e s m args below meth c H locs A la O N L P Dd S hA)
theorem K.if_geT {x : Int32} {off : Int} {tgt : Nat} (hd : decode mi.2.1 pc = .ok (.ifCond .ge off, 3)) (ht : (pc : Int) + off = (tgt : Int)) (h : 0 ≤ x) (k : K mi D cI cZ Q d mc ms tgt ls st ws cells slots) : K mi D cI cZ Q d mc ms pc ls (.int x :: st) ws cells slots := by
  intro p l e s m args below meth c H locs A la O N L P Dd S hA
  exact lv_if_ge O.1 O.2.1 hd ht (fun _ => k p l e s m args below meth c H locs A la O N L P Dd S hA) (fun z => absurd h z)
theorem K.vret (hd : decode mi.2.1 pc = .ok (.return_, 1)) (hr : mi.2.2.2 = none) (h1 : cells = mc) (h2 : slots = ms) (hq : Q ws) : K mi D cI cZ Q d mc ms pc ls [] ws cells slots := by
  intro p l e s m args below meth c H locs A la O N L P Dd S hA
  subst h1; subst h2
  exact W.vret O.1 O.2.1 (O.2.2.2.1.trans hr) (fun t ht _ => ⟨ws, rfl, hq, by rw [ht]; exact P, Dd, S.F ht⟩) S.2.2 hd (hlocks := O.2.2.2.2.1.1)
theorem K.objInit {idx a : Nat} (hd : decode mi.2.1 pc = .ok (.invokespecial idx, 3)) (hl : Cond.methodLink mi.1.cls idx Lib.objectInit ∈ vTbl) (hi : Cond.instanceMethod Lib.objectInit ∈ vTbl) (ho : Cond.code Lib.objectInit ⟨#[0xb1]⟩ 1 none ∈ vTbl) (h1 : 1 ≤ d) (hst : (st.map fun v => v.category).sum ≤ 8) (k : K mi D cI cZ Q d mc ms (pc + 3) ls st ws cells slots) : K mi D cI cZ Q d mc ms pc ls (.ref a :: st) ws cells slots := by
  intro p l e s m args below meth c H locs A la O N L P Dd S hA
  have hts := O.2.2.2.2.2.2.1
  refine W.objInit O.1 O.2.1 O.2.2.2.2.2.1 (hts _ hl) (hts _ hi) (hts _ ho) rfl (L.1.trans O.2.2.1.symm) rfl hd h1 ?_ (k p l e s m args below meth c H locs A la O N L P Dd S hA)
  show 2 * 0 + (st.map fun v => v.category).sum + 12 ≤ 40 * d
  omega
theorem K.newI {n : Int32} {M cells' slots' : Nat} (hd : decode mi.2.1 pc = .ok (.newarray .int, 2)) (ha : Cond.arrayClass .int ∈ vTbl) (hn : ¬ n < 0) (hN : n.toNatClampNeg = M) (hb : M ≤ 1000) (h1 : cells + 1 = cells') (h2 : slots + M = slots') (h3 : cells' ≤ mc) (h4 : slots' ≤ ms) (k : ∀ q, K mi D cI cZ Q d mc ms (pc + 2) ls (.ref q :: st) (ws ++ [(q, .inl (cI, M, .inl (fun _ => 0)))]) cells' slots') : K mi D cI cZ Q d mc ms pc ls (.int n :: st) ws cells slots := by
  intro p l e s m args below meth c H locs A la O N L P Dd S hA
  subst h1; subst h2
  refine va_newa (atype := .int) (a0 := (M, .inl (fun _ => 0))) O.1 O.2.1 (O.2.2.2.2.2.2.1 _ ha) rfl O.2.2.2.2.2.2.2 P Dd S hA (fun _ => rfl) hn hN (show M * 4 ≤ 536870912 by omega) h3 h4 hd (fun q cA H1 hK1 hP1 hD1 hS1 => ?_)
  have e1 : s.vm.findClass ("[" ++ FieldType.int.toString) = some cA := (hK1.2 2 (cA, .int) rfl).2
  have e2 : s.vm.findClass ("[" ++ FieldType.int.toString) = some cI := (O.2.2.2.2.2.2.2.2 0 (cI, .int) rfl).2
  have e3 : cA = cI := Option.some.inj (e1.symm.trans e2)
  subst e3
  exact k q p l e s m args below meth c H1 locs A la O N L hP1 hD1 hS1 hA
theorem K.newZ {n : Int32} {M cells' slots' : Nat} (hd : decode mi.2.1 pc = .ok (.newarray .boolean, 2)) (ha : Cond.arrayClass .boolean ∈ vTbl) (hn : ¬ n < 0) (hN : n.toNatClampNeg = M) (hb : M ≤ 1000) (h1 : cells + 1 = cells') (h2 : slots + M = slots') (h3 : cells' ≤ mc) (h4 : slots' ≤ ms) (k : ∀ q, K mi D cI cZ Q d mc ms (pc + 2) ls (.ref q :: st) (ws ++ [(q, .inl (cZ, M, .inl (fun _ => 0)))]) cells' slots') : K mi D cI cZ Q d mc ms pc ls (.int n :: st) ws cells slots := by
  intro p l e s m args below meth c H locs A la O N L P Dd S hA
  subst h1; subst h2
  refine va_newa (atype := .boolean) (a0 := (M, .inl (fun _ => 0))) O.1 O.2.1 (O.2.2.2.2.2.2.1 _ ha) rfl O.2.2.2.2.2.2.2 P Dd S hA (fun _ => rfl) hn hN (show M * 1 ≤ 536870912 by omega) h3 h4 hd (fun q cA H1 hK1 hP1 hD1 hS1 => ?_)
  have e1 : s.vm.findClass ("[" ++ FieldType.boolean.toString) = some cA := (hK1.2 2 (cA, .boolean) rfl).2
  have e2 : s.vm.findClass ("[" ++ FieldType.boolean.toString) = some cZ := (O.2.2.2.2.2.2.2.2 1 (cZ, .boolean) rfl).2
  have e3 : cA = cZ := Option.some.inj (e1.symm.trans e2)
  subst e3
  exact k q p l e s m args below meth c H1 locs A la O N L hP1 hD1 hS1 hA
theorem K.putF {idx ci k h0 M : Nat} {T : u_T} {v : Value} {fs : List Value} {cs : va_W} (hd : decode mi.2.1 pc = .ok (.putfield idx, 3)) (hc : classes[ci]? = some (mi.1.cls, T, M)) (hl : Cond.fieldLink mi.1.cls idx (T k).1 (T k).2.1 (T k).2.2.1 ∈ vTbl) (hk : k < M) (hfin : (T k).2.2.2 = true) (hdecl : (T k).1 = mi.1.cls) (hn : narrow (vTy ci k) v = v) (hfit : fits (vTy ci k) v = true) (hlen : k < fs.length) (kk : K mi D cI cZ Q d mc ms (pc + 3) ls st ((h0, .inr (ci, fs.set k v)) :: cs) cells slots) : K mi D cI cZ Q d mc ms pc ls (v :: .ref h0 :: st) ((h0, .inr (ci, fs)) :: cs) cells slots := by
  intro p l e s m args below meth c H locs A la O N L P Dd S hA
  exact va_putF O.1 O.2.1 O.2.2.2.2.2.2.1 (vIn hc) (vTy ci) (vTy_ok hc) (vNm hc) O.2.2.2.2.2.1 O.2.2.2.2.2.2.2 P Dd S 0 rfl hc k hk (O.2.2.2.2.2.2.1 _ hl) (fun _ h => h) hfin N.2 hdecl (vTy_ok hc k hk) hn hfit hlen hd (fun H1 locs1 hP hD hS => kk p l e s m args below meth c H1 locs1 A la O N L hP hD hS hA)
theorem K.put {idx ci k h0 M : Nat} {T : u_T} {v : Value} {fs : List Value} {cs : va_W} (hd : decode mi.2.1 pc = .ok (.putfield idx, 3)) (hc : classes[ci]? = some (mi.1.cls, T, M)) (hl : Cond.fieldLink mi.1.cls idx (T k).1 (T k).2.1 (T k).2.2.1 ∈ vTbl) (hk : k < M) (hfin : (T k).2.2.2 = false) (hn : narrow (vTy ci k) v = v) (hfit : fits (vTy ci k) v = true) (hlen : k < fs.length) (kk : K mi D cI cZ Q d mc ms (pc + 3) ls st ((h0, .inr (ci, fs.set k v)) :: cs) cells slots) : K mi D cI cZ Q d mc ms pc ls (v :: .ref h0 :: st) ((h0, .inr (ci, fs)) :: cs) cells slots := by
  intro p l e s m args below meth c H locs A la O N L P Dd S hA
  exact va_put O.1 O.2.1 O.2.2.2.2.2.2.1 (vIn hc) (vTy ci) (vTy_ok hc) (vNm hc) O.2.2.2.2.2.1 O.2.2.2.2.2.2.2 P Dd S 0 rfl hc k hk (O.2.2.2.2.2.2.1 _ hl) (fun _ h => h) hfin (vTy_ok hc k hk) hn hfit hlen hd (fun H1 locs1 hP hD hS => kk p l e s m args below meth c H1 locs1 A la O N L hP hD hS hA)
theorem K.get {idx ci k h0 M : Nat} {T : u_T} {v : Value} {fs : List Value} {cs : va_W} (hd : decode mi.2.1 pc = .ok (.getfield idx, 3)) (hc : classes[ci]? = some (mi.1.cls, T, M)) (hl : Cond.fieldLink mi.1.cls idx (T k).1 (T k).2.1 (T k).2.2.1 ∈ vTbl) (hk : k < M) (hv : fs[k]? = some v) (kk : K mi D cI cZ Q d mc ms (pc + 3) ls (v :: st) ((h0, .inr (ci, fs)) :: cs) cells slots) : K mi D cI cZ Q d mc ms pc ls (.ref h0 :: st) ((h0, .inr (ci, fs)) :: cs) cells slots := by
  intro p l e s m args below meth c H locs A la O N L P Dd S hA
  exact va_get O.1 O.2.1 O.2.2.2.2.2.2.1 (vIn hc) O.2.2.2.2.2.1 O.2.2.2.2.2.2.2 P 0 rfl hc k hk (O.2.2.2.2.2.2.1 _ hl) (fun _ h => h) hv hd (kk p l e s m args below meth c H locs A la O N L P Dd S hA)
theorem K.iast {j q len : Nat} {i x : Int32} {f : Nat → Int32} (hd : decode mi.2.1 pc = .ok (.iastore, 1)) (hw : ws[j]? = some (q, .inl (cI, len, .inl f))) (hi : vp_in i len) (kk : K mi D cI cZ Q d mc ms (pc + 1) ls st (ws.set j (q, .inl (cI, len, .inl (upd f i.toNatClampNeg x)))) cells slots) : K mi D cI cZ Q d mc ms pc ls (.int x :: .int i :: .ref q :: st) ws cells slots := by
  intro p l e s m args below meth c H locs A la O N L P Dd S hA
  exact va_iast O.1 O.2.1 O.2.2.2.2.2.2.2 P Dd S j 0 hw rfl hi hd (fun H1 locs1 hP hD hS => kk p l e s m args below meth c H1 locs1 A la O N L hP hD hS hA)
theorem K.new {idx ci M cells' slots' : Nat} {C : String} {T : u_T} {fs : List Value} (hd : decode mi.2.1 pc = .ok (.new idx, 3)) (hcl : Cond.classLink mi.1.cls idx C ∈ vTbl) (hin : Cond.instantiable C M ∈ vTbl) (hini : Cond.initialized C ∈ vTbl) (hc : classes[ci]? = some (C, T, M)) (hfs : ∀ j, j < M → defaultValue (vTy ci j) = vp_V fs j) (h1 : cells + 1 = cells') (h2 : slots + M = slots') (h3 : cells' ≤ mc) (h4 : slots' ≤ ms) (k : ∀ q, K mi D cI cZ Q d mc ms (pc + 3) ls (.ref q :: st) (ws ++ [(q, .inr (ci, fs))]) cells' slots') : K mi D cI cZ Q d mc ms pc ls st ws cells slots := by
  intro p l e s m args below meth c H locs A la O N L P Dd S hA
  subst h1; subst h2
  have hts := O.2.2.2.2.2.2.1
  exact va_new O.1 O.2.1 hts (vIn hc) (vTy ci) (vTy_ok hc) O.2.2.2.2.2.1 (hts _ hcl) (hts _ hin) (hts _ hini) O.2.2.2.2.2.2.2 P Dd S hA hc hfs h3 h4 hd (fun q H1 hP hD hS => k q p l e s m args below meth c H1 locs A la O N L hP hD hS hA)
end KR
theorem va_nd_range : ∀ (n a : Nat), va_nd ((List.range n).map (fun i => a + i)) = true := by
  intro n
  induction n with
  | zero => intro a; rfl
  | succ n ih =>
    intro a
    rw [List.range_succ_eq_map, List.map_cons, va_nd, List.map_map]
    have e : (List.range n).map ((fun i => a + i) ∘ Nat.succ) = (List.range n).map (fun i => (a + 1) + i) := List.map_congr_left (fun i _ => by show a + (i + 1) = a + 1 + i; omega)
    rw [e, ih (a + 1), Bool.and_true]
    refine decide_eq_true (fun h => ?_)
    obtain ⟨i, -, hi⟩ := List.mem_map.mp h
    omega
/-- a part of the world changes, the rest stays -/
theorem kJoin {A0 : Nat → Prop} {D : va_G} {wr wc w1 : va_W} {H H1 : Heap} (hP : va_P D classes (wr ++ wc) H) (hD : va_D A0 (wr ++ wc)) (hk : ∀ q : Nat, q < H.size → ¬ va_A wc H.size q → H1[q]? = H[q]?) (hF : ∀ q, va_A wc H.size q → A0 q) (hP1 : va_P D classes w1 H1) (hD1 : va_D (va_A wc H.size) w1) : va_P D classes (wr ++ w1) H1 ∧ va_D A0 (wr ++ w1) := by
  refine va_join (wr := wr) (wc := wc) hP hD ((List.range wc.length).map (fun i => wr.length + i)) ((List.range wr.length).map (fun i => 0 + i)) ?_ ?_ (va_nd_range _ _) ?_ hk hF hP1 hD1
  · apply List.ext_getElem?
    intro i
    simp only [List.getElem?_map, List.map_map]
    by_cases h : i < wc.length
    · rw [List.getElem?_range h, List.getElem?_eq_getElem h]
      simp [h]
    · rw [List.getElem?_eq_none (by simpa using h), List.getElem?_eq_none (by simpa using h)]
      rfl
  · apply List.ext_getElem?
    intro i
    simp only [List.getElem?_map, List.map_map]
    by_cases h : i < wr.length
    · rw [List.getElem?_range h, List.getElem?_eq_getElem h]
      simp only [Option.map_some, Function.comp_apply, Nat.zero_add]
      rw [List.getElem?_append_left h, List.getElem?_eq_getElem h]
    · rw [List.getElem?_eq_none (by simpa using h), List.getElem?_eq_none (by simpa using h)]
      rfl
  · intro i hi hj
    obtain ⟨a, ha, rfl⟩ := List.mem_map.mp hi
    obtain ⟨b, hb, e⟩ := List.mem_map.mp hj
    have := List.mem_range.mp ha
    omega
theorem va_P.right {D : va_G} {wr wc : va_W} {H : Heap} (hP : va_P D classes (wr ++ wc) H) : va_P D classes wc H := fun k q hk => hP (wr.length + k) q (by rw [List.getElem?_append_right (by omega), Nat.add_sub_cancel_left]; exact hk)
theorem va_P.left {D : va_G} {wr wc : va_W} {H : Heap} (hP : va_P D classes (wr ++ wc) H) : va_P D classes wr H := fun k q hk => hP k q (by rw [List.getElem?_append_left (List.getElem?_eq_some_iff.mp hk).1]; exact hk)
theorem va_D.right {A : Nat → Prop} {wr wc : va_W} (hD : va_D A (wr ++ wc)) : va_D A wc := ⟨fun i j p q hp hq e => by
    have := hD.1 (wr.length + i) (wr.length + j) p q (by rw [List.getElem?_append_right (by omega), Nat.add_sub_cancel_left]; exact hp) (by rw [List.getElem?_append_right (by omega), Nat.add_sub_cancel_left]; exact hq) e
    omega, fun k q hk => hD.2 (wr.length + k) q (by rw [List.getElem?_append_right (by omega), Nat.add_sub_cancel_left]; exact hk)⟩
theorem va_D.left {A : Nat → Prop} {wr wc : va_W} (hD : va_D A (wr ++ wc)) : va_D A wr := ⟨fun i j p q hp hq e => hD.1 i j p q (by rw [List.getElem?_append_left (List.getElem?_eq_some_iff.mp hp).1]; exact hp) (by rw [List.getElem?_append_left (List.getElem?_eq_some_iff.mp hq).1]; exact hq) e, fun k q hk => hD.2 k q (by rw [List.getElem?_append_left (List.getElem?_eq_some_iff.mp hk).1]; exact hk)⟩
theorem va_P.comm {D : va_G} {a b : va_W} {H : Heap} (hP : va_P D classes (a ++ b) H) : va_P D classes (b ++ a) H := by
  intro k q hk
  by_cases h : k < b.length
  · rw [List.getElem?_append_left h] at hk
    exact hP.right k q hk
  · rw [List.getElem?_append_right (by omega)] at hk
    exact hP.left _ q hk
theorem va_D.comm {A : Nat → Prop} {a b : va_W} (hD : va_D A (a ++ b)) : va_D A (b ++ a) := by
  have key : ∀ (k : Nat) (q : Nat × va_E), (b ++ a)[k]? = some q → ∃ k', (a ++ b)[k']? = some q ∧ k' = (if k < b.length then a.length + k else k - b.length) := by
    intro k q hk
    by_cases h : k < b.length
    · rw [List.getElem?_append_left h] at hk
      refine ⟨a.length + k, ?_, by rw [if_pos h]⟩
      rw [List.getElem?_append_right (by omega), Nat.add_sub_cancel_left]
      exact hk
    · rw [List.getElem?_append_right (by omega)] at hk
      refine ⟨k - b.length, ?_, by rw [if_neg h]⟩
      rw [List.getElem?_append_left (List.getElem?_eq_some_iff.mp hk).1]
      exact hk
  have len : ∀ (k : Nat) (q : Nat × va_E), (b ++ a)[k]? = some q → k < b.length + a.length := fun k q hk => by
    have := (List.getElem?_eq_some_iff.mp hk).1
    simpa using this
  refine ⟨fun i j p q hp hq e => ?_, fun k q hk => ?_⟩
  · obtain ⟨i', hi, ei⟩ := key i p hp
    obtain ⟨j', hj, ej⟩ := key j q hq
    have := hD.1 i' j' p q hi hj e
    have l1 := len i p hp
    have l2 := len j q hq
    rw [ei, ej] at this
    split at this <;> split at this <;> omega
  · obtain ⟨k', hk', -⟩ := key k q hk
    exact hD.2 k' q hk'
