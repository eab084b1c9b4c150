/-! THE CLAIM OUT OF ONE WALK OF THE LAW'S BODY. Your part is whole_start (and what it stands on); all else here is the same for every law, but numbers. -/
def R_law : String := "BreadStringLaw"
def lw_P (b : Addr) (xs : List Int32) (args : Array Value) (s : State) : Prop := args = #[.ref b] ∧ s.IntsAt b xs ∧ xs.length ≤ 384 ∧ (Jvm.Cond.and given_1 narrow_1).before args s = true
def lw_Q (_ : Array Value) (s : State) (o : Outcome) (t : State) : Prop := o = .returned (some (.int 1)) ∧ Framed s o t [] 600000 7302250
def lw_Z (below : List Frame) (a : Array Value) (s : State) : State → Prop := fun t => ∃ o, t.status = .running ∧ Ended t below o ∧ lw_Q a s o t
/-- the law's own end, with 1 on the stack, nothing written that was there before, its room as the claim has it -/
theorem lw_ret {p : Program} {l : Launch} {e : Env} {s : State} {m : MethodId} {below : List Frame} {meth : Method} {c : Code} {b : Nat} (hx : p.tables.exec = Jvm.exec) (hb : c.code = code) (hr : meth.sig.returnType = ret) (hlocks : meth.locks = false) {pc : Nat} {H : Heap} {ls : Array Slot} (hdg : decode code pc = .ok (.ireturn, 1)) : W p l e room_1 s m #[Value.ref b] below meth c H [] 600000 7302250 (lw_Z below #[Value.ref b] s) (F0 m pc ls [.int 1]) := by
  intro T hT X
  obtain ⟨fs, hret, hrun, hended, hW, hframe⟩ := X.leave (v := some (.int 1)) (hlocks := hlocks) (fun h => by rw [hr] at h; cases h)
  have hmeth' : T.vm.method? m = some meth := X.method'
  refine ⟨T.setFrames fs, ?_, .returned (some (.int 1)), hrun, hended, rfl, ⟨_, rfl⟩, hW, hframe⟩
  jvm_step X.here [X.here.top, hx, hb, hdg, hmeth', hr, ret, narrow_b1]
  (try refine ⟨rfl, ?_⟩); (try refine ⟨rfl, ?_⟩)
  first | (intro acts; rw [hret _ acts rfl rfl rfl]) | rw [hret _ _ rfl rfl rfl]
  exact Steps.refl _
/-- what holds at the law's entry: the machine, the code, the tables' words (any of lw_tbl by 'hts w (by decide +kernel)'), the script of L ints xs at the cell b, what the Statement gives of the start (any of its parts by flat_of_before) -/
def lw_At (p : Program) (s : State) (m : MethodId) (meth : Method) (c : Code) (b L : Nat) (xs : Nat → Int32) : Prop :=
  p.tables.exec = Jvm.exec ∧ c.code = code ∧ meth.sig.returnType = ret ∧ c.maxLocals = 4 ∧ s.vm.findClass R_law = some m.cls ∧ (∀ w ∈ lw_tbl, w.before #[Value.ref b] s = true) ∧ va_X b L xs s s.heap ∧ b < s.heap.size ∧ meth.locks = false ∧ (Jvm.Cond.and given_1 narrow_1).before #[Value.ref b] s = true

/-! the law: a judgement over the two worlds -/
def JW (cI cZ : ClassId) (aC aM : Nat → Nat) (σ τ : vMem) : va_W := vW cI cZ aM GM τ ++ vW cI cZ aC GC σ
def lOK (b L : Nat) (xs : Nat → Int32) (p : Program) (s : State) (m : MethodId) (meth : Method) (c : Code) (D : va_G) (cI cZ : ClassId) : Prop :=
  p.tables.exec = Jvm.exec ∧ c.code = code ∧ c.maxLocals = 4 ∧ (meth.sig.returnType = ret ∧ meth.locks = false) ∧ vNst s ∧ s.vm.findClass R_law = some m.cls ∧ (∀ w ∈ vTbl, w.before #[Value.ref b] s = true) ∧ va_K D classes (vTys cI cZ) s ∧ va_X b L xs s s.heap ∧ b < s.heap.size
/-- what a start holds -/
abbrev vSt : Type := Nat × Nat × (Nat → Int32) × (Nat → Nat) × (Nat → Nat)
def J (Z : vSt) (pc : Nat) (ls : List (Option Value)) (st : List Value) (σ τ : vMem) : Prop :=
  ∀ (p : Program) (l : Launch) (e : Env) (s : State) (m : MethodId) (below : List Frame) (meth : Method) (c : Code) (H : Heap) (locs : List Loc) (la : Array Slot) (D : va_G) (cI cZ : ClassId),
    lOK Z.1 Z.2.1 Z.2.2.1 p s m meth c D cI cZ → vLk la 4 ls → va_P D classes (JW cI cZ Z.2.2.2.1 Z.2.2.2.2 σ τ) H → va_D (fun q => s.heap.size ≤ q) (JW cI cZ Z.2.2.2.1 Z.2.2.2.2 σ τ) → va_S (fun q => s.heap.size ≤ q) s.heap H locs →
      W p l e room_1 s m #[Value.ref Z.1] below meth c H locs 76 3090 (lw_Z below #[Value.ref Z.1] s) (F0 m pc la st)
section JR
variable {Z : vSt} {pc : Nat} {ls : List (Option Value)} {st : List Value} {σ τ : vMem}
theorem J.iconst {n : Int} {v : Int32} (hv : Int32.ofInt n = v) (hd : decode code pc = .ok (.iconst n, 1)) (k : J Z (pc + 1) ls (.int v :: st) σ τ) : J Z pc ls st σ τ := by
  intro p l e s m below meth c H locs la D cI cZ O L P Dd S
  exact lv_iconst O.1 O.2.1 hd hv (k p l e s m below meth c H locs la D cI cZ O L P Dd S)
theorem J.bipush {n : Int} {v : Int32} (hv : (Int8.ofInt n).toInt32 = v) (hd : decode code pc = .ok (.bipush n, 2)) (k : J Z (pc + 2) ls (.int v :: st) σ τ) : J Z pc ls st σ τ := by
  intro p l e s m below meth c H locs la D cI cZ O L P Dd S
  exact lv_bipush O.1 O.2.1 hd hv (k p l e s m below meth c H locs la D cI cZ O L P Dd S)
theorem J.iload_n {j : Fin 4} {x : Int32} (hd : decode code pc = .ok (.iload_n j, 1)) (hl : ls[(j : Nat)]? = some (some (.int x))) (k : J Z (pc + 1) ls (.int x :: st) σ τ) : J Z pc ls st σ τ := by
  intro p l e s m below meth c H locs la D cI cZ O L P Dd S
  exact lv_iload_n O.1 O.2.1 hd rfl (L.2.2 _ _ hl) (k p l e s m below meth c H locs la D cI cZ O L P Dd S)
theorem J.aload_n {j : Fin 4} {x : Nat} (hd : decode code pc = .ok (.aload_n j, 1)) (hl : ls[(j : Nat)]? = some (some (.ref x))) (k : J Z (pc + 1) ls (.ref x :: st) σ τ) : J Z pc ls st σ τ := by
  intro p l e s m below meth c H locs la D cI cZ O L P Dd S
  exact lv_aload_n O.1 O.2.1 hd rfl (L.2.2 _ _ hl) (k p l e s m below meth c H locs la D cI cZ O L P Dd S)
theorem J.iadd {x y : Int32} (hd : decode code pc = .ok (.iadd, 1)) (k : J Z (pc + 1) ls (.int (x + y) :: st) σ τ) : J Z pc ls (.int y :: .int x :: st) σ τ := by
  intro p l e s m below meth c H locs la D cI cZ O L P Dd S
  exact lv_iadd O.1 O.2.1 hd (k p l e s m below meth c H locs la D cI cZ O L P Dd S)
theorem J.isub {x y : Int32} (hd : decode code pc = .ok (.isub, 1)) (k : J Z (pc + 1) ls (.int (x - y) :: st) σ τ) : J Z pc ls (.int y :: .int x :: st) σ τ := by
  intro p l e s m below meth c H locs la D cI cZ O L P Dd S
  exact lv_isub O.1 O.2.1 hd (k p l e s m below meth c H locs la D cI cZ O L P Dd S)
theorem J.iand {x y : Int32} (hd : decode code pc = .ok (.iand, 1)) (k : J Z (pc + 1) ls (.int (x &&& y) :: st) σ τ) : J Z pc ls (.int y :: .int x :: st) σ τ := by
  intro p l e s m below meth c H locs la D cI cZ O L P Dd S
  exact lv_iand O.1 O.2.1 hd (k p l e s m below meth c H locs la D cI cZ O L P Dd S)
theorem J.sld {i : Int32} (hin : vp_in i Z.2.1) (hd : decode code pc = .ok (.iaload, 1)) (k : J Z (pc + 1) ls (.int (Z.2.2.1 i.toNatClampNeg) :: st) σ τ) : J Z pc ls (.int i :: .ref Z.1 :: st) σ τ := by
  intro p l e s m below meth c H locs la D cI cZ O L P Dd S
  exact va_sld O.1 O.2.1 O.2.2.2.2.2.2.2.2.1 O.2.2.2.2.2.2.2.2.2 (Nat.not_le.mpr O.2.2.2.2.2.2.2.2.2) S hin hd (k p l e s m below meth c H locs la D cI cZ O L P Dd S)
theorem J.slen (hd : decode code pc = .ok (.arraylength, 1)) (k : J Z (pc + 1) ls (.int (nI Z.2.1) :: st) σ τ) : J Z pc ls (.ref Z.1 :: st) σ τ := by
  intro p l e s m below meth c H locs la D cI cZ O L P Dd S
  exact va_slen O.1 O.2.1 O.2.2.2.2.2.2.2.2.1 O.2.2.2.2.2.2.2.2.2 (Nat.not_le.mpr O.2.2.2.2.2.2.2.2.2) S hd (k p l e s m below meth c H locs la D cI cZ O L P Dd S)
theorem J.icmp_eqT {x : Int32} {off : Int} {tgt : Nat} (hd : decode code pc = .ok (.if_icmp .eq off, 3)) (ht : (pc : Int) + off = (tgt : Int)) (k : J Z tgt ls st σ τ) : J Z pc ls (.int x :: .int x :: st) σ τ := by
  intro p l e s m below meth c H locs la D cI cZ O L P Dd S
  exact lv_icmp_eq O.1 O.2.1 hd ht (fun _ => k p l e s m below meth c H locs la D cI cZ O L P Dd S) (fun z => absurd rfl z)
theorem J.icmp_gt {x y : Int32} {off : Int} {tgt : Nat} (hd : decode code pc = .ok (.if_icmp .gt off, 3)) (ht : (pc : Int) + off = (tgt : Int)) (kt : y < x → J Z tgt ls st σ τ) (kf : ¬ y < x → J Z (pc + 3) ls st σ τ) : J Z pc ls (.int y :: .int x :: st) σ τ := by
  intro p l e s m below meth c H locs la D cI cZ O L P Dd S
  exact lv_icmp_gt O.1 O.2.1 hd ht (fun h => kt h p l e s m below meth c H locs la D cI cZ O L P Dd S) (fun h => kf h p l e s m below meth c H locs la D cI cZ O L P Dd S)
theorem J.lcmpT {x : Int64} {off : Int} {tgt : Nat} (hd : decode code pc = .ok (.lcmp, 1)) (hd2 : decode code (pc + 1) = .ok (.ifCond .eq off, 3)) (ht : ((pc + 1 : Nat) : Int) + off = (tgt : Int)) (k : J Z tgt ls st σ τ) : J Z pc ls (.long x :: .long x :: st) σ τ := by
  intro p l e s m below meth c H locs la D cI cZ O L P Dd S
  refine W.lcmp O.1 O.2.1 hd ?_
  exact lv_if_eq O.1 O.2.1 hd2 ht (fun _ => k p l e s m below meth c H locs la D cI cZ O L P Dd S) (fun z => absurd ((lg_cmp_eq x x).mpr rfl) z)
theorem J.goto {off : Int} {tgt : Nat} (hd : decode code pc = .ok (.goto off, 3)) (ht : (pc : Int) + off = (tgt : Int)) (k : J Z tgt ls st σ τ) : J Z pc ls st σ τ := by
  intro p l e s m below meth c H locs la D cI cZ O L P Dd S
  exact lv_goto O.1 O.2.1 hd ht (k p l e s m below meth c H locs la D cI cZ O L P Dd S)
theorem J.iinc {i : Nat} {n : Int} {x v : Int32} (hd : decode code pc = .ok (.iinc i n, 3)) (hl : ls[i]? = some (some (.int x))) (hv : x + Int32.ofInt n = v) (hn : i < 4) (h0 : vNo2 ls i = true) (k : J Z (pc + 3) (ls.set i (some (.int v))) st σ τ) : J Z pc ls st σ τ := by
  intro p l e s m below meth c H locs la D cI cZ O L P Dd S
  have hm : (i, Value.int x) ∈ vPrs 0 ls := (vPrs_mem ls 0 (i, .int x)).mpr ⟨Nat.zero_le _, by simpa using hl⟩
  obtain ⟨q, hq⟩ := List.getElem?_of_mem hm
  exact lv_iinc O.1 O.2.1 hd (vLk_has L) hq hv hn rfl (fun la h => k p l e s m below meth c H locs la D cI cZ O (vLk_set1 h0 h) P Dd S)
theorem J.tableIn {dflt lo hi off : Int} {offs : Array Int} {len tgt : Nat} {x : Int32} (hd : decode code pc = .ok (.tableswitch dflt lo hi offs, len)) (h1 : ¬ x.toInt < lo) (h2 : ¬ hi < x.toInt) (ho : offs[(x.toInt - lo).toNat]? = some off) (ht : (pc : Int) + off = (tgt : Int)) (k : J Z tgt ls st σ τ) : J Z pc ls (.int x :: st) σ τ := by
  intro p l e s m below meth c H locs la D cI cZ O L P Dd S
  exact lv_tableIn O.1 O.2.1 hd h1 h2 ho ht (k p l e s m below meth c H locs la D cI cZ O L P Dd S)
theorem J.tableOut {dflt lo hi : Int} {offs : Array Int} {len tgt : Nat} {x : Int32} (hd : decode code pc = .ok (.tableswitch dflt lo hi offs, len)) (h : x.toInt < lo ∨ hi < x.toInt) (ht : (pc : Int) + dflt = (tgt : Int)) (k : J Z tgt ls st σ τ) : J Z pc ls (.int x :: st) σ τ := by
  intro p l e s m below meth c H locs la D cI cZ O L P Dd S
  exact lv_tableOut O.1 O.2.1 hd h ht (k p l e s m below meth c H locs la D cI cZ O L P Dd S)
theorem J.done (hd : decode code pc = .ok (.iconst 1, 1)) (hd2 : decode code (pc + 1) = .ok (.ireturn, 1)) : J Z pc ls [] σ τ := by
  intro p l e s m below meth c H locs la D cI cZ O L P Dd S
  refine lv_iconst (v := 1) O.1 O.2.1 hd (by decide) ?_
  refine va_forget (fun q hq => S.2.2 q hq) ?_
  refine W.widen (k := 600000) (n := 7302250) (Nat.le_of_ble_eq_true rfl) (Nat.le_of_ble_eq_true rfl) ?_
  exact lw_ret O.1 O.2.1 O.2.2.2.1.1 O.2.2.2.1.2 hd2
/-- a number of the script -/
theorem J.arg {i k : Nat} {kz : Int} (hi : i + k < Z.2.1) (hL : Z.2.1 ≤ 384) (h3 : ls[3]? = some (some (.int (nI i)))) (h0 : ls[0]? = some (some (.ref Z.1))) (hk : Int32.ofInt kz = nI k) (hd0 : decode code pc = .ok (.aload_n 0, 1)) (hd1 : decode code (pc + 1) = .ok (.iload_n 3, 1)) (hd2 : decode code (pc + 2) = .ok (.iconst kz, 1)) (hd3 : decode code (pc + 3) = .ok (.iadd, 1)) (hd4 : decode code (pc + 4) = .ok (.iaload, 1)) (kk : J Z (pc + 5) ls (.int (Z.2.2.1 (i + k)) :: st) σ τ) : J Z pc ls st σ τ := by
  refine J.aload_n hd0 h0 ?_
  refine J.iload_n hd1 h3 ?_
  refine J.iconst hk hd2 ?_
  refine J.iadd hd3 ?_
  rw [nI_add]
  refine J.sld (vp_in_nI hi (by omega)) hd4 ?_
  rw [nI_clamp (by omega)]
  exact kk
theorem lAfter {p : Program} {l : Launch} {e : Env} {s : State} {m : MethodId} {below : List Frame} {meth : Method} {c : Code} {H : Heap} {locs : List Loc} {la : Array Slot} {st0 : List Value} {a : Array Value} {b : Nat} {D : va_G} {cI cZ : ClassId} {wr : va_W} {G : vCfg} {ad : Nat → Nat} {ρ : vMem} {Q' : Option Value → vMem → Prop} {Zf : State → Prop}
    (P : va_P D classes (wr ++ vW cI cZ ad G ρ) H) (Dd : va_D (fun q => s.heap.size ≤ q) (wr ++ vW cI cZ ad G ρ)) (S : va_S (fun q => s.heap.size ≤ q) s.heap H locs)
    (hk : ∀ r ρ', Q' r ρ' → ∀ H' locs', va_P D classes (wr ++ vW cI cZ ad G ρ') H' → va_D (fun q => s.heap.size ≤ q) (wr ++ vW cI cZ ad G ρ') → va_S (fun q => s.heap.size ≤ q) s.heap H' locs' → W p l e room_1 s m #[Value.ref b] below meth c H' locs' 76 3090 Zf (F0 m (pc + 3) la (vPv r st)))
    (hr : va_Run p l e room_1 s m #[Value.ref b] below meth c H locs 76 3090 0 0 (F0 m pc la st0) st (vQ D cI cZ ad G (va_A (vW cI cZ ad G ρ) H.size) Q' a) (va_A (vW cI cZ ad G ρ) H.size)) :
    W p l e room_1 s m #[Value.ref b] below meth c H locs 76 3090 Zf (F0 m pc la st0) := by
  intro T hT X
  obtain ⟨v, st₀, t, T', L1, h0, X', hL, e1, e2, ⟨r, ρ', hv, hp, hb, hz, hkk⟩, stp⟩ := hr T hT X
  cases hv
  rw [h0] at hz hkk
  have hF : ∀ q, va_A (vW cI cZ ad G ρ) H.size q → s.heap.size ≤ q := fun q h => by
    rcases h with ⟨k, x, h⟩ | h
    · exact Dd.right.2 k _ h
    · exact Nat.le_trans S.1 h
  have S1 : va_S (fun q => s.heap.size ≤ q) s.heap T'.heap (locs ++ L1) := ⟨Nat.le_trans S.1 (by rw [e1]; exact hz), fun q h1 h2 => by
      rw [e1, hkk q (Nat.lt_of_lt_of_le h1 S.1) (fun z => h2 (hF q z))]
      exact S.2.1 q h1 h2, fun q hq => by
      rcases List.mem_append.mp hq with h | h
      · exact S.2.2 q h
      · exact hF _ (hL q h)⟩
  obtain ⟨hP2, hD2⟩ := kJoin (H1 := T'.heap) P Dd (fun q h1 h2 => by rw [e1]; exact hkk q h1 h2) hF (by rw [e1]; exact hb) (vW_D ρ' (Dd.right.self (sz := H.size)))
  obtain ⟨t2, a1, b1⟩ := hk _ ρ' hp T'.heap (locs ++ L1) hP2 hD2 S1 T' rfl X'
  refine ⟨t2, stp t2 ?_, b1⟩
  cases v <;> exact a1
theorem room_le {d : Nat} {mc : vMI} (h : d ≤ 11) (h21 : mc.2.2.1 ≤ 21) : (vRm d).frames + 1 ≤ room_1.frames ∧ 8 + (mc.2.2.1 + 11) + (vRm d).locals ≤ room_1.locals := by
  refine ⟨?_, ?_⟩
  · show d + 1 ≤ 14
    omega
  · show 8 + (mc.2.2.1 + 11) + 40 * d ≤ 558
    omega
theorem J.callC {mc : vMI} {idx n d : Nat} {As : List Value} (hd : decode code pc = .ok (.invokevirtual idx, 3)) (hl : Cond.methodLink R_law idx mc.1 ∈ vTbl) (hf : vMfV mc n) (hcl : mc.1.cls = RX7) (hn : As.length = n) (hdd : d ≤ 11) (hlen : (lg_sl (.ref (Z.2.2.2.1 0) :: As)).length ≤ mc.2.2.1) (hst : (st.map fun v => v.category).sum ≤ 8)
    (k : V GC mc Z.2.2.2.1 (fun r σ' => J Z (pc + 3) ls (vPv r st) σ' τ) d 0 (vEn (.ref (Z.2.2.2.1 0) :: As) mc.2.2.1) [] σ) : J Z pc ls (As.reverse ++ .ref (Z.2.2.2.1 0) :: st) σ τ := by
  intro p l e s m below meth c H locs la D cI cZ O L P Dd S
  obtain ⟨⟨hpl, hco, hin, hds, h21⟩, hins, hsel⟩ := hf
  have hts := O.2.2.2.2.2.2.1
  have cw : CallW room_1 s #[Value.ref Z.1] R_law mc.1.cls idx mc.1 mc.2.1 mc.2.2.1 mc.2.2.2 (vWs mc) (vRm d) 0 0 n := ⟨callB_of n hts (vGoodWs hco) rfl rfl rfl (hts _ hin) (hts _ hl) hds (room_le hdd h21), hts _ hins, hts _ hsel⟩
  have hcell : ∃ cellB : Cell, H[Z.2.2.2.1 0]? = some cellB ∧ cellB.vm.isStatics = false ∧ s.vm.findClass mc.1.cls = some cellB.cls := by
    obtain ⟨r, h1, cell, q1, q2, q3, q4⟩ := P.right 0 _ (by rw [vW_get _ _ _ _ _ nC_0, vCell_obj gC_0])
    have hr : r = (RX7, TX7, 15) := Option.some.inj (h1.symm.trans rfl)
    subst hr
    rw [hcl]
    exact ⟨cell, q1, by rw [q3]; rfl, by rw [q2]; exact (O.2.2.2.2.2.2.2.1.1 7 _ rfl).2.1⟩
  refine lAfter (a := (Value.ref (Z.2.2.2.1 0) :: As).toArray) (Q' := fun r σ' => J Z (pc + 3) ls (vPv r st) σ' τ) P Dd S (fun r σ' hq H' locs' P' D' S' => hq p l e s m below meth c H' locs' la D cI cZ O L P' D' S') ?_
  exact va_runV (As := As) (rest := st) ⟨O.1, O.2.1, O.2.2.1, O.2.2.2.2.2.1, hts⟩ (V.met hpl hlen k l D cI cZ H.size) cw ⟨vPre_blind, hcell, fun U hU hW => ⟨rfl, by rw [hU], by rw [hU]; exact P.right, va_K.moved hW.alike O.2.2.2.2.2.2.2.1, Dd.right.weaken (fun _ _ _ _ => trivial), vNst.warm hW O.2.2.2.2.1⟩⟩ rfl hn L.1 rfl (lv_room hst) hd ⟨Nat.le_of_ble_eq_true rfl, Nat.le_of_ble_eq_true rfl⟩
theorem J.callM {mc : vMI} {idx n d : Nat} {As : List Value} (hd : decode code pc = .ok (.invokevirtual idx, 3)) (hl : Cond.methodLink R_law idx mc.1 ∈ vTbl) (hf : vMfV mc n) (hcl : mc.1.cls = RX8) (hn : As.length = n) (hdd : d ≤ 11) (hlen : (lg_sl (.ref (Z.2.2.2.2 0) :: As)).length ≤ mc.2.2.1) (hst : (st.map fun v => v.category).sum ≤ 8)
    (k : V GM mc Z.2.2.2.2 (fun r τ' => J Z (pc + 3) ls (vPv r st) σ τ') d 0 (vEn (.ref (Z.2.2.2.2 0) :: As) mc.2.2.1) [] τ) : J Z pc ls (As.reverse ++ .ref (Z.2.2.2.2 0) :: st) σ τ := by
  intro p l e s m below meth c H locs la D cI cZ O L P0 Dd0 S
  have P := va_P.comm P0
  have Dd := va_D.comm Dd0
  obtain ⟨⟨hpl, hco, hin, hds, h21⟩, hins, hsel⟩ := hf
  have hts := O.2.2.2.2.2.2.1
  have cw : CallW room_1 s #[Value.ref Z.1] R_law mc.1.cls idx mc.1 mc.2.1 mc.2.2.1 mc.2.2.2 (vWs mc) (vRm d) 0 0 n := ⟨callB_of n hts (vGoodWs hco) rfl rfl rfl (hts _ hin) (hts _ hl) hds (room_le hdd h21), hts _ hins, hts _ hsel⟩
  have hcell : ∃ cellB : Cell, H[Z.2.2.2.2 0]? = some cellB ∧ cellB.vm.isStatics = false ∧ s.vm.findClass mc.1.cls = some cellB.cls := by
    obtain ⟨r, h1, cell, q1, q2, q3, q4⟩ := P.right 0 _ (by rw [vW_get _ _ _ _ _ nM_0, vCell_obj gM_0])
    have hr : r = (RX8, TX8, 48) := Option.some.inj (h1.symm.trans rfl)
    subst hr
    rw [hcl]
    exact ⟨cell, q1, by rw [q3]; rfl, by rw [q2]; exact (O.2.2.2.2.2.2.2.1.1 8 _ rfl).2.1⟩
  refine lAfter (a := (Value.ref (Z.2.2.2.2 0) :: As).toArray) (Q' := fun r τ' => J Z (pc + 3) ls (vPv r st) σ τ') P Dd S (fun r τ' hq H' locs' P' D' S' => hq p l e s m below meth c H' locs' la D cI cZ O L (va_P.comm P') (va_D.comm D') S') ?_
  exact va_runV (As := As) (rest := st) ⟨O.1, O.2.1, O.2.2.1, O.2.2.2.2.2.1, hts⟩ (V.met hpl hlen k l D cI cZ H.size) cw ⟨vPre_blind, hcell, fun U hU hW => ⟨rfl, by rw [hU], by rw [hU]; exact P.right, va_K.moved hW.alike O.2.2.2.2.2.2.2.1, Dd.right.weaken (fun _ _ _ _ => trivial), vNst.warm hW O.2.2.2.2.1⟩⟩ rfl hn L.1 rfl (lv_room hst) hd ⟨Nat.le_of_ble_eq_true rfl, Nat.le_of_ble_eq_true rfl⟩
end JR
