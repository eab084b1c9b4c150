section VR
variable {G : vCfg} {mi : vMI} {ad : Nat → Nat} {Q : Option Value → vMem → Prop} {d pc : Nat} {ls : List (Option Value)} {st : List Value} {σ : vMem}
theorem V.iconst {n : Int} {v : Int32} (hv : Int32.ofInt n = v) (hd : decode mi.2.1 pc = .ok (.iconst n, 1)) (k : V G mi ad Q d (pc + 1) ls (.int v :: st) σ) : V G mi ad Q d pc ls (st) σ := by
  intro p l e s m args below meth c H locs A D cI cZ la O L P Dd S hA
  exact lv_iconst O.1 O.2.1 hd hv (k p l e s m args below meth c H locs A D cI cZ la O L P Dd S hA)
theorem V.bipush {n : Int} {v : Int32} (hv : (Int8.ofInt n).toInt32 = v) (hd : decode mi.2.1 pc = .ok (.bipush n, 2)) (k : V G mi ad Q d (pc + 2) ls (.int v :: st) σ) : V G mi ad Q d pc ls (st) σ := by
  intro p l e s m args below meth c H locs A D cI cZ la O L P Dd S hA
  exact lv_bipush O.1 O.2.1 hd hv (k p l e s m args below meth c H locs A D cI cZ la O L P Dd S hA)
theorem V.sipush {n : Int} {v : Int32} (hv : (Int16.ofInt n).toInt32 = v) (hd : decode mi.2.1 pc = .ok (.sipush n, 3)) (k : V G mi ad Q d (pc + 3) ls (.int v :: st) σ) : V G mi ad Q d pc ls (st) σ := by
  intro p l e s m args below meth c H locs A D cI cZ la O L P Dd S hA
  exact lv_sipush O.1 O.2.1 hd hv (k p l e s m args below meth c H locs A D cI cZ la O L P Dd S hA)
theorem V.lconst {n : Fin 2} {v : Int64} (hv : Int64.ofNat (n : Nat) = v) (hd : decode mi.2.1 pc = .ok (.lconst n, 1)) (k : V G mi ad Q d (pc + 1) ls (.long v :: st) σ) : V G mi ad Q d pc ls (st) σ := by
  intro p l e s m args below meth c H locs A D cI cZ la O L P Dd S hA
  exact lv_lconst O.1 O.2.1 hd hv (k p l e s m args below meth c H locs A D cI cZ la O L P Dd S hA)
theorem V.ldcw {idx : Nat} {v : Int32} (hd : decode mi.2.1 pc = .ok (.ldc_w idx, 3)) (hw : Cond.constant mi.1.cls idx v ∈ vTbl) (k : V G mi ad Q d (pc + 3) ls (.int v :: st) σ) : V G mi ad Q d pc ls st σ := by
  intro p l e s m args below meth c H locs A D cI cZ la O L P Dd S hA
  exact lv_ldcw O.1 O.2.1 O.2.2.2.2.2.1 (O.2.2.2.2.2.2.1 _ hw) hd (k p l e s m args below meth c H locs A D cI cZ la O L P Dd S hA)
theorem V.ldc {idx : Nat} {v : Int32} (hd : decode mi.2.1 pc = .ok (.ldc idx, 2)) (hw : Cond.constant mi.1.cls idx v ∈ vTbl) (k : V G mi ad Q d (pc + 2) ls (.int v :: st) σ) : V G mi ad Q d pc ls st σ := by
  intro p l e s m args below meth c H locs A D cI cZ la O L P Dd S hA
  exact lv_ldc O.1 O.2.1 O.2.2.2.2.2.1 (O.2.2.2.2.2.2.1 _ hw) hd (k p l e s m args below meth c H locs A D cI cZ la O L P Dd S hA)
theorem V.ldc2 {idx : Nat} {v : Int64} (hd : decode mi.2.1 pc = .ok (.ldc2_w idx, 3)) (hw : Cond.constantLong mi.1.cls idx v ∈ vTbl) (k : V G mi ad Q d (pc + 3) ls (.long v :: st) σ) : V G mi ad Q d pc ls st σ := by
  intro p l e s m args below meth c H locs A D cI cZ la O L P Dd S hA
  exact lv_ldc2 O.1 O.2.1 O.2.2.2.2.2.1 (O.2.2.2.2.2.2.1 _ hw) hd (k p l e s m args below meth c H locs A D cI cZ la O L P Dd S hA)
theorem V.iload_n {j : Fin 4} {x : Int32} (hd : decode mi.2.1 pc = .ok (.iload_n j, 1)) (hl : ls[(j : Nat)]? = some (some (.int x))) (k : V G mi ad Q d (pc + 1) ls (.int x :: st) σ) : V G mi ad Q d pc ls st σ := by
  intro p l e s m args below meth c H locs A D cI cZ la O L P Dd S hA
  exact lv_iload_n O.1 O.2.1 hd rfl (L.2.2 _ _ hl) (k p l e s m args below meth c H locs A D cI cZ la O L P Dd S hA)
theorem V.iload {i : Nat} {x : Int32} (hd : decode mi.2.1 pc = .ok (.iload i, 2)) (hl : ls[i]? = some (some (.int x))) (k : V G mi ad Q d (pc + 2) ls (.int x :: st) σ) : V G mi ad Q d pc ls st σ := by
  intro p l e s m args below meth c H locs A D cI cZ la O L P Dd S hA
  exact lv_iload O.1 O.2.1 hd (L.2.2 _ _ hl) (k p l e s m args below meth c H locs A D cI cZ la O L P Dd S hA)
theorem V.lload_n {j : Fin 4} {x : Int64} (hd : decode mi.2.1 pc = .ok (.lload_n j, 1)) (hl : ls[(j : Nat)]? = some (some (.long x))) (k : V G mi ad Q d (pc + 1) ls (.long x :: st) σ) : V G mi ad Q d pc ls st σ := by
  intro p l e s m args below meth c H locs A D cI cZ la O L P Dd S hA
  exact lv_lload_n O.1 O.2.1 hd rfl (L.2.2 _ _ hl) (k p l e s m args below meth c H locs A D cI cZ la O L P Dd S hA)
theorem V.lload {i : Nat} {x : Int64} (hd : decode mi.2.1 pc = .ok (.lload i, 2)) (hl : ls[i]? = some (some (.long x))) (k : V G mi ad Q d (pc + 2) ls (.long x :: st) σ) : V G mi ad Q d pc ls st σ := by
  intro p l e s m args below meth c H locs A D cI cZ la O L P Dd S hA
  exact lv_lload O.1 O.2.1 hd (L.2.2 _ _ hl) (k p l e s m args below meth c H locs A D cI cZ la O L P Dd S hA)
theorem V.aload_n {j : Fin 4} {x : Nat} (hd : decode mi.2.1 pc = .ok (.aload_n j, 1)) (hl : ls[(j : Nat)]? = some (some (.ref x))) (k : V G mi ad Q d (pc + 1) ls (.ref x :: st) σ) : V G mi ad Q d pc ls st σ := by
  intro p l e s m args below meth c H locs A D cI cZ la O L P Dd S hA
  exact lv_aload_n O.1 O.2.1 hd rfl (L.2.2 _ _ hl) (k p l e s m args below meth c H locs A D cI cZ la O L P Dd S hA)
theorem V.aload {i : Nat} {x : Nat} (hd : decode mi.2.1 pc = .ok (.aload i, 2)) (hl : ls[i]? = some (some (.ref x))) (k : V G mi ad Q d (pc + 2) ls (.ref x :: st) σ) : V G mi ad Q d pc ls st σ := by
  intro p l e s m args below meth c H locs A D cI cZ la O L P Dd S hA
  exact lv_aload O.1 O.2.1 hd (L.2.2 _ _ hl) (k p l e s m args below meth c H locs A D cI cZ la O L P Dd S hA)
/-- the values that are known, with their places -/
def vPrs : Nat → List (Option Value) → List (Nat × Value)
  | _, [] => []
  | i, none :: r => vPrs (i + 1) r
  | i, some v :: r => (i, v) :: vPrs (i + 1) r
theorem vPrs_mem : ∀ (l : List (Option Value)) (i : Nat) (q : Nat × Value), q ∈ vPrs i l ↔ i ≤ q.1 ∧ l[q.1 - i]? = some (some q.2)
  | [], i, q => by simp [vPrs]
  | none :: r, i, q => by
    rw [vPrs, vPrs_mem r (i + 1) q]
    constructor
    · rintro ⟨h1, h2⟩
      refine ⟨by omega, ?_⟩
      rw [show q.1 - i = (q.1 - (i + 1)) + 1 by omega]
      simpa using h2
    · rintro ⟨h1, h2⟩
      rcases Nat.eq_or_lt_of_le h1 with e | e
      · rw [show q.1 - i = 0 by omega] at h2
        simp at h2
      · refine ⟨e, ?_⟩
        rw [show q.1 - i = (q.1 - (i + 1)) + 1 by omega] at h2
        simpa using h2
  | some v :: r, i, q => by
    rw [vPrs, List.mem_cons, vPrs_mem r (i + 1) q]
    constructor
    · rintro (h | ⟨h1, h2⟩)
      · subst h
        simp
      · refine ⟨by omega, ?_⟩
        rw [show q.1 - i = (q.1 - (i + 1)) + 1 by omega]
        simpa using h2
    · rintro ⟨h1, h2⟩
      rcases Nat.eq_or_lt_of_le h1 with e | e
      · rw [show q.1 - i = 0 by omega] at h2
        left
        have : v = q.2 := by simpa using h2
        rw [this, e]
      · right
        refine ⟨e, ?_⟩
        rw [show q.1 - i = (q.1 - (i + 1)) + 1 by omega] at h2
        simpa using h2
theorem vLk_has {la : Array Slot} {n : Nat} {ls : List (Option Value)} (h : vLk la n ls) : lv_has la n (vPrs 0 ls) := ⟨h.1, h.2.1, fun q hq => h.2.2 q.1 q.2 (by simpa using ((vPrs_mem ls 0 q).mp hq).2)⟩
/-- the value ahead of place i is no long -/
def vNo2 (ls : List (Option Value)) (i : Nat) : Bool := match i with
  | 0 => true
  | j + 1 => match ls[j]? with
    | some (some v) => !(v.category == 2)
    | _ => true
theorem vLk_set1 {la : Array Slot} {n : Nat} {ls : List (Option Value)} {i : Nat} {v : Value} (h0 : vNo2 ls i = true) (h : lv_has la n ((i, v) :: (vPrs 0 ls).filter (fun q => !(q.1 == i) && !(q.1 + 1 == i && q.2.category == 2)))) : vLk la n (ls.set i (some v)) := by
  refine ⟨h.1, h.2.1, fun j w hj => ?_⟩
  by_cases e : i = j
  · subst e
    rw [List.getElem?_set] at hj
    simp only [if_true] at hj
    split at hj
    · have : v = w := by simpa using hj
      subst this
      exact h.2.2 (i, v) List.mem_cons_self
    · cases hj
  · rw [List.getElem?_set, if_neg e] at hj
    refine h.2.2 (j, w) (List.mem_cons_of_mem _ (List.mem_filter.mpr ⟨(vPrs_mem ls 0 (j, w)).mpr ⟨Nat.zero_le _, by simpa using hj⟩, ?_⟩))
    have e2 : ¬ j = i := fun q => e q.symm
    simp only [Bool.and_eq_true, Bool.not_eq_true', beq_eq_false_iff_ne, ne_eq, Bool.and_eq_false_iff, e2, not_false_eq_true, true_and]
    by_cases e3 : j + 1 = i
    · right
      subst e3
      simp only [vNo2, hj] at h0
      simpa using h0
    · left; exact e3
theorem vLk_set2 {la : Array Slot} {n : Nat} {ls : List (Option Value)} {i : Nat} {v : Value} (h0 : vNo2 ls i = true) (h : lv_has la n ((i, v) :: (vPrs 0 ls).filter (fun q => !(q.1 == i) && (!(q.1 == i + 1) && !(q.1 + 1 == i && q.2.category == 2))))) : vLk la n ((ls.set i (some v)).set (i + 1) none) := by
  refine ⟨h.1, h.2.1, fun j w hj => ?_⟩
  rw [List.getElem?_set] at hj
  by_cases e1 : i + 1 = j
  · subst e1
    simp only [if_true] at hj
    split at hj <;> cases hj
  rw [if_neg e1] at hj
  by_cases e : i = j
  · subst e
    rw [List.getElem?_set] at hj
    simp only [if_true] at hj
    split at hj
    · have : v = w := by simpa using hj
      subst this
      exact h.2.2 (i, v) List.mem_cons_self
    · cases hj
  · rw [List.getElem?_set, if_neg e] at hj
    refine h.2.2 (j, w) (List.mem_cons_of_mem _ (List.mem_filter.mpr ⟨(vPrs_mem ls 0 (j, w)).mpr ⟨Nat.zero_le _, by simpa using hj⟩, ?_⟩))
    have e2 : ¬ j = i := fun q => e q.symm
    have e4 : ¬ j = i + 1 := fun q => e1 q.symm
    simp only [Bool.and_eq_true, Bool.not_eq_true', beq_eq_false_iff_ne, ne_eq, Bool.and_eq_false_iff, e2, e4, not_false_eq_true, true_and]
    by_cases e3 : j + 1 = i
    · right
      subst e3
      simp only [vNo2, hj] at h0
      simpa using h0
    · left; exact e3
theorem V.istore_n {j : Fin 4} {x : Int32} (hd : decode mi.2.1 pc = .ok (.istore_n j, 1)) (hn : (j : Nat) < mi.2.2.1) (h0 : vNo2 ls j = true) (k : V G mi ad Q d (pc + 1) (ls.set j (some (.int x))) st σ) : V G mi ad Q d pc ls (.int x :: st) σ := by
  intro p l e s m args below meth c H locs A D cI cZ la O L P Dd S hA
  exact lv_istore_n O.1 O.2.1 hd rfl (vLk_has L) hn rfl (fun la h => k p l e s m args below meth c H locs A D cI cZ la O (vLk_set1 h0 h) P Dd S hA)
theorem V.istore {i : Nat} {x : Int32} (hd : decode mi.2.1 pc = .ok (.istore i, 2)) (hn : i < mi.2.2.1) (h0 : vNo2 ls i = true) (k : V G mi ad Q d (pc + 2) (ls.set i (some (.int x))) st σ) : V G mi ad Q d pc ls (.int x :: st) σ := by
  intro p l e s m args below meth c H locs A D cI cZ la O L P Dd S hA
  exact lv_istore O.1 O.2.1 hd (vLk_has L) hn rfl (fun la h => k p l e s m args below meth c H locs A D cI cZ la O (vLk_set1 h0 h) P Dd S hA)
theorem V.astore_n {j : Fin 4} {x : Nat} (hd : decode mi.2.1 pc = .ok (.astore_n j, 1)) (hn : (j : Nat) < mi.2.2.1) (h0 : vNo2 ls j = true) (k : V G mi ad Q d (pc + 1) (ls.set j (some (.ref x))) st σ) : V G mi ad Q d pc ls (.ref x :: st) σ := by
  intro p l e s m args below meth c H locs A D cI cZ la O L P Dd S hA
  exact lv_astore_n O.1 O.2.1 hd rfl (vLk_has L) hn rfl (fun la h => k p l e s m args below meth c H locs A D cI cZ la O (vLk_set1 h0 h) P Dd S hA)
theorem V.astore {i : Nat} {x : Nat} (hd : decode mi.2.1 pc = .ok (.astore i, 2)) (hn : i < mi.2.2.1) (h0 : vNo2 ls i = true) (k : V G mi ad Q d (pc + 2) (ls.set i (some (.ref x))) st σ) : V G mi ad Q d pc ls (.ref x :: st) σ := by
  intro p l e s m args below meth c H locs A D cI cZ la O L P Dd S hA
  exact lv_astore O.1 O.2.1 hd (vLk_has L) hn rfl (fun la h => k p l e s m args below meth c H locs A D cI cZ la O (vLk_set1 h0 h) P Dd S hA)
theorem V.lstore_n {j : Fin 4} {x : Int64} (hd : decode mi.2.1 pc = .ok (.lstore_n j, 1)) (hn : (j : Nat) + 1 < mi.2.2.1) (h0 : vNo2 ls j = true) (k : V G mi ad Q d (pc + 1) ((ls.set j (some (.long x))).set (j + 1) none) st σ) : V G mi ad Q d pc ls (.long x :: st) σ := by
  intro p l e s m args below meth c H locs A D cI cZ la O L P Dd S hA
  exact lv_lstore_n O.1 O.2.1 hd rfl (vLk_has L) hn rfl (fun la h => k p l e s m args below meth c H locs A D cI cZ la O (vLk_set2 h0 h) P Dd S hA)
theorem V.lstore {i : Nat} {x : Int64} (hd : decode mi.2.1 pc = .ok (.lstore i, 2)) (hn : i + 1 < mi.2.2.1) (h0 : vNo2 ls i = true) (k : V G mi ad Q d (pc + 2) ((ls.set i (some (.long x))).set (i + 1) none) st σ) : V G mi ad Q d pc ls (.long x :: st) σ := by
  intro p l e s m args below meth c H locs A D cI cZ la O L P Dd S hA
  exact lv_lstore O.1 O.2.1 hd (vLk_has L) hn rfl (fun la h => k p l e s m args below meth c H locs A D cI cZ la O (vLk_set2 h0 h) P Dd S hA)
theorem V.iinc {i : Nat} {n : Int} {x v : Int32} (hd : decode mi.2.1 pc = .ok (.iinc i n, 3)) (hl : ls[i]? = some (some (.int x))) (hv : x + Int32.ofInt n = v) (hn : i < mi.2.2.1) (h0 : vNo2 ls i = true) (k : V G mi ad Q d (pc + 3) (ls.set i (some (.int v))) st σ) : V G mi ad Q d pc ls st σ := by
  intro p l e s m args below meth c H locs A D cI cZ la O L P Dd S hA
  have hm : (i, Value.int x) ∈ vPrs 0 ls := (vPrs_mem ls 0 (i, .int x)).mpr ⟨Nat.zero_le _, by simpa using hl⟩
  obtain ⟨q, hq⟩ := List.getElem?_of_mem hm
  exact lv_iinc O.1 O.2.1 hd (vLk_has L) hq hv hn rfl (fun la h => k p l e s m args below meth c H locs A D cI cZ la O (vLk_set1 h0 h) P Dd S hA)
theorem V.iadd {x y : Int32} (hd : decode mi.2.1 pc = .ok (.iadd, 1)) (k : V G mi ad Q d (pc + 1) ls (.int (x + y) :: st) σ) : V G mi ad Q d pc ls (.int y :: .int x :: st) σ := by
  intro p l e s m args below meth c H locs A D cI cZ la O L P Dd S hA
  exact lv_iadd O.1 O.2.1 hd (k p l e s m args below meth c H locs A D cI cZ la O L P Dd S hA)
theorem V.isub {x y : Int32} (hd : decode mi.2.1 pc = .ok (.isub, 1)) (k : V G mi ad Q d (pc + 1) ls (.int (x - y) :: st) σ) : V G mi ad Q d pc ls (.int y :: .int x :: st) σ := by
  intro p l e s m args below meth c H locs A D cI cZ la O L P Dd S hA
  exact lv_isub O.1 O.2.1 hd (k p l e s m args below meth c H locs A D cI cZ la O L P Dd S hA)
theorem V.imul {x y : Int32} (hd : decode mi.2.1 pc = .ok (.imul, 1)) (k : V G mi ad Q d (pc + 1) ls (.int (x * y) :: st) σ) : V G mi ad Q d pc ls (.int y :: .int x :: st) σ := by
  intro p l e s m args below meth c H locs A D cI cZ la O L P Dd S hA
  exact lv_imul O.1 O.2.1 hd (k p l e s m args below meth c H locs A D cI cZ la O L P Dd S hA)
theorem V.iand {x y : Int32} (hd : decode mi.2.1 pc = .ok (.iand, 1)) (k : V G mi ad Q d (pc + 1) ls (.int (x &&& y) :: st) σ) : V G mi ad Q d pc ls (.int y :: .int x :: st) σ := by
  intro p l e s m args below meth c H locs A D cI cZ la O L P Dd S hA
  exact lv_iand O.1 O.2.1 hd (k p l e s m args below meth c H locs A D cI cZ la O L P Dd S hA)
theorem V.ior {x y : Int32} (hd : decode mi.2.1 pc = .ok (.ior, 1)) (k : V G mi ad Q d (pc + 1) ls (.int (x ||| y) :: st) σ) : V G mi ad Q d pc ls (.int y :: .int x :: st) σ := by
  intro p l e s m args below meth c H locs A D cI cZ la O L P Dd S hA
  exact lv_ior O.1 O.2.1 hd (k p l e s m args below meth c H locs A D cI cZ la O L P Dd S hA)
theorem V.ixor {x y : Int32} (hd : decode mi.2.1 pc = .ok (.ixor, 1)) (k : V G mi ad Q d (pc + 1) ls (.int (x ^^^ y) :: st) σ) : V G mi ad Q d pc ls (.int y :: .int x :: st) σ := by
  intro p l e s m args below meth c H locs A D cI cZ la O L P Dd S hA
  exact lv_ixor O.1 O.2.1 hd (k p l e s m args below meth c H locs A D cI cZ la O L P Dd S hA)
theorem V.ishl {x y : Int32} (hd : decode mi.2.1 pc = .ok (.ishl, 1)) (k : V G mi ad Q d (pc + 1) ls (.int (x <<< (y &&& 31)) :: st) σ) : V G mi ad Q d pc ls (.int y :: .int x :: st) σ := by
  intro p l e s m args below meth c H locs A D cI cZ la O L P Dd S hA
  exact lv_ishl O.1 O.2.1 hd (k p l e s m args below meth c H locs A D cI cZ la O L P Dd S hA)
theorem V.ishr {x y : Int32} (hd : decode mi.2.1 pc = .ok (.ishr, 1)) (k : V G mi ad Q d (pc + 1) ls (.int (x >>> (y &&& 31)) :: st) σ) : V G mi ad Q d pc ls (.int y :: .int x :: st) σ := by
  intro p l e s m args below meth c H locs A D cI cZ la O L P Dd S hA
  exact lv_ishr O.1 O.2.1 hd (k p l e s m args below meth c H locs A D cI cZ la O L P Dd S hA)
theorem V.ladd {x y : Int64} (hd : decode mi.2.1 pc = .ok (.ladd, 1)) (k : V G mi ad Q d (pc + 1) ls (.long (x + y) :: st) σ) : V G mi ad Q d pc ls (.long y :: .long x :: st) σ := by
  intro p l e s m args below meth c H locs A D cI cZ la O L P Dd S hA
  exact lv_ladd O.1 O.2.1 hd (k p l e s m args below meth c H locs A D cI cZ la O L P Dd S hA)
theorem V.lsub {x y : Int64} (hd : decode mi.2.1 pc = .ok (.lsub, 1)) (k : V G mi ad Q d (pc + 1) ls (.long (x - y) :: st) σ) : V G mi ad Q d pc ls (.long y :: .long x :: st) σ := by
  intro p l e s m args below meth c H locs A D cI cZ la O L P Dd S hA
  exact lv_lsub O.1 O.2.1 hd (k p l e s m args below meth c H locs A D cI cZ la O L P Dd S hA)
theorem V.lmul {x y : Int64} (hd : decode mi.2.1 pc = .ok (.lmul, 1)) (k : V G mi ad Q d (pc + 1) ls (.long (x * y) :: st) σ) : V G mi ad Q d pc ls (.long y :: .long x :: st) σ := by
  intro p l e s m args below meth c H locs A D cI cZ la O L P Dd S hA
  exact lv_lmul O.1 O.2.1 hd (k p l e s m args below meth c H locs A D cI cZ la O L P Dd S hA)
theorem V.land {x y : Int64} (hd : decode mi.2.1 pc = .ok (.land, 1)) (k : V G mi ad Q d (pc + 1) ls (.long (x &&& y) :: st) σ) : V G mi ad Q d pc ls (.long y :: .long x :: st) σ := by
  intro p l e s m args below meth c H locs A D cI cZ la O L P Dd S hA
  exact lv_land O.1 O.2.1 hd (k p l e s m args below meth c H locs A D cI cZ la O L P Dd S hA)
theorem V.lor {x y : Int64} (hd : decode mi.2.1 pc = .ok (.lor, 1)) (k : V G mi ad Q d (pc + 1) ls (.long (x ||| y) :: st) σ) : V G mi ad Q d pc ls (.long y :: .long x :: st) σ := by
  intro p l e s m args below meth c H locs A D cI cZ la O L P Dd S hA
  exact lv_lor O.1 O.2.1 hd (k p l e s m args below meth c H locs A D cI cZ la O L P Dd S hA)
theorem V.idiv {x y : Int32} (hne : ¬ y = 0) (hd : decode mi.2.1 pc = .ok (.idiv, 1)) (k : V G mi ad Q d (pc + 1) ls (.int (x / y) :: st) σ) : V G mi ad Q d pc ls (.int y :: .int x :: st) σ := by
  intro p l e s m args below meth c H locs A D cI cZ la O L P Dd S hA
  exact lv_idiv O.1 O.2.1 hd hne (k p l e s m args below meth c H locs A D cI cZ la O L P Dd S hA)
theorem V.irem {x y : Int32} (hne : ¬ y = 0) (hd : decode mi.2.1 pc = .ok (.irem, 1)) (k : V G mi ad Q d (pc + 1) ls (.int (x - x / y * y) :: st) σ) : V G mi ad Q d pc ls (.int y :: .int x :: st) σ := by
  intro p l e s m args below meth c H locs A D cI cZ la O L P Dd S hA
  exact lv_irem O.1 O.2.1 hd hne (k p l e s m args below meth c H locs A D cI cZ la O L P Dd S hA)
theorem V.ldiv {x y : Int64} (hne : ¬ y = 0) (hd : decode mi.2.1 pc = .ok (.ldiv, 1)) (k : V G mi ad Q d (pc + 1) ls (.long (x / y) :: st) σ) : V G mi ad Q d pc ls (.long y :: .long x :: st) σ := by
  intro p l e s m args below meth c H locs A D cI cZ la O L P Dd S hA
  exact lv_ldiv O.1 O.2.1 hd hne (k p l e s m args below meth c H locs A D cI cZ la O L P Dd S hA)
theorem V.lrem {x y : Int64} (hne : ¬ y = 0) (hd : decode mi.2.1 pc = .ok (.lrem, 1)) (k : V G mi ad Q d (pc + 1) ls (.long (x - x / y * y) :: st) σ) : V G mi ad Q d pc ls (.long y :: .long x :: st) σ := by
  intro p l e s m args below meth c H locs A D cI cZ la O L P Dd S hA
  exact lv_lrem O.1 O.2.1 hd hne (k p l e s m args below meth c H locs A D cI cZ la O L P Dd S hA)
theorem V.ineg {x : Int32} (hd : decode mi.2.1 pc = .ok (.ineg, 1)) (k : V G mi ad Q d (pc + 1) ls (.int (-x) :: st) σ) : V G mi ad Q d pc ls (.int x :: st) σ := by
  intro p l e s m args below meth c H locs A D cI cZ la O L P Dd S hA
  exact lv_ineg O.1 O.2.1 hd (k p l e s m args below meth c H locs A D cI cZ la O L P Dd S hA)
theorem V.i2l {x : Int32} (hd : decode mi.2.1 pc = .ok (.i2l, 1)) (k : V G mi ad Q d (pc + 1) ls (.long x.toInt64 :: st) σ) : V G mi ad Q d pc ls (.int x :: st) σ := by
  intro p l e s m args below meth c H locs A D cI cZ la O L P Dd S hA
  exact lv_i2l O.1 O.2.1 hd rfl (k p l e s m args below meth c H locs A D cI cZ la O L P Dd S hA)
theorem V.i2b {x : Int32} (hd : decode mi.2.1 pc = .ok (.i2b, 1)) (k : V G mi ad Q d (pc + 1) ls (.int x.toInt8.toInt32 :: st) σ) : V G mi ad Q d pc ls (.int x :: st) σ := by
  intro p l e s m args below meth c H locs A D cI cZ la O L P Dd S hA
  exact lv_i2b O.1 O.2.1 hd rfl (k p l e s m args below meth c H locs A D cI cZ la O L P Dd S hA)
theorem V.i2s {x : Int32} (hd : decode mi.2.1 pc = .ok (.i2s, 1)) (k : V G mi ad Q d (pc + 1) ls (.int x.toInt16.toInt32 :: st) σ) : V G mi ad Q d pc ls (.int x :: st) σ := by
  intro p l e s m args below meth c H locs A D cI cZ la O L P Dd S hA
  exact lv_i2s O.1 O.2.1 hd rfl (k p l e s m args below meth c H locs A D cI cZ la O L P Dd S hA)
theorem V.iushr {x y : Int32} (hd : decode mi.2.1 pc = .ok (.iushr, 1)) (k : V G mi ad Q d (pc + 1) ls (.int (x.toUInt32 >>> (y.toUInt32 &&& Int32.toUInt32 31)).toInt32 :: st) σ) : V G mi ad Q d pc ls (.int y :: .int x :: st) σ := by
  intro p l e s m args below meth c H locs A D cI cZ la O L P Dd S hA
  exact lv_iushr O.1 O.2.1 hd rfl (k p l e s m args below meth c H locs A D cI cZ la O L P Dd S hA)
theorem V.lshl {x : Int64} {y : Int32} (hd : decode mi.2.1 pc = .ok (.lshl, 1)) (k : V G mi ad Q d (pc + 1) ls (.long (x <<< (y.toInt64 &&& 63)) :: st) σ) : V G mi ad Q d pc ls (.int y :: .long x :: st) σ := by
  intro p l e s m args below meth c H locs A D cI cZ la O L P Dd S hA
  exact lv_lshl O.1 O.2.1 hd rfl (k p l e s m args below meth c H locs A D cI cZ la O L P Dd S hA)
theorem V.lshr {x : Int64} {y : Int32} (hd : decode mi.2.1 pc = .ok (.lshr, 1)) (k : V G mi ad Q d (pc + 1) ls (.long (x >>> (y.toInt64 &&& 63)) :: st) σ) : V G mi ad Q d pc ls (.int y :: .long x :: st) σ := by
  intro p l e s m args below meth c H locs A D cI cZ la O L P Dd S hA
  exact lv_lshr O.1 O.2.1 hd rfl (k p l e s m args below meth c H locs A D cI cZ la O L P Dd S hA)
theorem V.lcmp {x y : Int64} (hd : decode mi.2.1 pc = .ok (.lcmp, 1)) (k : V G mi ad Q d (pc + 1) ls (.int (lg_cmp x y) :: st) σ) : V G mi ad Q d pc ls (.long y :: .long x :: st) σ := by
  intro p l e s m args below meth c H locs A D cI cZ la O L P Dd S hA
  exact W.lcmp O.1 O.2.1 hd (k p l e s m args below meth c H locs A D cI cZ la O L P Dd S hA)
theorem V.dup {x : Value} (h1 : x.category = 1) (hd : decode mi.2.1 pc = .ok (.dup, 1)) (k : V G mi ad Q d (pc + 1) ls (x :: x :: st) σ) : V G mi ad Q d pc ls (x :: st) σ := by
  intro p l e s m args below meth c H locs A D cI cZ la O L P Dd S hA
  exact lv_dup O.1 O.2.1 hd h1 (k p l e s m args below meth c H locs A D cI cZ la O L P Dd S hA)
theorem V.pop {x : Value} (h1 : x.category = 1) (hd : decode mi.2.1 pc = .ok (.pop, 1)) (k : V G mi ad Q d (pc + 1) ls (st) σ) : V G mi ad Q d pc ls (x :: st) σ := by
  intro p l e s m args below meth c H locs A D cI cZ la O L P Dd S hA
  exact lv_pop O.1 O.2.1 hd h1 (k p l e s m args below meth c H locs A D cI cZ la O L P Dd S hA)
theorem V.dup2 {x y : Value} (h1 : x.category = 1) (h2 : y.category = 1) (hd : decode mi.2.1 pc = .ok (.dup2, 1)) (k : V G mi ad Q d (pc + 1) ls (x :: y :: x :: y :: st) σ) : V G mi ad Q d pc ls (x :: y :: st) σ := by
  intro p l e s m args below meth c H locs A D cI cZ la O L P Dd S hA
  exact lv_dup2_11 O.1 O.2.1 hd h1 h2 (k p l e s m args below meth c H locs A D cI cZ la O L P Dd S hA)
theorem V.if_eq {x : Int32} {off : Int} {tgt : Nat} (hd : decode mi.2.1 pc = .ok (.ifCond .eq off, 3)) (ht : (pc : Int) + off = (tgt : Int)) (kt : x = 0 → V G mi ad Q d tgt ls st σ) (kf : ¬ x = 0 → V G mi ad Q d (pc + 3) ls st σ) : V G mi ad Q d pc ls (.int x :: st) σ := by
  intro p l e s m args below meth c H locs A D cI cZ la O L P Dd S hA
  exact lv_if_eq O.1 O.2.1 hd ht (fun h => kt h p l e s m args below meth c H locs A D cI cZ la O L P Dd S hA) (fun h => kf h p l e s m args below meth c H locs A D cI cZ la O L P Dd S hA)
theorem V.icmp_eq {x y : Int32} {off : Int} {tgt : Nat} (hd : decode mi.2.1 pc = .ok (.if_icmp .eq off, 3)) (ht : (pc : Int) + off = (tgt : Int)) (kt : x = y → V G mi ad Q d tgt ls st σ) (kf : ¬ x = y → V G mi ad Q d (pc + 3) ls st σ) : V G mi ad Q d pc ls (.int y :: .int x :: st) σ := by
  intro p l e s m args below meth c H locs A D cI cZ la O L P Dd S hA
  exact lv_icmp_eq O.1 O.2.1 hd ht (fun h => kt h p l e s m args below meth c H locs A D cI cZ la O L P Dd S hA) (fun h => kf h p l e s m args below meth c H locs A D cI cZ la O L P Dd S hA)
theorem V.if_ne {x : Int32} {off : Int} {tgt : Nat} (hd : decode mi.2.1 pc = .ok (.ifCond .ne off, 3)) (ht : (pc : Int) + off = (tgt : Int)) (kt : ¬ x = 0 → V G mi ad Q d tgt ls st σ) (kf : x = 0 → V G mi ad Q d (pc + 3) ls st σ) : V G mi ad Q d pc ls (.int x :: st) σ := by
  intro p l e s m args below meth c H locs A D cI cZ la O L P Dd S hA
  exact lv_if_ne O.1 O.2.1 hd ht (fun h => kt h p l e s m args below meth c H locs A D cI cZ la O L P Dd S hA) (fun h => kf h p l e s m args below meth c H locs A D cI cZ la O L P Dd S hA)
theorem V.icmp_ne {x y : Int32} {off : Int} {tgt : Nat} (hd : decode mi.2.1 pc = .ok (.if_icmp .ne off, 3)) (ht : (pc : Int) + off = (tgt : Int)) (kt : ¬ x = y → V G mi ad Q d tgt ls st σ) (kf : x = y → V G mi ad Q d (pc + 3) ls st σ) : V G mi ad Q d pc ls (.int y :: .int x :: st) σ := by
  intro p l e s m args below meth c H locs A D cI cZ la O L P Dd S hA
  exact lv_icmp_ne O.1 O.2.1 hd ht (fun h => kt h p l e s m args below meth c H locs A D cI cZ la O L P Dd S hA) (fun h => kf h p l e s m args below meth c H locs A D cI cZ la O L P Dd S hA)
theorem V.if_lt {x : Int32} {off : Int} {tgt : Nat} (hd : decode mi.2.1 pc = .ok (.ifCond .lt off, 3)) (ht : (pc : Int) + off = (tgt : Int)) (kt : x < 0 → V G mi ad Q d tgt ls st σ) (kf : ¬ x < 0 → V G mi ad Q d (pc + 3) ls st σ) : V G mi ad Q d pc ls (.int x :: st) σ := by
  intro p l e s m args below meth c H locs A D cI cZ la O L P Dd S hA
  exact lv_if_lt O.1 O.2.1 hd ht (fun h => kt h p l e s m args below meth c H locs A D cI cZ la O L P Dd S hA) (fun h => kf h p l e s m args below meth c H locs A D cI cZ la O L P Dd S hA)
theorem V.icmp_lt {x y : Int32} {off : Int} {tgt : Nat} (hd : decode mi.2.1 pc = .ok (.if_icmp .lt off, 3)) (ht : (pc : Int) + off = (tgt : Int)) (kt : x < y → V G mi ad Q d tgt ls st σ) (kf : ¬ x < y → V G mi ad Q d (pc + 3) ls st σ) : V G mi ad Q d pc ls (.int y :: .int x :: st) σ := by
  intro p l e s m args below meth c H locs A D cI cZ la O L P Dd S hA
  exact lv_icmp_lt O.1 O.2.1 hd ht (fun h => kt h p l e s m args below meth c H locs A D cI cZ la O L P Dd S hA) (fun h => kf h p l e s m args below meth c H locs A D cI cZ la O L P Dd S hA)
theorem V.if_ge {x : Int32} {off : Int} {tgt : Nat} (hd : decode mi.2.1 pc = .ok (.ifCond .ge off, 3)) (ht : (pc : Int) + off = (tgt : Int)) (kt : 0 ≤ x → V G mi ad Q d tgt ls st σ) (kf : ¬ 0 ≤ x → V G mi ad Q d (pc + 3) ls st σ) : V G mi ad Q d pc ls (.int x :: st) σ := by
  intro p l e s m args below meth c H locs A D cI cZ la O L P Dd S hA
  exact lv_if_ge O.1 O.2.1 hd ht (fun h => kt h p l e s m args below meth c H locs A D cI cZ la O L P Dd S hA) (fun h => kf h p l e s m args below meth c H locs A D cI cZ la O L P Dd S hA)
theorem V.icmp_ge {x y : Int32} {off : Int} {tgt : Nat} (hd : decode mi.2.1 pc = .ok (.if_icmp .ge off, 3)) (ht : (pc : Int) + off = (tgt : Int)) (kt : y ≤ x → V G mi ad Q d tgt ls st σ) (kf : ¬ y ≤ x → V G mi ad Q d (pc + 3) ls st σ) : V G mi ad Q d pc ls (.int y :: .int x :: st) σ := by
  intro p l e s m args below meth c H locs A D cI cZ la O L P Dd S hA
  exact lv_icmp_ge O.1 O.2.1 hd ht (fun h => kt h p l e s m args below meth c H locs A D cI cZ la O L P Dd S hA) (fun h => kf h p l e s m args below meth c H locs A D cI cZ la O L P Dd S hA)
theorem V.if_gt {x : Int32} {off : Int} {tgt : Nat} (hd : decode mi.2.1 pc = .ok (.ifCond .gt off, 3)) (ht : (pc : Int) + off = (tgt : Int)) (kt : 0 < x → V G mi ad Q d tgt ls st σ) (kf : ¬ 0 < x → V G mi ad Q d (pc + 3) ls st σ) : V G mi ad Q d pc ls (.int x :: st) σ := by
  intro p l e s m args below meth c H locs A D cI cZ la O L P Dd S hA
  exact lv_if_gt O.1 O.2.1 hd ht (fun h => kt h p l e s m args below meth c H locs A D cI cZ la O L P Dd S hA) (fun h => kf h p l e s m args below meth c H locs A D cI cZ la O L P Dd S hA)
theorem V.icmp_gt {x y : Int32} {off : Int} {tgt : Nat} (hd : decode mi.2.1 pc = .ok (.if_icmp .gt off, 3)) (ht : (pc : Int) + off = (tgt : Int)) (kt : y < x → V G mi ad Q d tgt ls st σ) (kf : ¬ y < x → V G mi ad Q d (pc + 3) ls st σ) : V G mi ad Q d pc ls (.int y :: .int x :: st) σ := by
  intro p l e s m args below meth c H locs A D cI cZ la O L P Dd S hA
  exact lv_icmp_gt O.1 O.2.1 hd ht (fun h => kt h p l e s m args below meth c H locs A D cI cZ la O L P Dd S hA) (fun h => kf h p l e s m args below meth c H locs A D cI cZ la O L P Dd S hA)
theorem V.if_le {x : Int32} {off : Int} {tgt : Nat} (hd : decode mi.2.1 pc = .ok (.ifCond .le off, 3)) (ht : (pc : Int) + off = (tgt : Int)) (kt : x ≤ 0 → V G mi ad Q d tgt ls st σ) (kf : ¬ x ≤ 0 → V G mi ad Q d (pc + 3) ls st σ) : V G mi ad Q d pc ls (.int x :: st) σ := by
  intro p l e s m args below meth c H locs A D cI cZ la O L P Dd S hA
  exact lv_if_le O.1 O.2.1 hd ht (fun h => kt h p l e s m args below meth c H locs A D cI cZ la O L P Dd S hA) (fun h => kf h p l e s m args below meth c H locs A D cI cZ la O L P Dd S hA)
theorem V.icmp_le {x y : Int32} {off : Int} {tgt : Nat} (hd : decode mi.2.1 pc = .ok (.if_icmp .le off, 3)) (ht : (pc : Int) + off = (tgt : Int)) (kt : x ≤ y → V G mi ad Q d tgt ls st σ) (kf : ¬ x ≤ y → V G mi ad Q d (pc + 3) ls st σ) : V G mi ad Q d pc ls (.int y :: .int x :: st) σ := by
  intro p l e s m args below meth c H locs A D cI cZ la O L P Dd S hA
  exact lv_icmp_le O.1 O.2.1 hd ht (fun h => kt h p l e s m args below meth c H locs A D cI cZ la O L P Dd S hA) (fun h => kf h p l e s m args below meth c H locs A D cI cZ la O L P Dd S hA)
theorem V.goto {off : Int} {tgt : Nat} (hd : decode mi.2.1 pc = .ok (.goto off, 3)) (ht : (pc : Int) + off = (tgt : Int)) (k : V G mi ad Q d tgt ls st σ) : V G mi ad Q d pc ls st σ := by
  intro p l e s m args below meth c H locs A D cI cZ la O L P Dd S hA
  exact lv_goto O.1 O.2.1 hd ht (k p l e s m args below meth c H locs A D cI cZ la O L P Dd S hA)
theorem V.lookup {dflt : Int} {ps : Array (Int × Int)} {len : Nat} {x : Int32} {off : Int} {tgt : Nat} (hd : decode mi.2.1 pc = .ok (.lookupswitch dflt ps, len)) (hp : (ps.toList.zip (ps.toList.drop 1)).all (fun (a, next) => a.1 < next.1) = true) (ho : Op.lookupswitch.offset ps.toList dflt x.toInt = off) (ht : (pc : Int) + off = (tgt : Int)) (k : V G mi ad Q d tgt ls st σ) : V G mi ad Q d pc ls (.int x :: st) σ := by
  intro p l e s m args below meth c H locs A D cI cZ la O L P Dd S hA
  exact lv_lookup O.1 O.2.1 hd hp ho ht (k p l e s m args below meth c H locs A D cI cZ la O L P Dd S hA)
theorem V.tableOut {dflt lo hi : Int} {offs : Array Int} {len : Nat} {x : Int32} {tgt : Nat} (hd : decode mi.2.1 pc = .ok (.tableswitch dflt lo hi offs, len)) (h : x.toInt < lo ∨ hi < x.toInt) (ht : (pc : Int) + dflt = (tgt : Int)) (k : V G mi ad Q d tgt ls st σ) : V G mi ad Q d pc ls (.int x :: st) σ := by
  intro p l e s m args below meth c H locs A D cI cZ la O L P Dd S hA
  exact lv_tableOut O.1 O.2.1 hd h ht (k p l e s m args below meth c H locs A D cI cZ la O L P Dd S hA)
theorem V.tableIn {dflt lo hi : Int} {offs : Array Int} {len : Nat} {x : Int32} {off : Int} {tgt : Nat} (hd : decode mi.2.1 pc = .ok (.tableswitch dflt lo hi offs, len)) (h1 : ¬ x.toInt < lo) (h2 : ¬ hi < x.toInt) (ho : offs[(x.toInt - lo).toNat]? = some off) (ht : (pc : Int) + off = (tgt : Int)) (k : V G mi ad Q d tgt ls st σ) : V G mi ad Q d pc ls (.int x :: st) σ := by
  intro p l e s m args below meth c H locs A D cI cZ la O L P Dd S hA
  exact lv_tableIn O.1 O.2.1 hd h1 h2 ho ht (k p l e s m args below meth c H locs A D cI cZ la O L P Dd S hA)
theorem V.iret {x : Int32} (hd : decode mi.2.1 pc = .ok (.ireturn, 1)) (hr : mi.2.2.2 = some .int) (hq : Q (some (.int x)) σ) : V G mi ad Q d pc ls [.int x] σ := by
  intro p l e s m args below meth c H locs A D cI cZ la O L P Dd S hA
  exact W.iret O.1 O.2.1 (O.2.2.2.1.trans hr) (fun t ht _ => ⟨_, σ, rfl, hq, by rw [ht]; exact P, S.F ht⟩) S.2.2 hd (hlocks := O.2.2.2.2.1.1)
theorem V.lret {x : Int64} (hd : decode mi.2.1 pc = .ok (.lreturn, 1)) (hr : mi.2.2.2 = some .long) (hq : Q (some (.long x)) σ) : V G mi ad Q d pc ls [.long x] σ := by
  intro p l e s m args below meth c H locs A D cI cZ la O L P Dd S hA
  exact W.lret O.1 O.2.1 (O.2.2.2.1.trans hr) (fun t ht _ => ⟨_, σ, rfl, hq, by rw [ht]; exact P, S.F ht⟩) S.2.2 hd (hlocks := O.2.2.2.2.1.1)
theorem V.vret (hd : decode mi.2.1 pc = .ok (.return_, 1)) (hr : mi.2.2.2 = none) (hq : Q (none) σ) : V G mi ad Q d pc ls [] σ := by
  intro p l e s m args below meth c H locs A D cI cZ la O L P Dd S hA
  exact W.vret O.1 O.2.1 (O.2.2.2.1.trans hr) (fun t ht _ => ⟨_, σ, rfl, hq, by rw [ht]; exact P, S.F ht⟩) S.2.2 hd (hlocks := O.2.2.2.2.1.1)
theorem vNarZ {x : Int32} (h : x = 0 ∨ x = 1) : narrow .boolean (.int x) = .int x := by rcases h with rfl | rfl <;> rfl
theorem V.zret {x : Int32} (hd : decode mi.2.1 pc = .ok (.ireturn, 1)) (hr : mi.2.2.2 = some .boolean) (hz : x = 0 ∨ x = 1) (hq : Q (some (.int x)) σ) : V G mi ad Q d pc ls [.int x] σ := by
  intro p l e s m args below meth c H locs A D cI cZ la O L P Dd S hA
  exact W.zret O.1 O.2.1 (O.2.2.2.1.trans hr) (vNarZ hz) (fun t ht _ => ⟨_, σ, rfl, hq, by rw [ht]; exact P, S.F ht⟩) S.2.2 hd (hlocks := O.2.2.2.2.1.1)
theorem V.aret {a : Nat} {n : String} (hd : decode mi.2.1 pc = .ok (.areturn, 1)) (hr : mi.2.2.2 = some (.object n)) (hq : Q (some (.ref a)) σ) : V G mi ad Q d pc ls [.ref a] σ := by
  intro p l e s m args below meth c H locs A D cI cZ la O L P Dd S hA
  exact W.aret O.1 O.2.1 (O.2.2.2.1.trans hr) (Or.inl ⟨n, rfl⟩) (Or.inr ⟨a, rfl⟩) (fun t ht _ => ⟨_, σ, rfl, hq, by rw [ht]; exact P, S.F ht⟩) S.2.2 hd (hlocks := O.2.2.2.2.1.1)
theorem vCl {ci k : Nat} (hk : ci < 9) : ∃ (C : String) (T : u_T), classes[ci]? = some (C, T, vN ci) := by
  match ci, hk with
  | 0, _ => exact ⟨_, _, rfl⟩
  | 1, _ => exact ⟨_, _, rfl⟩
  | 2, _ => exact ⟨_, _, rfl⟩
  | 3, _ => exact ⟨_, _, rfl⟩
  | 4, _ => exact ⟨_, _, rfl⟩
  | 5, _ => exact ⟨_, _, rfl⟩
  | 6, _ => exact ⟨_, _, rfl⟩
  | 7, _ => exact ⟨_, _, rfl⟩
  | 8, _ => exact ⟨_, _, rfl⟩
theorem vCell_obj {cI cZ : ClassId} {G : vCfg} {n ci z : Nat} (hg : G.2.1 n = (ci + 2, z)) : vCell cI cZ ad G σ n = .inr (ci, (List.range (vN ci)).map (fun j => vFld ad G σ n j (vTy ci j))) := by
  unfold vCell
  rw [hg]
theorem V.get {n ci k idx z : Nat} {v : Value} (hd : decode mi.2.1 pc = .ok (.getfield idx, 3)) (hf : vFL mi.1.cls idx ci k) (hn : n < G.1) (hg : G.2.1 n = (ci + 2, z)) (hc9 : ci < 9) (hv : vFld ad G σ n k (vTy ci k) = v) (kk : V G mi ad Q d (pc + 3) ls (v :: st) σ) : V G mi ad Q d pc ls (.ref (ad n) :: st) σ := by
  intro p l e s m args below meth c H locs A D cI cZ la O L P Dd S hA
  obtain ⟨C, T, hc⟩ := vCl (ci := ci) (k := k) hc9
  obtain ⟨hk, hl⟩ := hf C T _ hc
  have hw : (vW cI cZ ad G σ)[n]? = some (ad n, .inr (ci, (List.range (vN ci)).map (fun j => vFld ad G σ n j (vTy ci j)))) := by rw [vW_get _ _ _ _ _ hn, vCell_obj hg]
  have hfs : ((List.range (vN ci)).map (fun j => vFld ad G σ n j (vTy ci j)))[k]? = some v := by simp [hk, hv]
  rcases hl with hl | ⟨host, hl⟩
  · exact va_get O.1 O.2.1 O.2.2.2.2.2.2.1 (vIn hc) O.2.2.2.2.2.1 O.2.2.2.2.2.2.2 P n hw hc k hk (O.2.2.2.2.2.2.1 _ hl) (fun _ h => h) hfs hd (kk p l e s m args below meth c H locs A D cI cZ la O L P Dd S hA)
  · exact va_getN O.1 O.2.1 O.2.2.2.2.2.2.1 (vIn hc) O.2.2.2.2.2.1 O.2.2.2.2.2.2.2 P n hw hc k hk (va_Nw.use rfl (hl s O.2.2.2.2.1.2)) (fun _ h => h) hfs hd (kk p l e s m args below meth c H locs A D cI cZ la O L P Dd S hA)
theorem V.put {n ci k idx z : Nat} {v : Value} {τ : vMem} (hd : decode mi.2.1 pc = .ok (.putfield idx, 3)) (hf : vFP mi.1.cls idx ci k) (hn : n < G.1) (hg : G.2.1 n = (ci + 2, z)) (hc9 : ci < 9) (hnar : narrow (vTy ci k) v = v) (hfit : fits (vTy ci k) v = true) (hv : vFld ad G τ n k (vTy ci k) = v)
    (hne : ∀ a, a ≠ n → τ.1 a = σ.1 a) (hneL : ∀ a, a ≠ n → τ.2 a = σ.2 a) (hq : ∀ j, j ≠ k → τ.1 n j = σ.1 n j) (hqL : ∀ j, j ≠ k → τ.2 n j = σ.2 n j) (kk : V G mi ad Q d (pc + 3) ls st τ) : V G mi ad Q d pc ls (v :: .ref (ad n) :: st) σ := by
  intro p l e s m args below meth c H locs A D cI cZ la O L P Dd S hA
  obtain ⟨C, T, hc⟩ := vCl (ci := ci) (k := k) hc9
  obtain ⟨hk, hfin, hl⟩ := hf C T _ hc
  have hw : (vW cI cZ ad G σ)[n]? = some (ad n, .inr (ci, (List.range (vN ci)).map (fun j => vFld ad G σ n j (vTy ci j)))) := by rw [vW_get _ _ _ _ _ hn, vCell_obj hg]
  refine va_put O.1 O.2.1 O.2.2.2.2.2.2.1 (vIn hc) (vTy ci) (vTy_ok hc) (vNm hc) O.2.2.2.2.2.1 O.2.2.2.2.2.2.2 P Dd S n hw hc k hk (O.2.2.2.2.2.2.1 _ hl) (fun _ h => h) hfin (vTy_ok hc k hk) hnar hfit (by simpa using hk) hd (fun H1 locs1 hP hD hS => ?_)
  rw [vW_obj cI cZ ad G hn hg hk hv hne hneL hq hqL] at hP hD
  exact kk p l e s m args below meth c H1 locs1 A D cI cZ la O L hP hD hS hA
theorem upd_ne {f : Nat → Int32} {k j : Nat} {x : Int32} (h : j ≠ k) : upd f k x j = f j := by simp [upd, h]
theorem upd_eq {f : Nat → Int32} {k : Nat} {x : Int32} : upd f k x k = x := by simp [upd]
theorem V.putI {n ci k idx z : Nat} {x : Int32} (hd : decode mi.2.1 pc = .ok (.putfield idx, 3)) (hf : vFP mi.1.cls idx ci k) (hn : n < G.1) (hg : G.2.1 n = (ci + 2, z)) (hc9 : ci < 9) (ht : vTy ci k = .int) (kk : V G mi ad Q d (pc + 3) ls st (vup σ n k x)) : V G mi ad Q d pc ls (.int x :: .ref (ad n) :: st) σ :=
  V.put hd hf hn hg hc9 (by rw [ht]; rfl) (by rw [ht]; rfl) (by rw [ht]; show Value.int _ = _; rw [vup_eq, upd_eq]) (fun a h => vup_ne σ x h) (fun _ _ => rfl) (fun j h => by rw [vup_eq, upd_ne h]) (fun _ _ => rfl) kk
theorem V.putZ {n ci k idx z : Nat} {x : Int32} (hd : decode mi.2.1 pc = .ok (.putfield idx, 3)) (hf : vFP mi.1.cls idx ci k) (hn : n < G.1) (hg : G.2.1 n = (ci + 2, z)) (hc9 : ci < 9) (ht : vTy ci k = .boolean) (hx : x = 0 ∨ x = 1) (kk : V G mi ad Q d (pc + 3) ls st (vup σ n k x)) : V G mi ad Q d pc ls (.int x :: .ref (ad n) :: st) σ :=
  V.put hd hf hn hg hc9 (by rw [ht]; exact vNarZ hx) (by rw [ht]; rcases hx with rfl | rfl <;> rfl) (by rw [ht]; show Value.int _ = _; rw [vup_eq, upd_eq]) (fun a h => vup_ne σ x h) (fun _ _ => rfl) (fun j h => by rw [vup_eq, upd_ne h]) (fun _ _ => rfl) kk
theorem V.putL {n ci k idx z : Nat} {x : Int64} (hd : decode mi.2.1 pc = .ok (.putfield idx, 3)) (hf : vFP mi.1.cls idx ci k) (hn : n < G.1) (hg : G.2.1 n = (ci + 2, z)) (hc9 : ci < 9) (ht : vTy ci k = .long) (kk : V G mi ad Q d (pc + 3) ls st (vupL σ n k x)) : V G mi ad Q d pc ls (.long x :: .ref (ad n) :: st) σ :=
  V.put (τ := vupL σ n k x) hd hf hn hg hc9 (by rw [ht]; rfl) (by rw [ht]; rfl) (by rw [ht]; show Value.long _ = _; simp [vupL]) (fun _ _ => rfl) (fun a h => vupL_ne σ x h) (fun _ _ => rfl) (fun j h => by simp [vupL, h]) kk
theorem vCell_int {cI cZ : ClassId} {G : vCfg} {n len : Nat} (hg : G.2.1 n = (0, len)) : vCell cI cZ ad G σ n = .inl (cI, len, .inl (σ.1 n)) := by
  unfold vCell
  rw [hg]
theorem vCell_boo {cI cZ : ClassId} {G : vCfg} {n len : Nat} (hg : G.2.1 n = (1, len)) : vCell cI cZ ad G σ n = .inl (cZ, len, .inl (σ.1 n)) := by
  unfold vCell
  rw [hg]
theorem V.iald {n len : Nat} {i : Int32} (hd : decode mi.2.1 pc = .ok (.iaload, 1)) (hn : n < G.1) (hg : G.2.1 n = (0, len)) (hi : vp_in i len) (kk : V G mi ad Q d (pc + 1) ls (.int (σ.1 n i.toNatClampNeg) :: st) σ) : V G mi ad Q d pc ls (.int i :: .ref (ad n) :: st) σ := by
  intro p l e s m args below meth c H locs A D cI cZ la O L P Dd S hA
  exact va_iald O.1 O.2.1 O.2.2.2.2.2.2.2 P n 0 (by rw [vW_get _ _ _ _ _ hn, vCell_int hg]) rfl hi hd (kk p l e s m args below meth c H locs A D cI cZ la O L P Dd S hA)
theorem V.zald {n len : Nat} {i : Int32} (hd : decode mi.2.1 pc = .ok (.baload, 1)) (hn : n < G.1) (hg : G.2.1 n = (1, len)) (hi : vp_in i len) (kk : V G mi ad Q d (pc + 1) ls (.int (σ.1 n i.toNatClampNeg) :: st) σ) : V G mi ad Q d pc ls (.int i :: .ref (ad n) :: st) σ := by
  intro p l e s m args below meth c H locs A D cI cZ la O L P Dd S hA
  exact va_zald O.1 O.2.1 O.2.2.2.2.2.2.2 P n 1 (by rw [vW_get _ _ _ _ _ hn, vCell_boo hg]) rfl hi hd (kk p l e s m args below meth c H locs A D cI cZ la O L P Dd S hA)
theorem V.iast {n len : Nat} {i x : Int32} (hd : decode mi.2.1 pc = .ok (.iastore, 1)) (hn : n < G.1) (hg : G.2.1 n = (0, len)) (hi : vp_in i len) (kk : V G mi ad Q d (pc + 1) ls st (vup σ n i.toNatClampNeg x)) : V G mi ad Q d pc ls (.int x :: .int i :: .ref (ad n) :: st) σ := by
  intro p l e s m args below meth c H locs A D cI cZ la O L P Dd S hA
  refine va_iast O.1 O.2.1 O.2.2.2.2.2.2.2 P Dd S n 0 (by rw [vW_get _ _ _ _ _ hn, vCell_int hg]) rfl hi hd (fun H1 locs1 hP hD hS => ?_)
  rw [← vup_eq, ← vCell_int (cZ := cZ) (ad := ad) hg, vW_arr cI cZ ad G hn (fun a h => vup_ne σ x h) rfl] at hP hD
  exact kk p l e s m args below meth c H1 locs1 A D cI cZ la O L hP hD hS hA
theorem vp_narZ {x : Int32} (h : x = 0 ∨ x = 1) : vp_nar .boolean x = x := by rcases h with rfl | rfl <;> rfl
theorem V.zast {n len : Nat} {i x : Int32} (hd : decode mi.2.1 pc = .ok (.bastore, 1)) (hn : n < G.1) (hg : G.2.1 n = (1, len)) (hi : vp_in i len) (hx : x = 0 ∨ x = 1) (kk : V G mi ad Q d (pc + 1) ls st (vup σ n i.toNatClampNeg x)) : V G mi ad Q d pc ls (.int x :: .int i :: .ref (ad n) :: st) σ := by
  intro p l e s m args below meth c H locs A D cI cZ la O L P Dd S hA
  refine va_zast O.1 O.2.1 O.2.2.2.2.2.2.2 P Dd S n 1 (by rw [vW_get _ _ _ _ _ hn, vCell_boo hg]) rfl hi hd (fun H1 locs1 hP hD hS => ?_)
  rw [vp_narZ hx, ← vup_eq, ← vCell_boo (cI := cI) (ad := ad) hg, vW_arr cI cZ ad G hn (fun a h => vup_ne σ x h) rfl] at hP hD
  exact kk p l e s m args below meth c H1 locs1 A D cI cZ la O L hP hD hS hA
theorem V.alen {n len : Nat} {v : Int32} (hd : decode mi.2.1 pc = .ok (.arraylength, 1)) (hn : n < G.1) (hg : G.2.1 n = (0, len)) (hv : Int32.ofNat len = v) (kk : V G mi ad Q d (pc + 1) ls (.int v :: st) σ) : V G mi ad Q d pc ls (.ref (ad n) :: st) σ := by
  intro p l e s m args below meth c H locs A D cI cZ la O L P Dd S hA
  exact va_alen O.1 O.2.1 O.2.2.2.2.2.2.2 P n 0 (by rw [vW_get _ _ _ _ _ hn, vCell_int hg]) rfl hv hd (kk p l e s m args below meth c H locs A D cI cZ la O L P Dd S hA)
theorem V.copy {n0 n1 l0 l1 idx : Nat} {sp dp n : Int32} (hd : decode mi.2.1 pc = .ok (.invokestatic idx, 3)) (hlk : Cond.methodLink mi.1.cls idx arraycopyName ∈ vTbl) (hnat : Cond.native arraycopyName ∈ vTbl) (hsta : Cond.static arraycopyName ∈ vTbl) (hini : Cond.initialized "java/lang/System" ∈ vTbl)
    (hn0 : n0 < G.1) (hg0 : G.2.1 n0 = (0, l0)) (hn1 : n1 < G.1) (hg1 : G.2.1 n1 = (0, l1)) (h1 : ¬ sp < 0) (h2 : ¬ dp < 0) (h3 : ¬ n < 0) (h4 : sp.toNatClampNeg + n.toNatClampNeg ≤ l0) (h5 : dp.toNatClampNeg + n.toNatClampNeg ≤ l1) (hfr : 1 ≤ d) (hlo : (st.map fun v => v.category).sum + (nativeFrameWords "java/lang/System" "arraycopy" 5 + 11) ≤ 40 * d)
    (kk : V G mi ad Q d (pc + 3) ls st (vcp σ n0 n1 sp.toNatClampNeg dp.toNatClampNeg n.toNatClampNeg)) : V G mi ad Q d pc ls (.int n :: .int dp :: .ref (ad n1) :: .int sp :: .ref (ad n0) :: st) σ := by
  intro p l e s m args below meth c H locs A D cI cZ la O L P Dd S hA
  refine va_copyi (ty := .int) O.1 O.2.1 (O.2.2.1.trans L.1.symm) O.2.2.2.2.2.1 (O.2.2.2.2.2.2.1 _ hlk) (O.2.2.2.2.2.2.1 _ hnat) (O.2.2.2.2.2.2.1 _ hsta) (O.2.2.2.2.2.2.1 _ hini) O.2.2.2.2.2.2.2 P Dd S n0 n1 0 0 (by rw [vW_get _ _ _ _ _ hn0, vCell_int hg0]) (by rw [vW_get _ _ _ _ _ hn1, vCell_int hg1]) rfl rfl rfl h1 h2 h3 h4 h5 (fun _ _ => rfl) hfr hlo hd (fun H1 locs1 hP hD hS => ?_)
  have ec : va_cpy (σ.1 n0) (σ.1 n1) sp.toNatClampNeg dp.toNatClampNeg n.toNatClampNeg = (vcp σ n0 n1 sp.toNatClampNeg dp.toNatClampNeg n.toNatClampNeg).1 n1 := by simp [vcp]
  rw [ec, ← vCell_int (cZ := cZ) (ad := ad) hg1, vW_arr (σ := σ) (τ := vcp σ n0 n1 sp.toNatClampNeg dp.toNatClampNeg n.toNatClampNeg) cI cZ ad G hn1 (fun a h => by simp [vcp, h]) rfl] at hP hD
  exact kk p l e s m args below meth c H1 locs1 A D cI cZ la O L hP hD hS hA
theorem V.mono {Q2 : Option Value → vMem → Prop} (h : V G mi ad Q d pc ls st σ) (hq : ∀ r τ, Q r τ → Q2 r τ) : V G mi ad Q2 d pc ls st σ := by
  intro p l e s m args below meth c H locs A D cI cZ la O L P Dd S hA
  intro T hT X
  obtain ⟨t, a, o, b1, b2, ⟨r, τ, c1, c2, c3, c4⟩, b4⟩ := h p l e s m args below meth c H locs A D cI cZ la O L P Dd S hA T hT X
  exact ⟨t, a, o, b1, b2, ⟨r, τ, c1, hq r τ c2, c3, c4⟩, b4⟩
theorem V.mmax {idx : Nat} {x y : Int32} (hd : decode mi.2.1 pc = .ok (.invokestatic idx, 3)) (hl : Cond.methodLink mi.1.cls idx Lib.Math.max.name ∈ vTbl) (hs : Cond.static Lib.Math.max.name ∈ vTbl) (hi : Cond.initialized "java/lang/Math" ∈ vTbl) (hc : Cond.code Lib.Math.max.name Lib.Math.max.code 2 (some .int) ∈ vTbl) (hfr : 1 ≤ d) (hst : (st.map fun v => v.category).sum ≤ 8) (k : V G mi ad Q d (pc + 3) ls (.int (if x < y then y else x) :: st) σ) : V G mi ad Q d pc ls (.int y :: .int x :: st) σ := by
  intro p l e s m args below meth c H locs A D cI cZ la O L P Dd S hA
  exact va_mmax O.1 O.2.1 (O.2.2.1.trans L.1.symm) O.2.2.2.2.2.1 (O.2.2.2.2.2.2.1 _ hl) (O.2.2.2.2.2.2.1 _ hs) (O.2.2.2.2.2.2.1 _ hi) (O.2.2.2.2.2.2.1 _ hc) hfr (by show _ ≤ 40 * d; omega) (Nat.zero_le _) (Nat.zero_le _) hd (k p l e s m args below meth c H locs A D cI cZ la O L P Dd S hA)
theorem V.mmin {idx : Nat} {x y : Int32} (hd : decode mi.2.1 pc = .ok (.invokestatic idx, 3)) (hl : Cond.methodLink mi.1.cls idx Lib.Math.min.name ∈ vTbl) (hs : Cond.static Lib.Math.min.name ∈ vTbl) (hi : Cond.initialized "java/lang/Math" ∈ vTbl) (hc : Cond.code Lib.Math.min.name Lib.Math.min.code 2 (some .int) ∈ vTbl) (hfr : 1 ≤ d) (hst : (st.map fun v => v.category).sum ≤ 8) (k : V G mi ad Q d (pc + 3) ls (.int (if y < x then y else x) :: st) σ) : V G mi ad Q d pc ls (.int y :: .int x :: st) σ := by
  intro p l e s m args below meth c H locs A D cI cZ la O L P Dd S hA
  exact va_mmin O.1 O.2.1 (O.2.2.1.trans L.1.symm) O.2.2.2.2.2.1 (O.2.2.2.2.2.2.1 _ hl) (O.2.2.2.2.2.2.1 _ hs) (O.2.2.2.2.2.2.1 _ hi) (O.2.2.2.2.2.2.1 _ hc) hfr (by show _ ≤ 40 * d; omega) (Nat.zero_le _) (Nat.zero_le _) hd (k p l e s m args below meth c H locs A D cI cZ la O L P Dd S hA)
end VR
