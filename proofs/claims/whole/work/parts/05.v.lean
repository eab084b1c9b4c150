/-! a judgement of my own over the kit's W: worlds of a fixed plan, their numbers as functions -/
/-- ints by cell and place, longs by cell and place -/
abbrev vMem : Type := (Nat → Nat → Int32) × (Nat → Nat → Int64)
/-- a plan: how many cells; of each its kind (0 ints, 1 booleans, ci + 2 an object of class ci) and length; its references (0 null, n + 1 cell n) -/
abbrev vCfg : Type := Nat × (Nat → Nat × Nat) × (Nat → Nat → Nat)
def vRef (ad : Nat → Nat) (r : Nat) : Value := match r with
  | 0 => .null
  | n + 1 => .ref (ad n)
def vFld (ad : Nat → Nat) (G : vCfg) (σ : vMem) (n j : Nat) (ty : FieldType) : Value := match ty with
  | .long => .long (σ.2 n j)
  | .int => .int (σ.1 n j)
  | .boolean => .int (σ.1 n j)
  | _ => vRef ad (G.2.2 n j)
def vCell (cI cZ : ClassId) (ad : Nat → Nat) (G : vCfg) (σ : vMem) (n : Nat) : va_E := match G.2.1 n with
  | (0, len) => .inl (cI, len, .inl (σ.1 n))
  | (1, len) => .inl (cZ, len, .inl (σ.1 n))
  | (k + 2, _) => .inr (k, (List.range (vN k)).map (fun j => vFld ad G σ n j (vTy k j)))
def vW (cI cZ : ClassId) (ad : Nat → Nat) (G : vCfg) (σ : vMem) : va_W := (List.range G.1).map (fun n => (ad n, vCell cI cZ ad G σ n))
abbrev vTys (cI cZ : ClassId) : List (ClassId × FieldType) := [(cI, .int), (cZ, .boolean)]
def vRm (d : Nat) : Room := { frames := d, cells := 0, slots := 0, locals := 40 * d }
def vLk (la : Array Slot) (n : Nat) (ls : List (Option Value)) : Prop := la.size = n ∧ lv_wf la ∧ ∀ (i : Nat) (v : Value), ls[i]? = some (some v) → la[i]? = some (.val v)
def vOK (mi : vMI) (p : Program) (s : State) (m : MethodId) (meth : Method) (c : Code) (args : Array Value) (D : va_G) (cI cZ : ClassId) : Prop :=
  p.tables.exec = Jvm.exec ∧ c.code = mi.2.1 ∧ c.maxLocals = mi.2.2.1 ∧ meth.sig.returnType = mi.2.2.2 ∧ (meth.locks = false ∧ vNst s) ∧ s.vm.findClass mi.1.cls = some m.cls ∧ (∀ w ∈ vTbl, w.before args s = true) ∧ va_K D classes (vTys cI cZ) s
def vQ (D : va_G) (cI cZ : ClassId) (ad : Nat → Nat) (G : vCfg) (A : Nat → Prop) (Q : Option Value → vMem → Prop) : Array Value → State → Outcome → State → Prop := fun _ st oc t =>
  ∃ (r : Option Value) (σ : vMem), oc = .returned r ∧ Q r σ ∧ va_P D classes (vW cI cZ ad G σ) t.heap ∧ va_F A st t
/-- from pc on, with these locals, this stack, this memory, the method ends, and Q holds of its answer and of the memory -/
def V (G : vCfg) (mi : vMI) (ad : Nat → Nat) (Q : Option Value → vMem → Prop) (d pc : Nat) (ls : List (Option Value)) (st : List Value) (σ : vMem) : Prop :=
  ∀ (p : Program) (l : Launch) (e : Env) (s : State) (m : MethodId) (args : Array Value) (below : List Frame) (meth : Method) (c : Code) (H : Heap) (locs : List Loc) (A : Nat → Prop) (D : va_G) (cI cZ : ClassId) (la : Array Slot),
    vOK mi p s m meth c args D cI cZ → vLk la mi.2.2.1 ls → va_P D classes (vW cI cZ ad G σ) H → va_D A (vW cI cZ ad G σ) → va_S A s.heap H locs → (∀ q, s.heap.size ≤ q → A q) →
      W p l e (vRm d) s m args below meth c H locs 0 0 (MQ below (vQ D cI cZ ad G A Q) args s 0 0 A) (F0 m pc la st)
/-! the world's rows -/
theorem vW_get (cI cZ : ClassId) (ad : Nat → Nat) (G : vCfg) (σ : vMem) {n : Nat} (hn : n < G.1) : (vW cI cZ ad G σ)[n]? = some (ad n, vCell cI cZ ad G σ n) := by
  simp [vW, List.getElem?_map, List.getElem?_range hn]
theorem vMap_set {α : Type} {N n : Nat} {f g : Nat → α} {y : α} (hn : n < N) (h1 : g n = y) (h2 : ∀ a, a ≠ n → g a = f a) : ((List.range N).map f).set n y = (List.range N).map g := by
  apply List.ext_getElem?
  intro k
  rw [List.getElem?_set]
  by_cases hk : n = k
  · subst hk
    simp [hn, h1]
  · rw [if_neg hk, List.getElem?_map, List.getElem?_map]
    by_cases hkN : k < N
    · rw [List.getElem?_range hkN]
      simp [h2 k (fun q => hk q.symm)]
    · rw [List.getElem?_eq_none (by simpa using hkN)]
      rfl
theorem vW_len (cI cZ : ClassId) (ad : Nat → Nat) (G : vCfg) (σ : vMem) : (vW cI cZ ad G σ).length = G.1 := by simp [vW]
/-- an int changes -/
def vup (σ : vMem) (n k : Nat) (x : Int32) : vMem := (fun a => if a = n then upd (σ.1 n) k x else σ.1 a, σ.2)
/-- a long changes -/
def vupL (σ : vMem) (n k : Nat) (x : Int64) : vMem := (σ.1, fun a => if a = n then (fun j => if j = k then x else σ.2 n j) else σ.2 a)
/-- a row is copied -/
def vcp (σ : vMem) (a0 a1 sp dp n : Nat) : vMem := (fun a => if a = a1 then va_cpy (σ.1 a0) (σ.1 a1) sp dp n else σ.1 a, σ.2)
theorem vCell_ne (cI cZ : ClassId) (ad : Nat → Nat) (G : vCfg) {σ τ : vMem} {n : Nat} (h1 : σ.1 n = τ.1 n) (h2 : σ.2 n = τ.2 n) : vCell cI cZ ad G σ n = vCell cI cZ ad G τ n := by
  unfold vCell
  split
  · rw [h1]
  · rw [h1]
  · congr 2
    refine List.map_congr_left fun j _ => ?_
    unfold vFld
    split
    · rw [h2]
    · rw [h1]
    · rw [h1]
    · rfl
theorem vup_ne (σ : vMem) {n k : Nat} (x : Int32) {a : Nat} (h : a ≠ n) : (vup σ n k x).1 a = σ.1 a := by simp [vup, h]
theorem vup_eq (σ : vMem) (n k : Nat) (x : Int32) : (vup σ n k x).1 n = upd (σ.1 n) k x := by simp [vup]
theorem vupL_ne (σ : vMem) {n k : Nat} (x : Int64) {a : Nat} (h : a ≠ n) : (vupL σ n k x).2 a = σ.2 a := by simp [vupL, h]
/-- a row of ints, or of booleans, has another one -/
theorem vW_arr (cI cZ : ClassId) (ad : Nat → Nat) (G : vCfg) {σ τ : vMem} {n : Nat} (hn : n < G.1) (hne : ∀ a, a ≠ n → τ.1 a = σ.1 a) (hL : τ.2 = σ.2) :
    (vW cI cZ ad G σ).set n (ad n, vCell cI cZ ad G τ n) = vW cI cZ ad G τ := by
  refine vMap_set hn rfl fun a ha => ?_
  rw [vCell_ne cI cZ ad G (hne a ha) (by rw [hL])]
theorem vW_obj (cI cZ : ClassId) (ad : Nat → Nat) (G : vCfg) {σ τ : vMem} {n ci k z : Nat} {v : Value} (hn : n < G.1) (hg : G.2.1 n = (ci + 2, z)) (hk : k < vN ci) (hv : vFld ad G τ n k (vTy ci k) = v)
    (hne : ∀ a, a ≠ n → τ.1 a = σ.1 a) (hneL : ∀ a, a ≠ n → τ.2 a = σ.2 a) (hq : ∀ j, j ≠ k → τ.1 n j = σ.1 n j) (hqL : ∀ j, j ≠ k → τ.2 n j = σ.2 n j) :
    (vW cI cZ ad G σ).set n (ad n, .inr (ci, ((List.range (vN ci)).map (fun j => vFld ad G σ n j (vTy ci j))).set k v)) = vW cI cZ ad G τ := by
  refine vMap_set hn ?_ fun a ha => ?_
  · have e : ((List.range (vN ci)).map (fun j => vFld ad G σ n j (vTy ci j))).set k v = (List.range (vN ci)).map (fun j => vFld ad G τ n j (vTy ci j)) := by
      refine vMap_set (g := fun j => vFld ad G τ n j (vTy ci j)) hk hv fun j hj => ?_
      show vFld ad G τ n j (vTy ci j) = vFld ad G σ n j (vTy ci j)
      unfold vFld
      split
      · rw [hqL j hj]
      · rw [hq j hj]
      · rw [hq j hj]
      · rfl
    rw [e]
    unfold vCell
    rw [hg]
  · rw [vCell_ne cI cZ ad G (hne a ha) (hneL a ha)]
theorem vW_addr (cI cZ : ClassId) (ad : Nat → Nat) (G : vCfg) (σ τ : vMem) {k : Nat} {q : Nat × va_E} (h : (vW cI cZ ad G σ)[k]? = some q) : ∃ e, (vW cI cZ ad G τ)[k]? = some (q.1, e) := by
  by_cases hk : k < G.1
  · rw [vW_get _ _ _ _ _ hk] at h
    cases h
    exact ⟨_, vW_get _ _ _ _ _ hk⟩
  · rw [List.getElem?_eq_none (by rw [vW_len]; omega)] at h
    cases h
theorem vW_D {cI cZ : ClassId} {ad : Nat → Nat} {G : vCfg} {σ : vMem} (τ : vMem) {A : Nat → Prop} (h : va_D A (vW cI cZ ad G σ)) : va_D A (vW cI cZ ad G τ) := by
  refine ⟨fun i j p q hp hq e => ?_, fun k q hq => ?_⟩
  · obtain ⟨e1, h1⟩ := vW_addr cI cZ ad G τ σ hp
    obtain ⟨e2, h2⟩ := vW_addr cI cZ ad G τ σ hq
    exact h.1 i j _ _ h1 h2 e
  · obtain ⟨e1, h1⟩ := vW_addr cI cZ ad G τ σ hq
    exact h.2 k (q.1, e1) h1
theorem vA_eq {cI cZ : ClassId} {ad : Nat → Nat} {G : vCfg} {σ : vMem} (τ : vMem) {sz q : Nat} (h : va_A (vW cI cZ ad G σ) sz q) : va_A (vW cI cZ ad G τ) sz q := by
  rcases h with ⟨k, e, h⟩ | h
  · obtain ⟨e1, h1⟩ := vW_addr cI cZ ad G σ τ h
    exact Or.inl ⟨k, e1, h1⟩
  · exact Or.inr h
