/-- the class's tower holds the data -/
def DC (P : vP) (σ : vMem) : Prop := (σ.1 5 0 = nI (pnf P) ∧ σ.1 5 5 = nI (pnb P) ∧ σ.1 5 11 = phu P ∧ σ.1 5 12 = nI (pwe P)) ∧ (∀ f, f < pnf P → σ.1 6 f = pso P f ∧ σ.1 7 f = nI (pbi P f) ∧ σ.1 8 f = pwo P f) ∧ (∀ b, b < pnb P → σ.1 9 b = nI (pho P b) ∧ σ.1 10 b = nI (plo P b) ∧ σ.1 11 b = nI (ple P b) ∧ ∀ i, i < ple P b → σ.1 12 (3 * b + i) = pte P b i)
theorem DC.of {P : vP} {σ τ : vMem} (h : DC P σ) (e : ∀ a, a < 13 → τ.1 a = σ.1 a) : DC P τ := by
  unfold DC at h ⊢
  rw [e 5 (by decide), e 6 (by decide), e 7 (by decide), e 8 (by decide), e 9 (by decide), e 10 (by decide), e 11 (by decide), e 12 (by decide)]
  exact h
/-- nothing but the trip's cells has changed -/
def Fr13 (σ τ : vMem) : Prop := (∀ a, a < 13 ∨ 24 < a → τ.1 a = σ.1 a) ∧ τ.2 = σ.2
theorem Fr13.rf (σ : vMem) : Fr13 σ σ := ⟨fun _ _ => rfl, rfl⟩
theorem Fr13.tr {a b c : vMem} (h : Fr13 a b) (h2 : Fr13 b c) : Fr13 a c := ⟨fun x hx => (h2.1 x hx).trans (h.1 x hx), h2.2.trans h.2⟩
theorem Fr13.up {σ τ : vMem} (h : Fr13 σ τ) {n k : Nat} {x : Int32} (h1 : 13 ≤ n) (h2 : n ≤ 24) : Fr13 σ (vup τ n k x) := ⟨fun a ha => by
  rw [vup_ne _ _ (by omega)]
  exact h.1 a ha, h.2⟩
theorem Fr13.dc {P : vP} {σ τ : vMem} (h : Fr13 σ τ) (hd : DC P σ) : DC P τ := hd.of (fun a ha => h.1 a (Or.inl ha))
def CS (σ0 : vMem) (P : vP) (w y : Bool) (sn : Nat → Bool) (T : vT) (σ : vMem) : Prop :=
  (DC P σ0 ∧ Fr13 σ0 σ) ∧ (σ.1 13 1 = b2 w ∧ σ.1 13 2 = b2 y) ∧
  (∀ b, b < pnb P → σ.1 14 b = (if sn b = true then nI (tpl T b) else -1)) ∧
  (∀ b, b < pnb P → σ.1 15 b = nI (tld T b)) ∧
  (∀ b, b < pnb P → σ.1 17 b = tup T b) ∧
  (∀ b, b < pnb P → σ.1 18 b = b2 (thd T b)) ∧
  (∀ b, b < pnb P → σ.1 20 b = nI (tst T b)) ∧
  (∀ b, b < pnb P → σ.1 21 b = nI (tst T b + tnl T b)) ∧
  (∀ b, b < pnb P → ∀ i, i < tnl T b → σ.1 19 (21 * b + tst T b + i) = tnt T b i) ∧
  (∀ f, f < pnf P → σ.1 22 f = tla T f) ∧
  (∀ f, f < pnf P → σ.1 23 f = tof T f) ∧
  (∀ f, f < pnf P → σ.1 24 f = nI (tea T f)) ∧
  σ.1 13 14 = nI (tnu T) ∧ σ.1 13 15 = tbt T ∧ σ.1 13 16 = tfh T ∧ σ.1 13 17 = tff T
theorem CS.dc {σ0 : vMem} {P : vP} {w y : Bool} {sn : Nat → Bool} {T : vT} {σ : vMem} (h : CS σ0 P w y sn T σ) : DC P σ := h.1.2.dc h.1.1
section CSr
variable {σ0 : vMem} {P : vP} {w y : Bool} {sn : Nat → Bool} {T : vT} {σ : vMem}
theorem CS.pl (h : CS σ0 P w y sn T σ) {b x : Nat} (hs : sn b = true) : CS σ0 P w y sn (sPl T b x) (vup σ 14 b (nI x)) := by
  obtain ⟨⟨h0, h1⟩, ⟨h2, h3⟩, h4, h5, h6, h7, h8, h9, h10, h11, h12, h13, h14, h15, h16, h17⟩ := h
  refine ⟨⟨h0, h1.up (by decide) (by decide)⟩, ⟨?_, ?_⟩, fun c hc => ?_, fun c hc => ?_, fun c hc => ?_, fun c hc => ?_, fun c hc => ?_, fun c hc => ?_, fun c hc i hi => ?_, fun c hc => ?_, fun c hc => ?_, fun c hc => ?_, ?_, ?_, ?_, ?_⟩ <;> simp only [vup_rd, va_up, tpl, tld, tnl, tnt, tst, thd, tup, tla, tof, tea, tbt, tnu, tfh, tff, Nat.reduceEqDiff, ↓reduceIte]
  · exact h2
  · exact h3
  · by_cases e : c = b
    · subst e; simp only [hs, ↓reduceIte]
    · simp only [e, ↓reduceIte]; exact h4 c hc
  · exact h5 c hc
  · exact h6 c hc
  · exact h7 c hc
  · exact h8 c hc
  · exact h9 c hc
  · exact h10 c hc i hi
  · exact h11 c hc
  · exact h12 c hc
  · exact h13 c hc
  · exact h14
  · exact h15
  · exact h16
  · exact h17
theorem CS.ld (h : CS σ0 P w y sn T σ) {b x : Nat} : CS σ0 P w y sn (sLd T b x) (vup σ 15 b (nI x)) := by
  obtain ⟨⟨h0, h1⟩, ⟨h2, h3⟩, h4, h5, h6, h7, h8, h9, h10, h11, h12, h13, h14, h15, h16, h17⟩ := h
  refine ⟨⟨h0, h1.up (by decide) (by decide)⟩, ⟨?_, ?_⟩, fun c hc => ?_, fun c hc => ?_, fun c hc => ?_, fun c hc => ?_, fun c hc => ?_, fun c hc => ?_, fun c hc i hi => ?_, fun c hc => ?_, fun c hc => ?_, fun c hc => ?_, ?_, ?_, ?_, ?_⟩ <;> simp only [vup_rd, va_up, tpl, tld, tnl, tnt, tst, thd, tup, tla, tof, tea, tbt, tnu, tfh, tff, Nat.reduceEqDiff, ↓reduceIte]
  · exact h2
  · exact h3
  · exact h4 c hc
  · by_cases e : c = b <;> simp only [e, ↓reduceIte]; exact h5 c hc
  · exact h6 c hc
  · exact h7 c hc
  · exact h8 c hc
  · exact h9 c hc
  · exact h10 c hc i hi
  · exact h11 c hc
  · exact h12 c hc
  · exact h13 c hc
  · exact h14
  · exact h15
  · exact h16
  · exact h17
theorem CS.up (h : CS σ0 P w y sn T σ) {b : Nat} {x : Int32} : CS σ0 P w y sn (sUp T b x) (vup σ 17 b (x)) := by
  obtain ⟨⟨h0, h1⟩, ⟨h2, h3⟩, h4, h5, h6, h7, h8, h9, h10, h11, h12, h13, h14, h15, h16, h17⟩ := h
  refine ⟨⟨h0, h1.up (by decide) (by decide)⟩, ⟨?_, ?_⟩, fun c hc => ?_, fun c hc => ?_, fun c hc => ?_, fun c hc => ?_, fun c hc => ?_, fun c hc => ?_, fun c hc i hi => ?_, fun c hc => ?_, fun c hc => ?_, fun c hc => ?_, ?_, ?_, ?_, ?_⟩ <;> simp only [vup_rd, va_up, tpl, tld, tnl, tnt, tst, thd, tup, tla, tof, tea, tbt, tnu, tfh, tff, Nat.reduceEqDiff, ↓reduceIte]
  · exact h2
  · exact h3
  · exact h4 c hc
  · exact h5 c hc
  · by_cases e : c = b <;> simp only [e, ↓reduceIte]; exact h6 c hc
  · exact h7 c hc
  · exact h8 c hc
  · exact h9 c hc
  · exact h10 c hc i hi
  · exact h11 c hc
  · exact h12 c hc
  · exact h13 c hc
  · exact h14
  · exact h15
  · exact h16
  · exact h17
theorem CS.hd (h : CS σ0 P w y sn T σ) {b : Nat} {x : Bool} : CS σ0 P w y sn (sHd T b x) (vup σ 18 b (b2 x)) := by
  obtain ⟨⟨h0, h1⟩, ⟨h2, h3⟩, h4, h5, h6, h7, h8, h9, h10, h11, h12, h13, h14, h15, h16, h17⟩ := h
  refine ⟨⟨h0, h1.up (by decide) (by decide)⟩, ⟨?_, ?_⟩, fun c hc => ?_, fun c hc => ?_, fun c hc => ?_, fun c hc => ?_, fun c hc => ?_, fun c hc => ?_, fun c hc i hi => ?_, fun c hc => ?_, fun c hc => ?_, fun c hc => ?_, ?_, ?_, ?_, ?_⟩ <;> simp only [vup_rd, va_up, tpl, tld, tnl, tnt, tst, thd, tup, tla, tof, tea, tbt, tnu, tfh, tff, Nat.reduceEqDiff, ↓reduceIte]
  · exact h2
  · exact h3
  · exact h4 c hc
  · exact h5 c hc
  · exact h6 c hc
  · by_cases e : c = b <;> simp only [e, ↓reduceIte]; exact h7 c hc
  · exact h8 c hc
  · exact h9 c hc
  · exact h10 c hc i hi
  · exact h11 c hc
  · exact h12 c hc
  · exact h13 c hc
  · exact h14
  · exact h15
  · exact h16
  · exact h17
theorem CS.la (h : CS σ0 P w y sn T σ) {f : Nat} {x : Int32} : CS σ0 P w y sn (sLa T f x) (vup σ 22 f (x)) := by
  obtain ⟨⟨h0, h1⟩, ⟨h2, h3⟩, h4, h5, h6, h7, h8, h9, h10, h11, h12, h13, h14, h15, h16, h17⟩ := h
  refine ⟨⟨h0, h1.up (by decide) (by decide)⟩, ⟨?_, ?_⟩, fun c hc => ?_, fun c hc => ?_, fun c hc => ?_, fun c hc => ?_, fun c hc => ?_, fun c hc => ?_, fun c hc i hi => ?_, fun c hc => ?_, fun c hc => ?_, fun c hc => ?_, ?_, ?_, ?_, ?_⟩ <;> simp only [vup_rd, va_up, tpl, tld, tnl, tnt, tst, thd, tup, tla, tof, tea, tbt, tnu, tfh, tff, Nat.reduceEqDiff, ↓reduceIte]
  · exact h2
  · exact h3
  · exact h4 c hc
  · exact h5 c hc
  · exact h6 c hc
  · exact h7 c hc
  · exact h8 c hc
  · exact h9 c hc
  · exact h10 c hc i hi
  · by_cases e : c = f <;> simp only [e, ↓reduceIte]; exact h11 c hc
  · exact h12 c hc
  · exact h13 c hc
  · exact h14
  · exact h15
  · exact h16
  · exact h17
theorem CS.of (h : CS σ0 P w y sn T σ) {f : Nat} {x : Int32} : CS σ0 P w y sn (sOf T f x) (vup σ 23 f (x)) := by
  obtain ⟨⟨h0, h1⟩, ⟨h2, h3⟩, h4, h5, h6, h7, h8, h9, h10, h11, h12, h13, h14, h15, h16, h17⟩ := h
  refine ⟨⟨h0, h1.up (by decide) (by decide)⟩, ⟨?_, ?_⟩, fun c hc => ?_, fun c hc => ?_, fun c hc => ?_, fun c hc => ?_, fun c hc => ?_, fun c hc => ?_, fun c hc i hi => ?_, fun c hc => ?_, fun c hc => ?_, fun c hc => ?_, ?_, ?_, ?_, ?_⟩ <;> simp only [vup_rd, va_up, tpl, tld, tnl, tnt, tst, thd, tup, tla, tof, tea, tbt, tnu, tfh, tff, Nat.reduceEqDiff, ↓reduceIte]
  · exact h2
  · exact h3
  · exact h4 c hc
  · exact h5 c hc
  · exact h6 c hc
  · exact h7 c hc
  · exact h8 c hc
  · exact h9 c hc
  · exact h10 c hc i hi
  · exact h11 c hc
  · by_cases e : c = f <;> simp only [e, ↓reduceIte]; exact h12 c hc
  · exact h13 c hc
  · exact h14
  · exact h15
  · exact h16
  · exact h17
theorem CS.ea (h : CS σ0 P w y sn T σ) {f : Nat} {x : Nat} : CS σ0 P w y sn (sEa T f x) (vup σ 24 f (nI x)) := by
  obtain ⟨⟨h0, h1⟩, ⟨h2, h3⟩, h4, h5, h6, h7, h8, h9, h10, h11, h12, h13, h14, h15, h16, h17⟩ := h
  refine ⟨⟨h0, h1.up (by decide) (by decide)⟩, ⟨?_, ?_⟩, fun c hc => ?_, fun c hc => ?_, fun c hc => ?_, fun c hc => ?_, fun c hc => ?_, fun c hc => ?_, fun c hc i hi => ?_, fun c hc => ?_, fun c hc => ?_, fun c hc => ?_, ?_, ?_, ?_, ?_⟩ <;> simp only [vup_rd, va_up, tpl, tld, tnl, tnt, tst, thd, tup, tla, tof, tea, tbt, tnu, tfh, tff, Nat.reduceEqDiff, ↓reduceIte]
  · exact h2
  · exact h3
  · exact h4 c hc
  · exact h5 c hc
  · exact h6 c hc
  · exact h7 c hc
  · exact h8 c hc
  · exact h9 c hc
  · exact h10 c hc i hi
  · exact h11 c hc
  · exact h12 c hc
  · by_cases e : c = f <;> simp only [e, ↓reduceIte]; exact h13 c hc
  · exact h14
  · exact h15
  · exact h16
  · exact h17
theorem CS.nu (h : CS σ0 P w y sn T σ) {x : Nat} : CS σ0 P w y sn (sNu T x) (vup σ 13 14 (nI x)) := by
  obtain ⟨⟨h0, h1⟩, ⟨h2, h3⟩, h4, h5, h6, h7, h8, h9, h10, h11, h12, h13, h14, h15, h16, h17⟩ := h
  refine ⟨⟨h0, h1.up (by decide) (by decide)⟩, ⟨?_, ?_⟩, fun c hc => ?_, fun c hc => ?_, fun c hc => ?_, fun c hc => ?_, fun c hc => ?_, fun c hc => ?_, fun c hc i hi => ?_, fun c hc => ?_, fun c hc => ?_, fun c hc => ?_, ?_, ?_, ?_, ?_⟩ <;> simp only [vup_rd, va_up, tpl, tld, tnl, tnt, tst, thd, tup, tla, tof, tea, tbt, tnu, tfh, tff, Nat.reduceEqDiff, ↓reduceIte]
  · exact h2
  · exact h3
  · exact h4 c hc
  · exact h5 c hc
  · exact h6 c hc
  · exact h7 c hc
  · exact h8 c hc
  · exact h9 c hc
  · exact h10 c hc i hi
  · exact h11 c hc
  · exact h12 c hc
  · exact h13 c hc
  · exact h15
  · exact h16
  · exact h17
theorem CS.bt (h : CS σ0 P w y sn T σ) {x : Int32} : CS σ0 P w y sn (sBt T x) (vup σ 13 15 (x)) := by
  obtain ⟨⟨h0, h1⟩, ⟨h2, h3⟩, h4, h5, h6, h7, h8, h9, h10, h11, h12, h13, h14, h15, h16, h17⟩ := h
  refine ⟨⟨h0, h1.up (by decide) (by decide)⟩, ⟨?_, ?_⟩, fun c hc => ?_, fun c hc => ?_, fun c hc => ?_, fun c hc => ?_, fun c hc => ?_, fun c hc => ?_, fun c hc i hi => ?_, fun c hc => ?_, fun c hc => ?_, fun c hc => ?_, ?_, ?_, ?_, ?_⟩ <;> simp only [vup_rd, va_up, tpl, tld, tnl, tnt, tst, thd, tup, tla, tof, tea, tbt, tnu, tfh, tff, Nat.reduceEqDiff, ↓reduceIte]
  · exact h2
  · exact h3
  · exact h4 c hc
  · exact h5 c hc
  · exact h6 c hc
  · exact h7 c hc
  · exact h8 c hc
  · exact h9 c hc
  · exact h10 c hc i hi
  · exact h11 c hc
  · exact h12 c hc
  · exact h13 c hc
  · exact h14
  · exact h16
  · exact h17
theorem CS.fh (h : CS σ0 P w y sn T σ) {x : Int32} : CS σ0 P w y sn (sFh T x) (vup σ 13 16 (x)) := by
  obtain ⟨⟨h0, h1⟩, ⟨h2, h3⟩, h4, h5, h6, h7, h8, h9, h10, h11, h12, h13, h14, h15, h16, h17⟩ := h
  refine ⟨⟨h0, h1.up (by decide) (by decide)⟩, ⟨?_, ?_⟩, fun c hc => ?_, fun c hc => ?_, fun c hc => ?_, fun c hc => ?_, fun c hc => ?_, fun c hc => ?_, fun c hc i hi => ?_, fun c hc => ?_, fun c hc => ?_, fun c hc => ?_, ?_, ?_, ?_, ?_⟩ <;> simp only [vup_rd, va_up, tpl, tld, tnl, tnt, tst, thd, tup, tla, tof, tea, tbt, tnu, tfh, tff, Nat.reduceEqDiff, ↓reduceIte]
  · exact h2
  · exact h3
  · exact h4 c hc
  · exact h5 c hc
  · exact h6 c hc
  · exact h7 c hc
  · exact h8 c hc
  · exact h9 c hc
  · exact h10 c hc i hi
  · exact h11 c hc
  · exact h12 c hc
  · exact h13 c hc
  · exact h14
  · exact h15
  · exact h17
theorem CS.ff (h : CS σ0 P w y sn T σ) {x : Int32} : CS σ0 P w y sn (sFf T x) (vup σ 13 17 (x)) := by
  obtain ⟨⟨h0, h1⟩, ⟨h2, h3⟩, h4, h5, h6, h7, h8, h9, h10, h11, h12, h13, h14, h15, h16, h17⟩ := h
  refine ⟨⟨h0, h1.up (by decide) (by decide)⟩, ⟨?_, ?_⟩, fun c hc => ?_, fun c hc => ?_, fun c hc => ?_, fun c hc => ?_, fun c hc => ?_, fun c hc => ?_, fun c hc i hi => ?_, fun c hc => ?_, fun c hc => ?_, fun c hc => ?_, ?_, ?_, ?_, ?_⟩ <;> simp only [vup_rd, va_up, tpl, tld, tnl, tnt, tst, thd, tup, tla, tof, tea, tbt, tnu, tfh, tff, Nat.reduceEqDiff, ↓reduceIte]
  · exact h2
  · exact h3
  · exact h4 c hc
  · exact h5 c hc
  · exact h6 c hc
  · exact h7 c hc
  · exact h8 c hc
  · exact h9 c hc
  · exact h10 c hc i hi
  · exact h11 c hc
  · exact h12 c hc
  · exact h13 c hc
  · exact h14
  · exact h15
  · exact h16
theorem CS.tg (h : CS σ0 P w y sn T σ) {b : Nat} {x : Int32} : CS σ0 P w y sn (T) (vup σ 16 b (x)) := by
  obtain ⟨⟨h0, h1⟩, ⟨h2, h3⟩, h4, h5, h6, h7, h8, h9, h10, h11, h12, h13, h14, h15, h16, h17⟩ := h
  refine ⟨⟨h0, h1.up (by decide) (by decide)⟩, ⟨?_, ?_⟩, fun c hc => ?_, fun c hc => ?_, fun c hc => ?_, fun c hc => ?_, fun c hc => ?_, fun c hc => ?_, fun c hc i hi => ?_, fun c hc => ?_, fun c hc => ?_, fun c hc => ?_, ?_, ?_, ?_, ?_⟩ <;> simp only [vup_rd, va_up, tpl, tld, tnl, tnt, tst, thd, tup, tla, tof, tea, tbt, tnu, tfh, tff, Nat.reduceEqDiff, ↓reduceIte]
  · exact h2
  · exact h3
  · exact h4 c hc
  · exact h5 c hc
  · exact h6 c hc
  · exact h7 c hc
  · exact h8 c hc
  · exact h9 c hc
  · exact h10 c hc i hi
  · exact h11 c hc
  · exact h12 c hc
  · exact h13 c hc
  · exact h14
  · exact h15
  · exact h16
  · exact h17
theorem CS.wi (h : CS σ0 P w y sn T σ) {w' : Bool} : CS σ0 P w' y sn T (vup σ 13 1 (b2 w')) := by
  obtain ⟨⟨h0, h1⟩, ⟨h2, h3⟩, h4, h5, h6, h7, h8, h9, h10, h11, h12, h13, h14, h15, h16, h17⟩ := h
  refine ⟨⟨h0, h1.up (by decide) (by decide)⟩, ⟨?_, ?_⟩, fun c hc => ?_, fun c hc => ?_, fun c hc => ?_, fun c hc => ?_, fun c hc => ?_, fun c hc => ?_, fun c hc i hi => ?_, fun c hc => ?_, fun c hc => ?_, fun c hc => ?_, ?_, ?_, ?_, ?_⟩ <;> simp only [vup_rd, Nat.reduceEqDiff, ↓reduceIte]
  · exact h3
  · exact h4 c hc
  · exact h5 c hc
  · exact h6 c hc
  · exact h7 c hc
  · exact h8 c hc
  · exact h9 c hc
  · exact h10 c hc i hi
  · exact h11 c hc
  · exact h12 c hc
  · exact h13 c hc
  · exact h14
  · exact h15
  · exact h16
  · exact h17
theorem CS.su (h : CS σ0 P w y sn T σ) {y' : Bool} : CS σ0 P w y' sn T (vup σ 13 2 (b2 y')) := by
  obtain ⟨⟨h0, h1⟩, ⟨h2, h3⟩, h4, h5, h6, h7, h8, h9, h10, h11, h12, h13, h14, h15, h16, h17⟩ := h
  refine ⟨⟨h0, h1.up (by decide) (by decide)⟩, ⟨?_, ?_⟩, fun c hc => ?_, fun c hc => ?_, fun c hc => ?_, fun c hc => ?_, fun c hc => ?_, fun c hc => ?_, fun c hc i hi => ?_, fun c hc => ?_, fun c hc => ?_, fun c hc => ?_, ?_, ?_, ?_, ?_⟩ <;> simp only [vup_rd, Nat.reduceEqDiff, ↓reduceIte]
  · exact h2
  · exact h4 c hc
  · exact h5 c hc
  · exact h6 c hc
  · exact h7 c hc
  · exact h8 c hc
  · exact h9 c hc
  · exact h10 c hc i hi
  · exact h11 c hc
  · exact h12 c hc
  · exact h13 c hc
  · exact h14
  · exact h15
  · exact h16
  · exact h17
theorem CS.ar (h : CS σ0 P w y sn T σ) {b : Nat} (hb : tpl T b = 0) : CS σ0 P w y (va_up sn b true) T (vup σ 14 b 0) := by
  obtain ⟨⟨h0, h1⟩, ⟨h2, h3⟩, h4, h5, h6, h7, h8, h9, h10, h11, h12, h13, h14, h15, h16, h17⟩ := h
  refine ⟨⟨h0, h1.up (by decide) (by decide)⟩, ⟨?_, ?_⟩, fun c hc => ?_, fun c hc => ?_, fun c hc => ?_, fun c hc => ?_, fun c hc => ?_, fun c hc => ?_, fun c hc i hi => ?_, fun c hc => ?_, fun c hc => ?_, fun c hc => ?_, ?_, ?_, ?_, ?_⟩ <;> simp only [vup_rd, va_up, Nat.reduceEqDiff, ↓reduceIte]
  · exact h2
  · exact h3
  · by_cases e : c = b
    · subst e; simp only [hb, ↓reduceIte]; rfl
    · simp only [e, ↓reduceIte]; exact h4 c hc
  · exact h5 c hc
  · exact h6 c hc
  · exact h7 c hc
  · exact h8 c hc
  · exact h9 c hc
  · exact h10 c hc i hi
  · exact h11 c hc
  · exact h12 c hc
  · exact h13 c hc
  · exact h14
  · exact h15
  · exact h16
  · exact h17
theorem CS.sent {sn' : Nat → Bool} (h : CS σ0 P w y sn T σ) (he : ∀ b, b < pnb P → sn' b = sn b) : CS σ0 P w y sn' T σ := by
  obtain ⟨h0, h2, h4, h5⟩ := h
  exact ⟨h0, h2, fun b hb => by rw [he b hb]; exact h4 b hb, h5⟩
/-- mice write over the first letter -/
theorem CS.mi (h : CS σ0 P w y sn T σ) {b : Nat} {x : Int32} (hb : b < pnb P) (hB : ∀ c, c < pnb P → tst T c + tnl T c ≤ 21 ∧ 1 ≤ tnl T c) : CS σ0 P w y sn (sNt T b (upd (tnt T b) 0 x)) (vup σ 19 (21 * b + tst T b) x) := by
  obtain ⟨⟨h0, h1⟩, ⟨h2, h3⟩, h4, h5, h6, h7, h8, h9, h10, h11, h12, h13, h14, h15, h16, h17⟩ := h
  refine ⟨⟨h0, h1.up (by decide) (by decide)⟩, ⟨?_, ?_⟩, fun c hc => ?_, fun c hc => ?_, fun c hc => ?_, fun c hc => ?_, fun c hc => ?_, fun c hc => ?_, fun c hc i hi => ?_, fun c hc => ?_, fun c hc => ?_, fun c hc => ?_, ?_, ?_, ?_, ?_⟩ <;> simp only [vup_rd, va_up, tpl, tld, tnl, tnt, tst, thd, tup, tla, tof, tea, tbt, tnu, tfh, tff, Nat.reduceEqDiff, ↓reduceIte]
  · exact h2
  · exact h3
  · exact h4 c hc
  · exact h5 c hc
  · exact h6 c hc
  · exact h7 c hc
  · exact h8 c hc
  · exact h9 c hc
  · by_cases e : c = b
    · subst e
      simp only [↓reduceIte, upd]
      by_cases e2 : i = 0
      · subst e2; simp
      · rw [if_neg (by omega), if_neg e2]; exact h10 c hc i hi
    · rw [if_neg e, if_neg ?_]
      · exact h10 c hc i hi
      · have := hB c hc; have := hB b hb
        have hi : i < tnl T c := hi
        simp only [tst, tnl] at *
        omega
  · exact h11 c hc
  · exact h12 c hc
  · exact h13 c hc
  · exact h14
  · exact h15
  · exact h16
  · exact h17
/-- a word comes behind the note -/
theorem CS.wo (h : CS σ0 P w y sn T σ) {b : Nat} {x : Int32} (hb : b < pnb P) (hB : ∀ c, c < pnb P → tst T c + tnl T c ≤ 21) (hl : tst T b + tnl T b < 21) : CS σ0 P w y sn (sNl (sNt T b (upd (tnt T b) (tnl T b) x)) b (tnl T b + 1)) (vup (vup σ 19 (21 * b + (tst T b + tnl T b)) x) 21 b (nI (tst T b + tnl T b + 1))) := by
  obtain ⟨⟨h0, h1⟩, ⟨h2, h3⟩, h4, h5, h6, h7, h8, h9, h10, h11, h12, h13, h14, h15, h16, h17⟩ := h
  refine ⟨⟨h0, (h1.up (by decide) (by decide)).up (by decide) (by decide)⟩, ⟨?_, ?_⟩, fun c hc => ?_, fun c hc => ?_, fun c hc => ?_, fun c hc => ?_, fun c hc => ?_, fun c hc => ?_, fun c hc i hi => ?_, fun c hc => ?_, fun c hc => ?_, fun c hc => ?_, ?_, ?_, ?_, ?_⟩ <;> (try simp only [vup_rd, va_up, tpl, tld, tnl, tnt, tst, thd, tup, tla, tof, tea, tbt, tnu, tfh, tff, Nat.reduceEqDiff, ↓reduceIte]) <;> (try simp only [va_up, tnl] at hi)
  · exact h2
  · exact h3
  · exact h4 c hc
  · exact h5 c hc
  · exact h6 c hc
  · exact h7 c hc
  · exact h8 c hc
  · by_cases e : c = b
    · subst e; simp only [↓reduceIte]; rfl
    · simp only [e, ↓reduceIte]; exact h9 c hc
  · by_cases e : c = b
    · subst e
      simp only [↓reduceIte, upd] at hi ⊢
      by_cases e2 : i = tnl T c
      · subst e2; simp [tnl, tst]; omega
      · rw [if_neg (by simp only [tst, tnl] at *; omega), if_neg e2]; exact h10 c hc i (by simp only [tnl] at *; omega)
    · simp only [e, ↓reduceIte] at hi ⊢
      rw [if_neg ?_]
      · exact h10 c hc i hi
      · have := hB c hc; have := hB b hb
        have hi : i < tnl T c := hi
        simp only [tst, tnl] at *
        omega
  · exact h11 c hc
  · exact h12 c hc
  · exact h13 c hc
  · exact h14
  · exact h15
  · exact h16
  · exact h17
/-- the first letter is worn off -/
theorem CS.we (h : CS σ0 P w y sn T σ) {b : Nat} (hl : 1 ≤ tnl T b) : CS σ0 P w y sn (sSt (sNt (sNl T b (tnl T b - 1)) b (fun i => tnt T b (i + 1))) b (tst T b + 1)) (vup σ 20 b (nI (tst T b + 1))) := by
  obtain ⟨⟨h0, h1⟩, ⟨h2, h3⟩, h4, h5, h6, h7, h8, h9, h10, h11, h12, h13, h14, h15, h16, h17⟩ := h
  refine ⟨⟨h0, h1.up (by decide) (by decide)⟩, ⟨?_, ?_⟩, fun c hc => ?_, fun c hc => ?_, fun c hc => ?_, fun c hc => ?_, fun c hc => ?_, fun c hc => ?_, fun c hc i hi => ?_, fun c hc => ?_, fun c hc => ?_, fun c hc => ?_, ?_, ?_, ?_, ?_⟩ <;> (try simp only [vup_rd, va_up, tpl, tld, tnl, tnt, tst, thd, tup, tla, tof, tea, tbt, tnu, tfh, tff, Nat.reduceEqDiff, ↓reduceIte]) <;> (try simp only [va_up, tnl] at hi)
  · exact h2
  · exact h3
  · exact h4 c hc
  · exact h5 c hc
  · exact h6 c hc
  · exact h7 c hc
  · by_cases e : c = b <;> simp only [e, ↓reduceIte]; exact h8 c hc
  · by_cases e : c = b
    · subst e; simp only [↓reduceIte]
      rw [h9 c hc, show tst T c + 1 + (tnl T c - 1) = tst T c + tnl T c by omega]
    · simp only [e, ↓reduceIte]; exact h9 c hc
  · by_cases e : c = b
    · subst e
      simp only [↓reduceIte] at hi ⊢
      rw [show 21 * c + (T.1.2.2.2.2.1 c + 1) + i = 21 * c + tst T c + (i + 1) by simp only [tst]; omega]
      exact h10 c hc (i + 1) (by simp only [tnl]; omega)
    · simp only [e, ↓reduceIte] at hi ⊢; exact h10 c hc i hi
  · exact h11 c hc
  · exact h12 c hc
  · exact h13 c hc
  · exact h14
  · exact h15
  · exact h16
  · exact h17
theorem CS.e14 (h : CS σ0 P w y sn T σ) {b : Nat} (hb : b < pnb P) : σ.1 14 b = (if sn b = true then nI (tpl T b) else -1) := h.2.2.1 b hb
theorem CS.e15 (h : CS σ0 P w y sn T σ) {b : Nat} (hb : b < pnb P) : σ.1 15 b = nI (tld T b) := h.2.2.2.1 b hb
theorem CS.e17 (h : CS σ0 P w y sn T σ) {b : Nat} (hb : b < pnb P) : σ.1 17 b = tup T b := h.2.2.2.2.1 b hb
theorem CS.e18 (h : CS σ0 P w y sn T σ) {b : Nat} (hb : b < pnb P) : σ.1 18 b = b2 (thd T b) := h.2.2.2.2.2.1 b hb
theorem CS.e20 (h : CS σ0 P w y sn T σ) {b : Nat} (hb : b < pnb P) : σ.1 20 b = nI (tst T b) := h.2.2.2.2.2.2.1 b hb
theorem CS.e21 (h : CS σ0 P w y sn T σ) {b : Nat} (hb : b < pnb P) : σ.1 21 b = nI (tst T b + tnl T b) := h.2.2.2.2.2.2.2.1 b hb
theorem CS.e19 (h : CS σ0 P w y sn T σ) {b : Nat} (hb : b < pnb P) {i : Nat} (hi : i < tnl T b) : σ.1 19 (21 * b + tst T b + i) = tnt T b i := h.2.2.2.2.2.2.2.2.1 b hb i hi
theorem CS.e22 (h : CS σ0 P w y sn T σ) {f : Nat} (hf : f < pnf P) : σ.1 22 f = tla T f := h.2.2.2.2.2.2.2.2.2.1 f hf
theorem CS.e23 (h : CS σ0 P w y sn T σ) {f : Nat} (hf : f < pnf P) : σ.1 23 f = tof T f := h.2.2.2.2.2.2.2.2.2.2.1 f hf
theorem CS.e24 (h : CS σ0 P w y sn T σ) {f : Nat} (hf : f < pnf P) : σ.1 24 f = nI (tea T f) := h.2.2.2.2.2.2.2.2.2.2.2.1 f hf
theorem CS.enu (h : CS σ0 P w y sn T σ) : σ.1 13 14 = nI (tnu T) := h.2.2.2.2.2.2.2.2.2.2.2.2.1
theorem CS.ebt (h : CS σ0 P w y sn T σ) : σ.1 13 15 = tbt T := h.2.2.2.2.2.2.2.2.2.2.2.2.2.1
theorem CS.efh (h : CS σ0 P w y sn T σ) : σ.1 13 16 = tfh T := h.2.2.2.2.2.2.2.2.2.2.2.2.2.2.1
theorem CS.eff (h : CS σ0 P w y sn T σ) : σ.1 13 17 = tff T := h.2.2.2.2.2.2.2.2.2.2.2.2.2.2.2
theorem CS.ewi (h : CS σ0 P w y sn T σ) : σ.1 13 1 = b2 w := h.2.1.1
theorem CS.esu (h : CS σ0 P w y sn T σ) : σ.1 13 2 = b2 y := h.2.1.2
end CSr
