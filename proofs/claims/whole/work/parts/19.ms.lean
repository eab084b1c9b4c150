/-- the reference's fields hold the data -/
def DM (P : vP) (σ : vMem) : Prop := (σ.1 0 2 = nI (pnf P) ∧ σ.1 0 6 = nI (pnb P) ∧ σ.1 0 11 = phu P ∧ σ.1 0 12 = nI (pwe P)) ∧ (pwi P = bitAt (σ.2 0 17) ∧ psu P = bitAt (σ.2 0 18)) ∧ (∃ tb : Nat → Nat, ∀ f, f < pnf P → σ.1 3 f = pso P f ∧ tb f ≤ 9 ∧ σ.1 4 f = nI (tb f) ∧ pbi P f = (if bitAt (σ.1 0 19).toInt64 f = true then 0 else tb f) ∧ σ.1 5 f = pwo P f) ∧ (∀ b, b < pnb P → σ.1 6 b = nI (pho P b) ∧ σ.1 7 b = nI (plo P b) ∧ σ.1 8 b = nI (ple P b) ∧ ∀ i, i < ple P b → σ.1 9 (3 * b + i) = pte P b i)
/-- nothing but the trip's cells has changed -/
def Fr12 (σ τ : vMem) : Prop := (∀ a, a ≠ 0 → a < 12 ∨ 25 < a → τ.1 a = σ.1 a) ∧ (∀ k, k ≠ 30 → k ≠ 31 → τ.1 0 k = σ.1 0 k) ∧ τ.2 = σ.2
theorem Fr12.rf (σ : vMem) : Fr12 σ σ := ⟨fun _ _ _ => rfl, fun _ _ _ => rfl, rfl⟩
theorem Fr12.tr {a b c : vMem} (h : Fr12 a b) (h2 : Fr12 b c) : Fr12 a c := ⟨fun x h0 hx => (h2.1 x h0 hx).trans (h.1 x h0 hx), fun k h0 h1 => (h2.2.1 k h0 h1).trans (h.2.1 k h0 h1), h2.2.2.trans h.2.2⟩
theorem Fr12.up {σ τ : vMem} (h : Fr12 σ τ) {n k : Nat} {x : Int32} (h1 : 12 ≤ n) (h2 : n ≤ 25) : Fr12 σ (vup τ n k x) := ⟨fun a h0 ha => by
  rw [vup_ne _ _ (by omega)]
  exact h.1 a h0 ha, fun j h0 h1 => by
  rw [vup_ne _ _ (by omega)]
  exact h.2.1 j h0 h1, h.2.2⟩
theorem Fr12.up0 {σ τ : vMem} (h : Fr12 σ τ) {k : Nat} {x : Int32} (hk : k = 30 ∨ k = 31) : Fr12 σ (vup τ 0 k x) := ⟨fun a h0 ha => by
  rw [vup_ne _ _ (by omega)]
  exact h.1 a h0 ha, fun j h0 h1 => by
  rw [vup_rd, if_pos rfl, if_neg (by omega)]
  exact h.2.1 j h0 h1, h.2.2⟩
theorem Fr12.dm {P : vP} {σ τ : vMem} (h : Fr12 σ τ) (hd : DM P σ) : DM P τ := by
  unfold DM at hd ⊢
  rw [h.1 3 (by decide) (by decide), h.1 4 (by decide) (by decide), h.1 5 (by decide) (by decide), h.1 6 (by decide) (by decide), h.1 7 (by decide) (by decide), h.1 8 (by decide) (by decide), h.1 9 (by decide) (by decide), h.2.1 2 (by decide) (by decide), h.2.1 6 (by decide) (by decide), h.2.1 11 (by decide) (by decide), h.2.1 12 (by decide) (by decide), h.2.1 19 (by decide) (by decide), h.2.2]
  exact hd
def MS (σ0 : vMem) (P : vP) (q : Nat) (sn : Nat → Bool) (T : vT) (σ : vMem) : Prop :=
  ((DM P σ0 ∧ Fr12 σ0 σ) ∧ ∀ a j, 22 ≤ a → a ≤ 25 → j < q → σ.1 a j = σ0.1 a j) ∧
  (∀ b, b < pnb P → σ.1 12 b = (if sn b = true then nI (tpl T b) else -1)) ∧
  (∀ b, b < pnb P → σ.1 13 b = nI (tld T b)) ∧
  (∀ b, b < pnb P → σ.1 14 b = nI (tnl T b)) ∧
  (∀ b, b < pnb P → ∀ i, i < tnl T b → σ.1 15 (24 * b + i) = tnt T b i) ∧
  (∀ b, b < pnb P → σ.1 16 b = b2 (thd T b)) ∧
  (∀ b, b < pnb P → σ.1 17 b = nI (tpl T b)) ∧
  (∀ b, b < pnb P → σ.1 18 b = tup T b) ∧
  (∀ f, f < pnf P → σ.1 19 f = tla T f) ∧
  (∀ f, f < pnf P → σ.1 20 f = tof T f) ∧
  (∀ f, f < pnf P → σ.1 21 f = nI (tea T f)) ∧
  σ.1 0 30 = tfh T ∧ σ.1 0 31 = tff T
theorem MS.dm {σ0 : vMem} {P : vP} {q : Nat} {sn : Nat → Bool} {T : vT} {σ : vMem} (h : MS σ0 P q sn T σ) : DM P σ := h.1.1.2.dm h.1.1.1
section MSr
variable {σ0 : vMem} {P : vP} {q : Nat} {sn : Nat → Bool} {T : vT} {σ : vMem}
theorem MS.ld (h : MS σ0 P q sn T σ) {b x : Nat} : MS σ0 P q sn (sLd T b x) (vup σ 13 b (nI x)) := by
  obtain ⟨⟨⟨h0, h1⟩, h2⟩, h4, h5, h6, h7, h8, h9, h10, h11, h12, h13, h14, h15⟩ := h
  refine ⟨⟨⟨h0, h1.up (by decide) (by decide)⟩, fun a j ha1 ha2 hj => ?_⟩, fun c hc => ?_, fun c hc => ?_, fun c hc => ?_, fun c hc i hi => ?_, fun c hc => ?_, fun c hc => ?_, fun c hc => ?_, fun c hc => ?_, fun c hc => ?_, fun c hc => ?_, ?_, ?_⟩ <;> (try simp only [vup_rd, va_up, tpl, tld, tnl, tnt, tst, thd, tup, tla, tof, tea, tbt, tnu, tfh, tff, Nat.reduceEqDiff, ↓reduceIte])
  · rw [if_neg (by omega)]; exact h2 a j ha1 ha2 hj
  · exact h4 c hc
  · by_cases e : c = b <;> simp only [e, ↓reduceIte]; exact h5 c hc
  · exact h6 c hc
  · exact h7 c hc i hi
  · exact h8 c hc
  · exact h9 c hc
  · exact h10 c hc
  · exact h11 c hc
  · exact h12 c hc
  · exact h13 c hc
  · exact h14
  · exact h15
theorem MS.up (h : MS σ0 P q sn T σ) {b : Nat} {x : Int32} : MS σ0 P q sn (sUp T b x) (vup σ 18 b (x)) := by
  obtain ⟨⟨⟨h0, h1⟩, h2⟩, h4, h5, h6, h7, h8, h9, h10, h11, h12, h13, h14, h15⟩ := h
  refine ⟨⟨⟨h0, h1.up (by decide) (by decide)⟩, fun a j ha1 ha2 hj => ?_⟩, fun c hc => ?_, fun c hc => ?_, fun c hc => ?_, fun c hc i hi => ?_, fun c hc => ?_, fun c hc => ?_, fun c hc => ?_, fun c hc => ?_, fun c hc => ?_, fun c hc => ?_, ?_, ?_⟩ <;> (try simp only [vup_rd, va_up, tpl, tld, tnl, tnt, tst, thd, tup, tla, tof, tea, tbt, tnu, tfh, tff, Nat.reduceEqDiff, ↓reduceIte])
  · rw [if_neg (by omega)]; exact h2 a j ha1 ha2 hj
  · exact h4 c hc
  · exact h5 c hc
  · exact h6 c hc
  · exact h7 c hc i hi
  · exact h8 c hc
  · exact h9 c hc
  · by_cases e : c = b <;> simp only [e, ↓reduceIte]; exact h10 c hc
  · exact h11 c hc
  · exact h12 c hc
  · exact h13 c hc
  · exact h14
  · exact h15
theorem MS.hd (h : MS σ0 P q sn T σ) {b : Nat} {x : Bool} : MS σ0 P q sn (sHd T b x) (vup σ 16 b (b2 x)) := by
  obtain ⟨⟨⟨h0, h1⟩, h2⟩, h4, h5, h6, h7, h8, h9, h10, h11, h12, h13, h14, h15⟩ := h
  refine ⟨⟨⟨h0, h1.up (by decide) (by decide)⟩, fun a j ha1 ha2 hj => ?_⟩, fun c hc => ?_, fun c hc => ?_, fun c hc => ?_, fun c hc i hi => ?_, fun c hc => ?_, fun c hc => ?_, fun c hc => ?_, fun c hc => ?_, fun c hc => ?_, fun c hc => ?_, ?_, ?_⟩ <;> (try simp only [vup_rd, va_up, tpl, tld, tnl, tnt, tst, thd, tup, tla, tof, tea, tbt, tnu, tfh, tff, Nat.reduceEqDiff, ↓reduceIte])
  · rw [if_neg (by omega)]; exact h2 a j ha1 ha2 hj
  · exact h4 c hc
  · exact h5 c hc
  · exact h6 c hc
  · exact h7 c hc i hi
  · by_cases e : c = b <;> simp only [e, ↓reduceIte]; exact h8 c hc
  · exact h9 c hc
  · exact h10 c hc
  · exact h11 c hc
  · exact h12 c hc
  · exact h13 c hc
  · exact h14
  · exact h15
theorem MS.la (h : MS σ0 P q sn T σ) {f : Nat} {x : Int32} : MS σ0 P q sn (sLa T f x) (vup σ 19 f (x)) := by
  obtain ⟨⟨⟨h0, h1⟩, h2⟩, h4, h5, h6, h7, h8, h9, h10, h11, h12, h13, h14, h15⟩ := h
  refine ⟨⟨⟨h0, h1.up (by decide) (by decide)⟩, fun a j ha1 ha2 hj => ?_⟩, fun c hc => ?_, fun c hc => ?_, fun c hc => ?_, fun c hc i hi => ?_, fun c hc => ?_, fun c hc => ?_, fun c hc => ?_, fun c hc => ?_, fun c hc => ?_, fun c hc => ?_, ?_, ?_⟩ <;> (try simp only [vup_rd, va_up, tpl, tld, tnl, tnt, tst, thd, tup, tla, tof, tea, tbt, tnu, tfh, tff, Nat.reduceEqDiff, ↓reduceIte])
  · rw [if_neg (by omega)]; exact h2 a j ha1 ha2 hj
  · exact h4 c hc
  · exact h5 c hc
  · exact h6 c hc
  · exact h7 c hc i hi
  · exact h8 c hc
  · exact h9 c hc
  · exact h10 c hc
  · by_cases e : c = f <;> simp only [e, ↓reduceIte]; exact h11 c hc
  · exact h12 c hc
  · exact h13 c hc
  · exact h14
  · exact h15
theorem MS.of (h : MS σ0 P q sn T σ) {f : Nat} {x : Int32} : MS σ0 P q sn (sOf T f x) (vup σ 20 f (x)) := by
  obtain ⟨⟨⟨h0, h1⟩, h2⟩, h4, h5, h6, h7, h8, h9, h10, h11, h12, h13, h14, h15⟩ := h
  refine ⟨⟨⟨h0, h1.up (by decide) (by decide)⟩, fun a j ha1 ha2 hj => ?_⟩, fun c hc => ?_, fun c hc => ?_, fun c hc => ?_, fun c hc i hi => ?_, fun c hc => ?_, fun c hc => ?_, fun c hc => ?_, fun c hc => ?_, fun c hc => ?_, fun c hc => ?_, ?_, ?_⟩ <;> (try simp only [vup_rd, va_up, tpl, tld, tnl, tnt, tst, thd, tup, tla, tof, tea, tbt, tnu, tfh, tff, Nat.reduceEqDiff, ↓reduceIte])
  · rw [if_neg (by omega)]; exact h2 a j ha1 ha2 hj
  · exact h4 c hc
  · exact h5 c hc
  · exact h6 c hc
  · exact h7 c hc i hi
  · exact h8 c hc
  · exact h9 c hc
  · exact h10 c hc
  · exact h11 c hc
  · by_cases e : c = f <;> simp only [e, ↓reduceIte]; exact h12 c hc
  · exact h13 c hc
  · exact h14
  · exact h15
theorem MS.ea (h : MS σ0 P q sn T σ) {f : Nat} {x : Nat} : MS σ0 P q sn (sEa T f x) (vup σ 21 f (nI x)) := by
  obtain ⟨⟨⟨h0, h1⟩, h2⟩, h4, h5, h6, h7, h8, h9, h10, h11, h12, h13, h14, h15⟩ := h
  refine ⟨⟨⟨h0, h1.up (by decide) (by decide)⟩, fun a j ha1 ha2 hj => ?_⟩, fun c hc => ?_, fun c hc => ?_, fun c hc => ?_, fun c hc i hi => ?_, fun c hc => ?_, fun c hc => ?_, fun c hc => ?_, fun c hc => ?_, fun c hc => ?_, fun c hc => ?_, ?_, ?_⟩ <;> (try simp only [vup_rd, va_up, tpl, tld, tnl, tnt, tst, thd, tup, tla, tof, tea, tbt, tnu, tfh, tff, Nat.reduceEqDiff, ↓reduceIte])
  · rw [if_neg (by omega)]; exact h2 a j ha1 ha2 hj
  · exact h4 c hc
  · exact h5 c hc
  · exact h6 c hc
  · exact h7 c hc i hi
  · exact h8 c hc
  · exact h9 c hc
  · exact h10 c hc
  · exact h11 c hc
  · exact h12 c hc
  · by_cases e : c = f <;> simp only [e, ↓reduceIte]; exact h13 c hc
  · exact h14
  · exact h15
theorem MS.fh (h : MS σ0 P q sn T σ) {x : Int32} : MS σ0 P q sn (sFh T x) (vup σ 0 30 (x)) := by
  obtain ⟨⟨⟨h0, h1⟩, h2⟩, h4, h5, h6, h7, h8, h9, h10, h11, h12, h13, h14, h15⟩ := h
  refine ⟨⟨⟨h0, h1.up0 (by decide)⟩, fun a j ha1 ha2 hj => ?_⟩, fun c hc => ?_, fun c hc => ?_, fun c hc => ?_, fun c hc i hi => ?_, fun c hc => ?_, fun c hc => ?_, fun c hc => ?_, fun c hc => ?_, fun c hc => ?_, fun c hc => ?_, ?_, ?_⟩ <;> (try simp only [vup_rd, va_up, tpl, tld, tnl, tnt, tst, thd, tup, tla, tof, tea, tbt, tnu, tfh, tff, Nat.reduceEqDiff, ↓reduceIte])
  · rw [if_neg (by omega)]; exact h2 a j ha1 ha2 hj
  · exact h4 c hc
  · exact h5 c hc
  · exact h6 c hc
  · exact h7 c hc i hi
  · exact h8 c hc
  · exact h9 c hc
  · exact h10 c hc
  · exact h11 c hc
  · exact h12 c hc
  · exact h13 c hc
  · exact h15
theorem MS.ff (h : MS σ0 P q sn T σ) {x : Int32} : MS σ0 P q sn (sFf T x) (vup σ 0 31 (x)) := by
  obtain ⟨⟨⟨h0, h1⟩, h2⟩, h4, h5, h6, h7, h8, h9, h10, h11, h12, h13, h14, h15⟩ := h
  refine ⟨⟨⟨h0, h1.up0 (by decide)⟩, fun a j ha1 ha2 hj => ?_⟩, fun c hc => ?_, fun c hc => ?_, fun c hc => ?_, fun c hc i hi => ?_, fun c hc => ?_, fun c hc => ?_, fun c hc => ?_, fun c hc => ?_, fun c hc => ?_, fun c hc => ?_, ?_, ?_⟩ <;> (try simp only [vup_rd, va_up, tpl, tld, tnl, tnt, tst, thd, tup, tla, tof, tea, tbt, tnu, tfh, tff, Nat.reduceEqDiff, ↓reduceIte])
  · rw [if_neg (by omega)]; exact h2 a j ha1 ha2 hj
  · exact h4 c hc
  · exact h5 c hc
  · exact h6 c hc
  · exact h7 c hc i hi
  · exact h8 c hc
  · exact h9 c hc
  · exact h10 c hc
  · exact h11 c hc
  · exact h12 c hc
  · exact h13 c hc
  · exact h14
theorem MS.pl (h : MS σ0 P q sn T σ) {b x : Nat} (hs : sn b = true) : MS σ0 P q sn (sPl T b x) (vup (vup σ 12 b (nI x)) 17 b (nI x)) := by
  obtain ⟨⟨⟨h0, h1⟩, h2⟩, h4, h5, h6, h7, h8, h9, h10, h11, h12, h13, h14, h15⟩ := h
  refine ⟨⟨⟨h0, (h1.up (by decide) (by decide)).up (by decide) (by decide)⟩, fun a j ha1 ha2 hj => ?_⟩, fun c hc => ?_, fun c hc => ?_, fun c hc => ?_, fun c hc i hi => ?_, fun c hc => ?_, fun c hc => ?_, fun c hc => ?_, fun c hc => ?_, fun c hc => ?_, fun c hc => ?_, ?_, ?_⟩ <;> (try simp only [vup_rd, va_up, tpl, tld, tnl, tnt, tst, thd, tup, tla, tof, tea, tbt, tnu, tfh, tff, Nat.reduceEqDiff, ↓reduceIte])
  · rw [if_neg (by omega), if_neg (by omega)]; exact h2 a j ha1 ha2 hj
  · by_cases e : c = b
    · subst e; simp only [hs, ↓reduceIte]
    · simp only [e, ↓reduceIte]; exact h4 c hc
  · exact h5 c hc
  · exact h6 c hc
  · exact h7 c hc i hi
  · exact h8 c hc
  · by_cases e : c = b <;> simp only [e, ↓reduceIte]; exact h9 c hc
  · exact h10 c hc
  · exact h11 c hc
  · exact h12 c hc
  · exact h13 c hc
  · exact h14
  · exact h15
theorem MS.ar (h : MS σ0 P q sn T σ) {b : Nat} (hb : tpl T b = 0) : MS σ0 P q (va_up sn b true) T (vup σ 12 b 0) := by
  obtain ⟨⟨⟨h0, h1⟩, h2⟩, h4, h5, h6, h7, h8, h9, h10, h11, h12, h13, h14, h15⟩ := h
  refine ⟨⟨⟨h0, h1.up (by decide) (by decide)⟩, fun a j ha1 ha2 hj => ?_⟩, fun c hc => ?_, fun c hc => ?_, fun c hc => ?_, fun c hc i hi => ?_, fun c hc => ?_, fun c hc => ?_, fun c hc => ?_, fun c hc => ?_, fun c hc => ?_, fun c hc => ?_, ?_, ?_⟩ <;> (try simp only [vup_rd, va_up, tpl, tld, tnl, tnt, tst, thd, tup, tla, tof, tea, tbt, tnu, tfh, tff, Nat.reduceEqDiff, ↓reduceIte])
  · rw [if_neg (by omega)]; exact h2 a j ha1 ha2 hj
  · by_cases e : c = b
    · subst e; simp only [tpl] at hb; simp only [hb, ↓reduceIte]; rfl
    · simp only [e, ↓reduceIte]; exact h4 c hc
  · exact h5 c hc
  · exact h6 c hc
  · exact h7 c hc i hi
  · exact h8 c hc
  · exact h9 c hc
  · exact h10 c hc
  · exact h11 c hc
  · exact h12 c hc
  · exact h13 c hc
  · exact h14
  · exact h15
theorem MS.sent {sn' : Nat → Bool} (h : MS σ0 P q sn T σ) (he : ∀ b, b < pnb P → sn' b = sn b) : MS σ0 P q sn' T σ := by
  obtain ⟨h0, h4, h5⟩ := h
  exact ⟨h0, fun b hb => by rw [he b hb]; exact h4 b hb, h5⟩
theorem MS.rec (h : MS σ0 P q sn T σ) {n j0 : Nat} {x : Int32} (hn1 : 22 ≤ n) (hn2 : n ≤ 25) (hj0 : q ≤ j0) : MS σ0 P q sn T (vup σ n j0 x) := by
  obtain ⟨⟨⟨h0, h1⟩, h2⟩, h4, h5, h6, h7, h8, h9, h10, h11, h12, h13, h14, h15⟩ := h
  refine ⟨⟨⟨h0, h1.up (by omega) (by omega)⟩, fun a j ha1 ha2 hj => ?_⟩, fun c hc => ?_, fun c hc => ?_, fun c hc => ?_, fun c hc i hi => ?_, fun c hc => ?_, fun c hc => ?_, fun c hc => ?_, fun c hc => ?_, fun c hc => ?_, fun c hc => ?_, ?_, ?_⟩
  · rw [vup_rd]; by_cases e : a = n
    · subst e; rw [if_pos rfl, if_neg (by omega)]; exact h2 a j ha1 ha2 hj
    · rw [if_neg e]; exact h2 a j ha1 ha2 hj
  · rw [vup_ne _ _ (by omega)]; exact h4 c hc
  · rw [vup_ne _ _ (by omega)]; exact h5 c hc
  · rw [vup_ne _ _ (by omega)]; exact h6 c hc
  · rw [vup_ne _ _ (by omega)]; exact h7 c hc i hi
  · rw [vup_ne _ _ (by omega)]; exact h8 c hc
  · rw [vup_ne _ _ (by omega)]; exact h9 c hc
  · rw [vup_ne _ _ (by omega)]; exact h10 c hc
  · rw [vup_ne _ _ (by omega)]; exact h11 c hc
  · rw [vup_ne _ _ (by omega)]; exact h12 c hc
  · rw [vup_ne _ _ (by omega)]; exact h13 c hc
  · rw [vup_ne _ _ (by omega)]; exact h14
  · rw [vup_ne _ _ (by omega)]; exact h15
theorem MS.mi (h : MS σ0 P q sn T σ) {b : Nat} {x : Int32} (hb : b < pnb P) (hB : ∀ c, c < pnb P → tnl T c ≤ 24 ∧ 1 ≤ tnl T c) : MS σ0 P q sn (sNt T b (upd (tnt T b) 0 x)) (vup σ 15 (24 * b) x) := by
  obtain ⟨⟨⟨h0, h1⟩, h2⟩, h4, h5, h6, h7, h8, h9, h10, h11, h12, h13, h14, h15⟩ := h
  refine ⟨⟨⟨h0, h1.up (by decide) (by decide)⟩, fun a j ha1 ha2 hj => ?_⟩, fun c hc => ?_, fun c hc => ?_, fun c hc => ?_, fun c hc i hi => ?_, fun c hc => ?_, fun c hc => ?_, fun c hc => ?_, fun c hc => ?_, fun c hc => ?_, fun c hc => ?_, ?_, ?_⟩ <;> (try simp only [vup_rd, va_up, tpl, tld, tnl, tnt, tst, thd, tup, tla, tof, tea, tbt, tnu, tfh, tff, Nat.reduceEqDiff, ↓reduceIte])
  · rw [if_neg (by omega)]; exact h2 a j ha1 ha2 hj
  · exact h4 c hc
  · exact h5 c hc
  · exact h6 c hc
  · by_cases e : c = b
    · subst e
      simp only [↓reduceIte, upd]
      by_cases e2 : i = 0
      · subst e2; simp
      · rw [if_neg (by omega), if_neg e2]; exact h7 c hc i hi
    · rw [if_neg e, if_neg ?_]
      · exact h7 c hc i hi
      · have := hB c hc; have := hB b hb
        have hi : i < tnl T c := hi
        simp only [tnl] at *
        omega
  · exact h8 c hc
  · exact h9 c hc
  · exact h10 c hc
  · exact h11 c hc
  · exact h12 c hc
  · exact h13 c hc
  · exact h14
  · exact h15
theorem MS.wo (h : MS σ0 P q sn T σ) {b : Nat} {x : Int32} (hb : b < pnb P) (hB : ∀ c, c < pnb P → tnl T c ≤ 24) (hl : tnl T b < 24) : MS σ0 P q sn (sNl (sNt T b (upd (tnt T b) (tnl T b) x)) b (tnl T b + 1)) (vup (vup σ 15 (24 * b + tnl T b) x) 14 b (nI (tnl T b + 1))) := by
  obtain ⟨⟨⟨h0, h1⟩, h2⟩, h4, h5, h6, h7, h8, h9, h10, h11, h12, h13, h14, h15⟩ := h
  refine ⟨⟨⟨h0, (h1.up (by decide) (by decide)).up (by decide) (by decide)⟩, fun a j ha1 ha2 hj => ?_⟩, fun c hc => ?_, fun c hc => ?_, fun c hc => ?_, fun c hc i hi => ?_, fun c hc => ?_, fun c hc => ?_, fun c hc => ?_, fun c hc => ?_, fun c hc => ?_, fun c hc => ?_, ?_, ?_⟩ <;> (try simp only [vup_rd, va_up, tpl, tld, tnl, tnt, tst, thd, tup, tla, tof, tea, tbt, tnu, tfh, tff, Nat.reduceEqDiff, ↓reduceIte]) <;> (try simp only [va_up, tnl] at hi)
  · rw [if_neg (by omega), if_neg (by omega)]; exact h2 a j ha1 ha2 hj
  · exact h4 c hc
  · exact h5 c hc
  · by_cases e : c = b
    · subst e; simp only [↓reduceIte]
    · simp only [e, ↓reduceIte]; exact h6 c hc
  · by_cases e : c = b
    · subst e
      simp only [↓reduceIte, upd] at hi ⊢
      by_cases e2 : i = tnl T c
      · subst e2; simp [tnl]
      · rw [if_neg (by simp only [tnl] at *; omega), if_neg e2]; exact h7 c hc i (by simp only [tnl] at *; omega)
    · simp only [e, ↓reduceIte] at hi ⊢
      rw [if_neg ?_]
      · exact h7 c hc i hi
      · have := hB c hc; have := hB b hb
        have hi : i < tnl T c := hi
        simp only [tnl] at *
        omega
  · exact h8 c hc
  · exact h9 c hc
  · exact h10 c hc
  · exact h11 c hc
  · exact h12 c hc
  · exact h13 c hc
  · exact h14
  · exact h15
theorem MS.e12 (h : MS σ0 P q sn T σ) {b : Nat} (hb : b < pnb P) : σ.1 12 b = (if sn b = true then nI (tpl T b) else -1) := h.2.1 b hb
theorem MS.e13 (h : MS σ0 P q sn T σ) {b : Nat} (hb : b < pnb P) : σ.1 13 b = nI (tld T b) := h.2.2.1 b hb
theorem MS.e14 (h : MS σ0 P q sn T σ) {b : Nat} (hb : b < pnb P) : σ.1 14 b = nI (tnl T b) := h.2.2.2.1 b hb
theorem MS.e15 (h : MS σ0 P q sn T σ) {b : Nat} (hb : b < pnb P) {i : Nat} (hi : i < tnl T b) : σ.1 15 (24 * b + i) = tnt T b i := h.2.2.2.2.1 b hb i hi
theorem MS.e16 (h : MS σ0 P q sn T σ) {b : Nat} (hb : b < pnb P) : σ.1 16 b = b2 (thd T b) := h.2.2.2.2.2.1 b hb
theorem MS.e17 (h : MS σ0 P q sn T σ) {b : Nat} (hb : b < pnb P) : σ.1 17 b = nI (tpl T b) := h.2.2.2.2.2.2.1 b hb
theorem MS.e18 (h : MS σ0 P q sn T σ) {b : Nat} (hb : b < pnb P) : σ.1 18 b = tup T b := h.2.2.2.2.2.2.2.1 b hb
theorem MS.e19 (h : MS σ0 P q sn T σ) {f : Nat} (hf : f < pnf P) : σ.1 19 f = tla T f := h.2.2.2.2.2.2.2.2.1 f hf
theorem MS.e20 (h : MS σ0 P q sn T σ) {f : Nat} (hf : f < pnf P) : σ.1 20 f = tof T f := h.2.2.2.2.2.2.2.2.2.1 f hf
theorem MS.e21 (h : MS σ0 P q sn T σ) {f : Nat} (hf : f < pnf P) : σ.1 21 f = nI (tea T f) := h.2.2.2.2.2.2.2.2.2.2.1 f hf
theorem MS.efh (h : MS σ0 P q sn T σ) : σ.1 0 30 = tfh T := h.2.2.2.2.2.2.2.2.2.2.2.1
theorem MS.eff (h : MS σ0 P q sn T σ) : σ.1 0 31 = tff T := h.2.2.2.2.2.2.2.2.2.2.2.2
theorem MS.bt (h : MS σ0 P q sn T σ) (x : Int32) : MS σ0 P q sn (sBt T x) σ := h
theorem MS.nu (h : MS σ0 P q sn T σ) (x : Nat) : MS σ0 P q sn (sNu T x) σ := h
theorem MS.st (h : MS σ0 P q sn T σ) (b x : Nat) : MS σ0 P q sn (sSt T b x) σ := h
end MSr
