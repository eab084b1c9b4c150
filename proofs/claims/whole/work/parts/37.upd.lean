/-! the state is changed in one place -/
abbrev aH (A : vA) (x : Int32 × Nat) : vA := (A.1, A.2.1, x, A.2.2.2)
abbrev aW (A : vA) (x : Nat × (Nat → Nat)) : vA := (A.1, A.2.1, A.2.2.1, x, A.2.2.2.2)
abbrev aS (A : vA) (x : Nat × (Nat → Nat)) : vA := (A.1, A.2.1, A.2.2.1, A.2.2.2.1, x, A.2.2.2.2.2)
abbrev aE (A : vA) (x : Nat × (Nat → Nat × Nat × Nat)) : vA := (A.1, A.2.1, A.2.2.1, A.2.2.2.1, A.2.2.2.2.1, x, A.2.2.2.2.2.2)
abbrev aY (A : vA) (x : Nat → Option (Nat × Nat × (Nat → Int32))) : vA := (A.1, A.2.1, A.2.2.1, A.2.2.2.1, A.2.2.2.2.1, A.2.2.2.2.2.1, x, A.2.2.2.2.2.2.2)
abbrev aF (A : vA) (x : Int32) : vA := (A.1, A.2.1, A.2.2.1, A.2.2.2.1, A.2.2.2.2.1, A.2.2.2.2.2.1, A.2.2.2.2.2.2.1, x)
/-- a sheet's place in the class, in the reference -/
def shC (o : Option (Nat × Nat × (Nat → Int32))) (s : Nat) (σ : vMem) : Prop := (o = none → σ.1 35 s = -1) ∧ ∀ f z it, o = some (f, z, it) → σ.1 34 s = nI f ∧ σ.1 35 s = nI z ∧ ∀ i, i < z → σ.1 36 (60 * s + i) = it i
def shM (o : Option (Nat × Nat × (Nat → Int32))) (s : Nat) (σ : vMem) : Prop := (o = none → σ.1 31 s = 0) ∧ ∀ f z it, o = some (f, z, it) → σ.1 31 s = 1 ∧ σ.1 32 s = nI f ∧ σ.1 33 s = nI z ∧ ∀ i, i < z → σ.1 34 (60 * s + i) = it i
theorem RC.winds {A : vA} {σ τ : vMem} (h : RC A σ) {x : Nat × (Nat → Nat)} (f : ∀ a, a ≠ 25 → a ≠ 26 → τ.1 a = σ.1 a) (e1 : τ.1 25 1 = nI x.1) (e2 : ∀ k, k < x.1 → τ.1 26 k = nI (x.2 k)) : RC (aW A x) τ := by
  obtain ⟨h1, ⟨h2a, h2b, h2c⟩, h3, h4, h5, h6, h7, h8⟩ := h
  refine ⟨?_, ⟨?_, ?_, fun w s => DC.of5 (h2c w s) (fun a ha hb => f a (by omega) (by omega))⟩, ?_, ⟨e1, e2⟩, ?_, ?_, ?_, ?_⟩
  · rw [f 1 (by decide) (by decide), f 2 (by decide) (by decide), f 3 (by decide) (by decide), f 4 (by decide) (by decide)]; exact h1
  · rw [f 5 (by decide) (by decide)]; exact h2a
  · rw [f 5 (by decide) (by decide)]; exact h2b
  · rw [f 13 (by decide) (by decide)]; exact h3
  · rw [f 27 (by decide) (by decide), f 28 (by decide) (by decide)]; exact h5
  · rw [f 29 (by decide) (by decide), f 30 (by decide) (by decide), f 31 (by decide) (by decide), f 32 (by decide) (by decide)]; exact h6
  · rw [f 34 (by decide) (by decide), f 35 (by decide) (by decide), f 36 (by decide) (by decide)]; exact h7
  · rw [f 0 (by decide) (by decide)]; exact h8
theorem RC.sundays {A : vA} {σ τ : vMem} (h : RC A σ) {x : Nat × (Nat → Nat)} (f : ∀ a, a ≠ 27 → a ≠ 28 → τ.1 a = σ.1 a) (e1 : τ.1 27 1 = nI x.1) (e2 : ∀ k, k < x.1 → τ.1 28 k = nI (x.2 k)) : RC (aS A x) τ := by
  obtain ⟨h1, ⟨h2a, h2b, h2c⟩, h3, h4, h5, h6, h7, h8⟩ := h
  refine ⟨?_, ⟨?_, ?_, fun w s => DC.of5 (h2c w s) (fun a ha hb => f a (by omega) (by omega))⟩, ?_, ?_, ⟨e1, e2⟩, ?_, ?_, ?_⟩
  · rw [f 1 (by decide) (by decide), f 2 (by decide) (by decide), f 3 (by decide) (by decide), f 4 (by decide) (by decide)]; exact h1
  · rw [f 5 (by decide) (by decide)]; exact h2a
  · rw [f 5 (by decide) (by decide)]; exact h2b
  · rw [f 13 (by decide) (by decide)]; exact h3
  · rw [f 25 (by decide) (by decide), f 26 (by decide) (by decide)]; exact h4
  · rw [f 29 (by decide) (by decide), f 30 (by decide) (by decide), f 31 (by decide) (by decide), f 32 (by decide) (by decide)]; exact h6
  · rw [f 34 (by decide) (by decide), f 35 (by decide) (by decide), f 36 (by decide) (by decide)]; exact h7
  · rw [f 0 (by decide) (by decide)]; exact h8
theorem RC.seen {A : vA} {σ τ : vMem} (h : RC A σ) {x : Nat × (Nat → Nat × Nat × Nat)} (f : ∀ a, a ≠ 29 → a ≠ 30 → a ≠ 31 → a ≠ 32 → τ.1 a = σ.1 a) (e1 : τ.1 29 3 = nI x.1) (e2 : ∀ k, k < x.1 → τ.1 30 k = nI (x.2 k).1 ∧ τ.1 31 k = nI (x.2 k).2.1 ∧ τ.1 32 k = (if (x.2 k).2.2 = 8 then -1 else nI (x.2 k).2.2)) : RC (aE A x) τ := by
  obtain ⟨h1, ⟨h2a, h2b, h2c⟩, h3, h4, h5, h6, h7, h8⟩ := h
  refine ⟨?_, ⟨?_, ?_, fun w s => DC.of5 (h2c w s) (fun a ha hb => f a (by omega) (by omega) (by omega) (by omega))⟩, ?_, ?_, ?_, ⟨e1, e2⟩, ?_, ?_⟩
  · rw [f 1 (by decide) (by decide) (by decide) (by decide), f 2 (by decide) (by decide) (by decide) (by decide), f 3 (by decide) (by decide) (by decide) (by decide), f 4 (by decide) (by decide) (by decide) (by decide)]; exact h1
  · rw [f 5 (by decide) (by decide) (by decide) (by decide)]; exact h2a
  · rw [f 5 (by decide) (by decide) (by decide) (by decide)]; exact h2b
  · rw [f 13 (by decide) (by decide) (by decide) (by decide)]; exact h3
  · rw [f 25 (by decide) (by decide) (by decide) (by decide), f 26 (by decide) (by decide) (by decide) (by decide)]; exact h4
  · rw [f 27 (by decide) (by decide) (by decide) (by decide), f 28 (by decide) (by decide) (by decide) (by decide)]; exact h5
  · rw [f 34 (by decide) (by decide) (by decide) (by decide), f 35 (by decide) (by decide) (by decide) (by decide), f 36 (by decide) (by decide) (by decide) (by decide)]; exact h7
  · rw [f 0 (by decide) (by decide) (by decide) (by decide)]; exact h8
theorem RC.sheets {A : vA} {σ τ : vMem} (h : RC A σ) {x : Nat → Option (Nat × Nat × (Nat → Int32))} (f : ∀ a, a ≠ 34 → a ≠ 35 → a ≠ 36 → τ.1 a = σ.1 a) (e1 : ∀ s, s < 4 → shC (x s) s τ) : RC (aY A x) τ := by
  obtain ⟨h1, ⟨h2a, h2b, h2c⟩, h3, h4, h5, h6, h7, h8⟩ := h
  refine ⟨?_, ⟨?_, ?_, fun w s => DC.of5 (h2c w s) (fun a ha hb => f a (by omega) (by omega) (by omega))⟩, ?_, ?_, ?_, ?_, e1, ?_⟩
  · rw [f 1 (by decide) (by decide) (by decide), f 2 (by decide) (by decide) (by decide), f 3 (by decide) (by decide) (by decide), f 4 (by decide) (by decide) (by decide)]; exact h1
  · rw [f 5 (by decide) (by decide) (by decide)]; exact h2a
  · rw [f 5 (by decide) (by decide) (by decide)]; exact h2b
  · rw [f 13 (by decide) (by decide) (by decide)]; exact h3
  · rw [f 25 (by decide) (by decide) (by decide), f 26 (by decide) (by decide) (by decide)]; exact h4
  · rw [f 27 (by decide) (by decide) (by decide), f 28 (by decide) (by decide) (by decide)]; exact h5
  · rw [f 29 (by decide) (by decide) (by decide), f 30 (by decide) (by decide) (by decide), f 31 (by decide) (by decide) (by decide), f 32 (by decide) (by decide) (by decide)]; exact h6
  · rw [f 0 (by decide) (by decide) (by decide)]; exact h8
theorem RC.finding {A : vA} {σ τ : vMem} (h : RC A σ) {x : Int32} (f : ∀ a, a ≠ 0 → τ.1 a = σ.1 a) (e1 : τ.1 0 14 = x) : RC (aF A x) τ := by
  obtain ⟨h1, ⟨h2a, h2b, h2c⟩, h3, h4, h5, h6, h7, h8⟩ := h
  refine ⟨?_, ⟨?_, ?_, fun w s => DC.of5 (h2c w s) (fun a ha hb => f a (by omega))⟩, ?_, ?_, ?_, ?_, ?_, e1⟩
  · rw [f 1 (by decide), f 2 (by decide), f 3 (by decide), f 4 (by decide)]; exact h1
  · rw [f 5 (by decide)]; exact h2a
  · rw [f 5 (by decide)]; exact h2b
  · rw [f 13 (by decide)]; exact h3
  · rw [f 25 (by decide), f 26 (by decide)]; exact h4
  · rw [f 27 (by decide), f 28 (by decide)]; exact h5
  · rw [f 29 (by decide), f 30 (by decide), f 31 (by decide), f 32 (by decide)]; exact h6
  · rw [f 34 (by decide), f 35 (by decide), f 36 (by decide)]; exact h7
theorem RC.set {A : vA} {σ τ : vMem} (h : RC A σ) {x : Int32 × Nat} (f : ∀ a, a ≠ 5 → τ.1 a = σ.1 a) (f5 : ∀ k, k ≠ 11 → k ≠ 12 → τ.1 5 k = σ.1 5 k) (e1 : τ.1 5 11 = x.1) (e2 : τ.1 5 12 = nI x.2) : RC (aH A x) τ := by
  obtain ⟨h1, ⟨h2a, h2b, h2c⟩, h3, h4, h5, h6, h7, h8⟩ := h
  refine ⟨?_, ⟨?_, ?_, fun w s => ?_⟩, ?_, ?_, ?_, ?_, ?_, ?_⟩
  · rw [f 1 (by decide), f 2 (by decide), f 3 (by decide), f 4 (by decide)]; exact h1
  · rw [f5 1 (by decide) (by decide)]; exact h2a
  · rw [f5 6 (by decide) (by decide)]; exact h2b
  · have hd := h2c w s
    unfold DC at hd ⊢
    rw [f5 0 (by decide) (by decide), f5 5 (by decide) (by decide), f 6 (by decide), f 7 (by decide), f 8 (by decide), f 9 (by decide), f 10 (by decide), f 11 (by decide), f 12 (by decide)]
    exact ⟨⟨hd.1.1, hd.1.2.1, e1, e2⟩, hd.2⟩
  · rw [f 13 (by decide)]; exact h3
  · rw [f 25 (by decide), f 26 (by decide)]; exact h4
  · rw [f 27 (by decide), f 28 (by decide)]; exact h5
  · rw [f 29 (by decide), f 30 (by decide), f 31 (by decide), f 32 (by decide)]; exact h6
  · rw [f 34 (by decide), f 35 (by decide), f 36 (by decide)]; exact h7
  · rw [f 0 (by decide)]; exact h8
theorem RM.set {A : vA} {σ τ : vMem} (h : RM A σ) {x : Int32 × Nat} (f : ∀ a, a ≠ 0 → τ.1 a = σ.1 a) (g : ∀ k, k ≠ 11 → k ≠ 12 → τ.1 0 k = σ.1 0 k) (e1 : τ.1 0 11 = x.1) (e2 : τ.1 0 12 = nI x.2) : RM (aH A x) τ := by
  obtain ⟨h1, h2, h3, h4, h5, h6, h7⟩ := h
  refine ⟨?_, ⟨e1, e2⟩, ?_, ?_, ?_, ?_, ?_⟩
  · unfold HT at h1 ⊢; rw [f 1 (by decide) , f 2 (by decide) ]; exact h1
  · rw [f 10 (by decide) , g 13 (by decide) (by decide)]; exact h3
  · rw [f 11 (by decide) , g 15 (by decide) (by decide)]; exact h4
  · rw [f 27 (by decide) , f 28 (by decide) , f 29 (by decide) , g 37 (by decide) (by decide)]; exact h5
  · rw [f 31 (by decide) , f 32 (by decide) , f 33 (by decide) , f 34 (by decide) ]; exact h6
  · rw [g 47 (by decide) (by decide)]; exact h7
theorem RM.winds {A : vA} {σ τ : vMem} (h : RM A σ) {x : Nat × (Nat → Nat)} (f : ∀ a, a ≠ 0 → a ≠ 10 → τ.1 a = σ.1 a) (g : ∀ k, k ≠ 13 → τ.1 0 k = σ.1 0 k) (e1 : τ.1 0 13 = nI x.1) (e2 : ∀ k, k < x.1 → τ.1 10 k = nI (x.2 k)) : RM (aW A x) τ := by
  obtain ⟨h1, h2, h3, h4, h5, h6, h7⟩ := h
  refine ⟨?_, ?_, ⟨e1, e2⟩, ?_, ?_, ?_, ?_⟩
  · unfold HT at h1 ⊢; rw [f 1 (by decide) (by decide), f 2 (by decide) (by decide)]; exact h1
  · rw [g 11 (by decide), g 12 (by decide)]; exact h2
  · rw [f 11 (by decide) (by decide), g 15 (by decide)]; exact h4
  · rw [f 27 (by decide) (by decide), f 28 (by decide) (by decide), f 29 (by decide) (by decide), g 37 (by decide)]; exact h5
  · rw [f 31 (by decide) (by decide), f 32 (by decide) (by decide), f 33 (by decide) (by decide), f 34 (by decide) (by decide)]; exact h6
  · rw [g 47 (by decide)]; exact h7
theorem RM.sundays {A : vA} {σ τ : vMem} (h : RM A σ) {x : Nat × (Nat → Nat)} (f : ∀ a, a ≠ 0 → a ≠ 11 → τ.1 a = σ.1 a) (g : ∀ k, k ≠ 15 → τ.1 0 k = σ.1 0 k) (e1 : τ.1 0 15 = nI x.1) (e2 : ∀ k, k < x.1 → τ.1 11 k = nI (x.2 k)) : RM (aS A x) τ := by
  obtain ⟨h1, h2, h3, h4, h5, h6, h7⟩ := h
  refine ⟨?_, ?_, ?_, ⟨e1, e2⟩, ?_, ?_, ?_⟩
  · unfold HT at h1 ⊢; rw [f 1 (by decide) (by decide), f 2 (by decide) (by decide)]; exact h1
  · rw [g 11 (by decide), g 12 (by decide)]; exact h2
  · rw [f 10 (by decide) (by decide), g 13 (by decide)]; exact h3
  · rw [f 27 (by decide) (by decide), f 28 (by decide) (by decide), f 29 (by decide) (by decide), g 37 (by decide)]; exact h5
  · rw [f 31 (by decide) (by decide), f 32 (by decide) (by decide), f 33 (by decide) (by decide), f 34 (by decide) (by decide)]; exact h6
  · rw [g 47 (by decide)]; exact h7
theorem RM.seen {A : vA} {σ τ : vMem} (h : RM A σ) {x : Nat × (Nat → Nat × Nat × Nat)} (f : ∀ a, a ≠ 0 → a ≠ 27 → a ≠ 28 → a ≠ 29 → τ.1 a = σ.1 a) (g : ∀ k, k ≠ 37 → τ.1 0 k = σ.1 0 k) (e1 : τ.1 0 37 = nI x.1) (e2 : ∀ k, k < x.1 → τ.1 27 k = nI (x.2 k).1 ∧ τ.1 28 k = nI (x.2 k).2.1 ∧ τ.1 29 k = nI (x.2 k).2.2) : RM (aE A x) τ := by
  obtain ⟨h1, h2, h3, h4, h5, h6, h7⟩ := h
  refine ⟨?_, ?_, ?_, ?_, ⟨e1, e2⟩, ?_, ?_⟩
  · unfold HT at h1 ⊢; rw [f 1 (by decide) (by decide) (by decide) (by decide), f 2 (by decide) (by decide) (by decide) (by decide)]; exact h1
  · rw [g 11 (by decide), g 12 (by decide)]; exact h2
  · rw [f 10 (by decide) (by decide) (by decide) (by decide), g 13 (by decide)]; exact h3
  · rw [f 11 (by decide) (by decide) (by decide) (by decide), g 15 (by decide)]; exact h4
  · rw [f 31 (by decide) (by decide) (by decide) (by decide), f 32 (by decide) (by decide) (by decide) (by decide), f 33 (by decide) (by decide) (by decide) (by decide), f 34 (by decide) (by decide) (by decide) (by decide)]; exact h6
  · rw [g 47 (by decide)]; exact h7
theorem RM.sheets {A : vA} {σ τ : vMem} (h : RM A σ) {x : Nat → Option (Nat × Nat × (Nat → Int32))} (f : ∀ a, a ≠ 0 → a ≠ 31 → a ≠ 32 → a ≠ 33 → a ≠ 34 → a ≠ 35 → τ.1 a = σ.1 a) (g : ∀ k, τ.1 0 k = σ.1 0 k) (e1 : ∀ s, s < 4 → shM (x s) s τ) : RM (aY A x) τ := by
  obtain ⟨h1, h2, h3, h4, h5, h6, h7⟩ := h
  refine ⟨?_, ?_, ?_, ?_, ?_, e1, ?_⟩
  · unfold HT at h1 ⊢; rw [f 1 (by decide) (by decide) (by decide) (by decide) (by decide) (by decide), f 2 (by decide) (by decide) (by decide) (by decide) (by decide) (by decide)]; exact h1
  · rw [g 11 , g 12 ]; exact h2
  · rw [f 10 (by decide) (by decide) (by decide) (by decide) (by decide) (by decide), g 13 ]; exact h3
  · rw [f 11 (by decide) (by decide) (by decide) (by decide) (by decide) (by decide), g 15 ]; exact h4
  · rw [f 27 (by decide) (by decide) (by decide) (by decide) (by decide) (by decide), f 28 (by decide) (by decide) (by decide) (by decide) (by decide) (by decide), f 29 (by decide) (by decide) (by decide) (by decide) (by decide) (by decide), g 37 ]; exact h5
  · rw [g 47 ]; exact h7
theorem RM.finding {A : vA} {σ τ : vMem} (h : RM A σ) {x : Int32} (f : ∀ a, a ≠ 0 → τ.1 a = σ.1 a) (g : ∀ k, k ≠ 47 → τ.1 0 k = σ.1 0 k) (e1 : τ.1 0 47 = x) : RM (aF A x) τ := by
  obtain ⟨h1, h2, h3, h4, h5, h6, h7⟩ := h
  refine ⟨?_, ?_, ?_, ?_, ?_, ?_, e1⟩
  · unfold HT at h1 ⊢; rw [f 1 (by decide) , f 2 (by decide) ]; exact h1
  · rw [g 11 (by decide), g 12 (by decide)]; exact h2
  · rw [f 10 (by decide) , g 13 (by decide)]; exact h3
  · rw [f 11 (by decide) , g 15 (by decide)]; exact h4
  · rw [f 27 (by decide) , f 28 (by decide) , f 29 (by decide) , g 37 (by decide)]; exact h5
  · rw [f 31 (by decide) , f 32 (by decide) , f 33 (by decide) , f 34 (by decide) ]; exact h6
