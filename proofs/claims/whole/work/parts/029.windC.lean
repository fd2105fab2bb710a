theorem pcC_cg {k i p : Nat} {E : List (Nat × Int32)} {w w2 : Mem} (h1 : w2 (k + 1) = w (k + 1)) (h2 : w2 (k + 2) = w (k + 2)) (h3 : w2 (k + 3) = w (k + 3)) (h : pcC k w i p E) : pcC k w2 i p E := by
  unfold pcC at h ⊢
  rw [h1, h2, h3]
  exact h
theorem lwC_cg {k : Nat} {Z : List (Nat × Int32)} {w w2 : Mem} (h1 : w2 (k + 1) = w (k + 1)) (h2 : w2 (k + 2) = w (k + 2)) (h3 : w2 (k + 3) = w (k + 3)) (h6 : w2 k 6 = w k 6) : ∀ (R : List (List (Nat × Int32) × List (Nat × Int32) × List (Nat × Int32))) (i p : Nat), lwC k w Z i p R → lwC k w2 Z i p R
  | [], i, p, h => ⟨pcC_cg h1 h2 h3 h.1, h6.trans h.2.1, h.2.2⟩
  | (A, B, C) :: r, i, p, h => ⟨pcC_cg h1 h2 h3 h.1, pcC_cg h1 h2 h3 h.2.1, pcC_cg h1 h2 h3 h.2.2.1, lwC_cg h1 h2 h3 h6 r _ _ h.2.2.2⟩
/-- the class's law k after one of its variables is set -/
theorem lwC_var {k i : Nat} {v : Int32} {Z : List (Nat × Int32)} {w : Mem} {R : List (List (Nat × Int32) × List (Nat × Int32) × List (Nat × Int32))} (h : lwC k w Z 0 0 R) : lwC k (st w (k + 4) i v) Z 0 0 R :=
  lwC_cg (st_ne _ (by omega)) (st_ne _ (by omega)) (st_ne _ (by omega)) (st_nk (by omega)) R 0 0 h
/-- below 1 there is one lot only -/
theorem lotN_one (s p : Int32) : lotN s p 1 = 0 := by
  show irm _ 1 = 0
  simp only [irm]
  rw [Int32.div_one, Int32.mul_one, Int32.sub_self]
