/-- the reference's codes from f to g are the expression E -/
def pcR (cl ch : Nat) (w : Mem) (f g : Int32) (E : List (Nat × Int32)) : Prop :=
  ∃ a : Nat, f = nI a ∧ g = nI (a + E.length) ∧ cl ≤ a ∧ a + E.length ≤ ch ∧ ch ≤ 840 ∧ cda nI (w 175) (w 176) a E ∧ wfS E 0
theorem frR_row {w w2 : Mem} (f : frR w w2) (a : Nat) (h : a ≠ 179) (h2 : a ≠ 150) : w2 a = w a := funext (fun j => f a h j (by omega))
theorem frR_tr {w w2 w3 : Mem} (h : frR w w2) (h2 : frR w2 w3) : frR w w3 := fun a ha j hj => (h2 a ha j hj).trans (h a ha j hj)
theorem pcR_fr {cl ch : Nat} {w w2 : Mem} {f g : Int32} {E : List (Nat × Int32)} (h : frR w w2) (q : pcR cl ch w f g E) : pcR cl ch w2 f g E := by
  obtain ⟨a, h1, h2, h3, h6, h7, h4, h5⟩ := q
  exact ⟨a, h1, h2, h3, h6, h7, by rw [frR_row h 175 (by decide) (by decide), frR_row h 176 (by decide) (by decide)]; exact h4, h5⟩
theorem r_term1 {cl ch : Nat} {V : Nat → Int32} {E : List (Nat × Int32)} {f g : Int32} {w : Mem} {wl : MemL} {Q : Int32 → Mem → MemL → Prop} (hp : pcR cl ch w f g E) (hV : ∀ j, j < 11 → w 178 j = V j)
    (K : ∀ v w2, evS V E [] = some v → frR w w2 → w2 150 46 = w 150 46 → Q v w2 wl)
    (KN : ∀ w2, evS V E [] = none → frR w w2 → w2 150 46 = 1 → Q 0 w2 wl) : wp_12_termOf f g w wl Q := by
  obtain ⟨a, rfl, rfl, _, h3, h6, h4, h5⟩ := hp
  exact ⟨E.length + 1, r_term (V := V) E [] a (a + E.length) w h4 h5 (by decide) trivial hV rfl (by omega) K KN⟩
/-- the reference's branches from the number i on; N the number behind the last -/
def lwR (cl ch : Nat) (w : Mem) (Z : List (Nat × Int32)) : Nat → Nat → List (List (Nat × Int32) × List (Nat × Int32) × List (Nat × Int32)) → Prop
  | i, N, [] => w 170 i = 0 ∧ pcR cl ch w (w 173 i) (w 174 i) Z ∧ N = i + 1 ∧ i < 260
  | i, N, (A, B, C) :: r => w 170 i = 1 ∧ pcR cl ch w (w 171 i) (w 172 i) A ∧ pcR cl ch w (w 172 i) (w 173 i) B ∧ pcR cl ch w (w 173 i) (w 174 i) C ∧ i < 260 ∧ lwR cl ch w Z (i + 1) N r
theorem lwR_fr {cl ch : Nat} {w w2 : Mem} {Z : List (Nat × Int32)} (h : frR w w2) : ∀ (R : List (List (Nat × Int32) × List (Nat × Int32) × List (Nat × Int32))) (i N : Nat), lwR cl ch w Z i N R → lwR cl ch w2 Z i N R
  | [], i, N, q => by
    refine ⟨?_, ?_, q.2.2⟩
    · rw [frR_row h 170 (by decide) (by decide)]; exact q.1
    · rw [frR_row h 173 (by decide) (by decide), frR_row h 174 (by decide) (by decide)]; exact pcR_fr h q.2.1
  | (A, B, C) :: r, i, N, q => by
    obtain ⟨q0, q1, q2, q3, q4, q5⟩ := q
    refine ⟨?_, ?_, ?_, ?_, q4, lwR_fr h r _ _ q5⟩
    · rw [frR_row h 170 (by decide) (by decide)]; exact q0
    · rw [frR_row h 171 (by decide) (by decide), frR_row h 172 (by decide) (by decide)]; exact pcR_fr h q1
    · rw [frR_row h 172 (by decide) (by decide), frR_row h 173 (by decide) (by decide)]; exact pcR_fr h q2
    · rw [frR_row h 173 (by decide) (by decide), frR_row h 174 (by decide) (by decide)]; exact pcR_fr h q3
theorem lwR_lt {cl ch : Nat} {w : Mem} {Z : List (Nat × Int32)} : ∀ (R : List (List (Nat × Int32) × List (Nat × Int32) × List (Nat × Int32))) (i N : Nat), lwR cl ch w Z i N R → i < N ∧ N ≤ 260 ∧ i < 260
  | [], i, N, q => ⟨by have := q.2.2.1; omega, by have := q.2.2; omega, q.2.2.2⟩
  | (A, B, C) :: r, i, N, q => by
    obtain ⟨a, b, c⟩ := lwR_lt r _ _ q.2.2.2.2.2
    exact ⟨by omega, b, q.2.2.2.2.1⟩
theorem r_b136 {cl ch : Nat} {V : Nat → Int32} {C : List (Nat × Int32)} {lo hi : Int32} {i : Nat} {w : Mem} {wl : MemL} {Q : Int32 → Mem → MemL → Prop} (hl : lo ≤ hi) (hi2 : i < 260) (hC : pcR cl ch w (w 173 i) (w 174 i) C) (hV : ∀ j, j < 11 → w 178 j = V j) (hb : w 150 46 = 0)
    (K : ∀ w2, frR w w2 → Q (mx lo (mn hi ((evS V C []).getD 0))) w2 wl) : wp_12_tells_b136 Q lo hi (nI i) w wl := by
  have ii : vp_in (nI i) 260 := pk_in i 260 hi2
  refine ⟨ii, ii, ?_⟩
  rw [ix_nI (by omega)]
  refine r_term1 (V := V) hC hV ?_ ?_
  · intro v w2 e f g
    have := K w2 f
    rw [e] at this
    exact ⟨fun _ => s_heldR hl this, fun q => absurd (g.trans hb) q⟩
  · intro w2 e f g
    have := K w2 f
    rw [e] at this
    exact ⟨fun q => absurd (g.symm.trans q) (by decide), fun _ => s_heldR hl this⟩
