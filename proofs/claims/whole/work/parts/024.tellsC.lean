/-- one piece of the law k, with the number i, from the place p on, is the expression E -/
def pcC (k : Nat) (w : Mem) (i p : Nat) (E : List (Nat × Int32)) : Prop :=
  (i = 0 → p = 0) ∧ (0 < i → w (k + 3) (i - 1) = nI p) ∧ w (k + 3) i = nI (p + E.length) ∧ p + E.length ≤ 400 ∧ cda copE (w (k + 1)) (w (k + 2)) p E ∧ wfS E 0
theorem pcC_fr {k i p : Nat} {E : List (Nat × Int32)} {w w2 : Mem} (f : frC k w w2) (h : pcC k w i p E) : pcC k w2 i p E := by
  obtain ⟨h0, h1, h2, h3, h4, h5⟩ := h
  have e : ∀ q, q ≠ 0 → q ≠ 5 → w2 (k + q) = w (k + q) := fun q q0 q5 => funext (fun j => f (k + q) (by omega) j (by omega))
  refine ⟨h0, ?_, ?_, h3, ?_, h5⟩
  · rw [e 3 (by omega) (by omega)]; exact h1
  · rw [e 3 (by omega) (by omega)]; exact h2
  · rw [e 1 (by omega) (by omega), e 2 (by omega) (by omega)]; exact h4
theorem frC_tr {k : Nat} {w w2 w3 : Mem} (h : frC k w w2) (h2 : frC k w2 w3) : frC k w w3 :=
  fun a ha j hj => (h2 a ha j hj).trans (h a ha j hj)
theorem c_worth1 {k i n p : Nat} {V : Nat → Int32} {E : List (Nat × Int32)} {w : Mem} {Q : Int32 → Mem → Prop} (hn : w k 6 = nI n) (hi : i < n) (hn2 : n ≤ 13) (hp : pcC k w i p E) (hV : ∀ j, j < 11 → w (k + 4) j = V j)
    (K : ∀ v w2, evS V E [] = some v → frC k w w2 → w2 k 7 = w k 7 → Q v w2)
    (KN : ∀ v w2, evS V E [] = none → frC k w w2 → w2 k 7 = 1 → Q v w2) : wp_2_worth k (nI i) w Q := by
  obtain ⟨h0, h1, h2, h3, h4, h5⟩ := hp
  have go : wp_2_worth_b41 k Q (nI i) 0 (nI p) w :=
    ⟨E.length + 1, c_worth (V := V) (by omega) E [] p (p + E.length) w h4 h5 (by decide) trivial hV h2 rfl h3 K KN⟩
  refine pk_lt i 0 (fun q => absurd q (by omega)) (fun _ => ?_)
  rw [hn]
  refine pk_le n i (fun q => absurd q (by omega)) (fun _ => ?_)
  refine pk_lt i 13 (fun _ => ?_) (fun q => absurd q (by omega))
  refine ⟨fun q => ?_, fun q => ?_⟩
  · have i0 : 0 < i := by
      rcases Nat.eq_zero_or_pos i with e | e
      · subst e; exact absurd rfl q
      · exact e
    rw [show (1 : Int32) = nI 1 from rfl, pk_sub (by omega)]
    refine ⟨pk_in (i - 1) 13 (by omega), ?_⟩
    rw [ix_nI (by omega), h1 i0]
    exact go
  · have i0 : i = 0 := (nI_eq (b := 0) (by omega) (by omega)).mp (Classical.not_not.mp q)
    rw [h0 i0] at go
    exact go
/-- the law's value: its branches in their order, then its last expression; none when a division by 0 comes in the way -/
def telA (V : Nat → Int32) (Z : List (Nat × Int32)) : List (List (Nat × Int32) × List (Nat × Int32) × List (Nat × Int32)) → Option Int32
  | [] => evS V Z []
  | (A, B, C) :: r => match evS V A [], evS V B [] with
    | some x, some y => if x < y then evS V C [] else telA V Z r
    | _, _ => none
/-- the law k's pieces from the number i and the place p on -/
def lwC (k : Nat) (w : Mem) (Z : List (Nat × Int32)) : Nat → Nat → List (List (Nat × Int32) × List (Nat × Int32) × List (Nat × Int32)) → Prop
  | i, p, [] => pcC k w i p Z ∧ w k 6 = nI (i + 1) ∧ i < 13
  | i, p, (A, B, C) :: r => pcC k w i p A ∧ pcC k w (i + 1) (p + A.length) B ∧ pcC k w (i + 2) (p + A.length + B.length) C ∧ lwC k w Z (i + 3) (p + A.length + B.length + C.length) r
theorem lwC_fr {k : Nat} {Z : List (Nat × Int32)} {w w2 : Mem} (f : frC k w w2) : ∀ (R : List (List (Nat × Int32) × List (Nat × Int32) × List (Nat × Int32))) (i p : Nat), lwC k w Z i p R → lwC k w2 Z i p R
  | [], i, p, h => ⟨pcC_fr f h.1, (f k (by omega) 6 (by omega)).trans h.2.1, h.2.2⟩
  | (A, B, C) :: r, i, p, h => ⟨pcC_fr f h.1, pcC_fr f h.2.1, pcC_fr f h.2.2.1, lwC_fr f r _ _ h.2.2.2⟩
theorem lwC_n {k : Nat} {Z : List (Nat × Int32)} {w : Mem} : ∀ (R : List (List (Nat × Int32) × List (Nat × Int32) × List (Nat × Int32))) (i p : Nat), lwC k w Z i p R → ∃ n, w k 6 = nI n ∧ n ≤ 13 ∧ n = i + 3 * R.length + 1
  | [], i, p, h => ⟨i + 1, h.2.1, by have := h.2.2; omega, rfl⟩
  | (A, B, C) :: r, i, p, h => by
    obtain ⟨n, h1, h2, h3⟩ := lwC_n r _ _ h.2.2.2
    exact ⟨n, h1, h2, by simp only [List.length_cons]; omega⟩
