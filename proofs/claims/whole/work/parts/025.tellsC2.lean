theorem c_tells7 {k : Nat} {V : Nat → Int32} {Z : List (Nat × Int32)} {Q : Int32 → Mem → Prop} : ∀ (R : List (List (Nat × Int32) × List (Nat × Int32) × List (Nat × Int32))) (i p : Nat) (w : Mem),
    lwC k w Z i p R → w k 7 = 0 → (∀ j, j < 11 → w (k + 4) j = V j) →
    (∀ w2, frC k w w2 → Q ((telA V Z R).getD 0) w2) → wp_2_tells_b7 k Q (R.length + 1) (nI i) w
  | [], i, p, w, h, h7, hV, K => by
    obtain ⟨n, hn, hn2, hn3⟩ := lwC_n [] i p h
    simp only [List.length_nil, Nat.mul_zero, Nat.add_zero] at hn3
    subst hn3
    unfold wp_2_tells_b7
    rw [hn, show (3 : Int32) = nI 3 from rfl, nI_add]
    refine pk_le (i + 1) (i + 3) (fun _ => ?_) (fun q => absurd q (by omega))
    rw [show (1 : Int32) = nI 1 from rfl, pk_sub (by omega), show i + 1 - 1 = i from rfl]
    refine c_worth1 (V := V) hn (by omega) hn2 h.1 hV ?_ ?_
    · intro v w2 e f g
      refine ⟨fun _ => ?_, fun q => absurd (g.trans h7) q⟩
      have := K w2 f
      simp only [telA, e] at this
      exact this
    · intro v w2 e f g
      refine ⟨fun q => absurd (g.symm.trans q) (by decide), fun _ => ?_⟩
      have := K w2 f
      simp only [telA, e] at this
      exact this
  | (A, B, C) :: r, i, p, w, h, h7, hV, K => by
    obtain ⟨n, hn, hn2, hn3⟩ := lwC_n _ i p h
    simp only [List.length_cons] at hn3
    obtain ⟨hA, hB, hC, hr⟩ := h
    unfold wp_2_tells_b7
    rw [hn, show nI i + (3 : Int32) = nI (i + 3) from nI_add i 3, show nI i + (1 : Int32) = nI (i + 1) from nI_add i 1]
    refine pk_le n (i + 3) (fun q => absurd q (by omega)) (fun _ => ?_)
    have z4 : ∀ w3, frC k w w3 → w3 k 6 = nI n ∧ (∀ j, j < 11 → w3 (k + 4) j = V j) := fun w3 f =>
      ⟨(f k (by omega) 6 (by omega)).trans hn, fun j hj => (f (k + 4) (by omega) j (by omega)).trans (hV j hj)⟩
    have bad : ∀ w5 s, frC k w w5 → w5 k 7 = 1 → telA V Z ((A, B, C) :: r) = none → wp_2_tells_b37 k Q (wp_2_tells_b7 k Q (r.length + 1)) (nI i) s w5 := by
      intro w5 s f g e
      refine ⟨fun q => absurd (g.symm.trans q) (by decide), fun _ => ?_⟩
      have := K w5 f
      rw [e] at this
      exact this
    refine c_worth1 (V := V) hn (by omega) hn2 hA hV ?_ ?_
    · intro x w3 ex f3 g3
      refine c_worth1 (V := V) (z4 w3 f3).1 (by omega) hn2 (pcC_fr f3 hB) (z4 w3 f3).2 ?_ ?_
      · intro y w5 ey f5 g5
        have f := frC_tr f3 f5
        have g : w5 k 7 = 0 := (g5.trans g3).trans h7
        have et : telA V Z ((A, B, C) :: r) = if x < y then evS V C [] else telA V Z r := by simp only [telA, ex, ey]
        rw [et] at K
        refine ⟨fun q => ?_, fun q => ?_⟩
        · have nq : ¬ x < y := by
            rw [Int32.le_iff_toInt_le] at q
            rw [Int32.lt_iff_toInt_lt]
            omega
          rw [if_neg nq] at K
          refine ⟨fun _ => ⟨fun _ => ?_, fun z => absurd rfl z⟩, fun z => absurd g z⟩
          intro x1 e1
          rw [show (3 : Int32) = nI 3 from rfl, nI_add] at e1
          subst e1
          exact c_tells7 r (i + 3) _ w5 (lwC_fr f r _ _ hr) g (z4 w5 f).2 (fun w2 f2 => K w2 (frC_tr f f2))
        · have nq : x < y := by
            rw [Int32.le_iff_toInt_le] at q
            rw [Int32.lt_iff_toInt_lt]
            omega
          rw [if_pos nq] at K
          refine ⟨fun _ => ⟨fun z => absurd z (by decide), fun _ => ?_⟩, fun z => absurd g z⟩
          rw [show (2 : Int32) = nI 2 from rfl, nI_add]
          refine c_worth1 (V := V) (z4 w5 f).1 (by omega) hn2 (pcC_fr f hC) (z4 w5 f).2 ?_ ?_
          · intro v w2 e f2 g2
            have := K w2 (frC_tr f f2)
            rw [e] at this
            exact ⟨fun _ => this, fun q => absurd (g2.trans g) q⟩
          · intro v w2 e f2 g2
            have := K w2 (frC_tr f f2)
            rw [e] at this
            exact ⟨fun q => absurd (g2.symm.trans q) (by decide), fun _ => this⟩
      · intro y w5 ey f5 g5
        have et : telA V Z ((A, B, C) :: r) = none := by simp only [telA, ex, ey]
        exact ⟨fun _ => bad w5 _ (frC_tr f3 f5) g5 et, fun _ => bad w5 _ (frC_tr f3 f5) g5 et⟩
    · intro x w3 ex f3 g3
      have et : telA V Z ((A, B, C) :: r) = none := by simp only [telA, ex]
      refine c_worth1 (V := V) (z4 w3 f3).1 (by omega) hn2 (pcC_fr f3 hB) (z4 w3 f3).2 ?_ ?_
      · intro y w5 ey f5 g5
        exact ⟨fun _ => bad w5 _ (frC_tr f3 f5) (g5.trans g3) et, fun _ => bad w5 _ (frC_tr f3 f5) (g5.trans g3) et⟩
      · intro y w5 ey f5 g5
        exact ⟨fun _ => bad w5 _ (frC_tr f3 f5) g5 et, fun _ => bad w5 _ (frC_tr f3 f5) g5 et⟩
/-- the class's law k, asked -/
theorem c_tells {k : Nat} {V : Nat → Int32} {Z : List (Nat × Int32)} {R : List (List (Nat × Int32) × List (Nat × Int32) × List (Nat × Int32))} {w : Mem} {Q : Int32 → Mem → Prop}
    (h : lwC k w Z 0 0 R) (hV : ∀ j, j < 11 → w (k + 4) j = V j) (K : ∀ w2, frC k w w2 → Q ((telA V Z R).getD 0) w2) : wp_2_tells k w Q := by
  intro w1 e
  subst e
  have f : frC k w (st w k 7 0) := frC_fl (fun a _ j _ => rfl)
  exact ⟨R.length + 1, c_tells7 (V := V) R 0 0 _ (lwC_fr f R _ _ h) st_eq (fun j hj => (f (k + 4) (by omega) j (by omega)).trans (hV j hj)) (fun w2 f2 => K w2 (frC_tr f f2))⟩
