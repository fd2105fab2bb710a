theorem pcC_cg {k i p : Nat} {E : List (Nat × Int32)} {w w2 : Mem} (h1 : w2 (k + 1) = w (k + 1)) (h2 : w2 (k + 2) = w (k + 2)) (h3 : w2 (k + 3) = w (k + 3)) (h : pcC k w i p E) : pcC k w2 i p E := by
  unfold pcC at h ⊢
  rw [h1, h2, h3]
  exact h
theorem lwC_cg {k : Nat} {Z : List (Nat × Int32)} {w w2 : Mem} (h1 : w2 (k + 1) = w (k + 1)) (h2 : w2 (k + 2) = w (k + 2)) (h3 : w2 (k + 3) = w (k + 3)) (h6 : w2 k 6 = w k 6) : ∀ (R : List (List (Nat × Int32) × List (Nat × Int32) × List (Nat × Int32))) (i p : Nat), lwC k w Z i p R → lwC k w2 Z i p R
  | [], i, p, h => ⟨pcC_cg h1 h2 h3 h.1, h6.trans h.2.1, h.2.2⟩
  | (A, B, C) :: r, i, p, h => ⟨pcC_cg h1 h2 h3 h.1, pcC_cg h1 h2 h3 h.2.1, pcC_cg h1 h2 h3 h.2.2.1, lwC_cg h1 h2 h3 h6 r _ _ h.2.2.2⟩
/-- the class's law k after one of its variables is set -/
theorem lwC_var {k i : Nat} {v : Int32} {Z : List (Nat × Int32)} {w : Mem} {R : List (List (Nat × Int32) × List (Nat × Int32) × List (Nat × Int32))} (h : lwC k w Z 0 0 R) : lwC k (st w (k + 4) i v) Z 0 0 R :=
  lwC_cg (st_ne _ (by omega)) (st_ne _ (by omega)) (st_ne _ (by omega)) (st_nk (by omega)) R 0 0 h
/-- below 1 there is one lot only -/
theorem lotN_one (s p : Int32) : lotN s p 1 = 0 := by
  show irm _ 1 = 0
  simp only [irm]
  rw [Int32.div_one, Int32.mul_one, Int32.sub_self]
theorem c_wind {Z : List (Nat × Int32)} {R : List (List (Nat × Int32) × List (Nat × Int32) × List (Nat × Int32))} {g : Nat} {a1 a2 : Int32} {w : Mem} {Q : Int32 → Mem → Prop} (hg : w 48 11 = nI g) (hg2 : g < 100)
    (h : lwC 49 w Z 0 0 R) (hz : ∀ j, 2 ≤ j → j < 11 → w 53 j = 0)
    (K : ∀ w2, (∀ b, b ≠ 53 → b ≠ 54 → ∀ j, ¬ (b = 49 ∧ j = 7) → w2 b j = w b j) → (∀ j, 2 ≤ j → j < 11 → w2 53 j = 0) → Q (windA (w 87 2) (nI g) Z R a1 a2) w2) : wp_0_windAt a1 a2 w Q := by
  refine s_set (k := 49) (n := 0) (by omega) (s_set (k := 49) (n := 1) (by omega) ?_)
  have hl := lwC_var (k := 49) (i := 1) (v := a1) (lwC_var (k := 49) (i := 0) (v := a2) h)
  have f3 : frO 53 w (st (st w (49 + 4) 0 a2) (49 + 4) 1 a1) := fun b hb => (st_ne b hb).trans (st_ne b hb)
  have hV : ∀ j, j < 11 → (st (st w (49 + 4) 0 a2) (49 + 4) 1 a1) (49 + 4) j = windV a1 a2 j := by
    intro j hj
    rw [st_at, st_at]
    unfold windV
    by_cases c1 : j = 1
    · subst c1; rw [pk_us]; rfl
    · rw [pk_un c1]
      by_cases c0 : j = 0
      · subst c0; rw [pk_us]; rfl
      · rw [pk_un c0, if_neg c0, if_neg c1]; exact hz j (by omega) hj
  generalize (st (st w (49 + 4) 0 a2) (49 + 4) 1 a1) = w3 at f3 hV hl
  have e48 : w3 48 11 = nI g := (congrFun (f3 48 (by decide)) 11).trans hg
  have e87 : w3 87 2 = w 87 2 := congrFun (f3 87 (by decide)) 2
  have fin : ∀ r4 : Int32, r4 = lotN (w 87 2) (8 * a2 + a1) (2 * nI g + 1) → ∀ x5 : Int32, x5 = r4 - w3 48 11 → wp_2_tells 49 w3 (fun r7 w6 => wp_11_held r7 (-99) 99 w6 (fun r9 w8 => Q (r9 + x5) w8)) := by
    intro r4 e4 x5 e5
    refine c_tells (V := windV a1 a2) hl hV (fun w8 f8 => s_held ?_)
    have := K w8 (fun b hb hb2 j hj => (f8 b hb2 j hj).trans (congrFun (f3 b hb) j)) (fun j j2 j3 => ((f8 53 (by decide) j (by omega)).trans (hV j j3)).trans (by unfold windV; rw [if_neg (by omega), if_neg (by omega)]))
    rw [e5, e4, e48]
    rw [show windA (w 87 2) (nI g) Z R a1 a2 = mx (-99) (mn 99 ((telA (windV a1 a2) Z R).getD 0)) + (lotN (w 87 2) (8 * a2 + a1) (2 * nI g + 1) - nI g) from by unfold windA; simp only [Int32.sub_eq_add_neg, Int32.add_assoc]] at this
    exact this
  refine s_lot (fun _ => ?_) (fun q => ?_)
  · rw [e48, e87]
    rw [e48] at fin
    exact fin _ rfl
  · refine fin 0 ?_
    rw [e48, show (2 : Int32) = nI 2 from rfl, pk_mul, show nI (2 * g) + (1 : Int32) = nI (2 * g + 1) from nI_add _ 1] at q
    have g0 : g = 0 := by
      rcases Nat.eq_zero_or_pos g with e | e
      · exact e
      · exact absurd ((nI_ltI (a := 1) (by omega) (by omega)).mpr (by omega)) q
    subst g0
    exact (lotN_one _ _).symm
