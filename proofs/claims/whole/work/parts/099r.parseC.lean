/-! the whole text -/
def parP (K V NM : Nat → Nat) : Nat → Nat → PS → Except (Nat × Nat) (Nat × PS)
  | 0, t, S => .ok (t, S)
  | n + 1, t, S => if K t = 0 then .ok (t, S) else bnd (telP K V NM t S) fun x => parP K V NM n x.1 x.2
def N0 : Nat → Nat → Nat := fun r k => if r = 0 then [900, 1000, 20, 1, 1, 1, 1, 1, 0, 0, 10, 60, 20, 50, 8, 0].getD k 0 else 0
def S0 : PS := (fun _ => none, N0, fun _ => 0, [], none)
theorem si_0 : SI S0 := ⟨by decide, by decide, rfl⟩
theorem bi_0 : BI S0 := fun _ => by
  refine ⟨⟨by decide, by decide, by decide, by decide, fun i hi => ?_⟩, ⟨by decide, by decide, by decide, by decide, by decide, by decide⟩, ⟨by decide, by decide, by decide, by decide, by decide⟩, fun a ha => ?_, fun j hj => ?_⟩
  · rcases (by omega : i = 0 ∨ i = 1 ∨ i = 2 ∨ i = 3 ∨ i = 4) with z | z | z | z | z <;> subst z <;> decide
  · exact absurd ha (Nat.not_lt_zero _)
  · exact absurd hj (Nat.not_lt_zero _)
def orT : Option (LE × LB) → Int32 → (Nat → Int32) → Int32
  | none, d, _ => d
  | some x, _, V => (telA V x.1 x.2).getD 0
/-- the text that is told, its untold laws filled in -/
def TXs (S : PS) : TX := (fun a V => orT (sL S a) (dfT (tx S) a V) V, sN S, sE S)
/-- a law's pieces put one behind another -/
def adW (k : Nat) : LE → (Mem → Prop) → Mem → Prop
  | [], Q, w => Q w
  | (o, v) :: r, Q, w => wp_2_add k (copE o) v w (adW k r Q)
theorem c_adW {k : Nat} {Q : Mem → Prop} (K0 : LE) : ∀ (L : LE) (w : Mem), K0.length + L.length ≤ 20 → w k 5 = nI K0.length → cda copE (w (k + 1)) (w (k + 2)) 0 K0 → (∀ w2, (∀ a j, ¬ (a = k ∧ j = 5) → a ≠ k + 1 → a ≠ k + 2 → w2 a j = w a j) → w2 k 5 = nI (K0 ++ L).length → cda copE (w2 (k + 1)) (w2 (k + 2)) 0 (K0 ++ L) → Q w2) → adW k L Q w
  | [], w, hb, h5, hc, h => h w (fun _ _ _ _ _ => rfl) (by rw [List.append_nil]; exact h5) (by rw [List.append_nil]; exact hc)
  | (o, v) :: r, w, hb, h5, hc, h => by
    simp only [List.length_cons] at hb
    unfold adW wp_2_add
    have iv : vp_in (nI K0.length) 400 := vp_in_nI (by omega) (by decide)
    rw [h5, ix_nI (by omega)]
    refine ⟨fun q => absurd ((nI_leI (a := 400) (by omega) (by omega)).mp q) (by omega), fun _ => ⟨iv, fun w2 e2 => ?_⟩⟩
    have g2 : w2 k 5 = nI K0.length := by subst e2; rw [st_nk (by omega)]; exact h5
    rw [g2, ix_nI (by omega)]
    refine ⟨iv, fun w4 e4 w5 e5 => ?_⟩
    have g4 : w4 k 5 = nI K0.length := by subst e4; rw [st_nk (by omega)]; exact g2
    rw [g4, nI_1] at e5
    have r5 : ∀ a j, ¬ (a = k ∧ j = 5) → ¬ ((a = k + 1 ∨ a = k + 2) ∧ j = K0.length) → w5 a j = w a j := by
      subst e5
      subst e4
      subst e2
      intro a j q1 q2
      simp only [st]
      rw [if_neg q1, if_neg (by omega), if_neg (by omega)]
    have z1 : w5 (k + 1) K0.length = copE o := by
      subst e5
      subst e4
      subst e2
      rw [st_nk (by omega), st_nk (by omega), st_eq]
    have z2 : w5 (k + 2) K0.length = v := by
      subst e5
      subst e4
      rw [st_nk (by omega), st_eq]
    have z5 : w5 k 5 = nI (K0.length + 1) := by subst e5; exact st_eq
    refine c_adW (K0 ++ [(o, v)]) r w5 (by rw [List.length_append]; simp; omega) (by rw [z5, List.length_append]; rfl) ?_ (fun w9 f9 e9 c9 => h w9 (fun a j q1 q2 q3 => (f9 a j q1 q2 q3).trans (r5 a j q1 (by omega))) ?_ ?_)
    · refine cda_a (p := 0) (fun j q1 q2 => ⟨r5 (k + 1) j (by omega) (by omega), r5 (k + 2) j (by omega) (by omega)⟩) hc ?_ ?_
      · rw [Nat.zero_add]; exact z1
      · rw [Nat.zero_add]; exact z2
    · rw [List.append_assoc] at e9
      exact e9
    · rw [List.append_assoc] at c9
      exact c9
/-- a law that isn't told is filled in -/
theorem c_fillE {k : Nat} {L : LE} {w : Mem} {Q : Mem → Prop} (hL : L.length ≤ 20) (h5 : w k 5 = 0) (h6 : w k 6 = 0) (hw : wfS L 0) (K : ∀ w2, (∀ a j, ¬ (a = k ∧ (j = 5 ∨ j = 6)) → a ≠ k + 1 → a ≠ k + 2 → a ≠ k + 3 → w2 a j = w a j) → lwC k w2 L 0 0 [] → Q w2) : adW k L (fun w1 => wp_2_endPiece k w1 Q) w := by
  refine c_adW [] L w (by simpa using hL) h5 trivial (fun w2 f2 e2 c2 => ?_)
  simp only [List.nil_append] at e2 c2
  have g6 : w2 k 6 = nI 0 := (f2 k 6 (by omega) (by omega) (by omega)).trans h6
  refine c_end (p := L.length) (i := 0) (by omega) (by omega) e2 g6 (fun w3 f3 e3 e4 => K w3 (fun a j q1 q2 q3 q4 => ?_) ⟨⟨fun _ => rfl, fun z => absurd z (by omega), ?_, by omega, ?_, hw⟩, e3, by omega⟩)
  · rw [f3 a j (by omega) (by omega)]
    exact f2 a j (by omega) q2 q3
  · rw [Nat.zero_add]; exact e4
  · have r : ∀ x, x ≠ k → x ≠ k + 3 → w3 x = w2 x := fun x q1 q2 => funext (fun j => f3 x j (by omega) (by omega))
    rw [r (k + 1) (by omega) (by omega), r (k + 2) (by omega) (by omega)]
    exact c2
theorem c_fill1 {k : Nat} {v : Int32} {o : Option (LE × LB)} {w : Mem} {Q : Mem → Prop} (h : OLc k w o) (K : ∀ w2, (∀ a j, ¬ (a = k ∧ (j = 5 ∨ j = 6)) → a ≠ k + 1 → a ≠ k + 2 → a ≠ k + 3 → w2 a j = w a j) → (∃ Z R, lwC k w2 Z 0 0 R ∧ ∀ V, orT o v V = (telA V Z R).getD 0) → Q w2) : wp_2_fillUntold k v w Q := by
  cases o with
  | none =>
    obtain ⟨h5, h6⟩ := h
    unfold wp_2_fillUntold
    rw [h6]
    refine ⟨fun q => absurd rfl q, fun _ => ?_⟩
    exact c_fillE (L := [(0, v)]) (by simp) h5 h6 (Or.inl ⟨rfl, by decide, rfl⟩) (fun w2 f2 l2 => K w2 f2 ⟨[(0, v)], [], l2, fun V => rfl⟩)
  | some x =>
    obtain ⟨Z, R⟩ := x
    have l : lwC k w Z 0 0 R := h
    obtain ⟨n, n1, n2, n3⟩ := lwC_n R 0 0 l
    unfold wp_2_fillUntold
    rw [n1]
    exact ⟨fun _ => K w (fun _ _ _ _ _ _ => rfl) ⟨Z, R, l, fun V => rfl⟩, fun q => absurd (Classical.not_not.mp q) (nI_ne0 (by omega) (by omega))⟩
theorem c_fillF {k : Nat} {n : Nat} {o : Option (LE × LB)} {w : Mem} {Q : Mem → Prop} (h : OLc k w o) (K : ∀ w2, (∀ a j, ¬ (a = k ∧ (j = 5 ∨ j = 6)) → a ≠ k + 1 → a ≠ k + 2 → a ≠ k + 3 → w2 a j = w a j) → (∃ Z R, lwC k w2 Z 0 0 R ∧ ∀ V, orT o (nI n + 2 * V 2 + 5 * V 7) V = (telA V Z R).getD 0) → Q w2) : (¬ (w k 6) = 0 → Q w) ∧ (¬ (¬ (w k 6) = 0) → adW k [(0, nI n), (0, 2), (1, 2), (4, 0), (2, 0), (0, 5), (1, 7), (4, 0), (2, 0)] (fun w1 => wp_2_endPiece k w1 Q) w) := by
  cases o with
  | none =>
    obtain ⟨h5, h6⟩ := h
    rw [h6]
    refine ⟨fun q => absurd rfl q, fun _ => ?_⟩
    refine c_fillE (by simp) h5 h6 ?_ (fun w2 f2 l2 => K w2 f2 ⟨_, [], l2, fun V => ?_⟩)
    · refine Or.inl ⟨rfl, by decide, Or.inl ⟨rfl, by decide, Or.inr (Or.inl ⟨rfl, by decide, ⟨2, by decide, rfl⟩, Or.inr (Or.inr ⟨by decide, by decide, by decide, Or.inr (Or.inr ⟨by decide, by decide, by decide, Or.inl ⟨rfl, by decide, Or.inr (Or.inl ⟨rfl, by decide, ⟨7, by decide, rfl⟩, Or.inr (Or.inr ⟨by decide, by decide, by decide, Or.inr (Or.inr ⟨by decide, by decide, by decide, rfl⟩)⟩)⟩)⟩⟩)⟩)⟩)⟩⟩
    · show _ = (evS V _ []).getD 0
      simp only [evS, opE]
      rfl
  | some x =>
    obtain ⟨Z, R⟩ := x
    have l : lwC k w Z 0 0 R := h
    obtain ⟨n, n1, n2, n3⟩ := lwC_n R 0 0 l
    rw [n1]
    exact ⟨fun _ => K w (fun _ _ _ _ _ _ => rfl) ⟨Z, R, l, fun V => rfl⟩, fun q => absurd (Classical.not_not.mp q) (nI_ne0 (by omega) (by omega))⟩
