def bnd {α β : Type} : Except (Nat × Nat) α → (α → Except (Nat × Nat) β) → Except (Nat × Nat) β
  | .error e, _ => .error e
  | .ok a, f => f a
def tkP (K : Nat → Nat) (c t : Nat) : Except (Nat × Nat) Nat := if K t = c then (if t < 400 then .ok (t + 1) else .error (2, t)) else .error (1, t)
/-- the branches of a law, so many IFs still allowed -/
def lwP (K V : Nat → Nat) : Nat → Nat → Except (Nat × Nat) (Nat × LE × LB)
  | 0, t => if K t = 143 then .error (2, t) else bnd (exP K V 8 0 t) (fun x => .ok (x.1, x.2, []))
  | n + 1, t => if K t = 143 then
      bnd (tkP K 143 t) fun t0 => bnd (exP K V 8 0 t0) fun a => bnd (tkP K 60 a.1) fun t1 => bnd (exP K V 8 0 t1) fun b =>
      bnd (tkP K 144 b.1) fun t2 => bnd (exP K V 8 0 t2) fun c => bnd (tkP K 145 c.1) fun t3 => bnd (lwP K V n t3) fun r => .ok (r.1, r.2.1, (a.2, b.2, c.2) :: r.2.2)
    else bnd (exP K V 8 0 t) (fun x => .ok (x.1, x.2, []))
/-- the class between two Es of the law k -/
def LPt (k t p i : Nat) (w : Mem) : Prop := w 7 3 = nI t ∧ w k 5 = nI p ∧ w k 6 = nI i ∧ p + 1 ≤ t
theorem c_end {k p i : Nat} {w : Mem} {Q : Mem → Prop} (hp : p ≤ 400) (hi : i < 13) (h5 : w k 5 = nI p) (h6 : w k 6 = nI i) (K : ∀ w2, (∀ a j, ¬ (a = k ∧ j = 6) → ¬ (a = k + 3 ∧ j = i) → w2 a j = w a j) → w2 k 6 = nI (i + 1) → w2 (k + 3) i = nI p → Q w2) : wp_2_endPiece k w Q := by
  unfold wp_2_endPiece
  rw [h6, h5, ix_nI (by omega)]
  refine pk_le 13 i (fun q => absurd q (by omega)) (fun _ => ⟨vp_in_nI (by omega) (by decide), fun w2 e2 w3 e3 => ?_⟩)
  have g6 : w2 k 6 = nI i := by subst e2; rw [st_nk (by omega)]; exact h6
  rw [g6, nI_1] at e3
  refine K w3 (fun a j q1 q2 => ?_) ?_ ?_
  · subst e3
    subst e2
    simp only [st]
    rw [if_neg q1, if_neg q2]
  · subst e3; exact st_eq
  · subst e3
    subst e2
    rw [st_nk (by omega), st_eq]
theorem c_endF {P : Nat → Nat} {k p0 i kd tok : Nat} {w0 w : Mem} {Q : Mem → Prop} (hk : 9 ≤ k) (h : FCk P k p0 i w0 kd tok w) (K : ∀ w2, FCk P k p0 i w0 kd tok w2 → Q w2) : wp_2_endPiece k w Q := by
  have h0 := h
  obtain ⟨h1, h2, h3, ⟨x, x1, x2, ex⟩, y, hy0, hy, ey⟩ := h
  unfold wp_2_endPiece
  rw [ey, ex, ix_nI (by omega)]
  refine pk_le 13 y (fun q => K w h0) (fun q => ⟨vp_in_nI (by omega) (by decide), fun w2 e2 w3 e3 => ?_⟩)
  have g6 : w2 k 6 = nI y := by subst e2; rw [st_nk (by omega)]; exact ey
  rw [g6, nI_1] at e3
  have r3 : ∀ a j, ¬ (a = k ∧ j = 6) → ¬ (a = k + 3 ∧ j = y) → w3 a j = w a j := by
    subst e3
    subst e2
    intro a j q1 q2
    simp only [st]
    rw [if_neg q1, if_neg q2]
  refine K w3 ⟨fun a j q1 q2 q3 q4 => ?_, (r3 7 5 (by omega) (by omega)).trans h2, (r3 7 6 (by omega) (by omega)).trans h3, ⟨x, x1, x2, (r3 k 5 (by omega) (by omega)).trans ex⟩, y + 1, by omega, by omega, ?_⟩
  · rw [r3 a j (by omega) (by omega)]
    exact h1 a j q1 q2 q3 q4
  · subst e3; exact st_eq
