theorem r_ab {K P V : Nat → Nat} {M s c0 : Nat} {w0 : Mem} {wl : MemL} {Q : Mem → MemL → Prop} (tk0 : TKM K P V M w0) (hs : s ≤ 1) (hc : 420 * s ≤ c0) : ∀ f, RAq K P V M s c0 w0 wl Q f ∧ RBq K P V M s c0 w0 wl Q f
  | 0 => ⟨fun t E S o w n nn hf ht => absurd hf (by omega), fun t E S o w n nn hf ht => absurd hf (by omega)⟩
  | f + 1 => ⟨r_abA tk0 hs hc (r_ab tk0 hs hc f).1 (r_ab tk0 hs hc f).2, r_abB tk0 hs hc (r_ab tk0 hs hc f).1 (r_ab tk0 hs hc f).2⟩
/-- an E in the reference -/
theorem r_expr {K P V : Nat → Nat} {M s c0 t : Nat} {w : Mem} {wl : MemL} {Q : Mem → MemL → Prop} (tk : TKM K P V M w) (hs : s ≤ 1) (hc : 420 * s ≤ c0) (h11 : w 150 11 = nI t) (ht1 : 0 < t) (ht : t ≤ 400) (hM : t ≤ M) (h12 : w 150 12 = 0) (h13 : w 150 13 = 0) (h39 : w 150 39 = nI c0) (hb : c0 ≤ 420 * s + t)
    (KE : ∀ k tok, exP K V 8 0 t = .error (k, tok) → ∀ w2, FX P s c0 w k tok w2 → Q w2 wl)
    (KO : ∀ t2 U, exP K V 8 0 t = .ok (t2, U) → t < t2 → t2 ≤ 400 → t2 ≤ M → U.length ≤ t2 - t → wfS U 0 → ∀ w2, ESt s c0 w w2 t2 U [] 0 0 → Q w2 wl) : wp_12_expression w wl Q := by
  intro w1 e1 x2 e2
  have g : ∀ a j, ¬ (a = 150 ∧ j = 43) → w1 a j = w a j := by
    subst e1
    intro a j q
    simp only [st]
    rw [if_neg q]
  have g43 : w1 150 43 = nI 0 := by subst e1; exact st_eq
  clear e1
  have g12 : w1 150 12 = nI 0 := (g 150 12 (by omega)).trans h12
  rw [g12] at e2
  subst e2
  have g13 : w1 150 13 = 0 := (g 150 13 (by omega)).trans h13
  refine ⟨403, ⟨fun q => absurd q (by decide), fun _ => ⟨fun q => absurd g13 q, fun _ => ⟨403, ?_⟩⟩⟩⟩
  refine (r_ab (K := K) (P := P) (V := V) (c0 := c0) tk hs hc (401 - t)).1 t [] [] 0 w1 402 403 rfl ht hM (Or.inl rfl) (by omega) ?_ ?_ (by omega) (by omega)
  · refine ⟨⟨(g 150 11 (by omega)).trans h11, g12, g13, (g 150 39 (by omega)).trans h39, g43⟩, trivial, trivial, fun a j q1 q2 q3 => g a j (by omega), ?_⟩
    simp only [List.length_nil]
    omega
  · have z := ex_top (K := K) (V := V) ht1 ht
    rw [z.1]
    cases hr : exP K V 8 0 t with
    | error y =>
      obtain ⟨k, tok⟩ := y
      exact KE k tok hr
    | ok y =>
      obtain ⟨t2, U⟩ := y
      obtain ⟨z1, z2, z3, z4⟩ := z.2 t2 U hr
      exact fun zM => KO t2 U hr z1 z2 zM z3 z4
