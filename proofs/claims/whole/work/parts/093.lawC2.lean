theorem c_ex0 {K P V : Nat → Nat} {m k p i t : Nat} {w : Mem} {Q : Int32 → Mem → Prop} (tk : TKN K P V m w) (hk : 9 ≤ k) (hi : i < 13) (ht1 : 0 < t) (ht : t ≤ m) (h : LPt k t p i w)
    (KE : ∀ kd tok, exP K V 8 0 t = .error (kd, tok) → ∀ w2, FCk P k p i w kd tok w2 → Q 0 w2)
    (KO : ∀ t2 U, exP K V 8 0 t = .ok (t2, U) → t < t2 → t2 ≤ m → wfS U 0 → ∀ w2, LPt k t2 (p + U.length) (i + 1) w2 → frK k p i w w2 → w2 (k + 3) i = nI (p + U.length) → cda copE (w2 (k + 1)) (w2 (k + 2)) p U → p + U.length ≤ 400 → Q 1 w2) : wp_3_readSum 8 k 0 w Q := by
  have hm := tk.1
  obtain ⟨h1, h2, h3, h4⟩ := h
  have top := ex_top (K := K) (V := V) ht1 (by omega : t ≤ 400)
  refine c_exF (i := i) (p0 := p) tk hk (by omega) 8 0 (by omega) (by omega) 0 t [] w Q (fun b w2 => wp_2_endPiece k w2 (fun w1 => (b = 0 ∨ b = 1) ∧ Q b w1)) (fun b w2 hb hq => ⟨fun q => absurd rfl q, fun _ => hq⟩) ht ⟨⟨h1, h2, h3⟩, trivial, fun _ _ _ _ _ _ => rfl, by show p + 0 + (0 + 1) ≤ t; omega⟩ ?_
  cases hr : exP K V 8 0 t with
  | error y =>
    obtain ⟨kd, tok⟩ := y
    intro w2 f2
    exact c_endF hk f2 (fun w3 f3 => ⟨Or.inl rfl, KE kd tok hr w3 f3⟩)
  | ok y =>
    obtain ⟨t2, U⟩ := y
    obtain ⟨z1, z2, z3, z4⟩ := top.2 t2 U hr
    intro tm w2 l2
    obtain ⟨⟨a1, a2, a3⟩, a4, a5, a6⟩ := l2
    rw [List.nil_append] at a2 a4 a6
    refine c_end (by omega) hi a2 a3 (fun w3 r3 g6 g3 => ⟨Or.inr rfl, KO t2 U hr z1 tm z4 w3 ⟨(r3 7 3 (by omega) (by omega)).trans a1, (r3 k 5 (by omega) (by omega)).trans a2, g6, by omega⟩ (fun a j q1 q2 q3 q4 => ?_) g3 ?_ (by omega)⟩)
    · rw [r3 a j (by omega) (by omega)]
      exact a5 a j q1 q2 q3 q4
    · rw [show w3 (k + 1) = w2 (k + 1) from funext (fun j => r3 (k + 1) j (by omega) (by omega)), show w3 (k + 2) = w2 (k + 2) from funext (fun j => r3 (k + 2) j (by omega) (by omega))]
      exact a4
/-- the pieces read before stay -/
theorem pc_keep {k p i q j : Nat} {U : LE} {w w2 : Mem} (hk : 9 ≤ k) (h : pcC k w i p U) (f : frK k q j w w2) (hq : p + U.length ≤ q) (hj : i < j) : pcC k w2 i p U := by
  obtain ⟨h0, h1, h2, h3, h4, h5⟩ := h
  refine ⟨h0, fun z => ?_, ?_, h3, ?_, h5⟩
  · rw [f (k + 3) (i - 1) (by omega) (by omega) (by omega) (by omega)]; exact h1 z
  · rw [f (k + 3) i (by omega) (by omega) (by omega) (by omega)]; exact h2
  · exact cda_x (fun x q1 q2 => ⟨f (k + 1) x (by omega) (by omega) (by omega) (by omega), f (k + 2) x (by omega) (by omega) (by omega) (by omega)⟩) h4
theorem fk_up {k p i p2 i2 : Nat} {w w2 : Mem} (h : frK k p2 i2 w w2) (hp : p ≤ p2) (hi : i ≤ i2) : frK k p i w w2 := fun a j q1 q2 q3 q4 => h a j q1 q2 (by omega) (by omega)
theorem fc_up {P : Nat → Nat} {k p i p2 i2 kd tok : Nat} {w w1 w2 : Mem} (f : frK k p i w w1) (h : FCk P k p2 i2 w1 kd tok w2) (hp : p ≤ p2) (hi : i ≤ i2) : FCk P k p i w kd tok w2 := by
  obtain ⟨h1, h2, h3, ⟨x, x1, x2, ex⟩, y, hy0, hy, ey⟩ := h
  exact ⟨fk_tr f (fk_up h1 hp hi), h2, h3, ⟨x, by omega, x2, ex⟩, y, by omega, hy, ey⟩
/-- a token between two Es -/
theorem c_mid {K P V : Nat → Nat} {m k p i t c : Nat} {w : Mem} {Q : Int32 → Mem → Prop} (tk : TKN K P V m w) (hk : 9 ≤ k) (hi : i ≤ 13) (hc : 2 ≤ c) (hc2 : c < 2 ^ 20) (ht : t ≤ m) (h : LPt k t p i w)
    (KE : ∀ kd tok, tkP K c t = .error (kd, tok) → ∀ w2, FCk P k p i w kd tok w2 → Q 0 w2) (KO : tkP K c t = .ok (t + 1) → t + 1 ≤ m → ∀ w2, LPt k (t + 1) p i w2 → frK k p i w w2 → Q 1 w2) : wp_3_takes (nI c) w Q := by
  have hm := tk.1
  obtain ⟨h1, h2, h3, h4⟩ := h
  have bad : ∀ a, FCk P k p i w a t (st (st w 7 5 (nI a)) 7 6 (nI (P t))) := by
    intro a
    refine ⟨fk_tr (fk_7 (by omega)) (fk_7 (by omega)), ?_, st_eq, ⟨p, by omega, by omega, ?_⟩, i, Nat.le_refl i, hi, ?_⟩
    · rw [st_nj (by decide), st_eq]
    · rw [st_nk (by omega), st_nk (by omega)]; exact h2
    · rw [st_nk (by omega), st_nk (by omega)]; exact h3
  unfold tkP at KE KO
  refine c_takes tk ht h1 hc2 (fun y1 y2 => ?_) (fun y1 y2 => ?_) (fun y1 => ?_)
  · rw [if_pos y1, if_pos y2] at KO
    refine KO rfl (tkn_lt tk ht y2 (by omega)) _ ⟨st_eq, ?_, ?_, by omega⟩ (fk_7 (by omega))
    · rw [st_nk (by omega)]; exact h2
    · rw [st_nk (by omega)]; exact h3
  · rw [if_pos y1, if_neg y2] at KE
    exact KE 2 t rfl _ (bad 2)
  · rw [if_neg y1] at KE
    exact KE 1 t rfl _ (bad 1)
