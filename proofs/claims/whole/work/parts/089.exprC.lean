/-- the tokens as the class holds them -/
def TKN (K P V : Nat → Nat) (m : Nat) (w : Mem) : Prop := m ≤ 400 ∧ (m = 400 ∨ K m ≤ 1) ∧ ∀ j, j ≤ m → kdB (K j) = true ∧ w 4 j = nI (K j) ∧ w 5 j = nI (P j) ∧ (K j = 3 → w 6 j = nI (V j))
/-- what reading an E into the law k may write -/
def frK (k p0 i : Nat) (w w2 : Mem) : Prop := ∀ a j, ¬ (a = 7 ∧ (j = 3 ∨ j = 5 ∨ j = 6)) → ¬ (a = k ∧ (j = 5 ∨ j = 6)) → ¬ ((a = k + 1 ∨ a = k + 2) ∧ p0 ≤ j) → ¬ (a = k + 3 ∧ i ≤ j) → w2 a j = w a j
theorem tkn_k {K P V : Nat → Nat} {m k p0 i : Nat} {w w2 : Mem} (hk : 9 ≤ k) (h : TKN K P V m w) (f : frK k p0 i w w2) : TKN K P V m w2 := by
  refine ⟨h.1, h.2.1, fun j hj => ?_⟩
  rw [f 4 j (by omega) (by omega) (by omega) (by omega), f 5 j (by omega) (by omega) (by omega) (by omega), f 6 j (by omega) (by omega) (by omega) (by omega)]
  exact h.2.2 j hj
theorem fk_tr {k p0 i : Nat} {w w2 w3 : Mem} (h : frK k p0 i w w2) (h2 : frK k p0 i w2 w3) : frK k p0 i w w3 := fun a j p q r s => (h2 a j p q r s).trans (h a j p q r s)
theorem fk_7 {k p0 i j : Nat} {w : Mem} {v : Int32} (hj : j = 3 ∨ j = 5 ∨ j = 6) : frK k p0 i w (st w 7 j v) := by
  intro a i2 q1 q2 q3 q4
  simp only [st]
  rw [if_neg (by omega)]
theorem tkn_lt {K P V : Nat → Nat} {m t : Nat} {w : Mem} (h : TKN K P V m w) (ht : t ≤ m) (h4 : t < 400) (hk : 2 ≤ K t) : t + 1 ≤ m := by
  rcases h.2.1 with q | q
  · omega
  · rcases Nat.lt_or_ge t m with c | c
    · omega
    · rw [show t = m by omega] at hk
      omega
/-- the class has found a fault while reading into the law k -/
def FCk (P : Nat → Nat) (k p0 i : Nat) (w0 : Mem) (kd tok : Nat) (w : Mem) : Prop := frK k p0 i w0 w ∧ w 7 5 = nI kd ∧ w 7 6 = nI (P tok) ∧ (∃ x, p0 ≤ x ∧ x ≤ 400 ∧ w k 5 = nI x) ∧ ∃ y, i ≤ y ∧ y ≤ 13 ∧ w k 6 = nI y
theorem c_takes {K P V : Nat → Nat} {m t c : Nat} {w : Mem} {Q : Int32 → Mem → Prop} (h : TKN K P V m w) (ht : t ≤ m) (h3 : w 7 3 = nI t) (hc : c < 2 ^ 20) (K1 : K t = c → t < 400 → Q 1 (st w 7 3 (nI (t + 1)))) (K2 : K t = c → ¬ t < 400 → Q 0 (st (st w 7 5 (nI 2)) 7 6 (nI (P t)))) (K0 : ¬ K t = c → Q 0 (st (st w 7 5 (nI 1)) 7 6 (nI (P t)))) : wp_3_takes (nI c) w Q := by
  have hm := h.1
  obtain ⟨hk, e4, e5, _⟩ := h.2.2 t ht
  have hk2 := kd_lt hk
  have iv : vp_in (nI t) 401 := vp_in_nI (by omega) (by decide)
  have bad : ∀ a, Q 0 (st (st w 7 5 (nI a)) 7 6 (nI (P t))) → wp_3_takes_b46 Q (nI a) w := by
    intro a q w1 e1
    have g3 : w1 7 3 = nI t := by subst e1; rw [st_nj (by decide)]; exact h3
    have g5 : w1 5 t = nI (P t) := by subst e1; rw [st_nk (by decide)]; exact e5
    rw [g3, ix_nI (by omega), g5]
    refine ⟨iv, fun w3 e3 => ?_⟩
    subst e3
    subst e1
    exact q
  unfold wp_3_takes
  rw [h3, ix_nI (by omega), e4]
  refine ⟨iv, fun q => t0 (t0 (bad 1 (K0 (fun z => q (by rw [z]))))), fun q => ?_⟩
  have ek : K t = c := (nI_eq (by omega) (by omega)).mp (Classical.not_not.mp q)
  refine t1 ?_
  rw [h3]
  refine pk_lt t 400 (fun c4 w1 e1 => ?_) (fun c4 => t1 (bad 2 (K2 ek (by omega))))
  rw [nI_1] at e1
  subst e1
  exact K1 ek c4
theorem c_fails {K P V : Nat → Nat} {m t a : Nat} {w : Mem} {Q : Int32 → Mem → Prop} (h : TKN K P V m w) (ht : t ≤ m) (h3 : w 7 3 = nI t) (K0 : Q 0 (st (st w 7 5 (nI a)) 7 6 (nI (P t)))) : wp_3_fails (nI a) w Q := by
  have hm := h.1
  obtain ⟨hk, e4, e5, _⟩ := h.2.2 t ht
  intro w1 e1
  have g3 : w1 7 3 = nI t := by subst e1; rw [st_nj (by decide)]; exact h3
  have g5 : w1 5 t = nI (P t) := by subst e1; rw [st_nk (by decide)]; exact e5
  rw [g3, ix_nI (by omega), g5]
  refine ⟨vp_in_nI (by omega) (by decide), fun w3 e3 => ?_⟩
  subst e3
  subst e1
  exact K0
/-- the class in the midst of an E of the law k -/
def LSt (k p0 i c : Nat) (w0 w : Mem) (t : Nat) (E : LE) : Prop :=
  (w 7 3 = nI t ∧ w k 5 = nI (p0 + E.length) ∧ w k 6 = nI i) ∧ cda copE (w (k + 1)) (w (k + 2)) p0 E ∧ frK k p0 i w0 w ∧ p0 + E.length + c ≤ t
theorem c_add {k p0 i c t o : Nat} {op v : Int32} {w0 w : Mem} {E : LE} {Q : Mem → Prop} (hk : 9 ≤ k) (ht : t ≤ 400) (h : LSt k p0 i (c + 1) w0 w t E) (hop : op = copE o) (K : ∀ w2, LSt k p0 i c w0 w2 t (E ++ [(o, v)]) → Q w2) : wp_2_add k op v w Q := by
  obtain ⟨⟨h1, h2, h3⟩, h4, h5, h6⟩ := h
  have iv : vp_in (nI (p0 + E.length)) 400 := vp_in_nI (by omega) (by decide)
  unfold wp_2_add
  rw [h2]
  refine pk_le 400 (p0 + E.length) (fun q => absurd q (by omega)) (fun _ => ⟨iv, fun w2 e2 => ?_⟩)
  rw [ix_nI (by omega)] at e2
  have g2 : w2 k 5 = nI (p0 + E.length) := by subst e2; rw [st_nk (by omega)]; exact h2
  rw [g2, ix_nI (by omega)]
  refine ⟨iv, fun w4 e4 w5 e5 => ?_⟩
  have g4 : w4 k 5 = nI (p0 + E.length) := by subst e4; rw [st_nk (by omega)]; exact g2
  rw [g4, nI_1] at e5
  have r5 : ∀ a j, ¬ (a = k ∧ j = 5) → ¬ ((a = k + 1 ∨ a = k + 2) ∧ j = p0 + E.length) → w5 a j = w a j := by
    subst e5
    subst e4
    subst e2
    intro a j q1 q2
    simp only [st]
    rw [if_neg q1, if_neg (by omega), if_neg (by omega)]
  have z1 : w5 (k + 1) (p0 + E.length) = copE o := by
    subst e5
    subst e4
    subst e2
    rw [st_nk (by omega), st_nk (by omega), st_eq, hop]
  have z2 : w5 (k + 2) (p0 + E.length) = v := by
    subst e5
    subst e4
    rw [st_nk (by omega), st_eq]
  have z5 : w5 k 5 = nI (p0 + E.length + 1) := by subst e5; exact st_eq
  refine K w5 ⟨⟨(r5 7 3 (by omega) (by omega)).trans h1, ?_, (r5 k 6 (by omega) (by omega)).trans h3⟩, ?_, ?_, ?_⟩
  · rw [z5, List.length_append]
    rfl
  · exact cda_a (fun j q1 q2 => ⟨r5 (k + 1) j (by omega) (by omega), r5 (k + 2) j (by omega) (by omega)⟩) h4 z1 z2
  · intro a j q1 q2 q3 q4
    rw [r5 a j (by omega) (by omega)]
    exact h5 a j q1 q2 q3 q4
  · rw [List.length_append]
    show p0 + (E.length + 1) + c ≤ t
    omega
/-- a sign put behind a fault -/
theorem c_addF {P : Nat → Nat} {k p0 i kd tok : Nat} {op v : Int32} {w0 w : Mem} {Q : Mem → Prop} (hk : 9 ≤ k) (h : FCk P k p0 i w0 kd tok w) (K : ∀ w2, FCk P k p0 i w0 kd tok w2 → Q w2) : wp_2_add k op v w Q := by
  have h0 := h
  obtain ⟨h1, h2, h3, ⟨x, x1, x2, ex⟩, y, hy0, hy, ey⟩ := h
  unfold wp_2_add
  rw [ex]
  refine pk_le 400 x (fun q => K w h0) (fun q => ⟨vp_in_nI (by omega) (by decide), fun w2 e2 => ?_⟩)
  rw [ix_nI (by omega)] at e2
  have g2 : w2 k 5 = nI x := by subst e2; rw [st_nk (by omega)]; exact ex
  rw [g2, ix_nI (by omega)]
  refine ⟨vp_in_nI (by omega) (by decide), fun w4 e4 w5 e5 => ?_⟩
  have g4 : w4 k 5 = nI x := by subst e4; rw [st_nk (by omega)]; exact g2
  rw [g4, nI_1] at e5
  have r5 : ∀ a j, ¬ (a = k ∧ j = 5) → ¬ ((a = k + 1 ∨ a = k + 2) ∧ j = x) → w5 a j = w a j := by
    subst e5
    subst e4
    subst e2
    intro a j q1 q2
    simp only [st]
    rw [if_neg q1, if_neg (by omega), if_neg (by omega)]
  have z5 : w5 k 5 = nI (x + 1) := by subst e5; exact st_eq
  refine K w5 ⟨fun a j q1 q2 q3 q4 => ?_, (r5 7 5 (by omega) (by omega)).trans h2, (r5 7 6 (by omega) (by omega)).trans h3, ⟨x + 1, by omega, by omega, z5⟩, y, hy0, hy, (r5 k 6 (by omega) (by omega)).trans ey⟩
  rw [r5 a j (by omega) (by omega)]
  exact h1 a j q1 q2 q3 q4
