abbrev frF (k : Nat) (w w2 : Mem) : Prop := ∀ a j, ¬ (a = k ∧ (j = 5 ∨ j = 6)) → a ≠ k + 1 → a ≠ k + 2 → a ≠ k + 3 → w2 a j = w a j
abbrev LWx (k : Nat) (w : Mem) (f : (Nat → Int32) → Int32) : Prop := ∃ (Z : LE) (R : LB), lwC k w Z 0 0 R ∧ ∀ V, f V = (telA V Z R).getD 0
theorem lwx_fr {k k2 : Nat} {w w2 : Mem} {f : (Nat → Int32) → Int32} (h : LWx k w f) (g : frF k2 w w2) (hk : k + 4 ≤ k2 ∨ k2 + 4 ≤ k) : LWx k w2 f := by
  obtain ⟨Z, R, l, e⟩ := h
  have r : ∀ b, k ≤ b → b ≤ k + 3 → w2 b = w b := fun b q1 q2 => funext (fun j => g b j (by omega) (by omega) (by omega) (by omega))
  exact ⟨Z, R, lwC_cg (r _ (by omega) (by omega)) (r _ (by omega) (by omega)) (r _ (by omega) (by omega)) (congrFun (r _ (by omega) (by omega)) _) R 0 0 l, e⟩
theorem olx_fr {k k2 : Nat} {w w2 : Mem} {o : Option (LE × LB)} (h : OLc k w o) (g : frF k2 w w2) (hk : k + 4 ≤ k2 ∨ k2 + 4 ≤ k) : OLc k w2 o := by
  have r : ∀ b, k ≤ b → b ≤ k + 3 → w2 b = w b := fun b q1 q2 => funext (fun j => g b j (by omega) (by omega) (by omega) (by omega))
  exact ol_cg (r _ (by omega) (by omega)) (r _ (by omega) (by omega)) (r _ (by omega) (by omega)) (congrFun (r _ (by omega) (by omega)) _) (congrFun (r _ (by omega) (by omega)) _) h
/-- the untold laws are filled in -/
theorem c_untold {c : Nat} {S : PS} {w : Mem} {Q : Mem → Prop} (hc : 9 ≤ c) (h : CX c S w) (K : ∀ w2, (∀ a j, ¬ (c ≤ a ∧ wrC c a j) → w2 a j = w a j) → TC c (TXs S) w2 → Q w2) : wp_8_fillUntold c w Q := by
  obtain ⟨h1, h2, h3, h4, h5, h6, h7⟩ := h
  have o0 : OLc (c + 1) w (sL S 0) := h1 0 (by decide)
  have o1 : OLc (c + 7) w (sL S 1) := h1 1 (by decide)
  have o2 : OLc (c + 13) w (sL S 2) := h1 2 (by decide)
  have o3 : OLc (c + 19) w (sL S 3) := h1 3 (by decide)
  have o4 : OLc (c + 25) w (sL S 4) := h1 4 (by decide)
  unfold wp_8_fillUntold
  refine c_fill1 o0 (fun w1 g1 x0 => ?_)
  have g1' : frF (c + 1) w w1 := g1
  have x0' : LWx (c + 1) w1 (fun V => orT (sL S 0) (0) V) := x0
  have o1a := olx_fr o1 g1' (by omega)
  have o2a := olx_fr o2 g1' (by omega)
  have o3a := olx_fr o3 g1' (by omega)
  have o4a := olx_fr o4 g1' (by omega)
  refine c_fill1 o2a (fun w2 g2 x2 => ?_)
  have g2' : frF (c + 13) w1 w2 := g2
  have x2' : LWx (c + 13) w2 (fun V => orT (sL S 2) (0) V) := x2
  have o1b := olx_fr o1a g2' (by omega)
  have o3b := olx_fr o3a g2' (by omega)
  have o4b := olx_fr o4a g2' (by omega)
  have x0b := lwx_fr x0' g2' (by omega)
  refine c_fill1 o3b (fun w3 g3 x3 => ?_)
  have g3' : frF (c + 19) w2 w3 := g3
  have x3' : LWx (c + 19) w3 (fun V => orT (sL S 3) (170) V) := x3
  have o1c := olx_fr o1b g3' (by omega)
  have o4c := olx_fr o4b g3' (by omega)
  have x0c := lwx_fr x0b g3' (by omega)
  have x2c := lwx_fr x2' g3' (by omega)
  refine c_fill1 o4c (fun w4 g4 x4 => ?_)
  have g4' : frF (c + 25) w3 w4 := g4
  have x4' : LWx (c + 25) w4 (fun V => orT (sL S 4) (1) V) := x4
  have o1d := olx_fr o1c g4' (by omega)
  have x0d := lwx_fr x0c g4' (by omega)
  have x2d := lwx_fr x2c g4' (by omega)
  have x3d := lwx_fr x3' g4' (by omega)
  have f4 : ∀ a j, ¬ (c ≤ a ∧ wrC c a j) → w4 a j = w a j := by
    intro a j q
    simp only [wrC] at q
    rw [g4 a j (by omega) (by omega) (by omega) (by omega), g3 a j (by omega) (by omega) (by omega) (by omega), g2 a j (by omega) (by omega) (by omega) (by omega), g1 a j (by omega) (by omega) (by omega) (by omega)]
  have t4 : ∀ a j, (a = c ∨ (c + 31 ≤ a ∧ a < c + 39)) → w4 a j = w a j := by
    intro a j q
    rw [g4 a j (by omega) (by omega) (by omega) (by omega), g3 a j (by omega) (by omega) (by omega) (by omega), g2 a j (by omega) (by omega) (by omega) (by omega), g1 a j (by omega) (by omega) (by omega) (by omega)]
  have e7 : w4 c 7 = nI (sN S 0 0) := (t4 c 7 (Or.inl rfl)).trans (h2 0 (by decide))
  rw [e7]
  have fin := c_fillF (n := sN S 0 0) (Q := Q) o1d (fun w5 g5 x5 => K w5 (fun a j q => by
    have q2 := q
    simp only [wrC] at q2
    rw [g5 a j (by omega) (by omega) (by omega) (by omega)]
    exact f4 a j q) ?_)
  · exact fin
  have g5' : frF (c + 7) w4 w5 := g5
  have x1e : LWx (c + 7) w5 (fun V => orT (sL S 1) (nI (sN S 0 0) + 2 * V 2 + 5 * V 7) V) := x5
  have x0e := lwx_fr x0d g5' (by omega)
  have x2e := lwx_fr x2d g5' (by omega)
  have x3e := lwx_fr x3d g5' (by omega)
  have x4e := lwx_fr x4' g5' (by omega)
  have t5 : ∀ a, (a = c ∨ (c + 31 ≤ a ∧ a < c + 39)) → w5 a = w a := by
    intro a q
    funext j
    rw [g5 a j (by omega) (by omega) (by omega) (by omega)]
    exact t4 a j q
  refine ⟨fun a ha => ?_, ?_, ?_, ?_, ?_, fun r a hr ha => ?_, ?_⟩
  · rcases (by omega : a = 0 ∨ a = 1 ∨ a = 2 ∨ a = 3 ∨ a = 4) with z | z | z | z | z <;> subst z
    · obtain ⟨Z, R, l, e⟩ := x0e
      exact ⟨Z, R, l, fun V => e V⟩
    · obtain ⟨Z, R, l, e⟩ := x1e
      exact ⟨Z, R, l, fun V => e V⟩
    · obtain ⟨Z, R, l, e⟩ := x2e
      exact ⟨Z, R, l, fun V => e V⟩
    · obtain ⟨Z, R, l, e⟩ := x3e
      exact ⟨Z, R, l, fun V => e V⟩
    · obtain ⟨Z, R, l, e⟩ := x4e
      exact ⟨Z, R, l, fun V => e V⟩
  · rw [t5 c (by omega)]; exact h2
  · rw [t5 (c + 31) (by omega)]; exact h3
  · rw [t5 c (by omega)]; exact h4
  · rw [t5 (c + 32) (by omega)]; exact h5
  · rw [t5 (c + 33 + r) (by omega)]; exact h6 r a hr ha
  · rw [t5 (c + 37) (by omega), t5 (c + 38) (by omega)]; exact h7
/-- nothing is told -/
theorem c_clearL {k : Nat} {w : Mem} {Q : Mem → Prop} (K : ∀ w2, (∀ a j, ¬ (a = k ∧ (j = 5 ∨ j = 6)) → w2 a j = w a j) → w2 k 5 = 0 → w2 k 6 = 0 → Q w2) : wp_2_clear k w Q := by
  rintro _ rfl _ rfl
  refine K _ (fun a j q => ?_) ?_ st_eq
  · simp only [st]
    rw [if_neg (by omega), if_neg (by omega)]
  · rw [st_nj (by decide), st_eq]
theorem c_clear {c : Nat} {w : Mem} {Q : Mem → Prop} (hc : 9 ≤ c) (K : ∀ w2, (∀ a j, ¬ (c ≤ a ∧ wrC c a j) → w2 a j = w a j) → CX c S0 w2 → Q w2) : wp_8_clear c w Q := by
  unfold wp_8_clear
  refine c_clearL (fun w1 f1 a1 b1 => c_clearL (fun w2 f2 a2 b2 => c_clearL (fun w3 f3 a3 b3 => c_clearL (fun w4 f4 a4 b4 => c_clearL (fun w5 f5 a5 b5 => s_fill (by decide) (fun w6 f6 e6 => ?_))))))
  unfold wp_4_clear
  rintro _ rfl _ rfl _ rfl _ rfl _ rfl _ rfl _ rfl _ rfl _ rfl _ rfl _ rfl _ rfl w18 e18
  have z : ∀ a j, a ≠ c → a ≠ c + 32 → w18 a j = w6 a j := by
    intro a j q1 q2
    subst e18
    simp [st, q1, q2]
  have n : ∀ j, ¬ (7 ≤ j ∧ j < 18) → w18 c j = w6 c j := by
    intro j q
    subst e18
    simp only [st]
    rw [if_neg (by omega), if_neg (by omega), if_neg (by omega), if_neg (by omega), if_neg (by omega), if_neg (by omega), if_neg (by omega), if_neg (by omega), if_neg (by omega), if_neg (by omega), if_neg (by omega), if_neg (by omega), if_neg (by omega)]
  have p : ∀ j, ¬ (j = 6 ∨ j = 7) → w18 (c + 32) j = w6 (c + 32) j := by
    intro j q
    subst e18
    simp only [st]
    rw [if_neg (by omega), if_neg (by omega), if_neg (by omega), if_neg (by omega), if_neg (by omega), if_neg (by omega), if_neg (by omega), if_neg (by omega), if_neg (by omega), if_neg (by omega), if_neg (by omega), if_neg (by omega), if_neg (by omega)]
  have v : w18 c 7 = 900 ∧ w18 c 8 = 1000 ∧ w18 c 9 = 20 ∧ w18 c 10 = 0 ∧ w18 c 11 = 0 ∧ w18 c 12 = 10 ∧ w18 c 13 = 60 ∧ w18 c 14 = 20 ∧ w18 c 15 = 50 ∧ w18 c 16 = 8 ∧ w18 c 17 = 0 := by
    subst e18
    simp [st]
  have u : w18 (c + 32) 6 = 0 ∧ w18 (c + 32) 7 = 0 := by
    subst e18
    simp [st]
  clear e18
  have fr : ∀ a j, ¬ (c ≤ a ∧ wrC c a j) → w18 a j = w a j := by
    intro a j q
    have q2 := q
    simp only [wrC] at q2
    rw [z a j (by omega) (by omega), f6 a (by omega), f5 a j (by omega), f4 a j (by omega), f3 a j (by omega), f2 a j (by omega), f1 a j (by omega)]
  have row : ∀ a j, c + 1 ≤ a → a ≤ c + 30 → w18 a j = w5 a j := fun a j q1 q2 => (z a j (by omega) (by omega)).trans (congrFun (f6 a (by omega)) j)
  refine K w18 fr ⟨fun a ha => ?_, fun k hk => ?_, fun i hi => ?_, fun k hk hk2 => ?_, u, fun r a hr ha => absurd ha (Nat.not_lt_zero _), fun j hj => absurd hj (Nat.not_lt_zero _)⟩
  · show w18 (c + 1 + 6 * a) 5 = 0 ∧ w18 (c + 1 + 6 * a) 6 = 0
    rw [row _ 5 (by omega) (by omega), row _ 6 (by omega) (by omega)]
    rcases (by omega : a = 0 ∨ a = 1 ∨ a = 2 ∨ a = 3 ∨ a = 4) with y | y | y | y | y <;> subst y
    · rw [f5 _ 5 (by omega), f4 _ 5 (by omega), f3 _ 5 (by omega), f2 _ 5 (by omega), f5 _ 6 (by omega), f4 _ 6 (by omega), f3 _ 6 (by omega), f2 _ 6 (by omega)]
      exact ⟨a1, b1⟩
    · rw [f5 _ 5 (by omega), f4 _ 5 (by omega), f3 _ 5 (by omega), f5 _ 6 (by omega), f4 _ 6 (by omega), f3 _ 6 (by omega)]
      exact ⟨a2, b2⟩
    · rw [f5 _ 5 (by omega), f4 _ 5 (by omega), f5 _ 6 (by omega), f4 _ 6 (by omega)]
      exact ⟨a3, b3⟩
    · rw [f5 _ 5 (by omega), f5 _ 6 (by omega)]
      exact ⟨a4, b4⟩
    · exact ⟨a5, b5⟩
  · rcases (by omega : k = 0 ∨ k = 1 ∨ k = 2) with y | y | y <;> subst y
    · exact v.1
    · exact v.2.1
    · exact v.2.2.1
  · rw [z (c + 31) i (by omega) (by omega), e6 i hi]
    rcases (by omega : i = 0 ∨ i = 1 ∨ i = 2 ∨ i = 3 ∨ i = 4) with y | y | y | y | y <;> subst y <;> rfl
  · obtain ⟨v1, v2, v3, v4, v5, v6, v7, v8, v9, v10, v11⟩ := v
    rcases (by omega : k = 8 ∨ k = 9 ∨ k = 10 ∨ k = 11 ∨ k = 12 ∨ k = 13 ∨ k = 14 ∨ k = 15) with y | y | y | y | y | y | y | y <;> subst y
    · exact v4
    · exact v5
    · exact v6
    · exact v7
    · exact v8
    · exact v9
    · exact v10
    · exact v11
