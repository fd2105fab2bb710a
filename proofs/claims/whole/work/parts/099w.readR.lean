/-! the reference's read -/
theorem pcR_rg {cl ch : Nat} {w w2 : Mem} {f g : Int32} {E : LE} (h : ∀ b j, (b = 175 ∨ b = 176) → cl ≤ j → j < ch → w2 b j = w b j) (q : pcR cl ch w f g E) : pcR cl ch w2 f g E := by
  obtain ⟨a, h1, h3, h4, h5, h6, h7, h8⟩ := q
  exact ⟨a, h1, h3, h4, h5, h6, cda_x (fun j q1 q2 => ⟨h 175 j (Or.inl rfl) (by omega) (by omega), h 176 j (Or.inr rfl) (by omega) (by omega)⟩) h7, h8⟩
theorem lwR_rg {cl ch lo hi : Nat} {w w2 : Mem} {Z : LE} : ∀ (R : LB) (i N : Nat), lo ≤ i → N ≤ hi → (∀ b j, 170 ≤ b → b ≤ 174 → lo ≤ j → j < hi → w2 b j = w b j) → (∀ b j, (b = 175 ∨ b = 176) → cl ≤ j → j < ch → w2 b j = w b j) → lwR cl ch w Z i N R → lwR cl ch w2 Z i N R
  | [], i, N, hl, hh, h, h2, q => by
    obtain ⟨q0, q1, q2, q3⟩ := q
    refine ⟨?_, ?_, q2, q3⟩
    · rw [h 170 i (by decide) (by decide) hl (by omega)]; exact q0
    · rw [h 173 i (by decide) (by decide) hl (by omega), h 174 i (by decide) (by decide) hl (by omega)]; exact pcR_rg h2 q1
  | (A, B, C) :: r, i, N, hl, hh, h, h2, q => by
    obtain ⟨q0, q1, q2, q3, q4, q5⟩ := q
    obtain ⟨l1, l2, l3⟩ := lwR_lt _ _ _ q5
    refine ⟨?_, ?_, ?_, ?_, q4, lwR_rg r _ _ (by omega) hh h h2 q5⟩
    · rw [h 170 i (by decide) (by decide) hl (by omega)]; exact q0
    · rw [h 171 i (by decide) (by decide) hl (by omega), h 172 i (by decide) (by decide) hl (by omega)]; exact pcR_rg h2 q1
    · rw [h 172 i (by decide) (by decide) hl (by omega), h 173 i (by decide) (by decide) hl (by omega)]; exact pcR_rg h2 q2
    · rw [h 173 i (by decide) (by decide) hl (by omega), h 174 i (by decide) (by decide) hl (by omega)]; exact pcR_rg h2 q3
/-- the other side was written -/
theorem tr_side {s : Nat} {T : TX} {w0 w : Mem} (hs : s ≤ 1) (h : TR s T w0) (f : ∀ a j, ¬ wrR (1 - s) a j → 159 ≤ a → a < 177 → w a j = w0 a j) (hB : BT T) : TR s T w := by
  obtain ⟨h1, h2, h3, h4, h5⟩ := h
  have m8 : tm T ≤ 8 := hB.2.2.1.2.2.2.1
  have m7 : tj T ≤ 7 := hB.2.2.1.2.2.2.2
  have z : s = 0 ∨ s = 1 := by omega
  refine ⟨fun a ha => ?_, fun k hk => ?_, ⟨?_, ?_⟩, fun r a hr ha => ?_, fun j hj => ⟨?_, ?_⟩⟩
  · have q := h1 a ha
    unfold TRl at q ⊢
    rw [f 168 (5 * s + a) (by simp only [wrR]; omega) (by decide) (by decide), f 169 (5 * s + a) (by simp only [wrR]; omega) (by decide) (by decide)]
    rcases q with q | ⟨i, N, Z, R, a1, a2, a3, a4, a5, a6, a7⟩
    · exact Or.inl q
    · exact Or.inr ⟨i, N, Z, R, a1, a2, a3, a4, a5, lwR_rg (lo := 130 * s) (hi := 130 * s + 130) R i N a4 a5 (fun b j q1 q2 q3 q4 => f b j (by simp only [wrR]; omega) (by omega) (by omega)) (fun b j q1 q2 q3 => f b j (by simp only [wrR]; omega) (by omega) (by omega)) a6, a7⟩
  · rw [f 159 _ (by simp only [wrR]; omega) (by decide) (by decide)]; exact h2 k hk
  · rw [f 160 _ (by simp only [wrR]; omega) (by decide) (by decide)]; exact h3.1
  · rw [f 165 _ (by simp only [wrR]; omega) (by decide) (by decide)]; exact h3.2
  · rw [f (161 + r) _ (by simp only [wrR]; omega) (by omega) (by omega)]; exact h4 r a hr ha
  · rw [f 166 _ (by simp only [wrR]; omega) (by decide) (by decide)]; exact (h5 j hj).1
  · rw [f 167 _ (by simp only [wrR]; omega) (by decide) (by decide)]; exact (h5 j hj).2
/-- what was read is a text -/
theorem tr_of {s iB c : Nat} {S : PS} {w : Mem} (hs : s ≤ 1) (hc : c ≤ 420 * s + 400) (hi : 4 * iB ≤ 520 * s + 400) (h : RX s iB c S w) : TR s (TXs S) w := by
  obtain ⟨h1, h2, h3, h4, h5⟩ := h
  refine ⟨fun a ha => ?_, h2, h3, h4, h5⟩
  have q := h1 a ha
  unfold TRl
  cases hl : S.1 a with
  | none =>
    have q2 : OLr s iB c a w none := by rw [← hl]; exact q
    refine Or.inl ⟨q2, fun V => ?_⟩
    show orT (S.1 a) (dfT (tx S) a V) V = _
    rw [hl]
    rfl
  | some x =>
    obtain ⟨Z, R⟩ := x
    have q2 : OLr s iB c a w (some (Z, R)) := by rw [← hl]; exact q
    obtain ⟨i, N, a1, a2, a3, a4, a5⟩ := q2
    obtain ⟨l1, l2, l3⟩ := lwR_lt _ _ _ a5
    refine Or.inr ⟨i, N, Z, R, a1, a2, by omega, a3, by omega, lwR_lo (by omega) (by omega) R i N (fun _ _ _ _ _ => rfl) (fun _ _ _ _ => rfl) a5, fun V => ?_⟩
    show orT (S.1 a) (dfT (tx S) a V) V = _
    rw [hl]
    rfl
/-- the reference takes a new text -/
theorem r_new {s : Nat} {T : TX} {w : Mem} {wl : MemL} {Q : Int32 → Mem → MemL → Prop} (hs : s < 2) (h19 : w 150 19 = nI s) (h13 : w 150 13 = 0) (h15 : w 150 15 = 0) (hT : TR s T w) (hz : ∀ i, 260 ≤ i → w 180 i = 0 ∧ w 181 i = 0)
    (K : ∀ w2, (∀ a j, a ≠ 180 → a ≠ 181 → ¬ (a = 187 ∧ j < 3) → ¬ (a = 150 ∧ (j = 17 ∨ j = 18 ∨ j = 49 ∨ j = 50 ∨ j = 64 ∨ j = 66)) → w2 a j = w a j) → w2 180 = begP T → w2 181 = begP T → (w2 150 17 = -1 ∧ w2 150 18 = nI s ∧ w2 150 64 = 0 ∧ w2 150 66 = 0) → (∀ i, i < 3 → w2 187 i = 0) → Q 0 w2 wl) : wp_12_read_b164 Q (-1) w wl := by
  intro w1 e1
  have f1 : ∀ a j, ¬ (a = 150 ∧ j = 17) → w1 a j = w a j := by
    subst e1
    intro a j q
    simp only [st]
    rw [if_neg q]
  have v1 : w1 150 17 = -1 := by subst e1; exact st_eq
  rw [f1 150 13 (by decide), f1 150 15 (by decide), h13, h15]
  clear e1
  refine ⟨fun _ => ⟨fun _ w2 e2 => ?_, fun q => absurd (by decide) q⟩, fun q => absurd (by decide) q⟩
  rw [f1 150 19 (by decide), h19] at e2
  have f2 : ∀ a j, ¬ (a = 150 ∧ (j = 17 ∨ j = 18)) → w2 a j = w a j := by
    subst e2
    intro a j q
    simp only [st]
    rw [if_neg (by omega)]
    exact f1 a j (by omega)
  have v2 : w2 150 17 = -1 ∧ w2 150 18 = nI s := by
    subst e2
    refine ⟨?_, st_eq⟩
    rw [st_nj (by decide)]
    exact v1
  clear e2
  have r2 : ∀ a, a ≠ 150 → w2 a = w a := fun a q => funext (fun j => f2 a j (by omega))
  refine r_begins hs v2.2 (tr_cg hT (fun b q1 q2 => r2 b (by omega))) (fun i hi => by rw [r2 181 (by decide)]; exact (hz i hi).2) (fun w3 f3 b3 p3 d3 => ?_)
  refine r_keepsRow (fun i hi => ⟨?_, by rw [b3]; exact begP_0 T (by omega)⟩) (fun w5 f5 b5 w7 e7 w8 e8 => ?_)
  · rw [f3 180 i (by decide) (by omega), r2 180 (by decide)]
    exact (hz i hi).1
  have f8 : ∀ a j, ¬ (a = 150 ∧ (j = 64 ∨ j = 66)) → w8 a j = w5 a j := by
    subst e8
    subst e7
    intro a j q
    simp only [st]
    rw [if_neg (by omega), if_neg (by omega)]
  have v8 : w8 150 64 = 0 ∧ w8 150 66 = 0 := by
    subst e8
    subst e7
    refine ⟨?_, st_eq⟩
    rw [st_nj (by decide), st_eq]
  clear e8 e7
  have g8 : ∀ a j, a ≠ 180 → a ≠ 181 → ¬ (a = 150 ∧ (j = 17 ∨ j = 18 ∨ j = 49 ∨ j = 50 ∨ j = 64 ∨ j = 66)) → w8 a j = w a j := by
    intro a j q1 q2 q3
    rw [f8 a j (by omega), f5 a q1, f3 a j q2 (by omega)]
    exact f2 a j (by omega)
  have k8 : ∀ j, ¬ (j = 49 ∨ j = 50 ∨ j = 64 ∨ j = 66) → w8 150 j = w2 150 j := by
    intro j q
    rw [f8 150 j (by omega), f5 150 (by decide), f3 150 j (by decide) (by omega)]
  have e181 : w8 181 = begP T := by
    rw [show w8 181 = w5 181 from funext (fun j => f8 181 j (by omega)), f5 181 (by decide)]
    exact b3
  have e180 : w8 180 = begP T := by
    rw [show w8 180 = w5 180 from funext (fun j => f8 180 j (by omega)), b5]
    exact b3
  refine pk_loop (fun n i (z : Mem) => wp_12_read_b219 Q n (nI i) z wl) (fun i z => (∀ a j, ¬ (a = 187 ∧ j < 3) → z a j = w8 a j) ∧ ∀ k, k < i → z 187 k = 0) 3 0 w8 (by omega) ⟨fun _ _ _ => rfl, fun j hj => absurd hj (by omega)⟩ (fun n z hz => ?_) (fun n i z hi hz L => ?_)
  · obtain ⟨f, o⟩ := hz
    refine pk_le 3 3 (fun _ => K z (fun a j q1 q2 q3 q4 => (f a j q3).trans (g8 a j q1 q2 q4)) ?_ ?_ ⟨?_, ?_, ?_, ?_⟩ o) (fun q => absurd q (by omega))
    · rw [← e180]
      exact funext (fun j => f 180 j (by omega))
    · rw [← e181]
      exact funext (fun j => f 181 j (by omega))
    · rw [f 150 17 (by omega), k8 17 (by decide)]
      exact v2.1
    · rw [f 150 18 (by omega), k8 18 (by decide)]
      exact v2.2
    · rw [f 150 64 (by omega)]
      exact v8.1
    · rw [f 150 66 (by omega)]
      exact v8.2
  · obtain ⟨f, o⟩ := hz
    refine pk_le 3 i (fun q => absurd q (by omega)) (fun _ => ⟨vp_in_nI hi (by decide), fun y2 u2 x5 e5 => ?_⟩)
    rw [ix_nI (by omega), nb0] at u2
    rw [nI_1] at e5
    subst e5
    subst u2
    refine L _ ⟨fun a j q => ?_, fun k hk => ?_⟩
    · simp only [st]
      rw [if_neg (by omega)]
      exact f a j q
    · by_cases c : k = i
      · subst c
        exact st_eq
      · rw [st_nj c]
        exact o k (by omega)
