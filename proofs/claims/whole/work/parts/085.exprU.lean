/-- the text has a fault -/
def FX (P : Nat → Nat) (s c0 : Nat) (w0 : Mem) (k tok : Nat) (w : Mem) : Prop :=
  frE s c0 (st w0 150 14 (nI (P tok))) w ∧ w 150 13 = nI k ∧ (∃ t, t ≤ 400 ∧ w 150 11 = nI t) ∧ ∃ c, c0 ≤ c ∧ c ≤ 420 * s + 420 ∧ w 150 39 = nI c
def XQ (P : Nat → Nat) (M s c0 : Nat) (w0 : Mem) (wl : MemL) (Q : Mem → MemL → Prop) (r : PE) : Prop := match r with
  | .error (k, tok) => ∀ w2, FX P s c0 w0 k tok w2 → Q w2 wl
  | .ok (t2, U) => t2 ≤ M → ∀ w2, ESt s c0 w0 w2 t2 U [] 0 0 → Q w2 wl
/-- between two states of an E -/
def frX (w w2 : Mem) : Prop := ∀ a j, a ≠ 177 → ¬ (a = 150 ∧ (j = 11 ∨ j = 12 ∨ j = 13 ∨ j = 14 ∨ j = 43)) → w2 a j = w a j
theorem fx_tr {w w2 w3 : Mem} (h : frX w w2) (h2 : frX w2 w3) : frX w w3 := fun a j p q => (h2 a j p q).trans (h a j p q)
theorem fx_st {w : Mem} {j : Nat} {v : Int32} (hj : j = 11 ∨ j = 12 ∨ j = 13 ∨ j = 14 ∨ j = 43) : frX w (st w 150 j v) := by
  intro a i p q
  simp only [st]
  rw [if_neg (by omega)]
theorem fx_17 {w : Mem} {j : Nat} {v : Int32} : frX w (st w 177 j v) := by
  intro a i p q
  simp only [st]
  rw [if_neg (by omega)]
theorem es_up {s c0 t o t2 o2 : Nat} {f f2 : Int32} {w0 w w2 : Mem} {E : LE} {S S2 : List Nat} (h : ESt s c0 w0 w t E S o f) (fr : frX w w2) (h14 : w2 150 14 = w 150 14) (h11 : w2 150 11 = nI t2) (h12 : w2 150 12 = nI o2) (h13 : w2 150 13 = f2) (h43 : w2 150 43 = nI S2.length) (hw : wst (w2 177) S2) (hb : c0 + E.length + S2.length ≤ 420 * s + t2) : ESt s c0 w0 w2 t2 E S2 o2 f2 := by
  obtain ⟨⟨h1, h2, h3, h4, h5⟩, h6, h7, h8, h9⟩ := h
  refine ⟨⟨h11, h12, h13, (fr 150 39 (by omega) (by omega)).trans h4, h43⟩, ?_, hw, fun a j q1 q2 q3 => ?_, hb⟩
  · rw [show w2 175 = w 175 from funext (fun j => fr 175 j (by omega) (by omega)), show w2 176 = w 176 from funext (fun j => fr 176 j (by omega) (by omega))]
    exact h6
  · by_cases z : a = 150 ∧ j = 14
    · rw [z.1, z.2, h14]; exact h8 150 14 (by omega) (by omega) (by omega)
    · rw [fr a j q1 (by omega)]
      exact h8 a j q1 q2 q3
theorem es_14 {s c0 t o : Nat} {f f2 x : Int32} {w0 w : Mem} {E : LE} {S : List Nat} (h : ESt s c0 w0 w t E S o f) : ESt s c0 (st w0 150 14 x) (st (st w 150 13 f2) 150 14 x) t E S o f2 := by
  obtain ⟨⟨h1, h2, h3, h4, h5⟩, h6, h7, h8, h9⟩ := h
  have row : ∀ a, a ≠ 150 → (st (st w 150 13 f2) 150 14 x) a = w a := fun a ha => by rw [st_ne a ha, st_ne a ha]
  refine ⟨⟨?_, ?_, ?_, ?_, ?_⟩, ?_, ?_, fun a j q1 q2 q3 => ?_, h9⟩
  · rw [st_nj (by decide), st_nj (by decide)]; exact h1
  · rw [st_nj (by decide), st_nj (by decide)]; exact h2
  · rw [st_nj (by decide), st_eq]
  · rw [st_nj (by decide), st_nj (by decide)]; exact h4
  · rw [st_nj (by decide), st_nj (by decide)]; exact h5
  · rw [row 175 (by decide), row 176 (by decide)]; exact h6
  · rw [row 177 (by decide)]; exact h7
  · have := h8 a j q1 q2 q3
    simp only [st]
    split
    · rfl
    · rw [if_neg (by omega)]
      exact this
theorem es_fx {P : Nat → Nat} {s c0 t o k tok t2 : Nat} {f : Int32} {w0 w w2 : Mem} {E : LE} {S : List Nat} (ht : t ≤ 400) (h : ESt s c0 w0 w t E S o f) (fr : frX w w2) (h11 : w2 150 11 = nI t2) (ht2 : t2 ≤ 400) (h13 : w2 150 13 = nI k) (h14 : w2 150 14 = nI (P tok)) : FX P s c0 w0 k tok w2 := by
  obtain ⟨⟨h1, h2, h3, h4, h5⟩, h6, h7, h8, h9⟩ := h
  refine ⟨fun a j q1 q2 q3 => ?_, h13, ⟨t2, ht2, h11⟩, c0 + E.length, by omega, by omega, (fr 150 39 (by omega) (by omega)).trans h4⟩
  simp only [st]
  split
  · rename_i z; rw [z.1, z.2]; exact h14
  · rw [fr a j q1 (by omega)]
    exact h8 a j q1 q2 q3
theorem r_emit2 {s c0 t o k : Nat} {v f : Int32} {w0 w : Mem} {wl : MemL} {E : LE} {S : List Nat} {Q : Mem → MemL → Prop} (hs : s ≤ 1) (ht : t ≤ 400) (hc : 420 * s ≤ c0) (h : ESt s c0 w0 w t E S o f) (K : ∀ w2, (∀ w3 t2 f2, frX w2 w3 → w3 150 14 = w2 150 14 → w3 150 11 = nI t2 → w3 150 12 = w2 150 12 → w3 150 13 = f2 → w3 150 43 = w2 150 43 → w3 177 = w2 177 → t < t2 → ESt s c0 w0 w3 t2 (E ++ [(k, v)]) S o f2) → w2 150 11 = nI t → w2 150 13 = f → (∀ a j, a ≠ 175 → a ≠ 176 → a ≠ 150 → w2 a j = w a j) → (∀ (P : Nat → Nat) w3 t2 k2 tok, frX w2 w3 → w3 150 11 = nI t2 → t2 ≤ 400 → w3 150 13 = nI k2 → w3 150 14 = nI (P tok) → FX P s c0 w0 k2 tok w3) → Q w2 wl) : wp_12_emit (nI k) v w wl Q := by
  obtain ⟨⟨h1, h2, h3, h4, h5⟩, h6, h7, h8, h9⟩ := h
  have iv : vp_in (nI (c0 + E.length)) 840 := vp_in_nI (by omega) (by decide)
  unfold wp_12_emit
  rw [h4, ix_nI (by omega)]
  refine ⟨iv, fun w2 e2 => ?_⟩
  have g2 : w2 150 39 = nI (c0 + E.length) := by subst e2; rw [st_nk (by decide)]; exact h4
  rw [g2, ix_nI (by omega)]
  refine ⟨iv, fun w4 e4 w5 e5 => ?_⟩
  have g4 : w4 150 39 = nI (c0 + E.length) := by subst e4; rw [st_nk (by decide)]; exact g2
  rw [g4, nI_1] at e5
  have r5 : ∀ a j, ¬ (a = 150 ∧ j = 39) → ¬ ((a = 175 ∨ a = 176) ∧ j = c0 + E.length) → w5 a j = w a j := by
    subst e5
    subst e4
    subst e2
    intro a j q1 q2
    simp only [st]
    rw [if_neg q1, if_neg (by omega), if_neg (by omega)]
  have z175 : w5 175 (c0 + E.length) = nI k := by
    subst e5
    subst e4
    subst e2
    rw [st_nk (by decide), st_nk (by decide), st_eq]
  have z176 : w5 176 (c0 + E.length) = v := by
    subst e5
    subst e4
    rw [st_nk (by decide), st_eq]
  have z39 : w5 150 39 = nI (c0 + E.length + 1) := by subst e5; exact st_eq
  have fe : frE s c0 w0 w5 := by
    intro a j q1 q2 q3
    rw [r5 a j (by omega) (by omega)]
    exact h8 a j q1 q2 q3
  refine K w5 (fun w3 t2 f2 fr a14 a1 a2 a3 a4 a5 a6 => ?_) ((r5 150 11 (by omega) (by omega)).trans h1) ((r5 150 13 (by omega) (by omega)).trans h3) (fun a j q1 q2 q3 => r5 a j (by omega) (by omega)) (fun P w3 t2 k2 tok fr a1 a2 a3 a4 => ?_)
  · refine ⟨⟨a1, a2.trans ((r5 150 12 (by omega) (by omega)).trans h2), a3, ?_, a4.trans ((r5 150 43 (by omega) (by omega)).trans h5)⟩, ?_, ?_, ?_, ?_⟩
    · rw [fr 150 39 (by omega) (by omega), z39, List.length_append]
      rfl
    · rw [show w3 175 = w5 175 from funext (fun j => fr 175 j (by omega) (by omega)), show w3 176 = w5 176 from funext (fun j => fr 176 j (by omega) (by omega))]
      exact cda_a (fun j q1 q2 => ⟨r5 175 j (by omega) (by omega), r5 176 j (by omega) (by omega)⟩) h6 z175 z176
    · rw [a5, show w5 177 = w 177 from funext (fun j => r5 177 j (by omega) (by omega))]
      exact h7
    · intro a j q1 q2 q3
      by_cases z : a = 150 ∧ j = 14
      · rw [z.1, z.2, a14]; exact fe 150 14 (by omega) (by omega) (by omega)
      · rw [fr a j q1 (by omega)]
        exact fe a j q1 q2 q3
    · rw [List.length_append]
      show c0 + (E.length + 1) + S.length ≤ 420 * s + t2
      omega
  · refine ⟨fun a j q1 q2 q3 => ?_, a3, ⟨t2, a2, a1⟩, c0 + E.length + 1, by omega, by omega, (fr 150 39 (by omega) (by omega)).trans z39⟩
    simp only [st]
    split
    · rename_i z; rw [z.1, z.2]; exact a4
    · rw [fr a j q1 (by omega)]
      exact fe a j q1 q2 q3
theorem r_23F {Q : Mem → MemL → Prop} {L12 : Int32 → Int32 → Mem → MemL → Prop} {l1 : Int32} {n k : Nat} {w : Mem} {wl : MemL} (h13 : w 150 13 = nI k) (hk : 0 < k) (hk2 : k < 10) (K : Q w wl) : wp_12_expression_b23 Q L12 (n + 1) l1 w wl := by
  have n13 : ¬ w 150 13 = 0 := by rw [h13]; exact nI_ne0 (by omega) (by omega)
  unfold wp_12_expression_b23
  refine r_isF n13 (t0 ?_)
  unfold wp_12_unit
  refine r_isF n13 (t0 ⟨fun _ => r_failF h13 hk hk2 ?_, fun q => absurd (Classical.not_not.mp q) n13⟩)
  show (w 150 13 ≤ 0 → _) ∧ (¬ w 150 13 ≤ 0 → _)
  rw [h13]
  exact ⟨fun q => absurd ((nI_leI (b := 0) (by omega) (by omega)).mp q) (by omega), fun _ => K⟩
theorem r_12F {Q : Mem → MemL → Prop} {l1 l2 : Int32} {n : Nat} {w : Mem} {wl : MemL} (h13 : ¬ w 150 13 = 0) (K : Q w wl) : wp_12_expression_b12 Q (n + 1) l1 l2 w wl :=
  ⟨fun _ => K, fun _ => ⟨fun _ => K, fun q => absurd (Classical.not_not.mp q) h13⟩⟩
/-- behind a unit with a fault -/
theorem r_96F {P : Nat → Nat} {Q : Mem → MemL → Prop} {L12 : Int32 → Int32 → Mem → MemL → Prop} {l1 : Int32} {n k tok s c0 t o : Nat} {w0 w : Mem} {wl : MemL} {E : LE} {S : List Nat} (hs : s ≤ 1) (ht : t ≤ 400) (hc : 420 * s ≤ c0) (hS : S.length ≤ 60) (hG : GS5 S) (h : ESt s c0 (st w0 150 14 (nI (P tok))) w t E S o (nI k)) (hk : 0 < k) (hk2 : k < 10) (K : ∀ w2, FX P s c0 w0 k tok w2 → Q w2 wl) : wp_12_expression_b96 Q L12 (n + 1) l1 w wl := by
  have n13 : ¬ w 150 13 = 0 := by rw [h.1.2.2.1]; exact nI_ne0 (by omega) (by omega)
  have fin : wp_12_expression_b204 Q w wl := by
    refine ⟨S.length + 1, r_out hs ht hc (md := 0) (by omega) S E w hS hG h (fun w2 h2 => ?_)⟩
    simp only [if_true] at h2
    refine K w2 ⟨h2.2.2.2.1, h2.1.2.2.1, ⟨t, ht, h2.1.1⟩, c0 + (pop0 E S).1.length, by omega, ?_, h2.1.2.2.2.1⟩
    have := h2.2.2.2.2
    omega
  unfold wp_12_expression_b96
  refine r_isF n13 (t0 ?_)
  unfold wp_12_expression_b145
  refine r_isF n13 ⟨fun q => absurd rfl q, fun _ => r_isF n13 ⟨fun q => absurd rfl q, fun _ => r_isF n13 ⟨fun q => absurd rfl q, fun _ => r_isF n13 (t0 ?_)⟩⟩⟩
  exact ⟨fun q => absurd rfl q, fun _ => ⟨fun _ => fin, fun _ => r_failF h.1.2.2.1 hk hk2 fin⟩⟩
