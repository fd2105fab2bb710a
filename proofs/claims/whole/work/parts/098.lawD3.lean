def KE2 {α : Type} (r : Except (Nat × Nat) α) : Prop := ∀ kd tok, r = .error (kd, tok) → kd = 1 ∨ kd = 2
theorem ke_e {α : Type} {kd tok : Nat} (h : kd = 1 ∨ kd = 2) : KE2 (Except.error (kd, tok) : Except (Nat × Nat) α) := by
  intro a b e
  cases e
  exact h
theorem ke_ok {α : Type} {x : α} : KE2 (Except.ok x : Except (Nat × Nat) α) := by
  intro a b e
  cases e
theorem ke_un {K V : Nat → Nat} {RS : Nat → Nat → PE} {d t : Nat} (h : d < 6 → ∀ t, KE2 (RS (d + 1) t)) : KE2 (unP K V RS d t) := by
  unfold unP
  split
  · split
    · exact ke_ok
    · exact ke_e (Or.inr rfl)
  · split
    · split
      · exact ke_ok
      · exact ke_e (Or.inr rfl)
    · split
      · split
        · rename_i d6
          split
          · have z := h d6 (t + 1)
            cases hr : RS (d + 1) (t + 1) with
            | error y =>
              rw [hr] at z
              obtain ⟨a, b⟩ := y
              exact ke_e (z a b rfl)
            | ok y =>
              obtain ⟨t2, U⟩ := y
              show KE2 (if K t2 = 41 then (if t2 < 400 then Except.ok (t2 + 1, U) else Except.error (2, t2)) else Except.error (1, t2))
              split
              · split
                · exact ke_ok
                · exact ke_e (Or.inr rfl)
              · exact ke_e (Or.inl rfl)
          · exact ke_e (Or.inr rfl)
        · exact ke_e (Or.inr rfl)
      · exact ke_e (Or.inl rfl)
theorem ke_pl {K V : Nat → Nat} {RS : Nat → Nat → PE} {d : Nat} (h : ∀ t, KE2 (unP K V RS d t)) : ∀ n t E, KE2 (prL K V RS d n t E)
  | 0, t, E => ke_ok
  | n + 1, t, E => by
    simp only [prL]
    split
    · split
      · have z := h (t + 1)
        cases hr : unP K V RS d (t + 1) with
        | error y =>
          rw [hr] at z
          obtain ⟨a, b⟩ := y
          exact ke_e (z a b rfl)
        | ok y => exact ke_pl h n _ _
      · exact ke_e (Or.inr rfl)
    · exact ke_ok
theorem ke_pr {K V : Nat → Nat} {RS : Nat → Nat → PE} {d t : Nat} (h : ∀ t, KE2 (unP K V RS d t)) : KE2 (prP K V RS d t) := by
  unfold prP
  have z := h t
  cases hr : unP K V RS d t with
  | error y =>
    rw [hr] at z
    obtain ⟨a, b⟩ := y
    exact ke_e (z a b rfl)
  | ok y => exact ke_pl h 400 _ _
theorem ke_sl {K V : Nat → Nat} {RS : Nat → Nat → PE} {d : Nat} (h : ∀ t, KE2 (prP K V RS d t)) : ∀ n t E, KE2 (smL K V RS d n t E)
  | 0, t, E => ke_ok
  | n + 1, t, E => by
    simp only [smL]
    split
    · split
      · have z := h (t + 1)
        cases hr : prP K V RS d (t + 1) with
        | error y =>
          rw [hr] at z
          obtain ⟨a, b⟩ := y
          exact ke_e (z a b rfl)
        | ok y => exact ke_sl h n _ _
      · exact ke_e (Or.inr rfl)
    · exact ke_ok
theorem ke_sm {K V : Nat → Nat} {RS : Nat → Nat → PE} {d t : Nat} (h : ∀ t, KE2 (prP K V RS d t)) : KE2 (smP K V RS d t) := by
  unfold smP
  have z := h t
  cases hr : prP K V RS d t with
  | error y =>
    rw [hr] at z
    obtain ⟨a, b⟩ := y
    exact ke_e (z a b rfl)
  | ok y => exact ke_sl h 400 _ _
theorem ke_ex {K V : Nat → Nat} : ∀ (n d : Nat), d + n = 8 → 2 ≤ n → ∀ t, KE2 (exP K V n d t)
  | 0, _, _, h, _ => absurd h (by omega)
  | n + 1, d, hd, hn, t => ke_sm (fun t => ke_pr (fun t => ke_un (fun d6 t => ke_ex n (d + 1) (by omega) (by omega) t)))
theorem ke_8 {K V : Nat → Nat} (kd tok t : Nat) (e : exP K V 8 0 t = .error (kd, tok)) : kd = 1 ∨ kd = 2 := ke_ex 8 0 (by omega) (by omega) t kd tok e
/-- an E of a law in the reference -/
theorem r_exL {K P V : Nat → Nat} {M s t i c i0 c0 : Nat} {w0 w : Mem} {wl : MemL} {Q : Mem → MemL → Prop} (tk : TKM K P V M w) (hs : s ≤ 1) (ht1 : 0 < t) (ht : t ≤ M) (h : (w 150 11 = nI t ∧ w 150 12 = 0 ∧ w 150 13 = 0 ∧ w 150 33 = nI i ∧ w 150 39 = nI c ∧ w 150 19 = nI s)) (hc : 420 * s ≤ c) (hct : c ≤ 420 * s + t) (f : frL s i0 c0 w0 w) (hi : i0 ≤ i) (hcc : c0 ≤ c) (hr : i + 2 ≤ 130 * s + 130)
    (KE : ∀ kd tok, exP K V 8 0 t = .error (kd, tok) → (kd = 1 ∨ kd = 2) → ∀ w2, FL P s i0 c0 w0 kd tok 2 w2 → Q w2 wl)
    (KO : ∀ t2 U, exP K V 8 0 t = .ok (t2, U) → t < t2 → t2 ≤ M → wfS U 0 → ∀ w2, (w2 150 11 = nI t2 ∧ w2 150 12 = 0 ∧ w2 150 13 = 0 ∧ w2 150 33 = nI i ∧ w2 150 39 = nI (c + U.length) ∧ w2 150 19 = nI s) → c + U.length ≤ 420 * s + t2 → frE s c w w2 → cda nI (w2 175) (w2 176) c U → Q w2 wl) : wp_12_expression w wl Q := by
  have hm := tk.1
  obtain ⟨h11, h12, h13, h33, h39, h19⟩ := h
  refine r_expr tk hs hc h11 ht1 (by omega) ht h12 h13 h39 hct (fun kd tok e w2 f2 => ?_) (fun t2 U e q1 q2 q3 q4 q5 w2 s2 => ?_)
  · exact KE kd tok e (ke_8 kd tok t e) w2 (fl_fx f hcc h33 hi hr f2)
  · obtain ⟨⟨a11, a12, a13, a39, a43⟩, a6, _, a8, a9⟩ := s2
    simp only [List.length_nil] at a9
    exact KO t2 U e q1 q3 q5 w2 ⟨a11, a12, a13, (a8 150 33 (by omega) (by omega) (by omega)).trans h33, a39, (a8 150 19 (by omega) (by omega) (by omega)).trans h19⟩ (by omega) a8 a6
