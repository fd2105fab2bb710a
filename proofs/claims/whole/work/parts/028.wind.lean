/-- all rows but the row a stay -/
def frO (a : Nat) (w w2 : Mem) : Prop := ∀ b, b ≠ a → w2 b = w b
theorem r_clears2 {Q : Mem → MemL → Prop} {wl : MemL} : ∀ (m i : Nat) (w : Mem), i + m = 11 → (∀ j, j < i → w 178 j = 0) →
    (∀ w2, frO 178 w w2 → (∀ j, j < 11 → w2 178 j = 0) → Q w2 wl) → wp_12_clears_b2 Q (m + 1) (nI i) w wl
  | 0, i, w, h, hz, K => by
    refine pk_le 11 i (fun _ => K w (fun _ _ => rfl) (fun j hj => hz j (by omega))) (fun q => absurd q (by omega))
  | m + 1, i, w, h, hz, K => by
    refine pk_le 11 i (fun q => absurd q (by omega)) (fun _ => ⟨pk_in i 11 (by omega), fun w2 e x3 e3 => ?_⟩)
    rw [ix_nI (by omega)] at e
    rw [show nI i + (1 : Int32) = nI (i + 1) from nI_add i 1] at e3
    subst e
    subst e3
    refine r_clears2 m (i + 1) _ (by omega) ?_ ?_
    · intro j hj
      rw [st_at]
      by_cases c : j = i
      · subst c; exact pk_us
      · rw [pk_un c]; exact hz j (by omega)
    · intro w2 f z
      exact K w2 (fun b hb => (f b hb).trans (st_ne b hb)) z
theorem r_clears {Q : Mem → MemL → Prop} {w : Mem} {wl : MemL} (K : ∀ w2, frO 178 w w2 → (∀ j, j < 11 → w2 178 j = 0) → Q w2 wl) : wp_12_clears w wl Q :=
  ⟨12, r_clears2 11 0 w rfl (fun j hj => absurd hj (by omega)) K⟩
theorem r_tell0 {s a : Nat} {w : Mem} {wl : MemL} {Q : Int32 → Mem → MemL → Prop} (h18 : w 150 18 = nI s) (hs : s < 2) (ha : a < 20) (K : Q (w 159 (20 * s + a)) w wl) : wp_12_tell0 (nI a) w wl Q := by
  unfold wp_12_tell0
  rw [h18, show (20 : Int32) = nI 20 from rfl, pk_mul, nI_add]
  refine ⟨pk_in (20 * s + a) 40 (by omega), ?_⟩
  rw [ix_nI (by omega)]
  exact K
/-- the variables of the wind's law -/
def windV (a1 a2 : Int32) : Nat → Int32 := fun j => if j = 0 then a2 else if j = 1 then a1 else 0
/-- the wind at the spot a1 in the second a2 -/
def windA (seed g : Int32) (Z : List (Nat × Int32)) (R : List (List (Nat × Int32) × List (Nat × Int32) × List (Nat × Int32))) (a1 a2 : Int32) : Int32 :=
  mx (-99) (mn 99 ((telA (windV a1 a2) Z R).getD 0)) + lotN seed (8 * a2 + a1) (2 * g + 1) - g
theorem r_wind {Z : List (Nat × Int32)} {R : List (List (Nat × Int32) × List (Nat × Int32) × List (Nat × Int32))} {s g : Nat} {a1 a2 : Int32} {w : Mem} {wl : MemL} {Q : Int32 → Mem → MemL → Prop} (hs : s < 2) (h18 : w 150 18 = nI s) (hg : w 159 (20 * s + 9) = nI g) (hg2 : g < 100)
    (h : lawR w (5 * s) 0 Z R) (K : ∀ w2, (∀ b, b ≠ 178 → b ≠ 179 → ∀ j, ¬ (b = 150 ∧ j = 46) → w2 b j = w b j) → Q (windA (w 150 49) (nI g) Z R a1 a2) w2 wl) : wp_12_windOf a1 a2 w wl Q := by
  refine r_clears (fun w1 f1 z1 w3 e3 w4 e4 => ?_)
  subst e3
  subst e4
  have f4 : frO 178 w (st (st w1 178 (ix 0) a2) 178 (ix 1) a1) := fun b hb => ((st_ne b hb).trans (st_ne b hb)).trans (f1 b hb)
  have hV : ∀ j, j < 11 → (st (st w1 178 (ix 0) a2) 178 (ix 1) a1) 178 j = windV a1 a2 j := by
    intro j hj
    rw [st_at, st_at, ix0, show ix 1 = 1 from ix_nI (n := 1) (by omega)]
    unfold windV
    by_cases c1 : j = 1
    · subst c1; rw [pk_us]; rfl
    · rw [pk_un c1]
      by_cases c0 : j = 0
      · subst c0; rw [pk_us]; rfl
      · rw [pk_un c0, if_neg c0, if_neg c1]; exact z1 j hj
  generalize (st (st w1 178 (ix 0) a2) 178 (ix 1) a1) = w4 at f4 hV
  have r4 : ∀ b, b ≠ 178 → w4 b = w b := f4
  refine r_tell0 (s := s) (a := 9) (by rw [r4 150 (by decide)]; exact h18) hs (by omega) ?_
  rw [r4 159 (by decide), hg]
  refine r_tells (a := 0) (V := windV a1 a2) (Z := Z) (R := R) (s := s) (by decide) hs (by omega) (by rw [r4 150 (by decide)]; exact h18) ?_ hV (fun w8 f8 => ?_)
  · show lawR w4 (5 * s) 0 Z R
    have lw : ∀ (R : List (List (Nat × Int32) × List (Nat × Int32) × List (Nat × Int32))) (i N : Nat), lwR w Z i N R → lwR w4 Z i N R := by
      intro R
      have pc : ∀ f g E, pcR w f g E → pcR w4 f g E := by
        intro f g E q
        unfold pcR at q ⊢
        rw [r4 175 (by decide), r4 176 (by decide)]
        exact q
      induction R with
      | nil =>
        intro i N q
        refine ⟨?_, ?_, q.2.2⟩
        · rw [r4 170 (by decide)]; exact q.1
        · rw [r4 173 (by decide), r4 174 (by decide)]; exact pc _ _ _ q.2.1
      | cons X r ih =>
        intro i N q
        obtain ⟨A, B, C⟩ := X
        obtain ⟨q0, q1, q2, q3, q4, q5⟩ := q
        refine ⟨?_, ?_, ?_, ?_, q4, ih _ _ q5⟩
        · rw [r4 170 (by decide)]; exact q0
        · rw [r4 171 (by decide), r4 172 (by decide)]; exact pc _ _ _ q1
        · rw [r4 172 (by decide), r4 173 (by decide)]; exact pc _ _ _ q2
        · rw [r4 173 (by decide), r4 174 (by decide)]; exact pc _ _ _ q3
    unfold lawR at h ⊢
    rw [r4 168 (by decide), r4 169 (by decide)]
    rcases h with h | ⟨i, N, h1, h2, h3, h4⟩
    · exact Or.inl h
    · exact Or.inr ⟨i, N, h1, h2, h3, lw _ _ _ h4⟩
  · have nz : ¬ ((2 : Int32) * nI g + 1 = 0) := by
      rw [show (2 : Int32) = nI 2 from rfl, pk_mul, show nI (2 * g) + (1 : Int32) = nI (2 * g + 1) from nI_add _ 1]
      exact fun q => absurd ((nI_eq (b := 0) (by omega) (by omega)).mp q) (by omega)
    refine s_lotR nz ?_
    have e49 : w8 150 49 = w 150 49 := (f8 150 (by decide) 49 (by decide)).trans (congrFun (r4 150 (by decide)) 49)
    rw [e49]
    exact K w8 (fun b hb hb2 j hj => (f8 b hb2 j hj).trans (congrFun (r4 b hb) j))
