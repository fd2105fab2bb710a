theorem rc_var : ∀ k, k < 157 → kdB k = true → (38 ≤ rcF k ∧ rcF k ≤ 48 ↔ 146 ≤ k ∧ k ≤ 156) ∧ (146 ≤ k → rcF k - 38 = k - 146) := by decide +kernel
theorem tkm_lt {K P V : Nat → Nat} {M t : Nat} {w : Mem} (h : TKM K P V M w) (ht : t ≤ M) (h4 : t < 400) (hk : ¬ K t = 0) : t + 1 ≤ M := by
  rcases h.2.1 with q | q
  · omega
  · rcases Nat.lt_or_ge t M with c | c
    · omega
    · rw [show t = M by omega] at hk
      exact absurd q hk
/-- the reference wants a unit -/
def RAq (K P V : Nat → Nat) (M s c0 : Nat) (w0 : Mem) (wl : MemL) (Q : Mem → MemL → Prop) (f : Nat) : Prop :=
  ∀ t E S o w n nn, 401 - t = f → t ≤ 400 → t ≤ M → SKo o S → o ≤ 6 → ESt s c0 w0 w t E S o 0 → XQ P M s c0 w0 wl Q (shF K V (401 - t) true E S o) → f ≤ n → f < nn → wp_12_expression_b23 Q (wp_12_expression_b12 Q n) nn (nI 0) w wl
/-- the reference stands behind a unit -/
def RBq (K P V : Nat → Nat) (M s c0 : Nat) (w0 : Mem) (wl : MemL) (Q : Mem → MemL → Prop) (f : Nat) : Prop :=
  ∀ t E S o w n nn, 401 - t = f → t ≤ 400 → t ≤ M → SKo o S → o ≤ 6 → ESt s c0 w0 w t E S o 0 → XQ P M s c0 w0 wl Q (shF K V (401 - t) false E S o) → f ≤ n → f + 1 < nn → wp_12_expression_b96 Q (wp_12_expression_b12 Q n) nn (nI 0) w wl
theorem r_abA {K P V : Nat → Nat} {M s c0 : Nat} {w0 : Mem} {wl : MemL} {Q : Mem → MemL → Prop} (tk0 : TKM K P V M w0) (hs : s ≤ 1) (hc : 420 * s ≤ c0) {f : Nat} (ihA : RAq K P V M s c0 w0 wl Q f) (ihB : RBq K P V M s c0 w0 wl Q f) : RAq K P V M s c0 w0 wl Q (f + 1) := by
  intro t E S o w n nn hf ht hM hS ho h hX hn hnn
  obtain ⟨nn', rfl⟩ : ∃ m, nn = m + 1 := ⟨nn - 1, by omega⟩
  have tk : TKM K P V M w := tkm_fe tk0 h.2.2.2.1
  have h11 := h.1.1
  have h12 := h.1.2.1
  have h13 := h.1.2.2.1
  have h43 := h.1.2.2.2.2
  have hw := h.2.2.1
  have h9 := h.2.2.2.2
  have e4 : w 154 t = nI (P t) := (tk.2.2 t hM).2.2.1
  have sb := sk_b o S hS
  rw [sh_A ht] at hX
  unfold wp_12_expression_b23
  refine r_is tk hM h11 h13 (c := 40) (by decide) (by decide) (fun c => t1 ?_) (fun c => t0 ?_)
  · rw [if_pos c] at hX
    have e6 : w 150 12 = 6 ↔ o = 6 := by rw [h12]; exact nI_eq (b := 6) (by omega) (by omega)
    -- behind the push, with a fault
    have pushF : ∀ w2, frX w w2 → w2 150 11 = nI t ∨ (t < 400 ∧ w2 150 11 = nI (t + 1)) → w2 150 13 = nI 2 → w2 150 14 = nI (P t) → w2 150 43 = nI S.length → (∀ w2, FX P s c0 w0 2 t w2 → Q w2 wl) → (vp_in (w2 150 43) 64 ∧ (∀ w5 : Mem, w5 = st w2 177 (ix (w2 150 43)) (6 : Int32) → (∀ w6 : Mem, w6 = st w5 150 43 ((w5 150 43) + (1 : Int32)) → wp_12_expression_b23 Q (wp_12_expression_b12 Q n) nn' (nI 0) w6 wl))) := by
      intro w2 fr k11 k13 k14 k43 hQ
      rw [k43]
      refine ⟨vp_in_nI (by omega) (by decide), fun w5 e5 w6 e6 => ?_⟩
      have fr6 : frX w w6 := by subst e6; subst e5; exact fx_tr fr (fx_tr fx_17 (fx_st (by omega)))
      have g : ∀ j, j ≠ 43 → w6 150 j = w2 150 j := fun j hj => by subst e6; subst e5; rw [st_nj (by omega), st_nk (by decide)]
      obtain ⟨m, rfl⟩ : ∃ m, nn' = m + 1 := ⟨nn' - 1, by omega⟩
      refine r_23F (k := 2) ((g 13 (by decide)).trans k13) (by omega) (by omega) (hQ w6 ?_)
      rcases k11 with q | ⟨q1, q⟩
      · exact es_fx ht h fr6 ((g 11 (by decide)).trans q) ht ((g 13 (by decide)).trans k13) ((g 14 (by decide)).trans k14)
      · exact es_fx ht h fr6 ((g 11 (by decide)).trans q) (by omega) ((g 13 (by decide)).trans k13) ((g 14 (by decide)).trans k14)
    refine ⟨fun q6 => ?_, fun q6 => ?_⟩
    · have o6 : o < 6 := by
        have : ¬ o = 6 := fun z => q6 (e6.mpr z)
        omega
      rw [if_pos o6] at hX
      intro w1 e1
      rw [h12, nI_1] at e1
      have fr1 : frX w w1 := by subst e1; exact fx_st (by omega)
      have g1 : ∀ j, j ≠ 12 → w1 150 j = w 150 j := fun j hj => by subst e1; rw [st_nj hj]
      have g12 : w1 150 12 = nI (o + 1) := by subst e1; exact st_eq
      have g54 : w1 154 t = nI (P t) := by subst e1; rw [st_nk (by decide)]; exact e4
      have g77 : w1 177 = w 177 := by subst e1; exact st_ne 177 (by decide)
      clear e1
      refine r_goes ht ((g1 11 (by decide)).trans h11) (fun c4 => ?_) (fun c4 => ?_)
      · rw [if_pos c4] at hX
        rw [st_nj (by decide), (g1 43 (by decide)).trans h43, ix_nI (by omega)]
        refine ⟨vp_in_nI (by omega) (by decide), fun w5 e5 w6 e6 => ?_⟩
        have k5 : w5 150 43 = nI S.length := by subst e5; rw [st_nk (by decide), st_nj (by decide), g1 43 (by decide)]; exact h43
        rw [k5, nI_1] at e6
        have g6 : ∀ j, j ≠ 43 → w6 150 j = st w1 150 11 (nI (t + 1)) 150 j := fun j hj => by subst e6; subst e5; rw [st_nj hj, st_nk (by decide)]
        refine ihA (t + 1) E (40 :: S) (o + 1) w6 n nn' (by omega) (by omega) (tkm_lt tk hM c4 (by omega)) (sk_par hS) (by omega) ?_ hX (by omega) (by omega)
        refine es_up h ?_ ?_ ?_ ?_ ?_ ?_ ?_ ?_
        · subst e6; subst e5; exact fx_tr fr1 (fx_tr (fx_st (by omega)) (fx_tr fx_17 (fx_st (by omega))))
        · rw [g6 14 (by decide), st_nj (by decide), g1 14 (by decide)]
        · rw [g6 11 (by decide), st_eq]
        · rw [g6 12 (by decide), st_nj (by decide), g12]
        · rw [g6 13 (by decide), st_nj (by decide), g1 13 (by decide)]; exact h13
        · subst e6; exact st_eq
        · subst e6
          rw [st_ne 177 (by decide)]
          subst e5
          rw [st_at, st_ne 177 (by decide), g77]
          exact ⟨pk_us, wst_hi (Nat.le_refl _) hw⟩
        · simp only [List.length_cons]; omega
      · rw [if_neg (by omega)] at hX
        refine r_fail ht ((g1 11 (by decide)).trans h11) ((g1 13 (by decide)).trans h13) ?_
        refine pushF _ (fx_tr fr1 (fx_tr (fx_st (by omega)) (fx_st (by omega)))) (Or.inl ?_) ?_ ?_ ?_ hX
        · rw [st_nj (by decide), st_nj (by decide), g1 11 (by decide)]; exact h11
        · rw [st_nj (by decide), st_eq]
        · rw [st_eq]; exact g54
        · rw [st_nj (by decide), st_nj (by decide), g1 43 (by decide)]; exact h43
    · have o6 : o = 6 := e6.mp (Classical.not_not.mp q6)
      rw [if_neg (by omega)] at hX
      refine r_fail (a := 2) ht h11 h13 ?_
      intro w1 e1
      have g1 : ∀ j, j ≠ 12 → w1 150 j = st (st w 150 13 (nI 2)) 150 14 (w 154 t) 150 j := fun j hj => by subst e1; rw [st_nj hj]
      have fr1 : frX w w1 := by subst e1; exact fx_tr (fx_st (by omega)) (fx_tr (fx_st (by omega)) (fx_st (by omega)))
      have y11 : w1 150 11 = nI t := by rw [g1 11 (by decide), st_nj (by decide), st_nj (by decide)]; exact h11
      have y13 : w1 150 13 = nI 2 := by rw [g1 13 (by decide), st_nj (by decide), st_eq]
      have y14 : w1 150 14 = nI (P t) := by rw [g1 14 (by decide), st_eq]; exact e4
      have y43 : w1 150 43 = nI S.length := by rw [g1 43 (by decide), st_nj (by decide), st_nj (by decide)]; exact h43
      clear e1
      refine r_goes ht y11 (fun c4 => ?_) (fun c4 => ?_)
      · refine pushF _ (fx_tr fr1 (fx_st (by omega))) (Or.inr ⟨c4, st_eq⟩) ?_ ?_ ?_ hX
        · rw [st_nj (by decide)]; exact y13
        · rw [st_nj (by decide)]; exact y14
        · rw [st_nj (by decide)]; exact y43
      · refine r_failF y13 (by omega) (by omega) ?_
        exact pushF _ fr1 (Or.inl y11) y13 y14 y43 hX
  · rw [if_neg c] at hX
    have n13 : ∀ (A B : Prop), B → (w 150 13 ≤ 0 → A) ∧ (¬ w 150 13 ≤ 0 → B) → True := fun _ _ _ _ => trivial
    -- behind what was put out
    have tail : ∀ k v w2, (∀ w3 t2 f2, frX w2 w3 → w3 150 14 = w2 150 14 → w3 150 11 = nI t2 → w3 150 12 = w2 150 12 → w3 150 13 = f2 → w3 150 43 = w2 150 43 → w3 177 = w2 177 → t < t2 → ESt s c0 w0 w3 t2 (E ++ [(k, v)]) S o f2) → w2 150 11 = nI t → w2 150 13 = 0 → (∀ a j, a ≠ 175 → a ≠ 176 → a ≠ 150 → w2 a j = w a j) → (∀ (P : Nat → Nat) w3 t2 k2 tok, frX w2 w3 → w3 150 11 = nI t2 → t2 ≤ 400 → w3 150 13 = nI k2 → w3 150 14 = nI (P tok) → FX P s c0 w0 k2 tok w3) →
        (¬ K t = 0) → XQ P M s c0 w0 wl Q (if t < 400 then shF K V (401 - (t + 1)) false (E ++ [(k, v)]) S o else Except.error (2, t)) →
        wp_12_goesOn w2 wl (fun w9 v10 => (w9 150 13 ≤ 0 → ∃ nn, wp_12_expression_b96 Q (wp_12_expression_b12 Q n) nn (nI 0) w9 v10) ∧ (¬ w9 150 13 ≤ 0 → Q w9 v10)) := by
      intro k v w2 z1 z11 z13 zr z2 k0 hX
      refine r_goes ht z11 (fun c4 => ?_) (fun c4 => ?_)
      · rw [if_pos c4] at hX
        refine ⟨fun _ => ⟨f + 2, ?_⟩, fun q => absurd ?_ q⟩
        · refine ihB (t + 1) (E ++ [(k, v)]) S o _ n (f + 2) (by omega) (by omega) (tkm_lt tk hM c4 k0) hS ho ?_ hX (by omega) (by omega)
          refine z1 _ (t + 1) 0 (fx_st (by omega)) (st_nj (by decide)) st_eq (st_nj (by decide)) ?_ (st_nj (by decide)) (st_ne 177 (by decide)) (by omega)
          rw [st_nj (by decide)]; exact z13
        · rw [st_nj (by decide), z13]; decide
      · rw [if_neg (by omega)] at hX
        refine r_fail ht z11 z13 ?_
        have y13 : st (st w2 150 13 (nI 2)) 150 14 (w2 154 t) 150 13 = nI 2 := by rw [st_nj (by decide), st_eq]
        show (_ → _) ∧ (_ → _)
        rw [y13]
        refine ⟨fun q => absurd q (by decide), fun _ => hX _ (z2 P _ t 2 t (fx_tr (fx_st (by omega)) (fx_st (by omega))) ?_ ht y13 ?_)⟩
        · rw [st_nj (by decide), st_nj (by decide)]; exact z11
        · rw [st_eq, zr 154 t (by decide) (by decide) (by decide)]; exact e4
    have bad : XQ P M s c0 w0 wl Q (Except.error (1, t)) → wp_12_unit_b88 (fun w9 v10 => (w9 150 13 ≤ 0 → ∃ nn, wp_12_expression_b96 Q (wp_12_expression_b12 Q n) nn (nI 0) w9 v10) ∧ (¬ w9 150 13 ≤ 0 → Q w9 v10)) w wl := by
      intro hX
      refine r_fail (a := 1) ht h11 h13 ?_
      have y13 : st (st w 150 13 (nI 1)) 150 14 (w 154 t) 150 13 = nI 1 := by rw [st_nj (by decide), st_eq]
      show (_ → _) ∧ (_ → _)
      rw [y13]
      refine ⟨fun q => absurd q (by decide), fun _ => hX _ (es_fx ht h (fx_tr (fx_st (by omega)) (fx_st (by omega))) ?_ ht y13 ?_)⟩
      · rw [st_nj (by decide), st_nj (by decide)]; exact h11
      · rw [st_eq]; exact e4
    have iv : vp_in (nI t) 403 := vp_in_nI (by omega) (by decide)
    unfold wp_12_unit
    refine r_is tk hM h11 h13 (c := 3) (by decide) (by decide) (fun c3 => t1 ?_) (fun c3 => t0 ?_)
    · rw [if_pos c3] at hX
      rw [h11, ix_nI (by omega), (tk.2.2 t hM).2.2.2 c3]
      refine ⟨iv, r_emit2 (k := 0) hs ht hc h (fun w2 z1 z11 z13 zr z2 => ?_)⟩
      exact tail 0 _ w2 z1 z11 z13 zr z2 (by omega) hX
    · rw [if_neg c3] at hX
      obtain ⟨kd, e53, _, _⟩ := tk.2.2 t hM
      have rv := rc_var (K t) (kd_lt kd) kd
      have rl := rc_lt (K t) (kd_lt kd)
      rw [h13, h11, ix_nI (by omega), e53]
      refine ⟨fun q => absurd rfl q, fun _ => ⟨iv, ?_⟩⟩
      refine pk_lt (rcF (K t)) 38 (fun q => bad ?_) (fun q => ⟨iv, pk_lt 48 (rcF (K t)) (fun q2 => bad ?_) (fun q2 => ⟨iv, ?_⟩)⟩)
      · rw [if_neg (by omega)] at hX; exact hX
      · rw [if_neg (by omega)] at hX; exact hX
      · have cv : 146 ≤ K t ∧ K t ≤ 156 := rv.1.mp ⟨q, q2⟩
        rw [if_pos cv] at hX
        rw [show (38 : Int32) = nI 38 from rfl, pk_sub q, rv.2 cv.1]
        refine r_emit2 (k := 1) hs ht hc h (fun w2 z1 z11 z13 zr z2 => ?_)
        exact tail 1 _ w2 z1 z11 z13 zr z2 (by omega) hX
