theorem r_abB {K P V : Nat → Nat} {M s c0 : Nat} {w0 : Mem} {wl : MemL} {Q : Mem → MemL → Prop} (tk0 : TKM K P V M w0) (hs : s ≤ 1) (hc : 420 * s ≤ c0) {f : Nat} (ihA : RAq K P V M s c0 w0 wl Q f) (ihB : RBq K P V M s c0 w0 wl Q f) : RBq K P V M s c0 w0 wl Q (f + 1) := by
  intro t E S o w n nn hf ht hM hS ho h hX hn hnn
  obtain ⟨nn', rfl⟩ : ∃ m, nn = m + 1 := ⟨nn - 1, by omega⟩
  obtain ⟨n', rfl⟩ : ∃ m, n = m + 1 := ⟨n - 1, by omega⟩
  have tk : TKM K P V M w := tkm_fe tk0 h.2.2.2.1
  have h11 := h.1.1
  have h12 := h.1.2.1
  have h13 := h.1.2.2.1
  have e4 : w 154 t = nI (P t) := (tk.2.2 t hM).2.2.1
  have e3 : w 153 t = nI (rcF (K t)) := (tk.2.2 t hM).2.1
  have sb := sk_b o S hS
  have sg := sk_g o S hS
  have l0 : (w 150 12 ≤ nI 0) ↔ o = 0 := by
    rw [h12, nI_leI (by omega) (by omega)]
    omega
  have iv : vp_in (nI t) 403 := vp_in_nI (by omega) (by decide)
  rw [sh_B ht] at hX
  -- a sign goes on the heap
  have sign : ∀ md, md ≤ 1 → ¬ K t = 0 → (∀ E' S', E' = (if md = 0 then (pop0 E S).1 else (pop1 E S).1) → S' = (if md = 0 then (pop0 E S).2 else (pop1 E S).2) → SKo o (K t :: S') ∧ E'.length + S'.length = E.length + S.length ∧ XQ P M s c0 w0 wl Q (if t < 400 then shF K V (401 - (t + 1)) true E' (K t :: S') o else .error (2, t))) → wp_12_expression_b234 Q (wp_12_expression_b12 Q (n' + 1)) (nI 0) 1 (nI md) w wl := by
    intro md hmd k0 hE
    refine ⟨S.length + 1, r_out hs ht hc hmd S E w (by omega) sg h (fun w1 g1 => ?_)⟩
    obtain ⟨y1, y2, y3⟩ := hE _ _ rfl rfl
    revert g1 y1 y2 y3
    generalize (if md = 0 then (pop0 E S).1 else (pop1 E S).1) = E'
    generalize (if md = 0 then (pop0 E S).2 else (pop1 E S).2) = S'
    intro g1 y1 y2 y3
    have yb := sk_b o _ y1
    simp only [List.length_cons] at yb
    have tk1 : TKM K P V M w1 := tkm_fe tk0 g1.2.2.2.1
    have e31 : w1 153 t = nI (rcF (K t)) := (tk1.2.2 t hM).2.1
    have e41 : w1 154 t = nI (P t) := (tk1.2.2 t hM).2.2.1
    have a11 := g1.1.1
    have a12 := g1.1.2.1
    have a13 := g1.1.2.2.1
    have a43 := g1.1.2.2.2.2
    have aw := g1.2.2.1
    have ab := g1.2.2.2.2
    rw [a11, a43, ix_nI (by omega), ix_nI (by omega), e31]
    refine ⟨iv, vp_in_nI (by omega) (by decide), fun w5 e5 w6 e6 => ?_⟩
    have k5 : w5 150 43 = nI S'.length := by subst e5; rw [st_nk (by decide)]; exact a43
    rw [k5, nI_1] at e6
    have fr6 : frX w1 w6 := by subst e6; subst e5; exact fx_tr fx_17 (fx_st (by omega))
    have g6 : ∀ j, j ≠ 43 → w6 150 j = w1 150 j := fun j hj => by subst e6; subst e5; rw [st_nj hj, st_nk (by decide)]
    have g43 : w6 150 43 = nI (S'.length + 1) := by subst e6; exact st_eq
    have g54 : w6 154 t = nI (P t) := by subst e6; subst e5; rw [st_nk (by decide), st_nk (by decide)]; exact e41
    have g77 : wst (w6 177) (K t :: S') := by
      subst e6
      rw [st_ne 177 (by decide)]
      subst e5
      rw [st_at]
      exact ⟨pk_us, wst_hi (Nat.le_refl _) aw⟩
    clear e5 e6
    refine r_goes ht ((g6 11 (by decide)).trans a11) (fun c4 => ?_) (fun c4 => ?_)
    · rw [if_pos c4] at y3
      refine ⟨fun q => absurd q (by decide), fun _ => ⟨fun q => absurd ?_ q, fun _ => ⟨f + 1, ?_⟩⟩⟩
      · rw [st_nj (by decide), g6 13 (by decide)]; exact a13
      · refine ihA (t + 1) E' (K t :: S') o _ n' (f + 1) (by omega) (by omega) (tkm_lt tk hM c4 k0) y1 ho ?_ y3 (by omega) (by omega)
        refine es_up g1 (fx_tr fr6 (fx_st (by omega))) ?_ st_eq ?_ ?_ ?_ ?_ ?_
        · rw [st_nj (by decide), g6 14 (by decide)]
        · rw [st_nj (by decide), g6 12 (by decide)]; exact a12
        · rw [st_nj (by decide), g6 13 (by decide)]; exact a13
        · rw [st_nj (by decide)]; exact g43
        · rw [st_ne 177 (by decide)]; exact g77
        · simp only [List.length_cons]; omega
    · rw [if_neg (by omega)] at y3
      refine r_fail ht ((g6 11 (by decide)).trans a11) ((g6 13 (by decide)).trans a13) ?_
      have y13 : st (st w6 150 13 (nI 2)) 150 14 (w6 154 t) 150 13 = nI 2 := by rw [st_nj (by decide), st_eq]
      refine r_12F (by rw [y13]; decide) (y3 _ (es_fx ht g1 (fx_tr fr6 (fx_tr (fx_st (by omega)) (fx_st (by omega)))) ?_ ht y13 ?_))
      · rw [st_nj (by decide), st_nj (by decide), g6 11 (by decide)]; exact a11
      · rw [st_eq]; exact g54
  -- nothing more of the E
  have b145 : ¬ (K t = 41 ∧ 0 < o) → wp_12_expression_b145 Q (wp_12_expression_b12 Q (n' + 1)) (nI 0) w wl := by
    intro c41
    rw [if_neg c41] at hX
    have md1 : (K t = 42 ∨ K t = 47) → wp_12_expression_b234 Q (wp_12_expression_b12 Q (n' + 1)) (nI 0) 1 (nI 1) w wl := by
      intro c
      rw [if_pos c] at hX
      refine sign 1 (by omega) (by omega) (fun E' S' eE eS => ?_)
      rw [if_neg (by omega)] at eE eS
      subst eE
      subst eS
      exact ⟨sk_md E c hS, pop1_l S E, hX⟩
    have md0 : (K t = 43 ∨ K t = 45) → wp_12_expression_b234 Q (wp_12_expression_b12 Q (n' + 1)) (nI 0) 1 (nI 0) w wl := by
      intro c
      rw [if_neg (by omega), if_pos c] at hX
      refine sign 0 (by omega) (by omega) (fun E' S' eE eS => ?_)
      rw [if_pos rfl] at eE eS
      subst eE
      subst eS
      exact ⟨sk_pm E c hS, pop0_l S E, hX⟩
    have b181 : (K t = 42 ∨ K t = 47 ∨ K t = 43 ∨ K t = 45) → wp_12_expression_b181 Q (wp_12_expression_b12 Q (n' + 1)) (nI 0) w wl := by
      intro c
      refine ⟨fun _ => r_is tk hM h11 h13 (c := 42) (by decide) (by decide) (fun z => ?_) (fun z => ?_), fun q => absurd (by decide) q⟩
      · exact ⟨fun _ => md1 (by omega), fun q => absurd (by decide) q⟩
      · refine ⟨fun q => absurd rfl q, fun _ => r_is tk hM h11 h13 (c := 47) (by decide) (by decide) (fun z2 => t1 ?_) (fun z2 => t0 ?_)⟩
        · exact md1 (by omega)
        · exact md0 (by omega)
    unfold wp_12_expression_b145
    refine r_is tk hM h11 h13 (c := 43) (by decide) (by decide) (fun z => ⟨fun _ => b181 (by omega), fun q => absurd (by decide) q⟩) (fun z => ⟨fun q => absurd rfl q, fun _ => ?_⟩)
    refine r_is tk hM h11 h13 (c := 45) (by decide) (by decide) (fun z => ⟨fun _ => b181 (by omega), fun q => absurd (by decide) q⟩) (fun z2 => ⟨fun q => absurd rfl q, fun _ => ?_⟩)
    refine r_is tk hM h11 h13 (c := 42) (by decide) (by decide) (fun z => ⟨fun _ => b181 (by omega), fun q => absurd (by decide) q⟩) (fun z3 => ⟨fun q => absurd rfl q, fun _ => ?_⟩)
    refine r_is tk hM h11 h13 (c := 47) (by decide) (by decide) (fun z => t1 (b181 (by omega))) (fun z4 => t0 ?_)
    rw [if_neg (by omega), if_neg (by omega)] at hX
    refine ⟨fun q => absurd rfl q, fun _ => ⟨fun q => ?_, fun q => ?_⟩⟩
    · have o0 := l0.mp q
      rw [if_pos o0] at hX
      refine ⟨S.length + 1, r_out hs ht hc (md := 0) (by omega) S E w (by omega) sg h (fun w2 h2 => hX hM w2 ?_)⟩
      simp only [if_true] at h2
      subst o0
      have := pop0_r (E := E) (R := S) hS ns_nil
      rw [List.append_nil] at this
      rw [this] at h2
      exact h2
    · have o0 : ¬ o = 0 := fun z => q (l0.mpr z)
      rw [if_neg o0] at hX
      refine r_fail (a := 1) ht h11 h13 ?_
      rw [e4]
      have h2 := es_14 (f2 := nI 1) (x := nI (P t)) h
      refine ⟨S.length + 1, r_out hs ht hc (md := 0) (by omega) S E _ (by omega) sg h2 (fun w2 h3 => hX w2 ?_)⟩
      simp only [if_true] at h3
      refine ⟨h3.2.2.2.1, h3.1.2.2.1, ⟨t, ht, h3.1.1⟩, c0 + (pop0 E S).1.length, by omega, ?_, h3.1.2.2.2.1⟩
      have := h3.2.2.2.2
      omega
  unfold wp_12_expression_b96
  refine r_is tk hM h11 h13 (c := 41) (by decide) (by decide) (fun c => t1 ?_) (fun c => t0 (b145 (fun q => c q.1)))
  refine ⟨fun q => b145 (fun z => absurd (l0.mp q) (by omega)), fun q => ?_⟩
  have o0 : 0 < o := by
    have : ¬ o = 0 := fun z => q (l0.mpr z)
    omega
  obtain ⟨o', rfl⟩ : ∃ m, o = m + 1 := ⟨o - 1, by omega⟩
  rw [if_pos ⟨c, o0⟩] at hX
  refine ⟨S.length + 1, r_out hs ht hc (md := 0) (by omega) S E w (by omega) sg h (fun w4 h4 w6 e6 w7 e7 => ?_)⟩
  simp only [if_true] at h4
  obtain ⟨S', eS', hS'⟩ := sk_cl E hS
  have pl := pop0_l S E
  rw [eS'] at h4 pl hX
  simp only [List.length_cons] at pl
  have a11 := h4.1.1
  have a12 := h4.1.2.1
  have a13 := h4.1.2.2.1
  have a43 : w4 150 43 = nI (S'.length + 1) := h4.1.2.2.2.2
  have aw := h4.2.2.1
  have ab : c0 + (pop0 E S).1.length + (S'.length + 1) ≤ 420 * s + t := h4.2.2.2.2
  have sb' := sk_b o' S' hS'
  have tk4 : TKM K P V M w4 := tkm_fe tk0 h4.2.2.2.1
  have e44 : w4 154 t = nI (P t) := (tk4.2.2 t hM).2.2.1
  rw [a43, show (1 : Int32) = nI 1 from rfl, pk_sub (by omega), Nat.add_sub_cancel] at e6
  have k12 : w6 150 12 = nI (o' + 1) := by subst e6; rw [st_nj (by decide)]; exact a12
  rw [k12, show (1 : Int32) = nI 1 from rfl, pk_sub (by omega), Nat.add_sub_cancel] at e7
  have fr7 : frX w4 w7 := by subst e7; subst e6; exact fx_tr (fx_st (by omega)) (fx_st (by omega))
  have g7 : ∀ j, j ≠ 43 → j ≠ 12 → w7 150 j = w4 150 j := fun j h1 h2 => by subst e7; subst e6; rw [st_nj h2, st_nj h1]
  have g43 : w7 150 43 = nI S'.length := by subst e7; subst e6; rw [st_nj (by decide), st_eq]
  have g12 : w7 150 12 = nI o' := by subst e7; exact st_eq
  have g54 : w7 154 t = nI (P t) := by subst e7; subst e6; rw [st_nk (by decide), st_nk (by decide)]; exact e44
  have g77 : wst (w7 177) S' := by
    subst e7
    subst e6
    rw [st_ne 177 (by decide), st_ne 177 (by decide)]
    exact aw.2
  clear e6 e7
  refine r_goes ht ((g7 11 (by decide) (by decide)).trans a11) (fun c4 => ?_) (fun c4 => ?_)
  · rw [if_pos c4] at hX
    refine ihB (t + 1) (pop0 E S).1 S' o' _ (n' + 1) nn' (by omega) (by omega) (tkm_lt tk hM c4 (by omega)) hS' (by omega) ?_ hX (by omega) (by omega)
    refine es_up h4 (fx_tr fr7 (fx_st (by omega))) ?_ st_eq ?_ ?_ ?_ ?_ (by omega)
    · rw [st_nj (by decide), g7 14 (by decide) (by decide)]
    · rw [st_nj (by decide)]; exact g12
    · rw [st_nj (by decide), g7 13 (by decide) (by decide)]; exact a13
    · rw [st_nj (by decide)]; exact g43
    · rw [st_ne 177 (by decide)]; exact g77
  · rw [if_neg (by omega)] at hX
    have y11 : w7 150 11 = nI t := (g7 11 (by decide) (by decide)).trans a11
    have y13 : w7 150 13 = 0 := (g7 13 (by decide) (by decide)).trans a13
    refine r_fail (a := 2) ht y11 y13 ?_
    rw [g54]
    have hh : ESt s c0 w0 w7 t (pop0 E S).1 S' o' 0 := es_up h4 fr7 (g7 14 (by decide) (by decide)) y11 g12 y13 g43 g77 (by omega)
    have h2 := es_14 (f2 := nI 2) (x := nI (P t)) hh
    obtain ⟨m, rfl⟩ : ∃ m, nn' = m + 1 := ⟨nn' - 1, by omega⟩
    exact r_96F hs ht hc (by omega) (sk_g o' S' hS') h2 (by omega) (by omega) hX
