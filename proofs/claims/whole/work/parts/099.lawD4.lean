theorem fl_expr {P : Nat → Nat} {s i c kd tok r : Nat} {w0 w : Mem} {wl : MemL} {Q : Mem → MemL → Prop} (h : FL P s i c w0 kd tok r w) (hk : kd = 1 ∨ kd = 2) (K : ∀ w2, FL P s i c w0 kd tok r w2 → Q w2 wl) : wp_12_expression w wl Q := by
  intro w1 e1 x2 e2
  obtain ⟨h1, h2, ⟨t, t1, t2⟩, ⟨x, y1, y2, y3⟩, ⟨z, z1, z2, z3⟩⟩ := h
  have h' : FL P s i c w0 kd tok r w1 := by
    subst e1
    exact ⟨fl_tr h1 (fl_sb (by omega)), (st_nj (by decide)).trans h2, ⟨t, t1, (st_nj (by decide)).trans t2⟩, ⟨x, y1, y2, (st_nj (by decide)).trans y3⟩, ⟨z, z1, z2, (st_nj (by decide)).trans z3⟩⟩
  exact ⟨1, r_12F (fl_13 h' hk) (K w1 h')⟩
/-- behind the < of a branch, with a fault -/
theorem fl_t2 {P : Nat → Nat} {s i c kd tok r n : Nat} {l1 l2 x1 : Int32} {w0 w8 : Mem} {wl : MemL} {Q : Mem → MemL → Prop} (hs : s ≤ 1) (h : FL P s i c w0 kd tok (r + 2) w8) (hk : kd = 1 ∨ kd = 2) (K : ∀ w2, FL P s i c w0 kd tok r w2 → Q w2 wl) :
    (vp_in (w8 150 33) 260 ∧ (∀ w13 : Mem, w13 = st w8 172 (ix (w8 150 33)) (w8 150 39) → ((¬ (w13 150 13) = 0 → (wp_12_tellLaw_b110 Q (wp_12_tellLaw_b12 Q (n + 1)) l1 l2 x1 w13 wl)) ∧ (¬ (¬ (w13 150 13) = 0) → (wp_12_expression w13 wl (fun (w14 : Mem) (v15 : MemL) => (wp_12_tellLaw_b110 Q (wp_12_tellLaw_b12 Q (n + 1)) l1 l2 x1 w14 v15))))))) := by
  obtain ⟨x, e1, e2, e3, _⟩ := fl_at hs h
  rw [e1, ix_nI (by omega)]
  refine ⟨vp_in_nI e2 (by decide), fun w13 ew => ?_⟩
  have h13 : FL P s i c w0 kd tok (r + 2) w13 := by subst ew; exact e3 172 _ (by omega) (by omega)
  exact ⟨fun _ => fl_110 hs h13 hk K, fun q => absurd (Classical.not_not.mp q) (fl_13 h13 hk)⟩
theorem fl_lift {P : Nat → Nat} {s i c i2 c2 kd tok r : Nat} {w w1 w2 : Mem} (f : frL s i c w w1) (hi : i ≤ i2) (hc : c ≤ c2) (h : FL P s i2 c2 w1 kd tok r w2) : FL P s i c w kd tok r w2 := by
  obtain ⟨h1, h2, h3, ⟨x, y1, y2, y3⟩, ⟨z, z1, z2, z3⟩⟩ := h
  refine ⟨fun a j q1 q2 q3 q4 => ?_, h2, h3, ⟨x, by omega, y2, y3⟩, ⟨z, by omega, z2, z3⟩⟩
  rw [h1 a j q1 q2 (by omega) (by omega)]
  simp only [st]
  split
  · rfl
  · exact f a j q1 q2 q3 q4
theorem r_lw {K P V : Nat → Nat} {M s a : Nat} {l2 : Int32} {wl : MemL} {Q : Mem → MemL → Prop} (hs : s ≤ 1) (ha : a < 5) : ∀ (n t i c : Nat) (w : Mem), TKM K P V M w → n ≤ 4 → 0 < t → t ≤ M → RPt s t i c w → XR P M s i c a l2 w wl Q (lzP K V (lwP K V n t)) → wp_12_tellLaw_b12 Q (n + 1) (nI a) l2 (nI (4 - n)) w wl
  | 0, t, i, c, w, tk, hn, ht1, ht, h, hX => by
    have hm := tk.1
    have h0 := h
    obtain ⟨⟨h11, h12, h13, h33, h39, h19⟩, b1, b2, b3, b4⟩ := h0
    simp only [lwP] at hX
    unfold wp_12_tellLaw_b12
    refine ⟨fun q => absurd h13 q, fun _ => r_is tk ht h11 h13 (c := 143) (by decide) (by decide) (fun y => t1 ?_) (fun y => t0 ?_)⟩
    · rw [if_pos y] at hX
      refine ⟨fun q => absurd rfl q, fun _ => r_fail (a := 2) (by omega) h11 h13 ?_⟩
      rw [(tk.2.2 t ht).2.2.1]
      have l7 := fl_new (P := P) (kd := 2) (r := 0) (i := i) (s := s) (c := c) (w0 := w) (w := w) (x := i) (fun _ _ _ _ _ _ => rfl) (Nat.le_refl c) (by omega) h39 h33 (by omega) (by omega) (by omega : t ≤ 400) h11
      refine ⟨fun q => absurd q ?_, fun _ => hX (Or.inr rfl) _ l7⟩
      rw [l7.2.1]
      decide
    · rw [if_neg y] at hX
      exact r_lastR tk hs ha ht1 ht h (fun kd tok t e => ke_8 kd tok t e) hX
  | n + 1, t, i, c, w, tk, hn, ht1, ht, h, hX => by
    have hm := tk.1
    have h0 := h
    obtain ⟨⟨h11, h12, h13, h33, h39, h19⟩, b1, b2, b3, b4⟩ := h0
    simp only [lwP] at hX
    unfold wp_12_tellLaw_b12
    refine ⟨fun q => absurd h13 q, fun _ => r_is tk ht h11 h13 (c := 143) (by decide) (by decide) (fun y => t1 ?_) (fun y => t0 ?_)⟩
    · rw [if_pos y] at hX
      have e44 : nI (4 - (n + 1)) = 4 ↔ 4 - (n + 1) = 4 := nI_eq (b := 4) (by omega) (by omega)
      refine ⟨fun _ => ?_, fun q => absurd (e44.mp (Classical.not_not.mp q)) (by omega)⟩
      unfold wp_12_tellLaw_b38
      refine ⟨fun _ x1 ex => ?_, fun q => absurd (by rw [h13]; decide) q⟩
      rw [nI_1, show 4 - (n + 1) + 1 = 4 - n by omega] at ex
      subst ex
      have iv : vp_in (nI i) 260 := vp_in_nI (by omega) (by decide)
      refine r_goes (by omega) h11 (fun c4 => ?_) (fun c4 => ?_)
      · have et : tkP K 143 t = .ok (t + 1) := by unfold tkP; rw [if_pos y, if_pos c4]
        rw [et] at hX
        simp only [lzP, bnd] at hX
        have m0 := tkm_lt tk ht c4 (by omega)
        rw [st_nj (by decide), h33, ix_nI (by omega)]
        refine ⟨iv, fun w5 e5 => ?_⟩
        have g5 : ∀ j, j ≠ 11 → w5 150 j = w 150 j := fun j hj => by subst e5; rw [st_nk (by decide), st_nj hj]
        have g511 : w5 150 11 = nI (t + 1) := by subst e5; rw [st_nk (by decide), st_eq]
        have z170 : w5 170 i = 1 := by subst e5; rw [st_eq]; rfl
        have f5 : frL s i c w w5 := by subst e5; exact fl_tr (fl_sb (by omega)) (fl_sr (by omega) (by omega))
        clear e5
        rw [(g5 33 (by decide)).trans h33, (g5 39 (by decide)).trans h39, ix_nI (by omega)]
        refine ⟨iv, fun w7 e7 => ?_⟩
        have g7 : ∀ j, w7 150 j = w5 150 j := fun j => by subst e7; exact st_nk (by decide)
        have z7 : w7 170 i = 1 ∧ w7 171 i = nI c := by subst e7; exact ⟨(st_nk (by decide)).trans z170, st_eq⟩
        have f7 : frL s i c w w7 := by subst e7; exact fl_tr f5 (fl_sr (by omega) (by omega))
        clear e7
        have s7 : w7 150 11 = nI (t + 1) ∧ w7 150 12 = 0 ∧ w7 150 13 = 0 ∧ w7 150 33 = nI i ∧ w7 150 39 = nI c ∧ w7 150 19 = nI s := ⟨(g7 11).trans g511, (g7 12).trans ((g5 12 (by decide)).trans h12), (g7 13).trans ((g5 13 (by decide)).trans h13), (g7 33).trans ((g5 33 (by decide)).trans h33), (g7 39).trans ((g5 39 (by decide)).trans h39), (g7 19).trans ((g5 19 (by decide)).trans h19)⟩
        refine r_exL (i0 := i) (c0 := c) (w0 := w) (tkm_fl tk f7) hs (by omega) m0 s7 b1 (by omega) f7 (Nat.le_refl _) (Nat.le_refl _) (by omega) (fun kd tok e hk w8 l8 => ?_) (fun ta A ea a1 a2 a3 w8 s8 a4 a5 a6 => ?_)
        · rw [e] at hX
          exact fl_must l8 hk (fl_t2 hs l8 hk (hX hk))
        rw [ea] at hX
        simp only [bnd] at hX
        have f8 : frL s i c w w8 := fl_tr f7 (fl_fe a5 (Nat.le_refl _))
        have z8 : w8 170 i = 1 ∧ w8 171 i = nI c := ⟨(a5 170 i (by omega) (by omega) (by omega)).trans z7.1, (a5 171 i (by omega) (by omega) (by omega)).trans z7.2⟩
        obtain ⟨k11, k12, k13, k33, k39, k19⟩ := s8
        refine r_must (c := 60) (tkm_fl tk f8) a2 k11 k13 (by decide) (by decide) (by decide) (fun kd hk e => ?_) (fun e c5 m1 => ?_)
        · rw [e] at hX
          exact fl_t2 hs (fl_new (P := P) (kd := kd) (r := 2) f8 (by omega : c ≤ c + A.length) (by omega) k39 k33 (Nat.le_refl _) (by omega) (by omega : ta ≤ 400) k11) hk (hX hk)
        rw [e] at hX
        simp only [bnd] at hX
        have iv2 : ix (nI i) = i := ix_nI (by omega)
        rw [(st_nj (by decide) : st w8 150 11 (nI (ta + 1)) 150 33 = w8 150 33), (st_nj (by decide) : st w8 150 11 (nI (ta + 1)) 150 39 = w8 150 39), k33, k39, iv2]
        refine ⟨iv, fun w13 e13 => ?_⟩
        have g13 : ∀ j, j ≠ 11 → w13 150 j = w8 150 j := fun j hj => by subst e13; rw [st_nk (by decide), st_nj hj]
        have g1311 : w13 150 11 = nI (ta + 1) := by subst e13; rw [st_nk (by decide), st_eq]
        have z13 : w13 170 i = 1 ∧ w13 171 i = nI c ∧ w13 172 i = nI (c + A.length) := by subst e13; exact ⟨by rw [st_nk (by decide), st_nk (by decide)]; exact z8.1, by rw [st_nk (by decide), st_nk (by decide)]; exact z8.2, st_eq⟩
        have f13 : frL s i c w w13 := by subst e13; exact fl_tr f8 (fl_tr (fl_sb (by omega)) (fl_sr (by omega) (by omega)))
        have cA : cda nI (w13 175) (w13 176) c A := by subst e13; rw [st_ne 175 (by decide), st_ne 176 (by decide), st_ne 175 (by decide), st_ne 176 (by decide)]; exact a6
        clear e13
        have s13 : w13 150 11 = nI (ta + 1) ∧ w13 150 12 = 0 ∧ w13 150 13 = 0 ∧ w13 150 33 = nI i ∧ w13 150 39 = nI (c + A.length) ∧ w13 150 19 = nI s := ⟨g1311, (g13 12 (by decide)).trans k12, (g13 13 (by decide)).trans k13, (g13 33 (by decide)).trans k33, (g13 39 (by decide)).trans k39, (g13 19 (by decide)).trans k19⟩
        refine ⟨fun q => absurd s13.2.2.1 q, fun _ => ?_⟩
        refine r_exL (i0 := i) (c0 := c) (w0 := w) (tkm_fl tk f13) hs (by omega) m1 s13 (by omega) (by omega) f13 (Nat.le_refl _) (by omega) (by omega) (fun kd tok e hk w14 l14 => ?_) (fun tb B eb d1 d2 d3 w14 s14 d4 d5 d6 => ?_)
        · rw [e] at hX
          exact fl_110 hs l14 hk (hX hk)
        rw [eb] at hX
        simp only [bnd] at hX
        have f14 : frL s i c w w14 := fl_tr f13 (fl_fe d5 (by omega))
        have z14 : w14 170 i = 1 ∧ w14 171 i = nI c ∧ w14 172 i = nI (c + A.length) := ⟨(d5 170 i (by omega) (by omega) (by omega)).trans z13.1, (d5 171 i (by omega) (by omega) (by omega)).trans z13.2.1, (d5 172 i (by omega) (by omega) (by omega)).trans z13.2.2⟩
        have cA2 : cda nI (w14 175) (w14 176) c A := cda_x (fun j q1 q2 => ⟨d5 175 j (by omega) (by omega) (by omega), d5 176 j (by omega) (by omega) (by omega)⟩) cA
        obtain ⟨n11, n12, n13, n33, n39, n19⟩ := s14
        unfold wp_12_tellLaw_b110
        refine r_must (c := 144) (tkm_fl tk f14) d2 n11 n13 (by decide) (by decide) (by decide) (fun kd hk e => ?_) (fun e c6 m2 => ?_)
        · rw [e] at hX
          have l := fl_new (P := P) (kd := kd) (r := 2) f14 (by omega : c ≤ c + A.length + B.length) (by omega) n39 n33 (Nat.le_refl _) (by omega) (by omega : tb ≤ 400) n11
          exact fl_term hs l hk (fun w3 h3 => fl_must h3 hk (fl_12 hs h3 hk (hX hk)))
        rw [e] at hX
        simp only [bnd] at hX
        unfold wp_12_term
        rw [(st_nj (by decide) : st w14 150 11 (nI (tb + 1)) 150 33 = w14 150 33), (st_nj (by decide) : st w14 150 11 (nI (tb + 1)) 150 39 = w14 150 39), n33, n39, iv2]
        refine ⟨iv, fun w15 e15 => ?_⟩
        have g15 : ∀ j, j ≠ 11 → w15 150 j = w14 150 j := fun j hj => by subst e15; rw [st_nk (by decide), st_nj hj]
        have g1511 : w15 150 11 = nI (tb + 1) := by subst e15; rw [st_nk (by decide), st_eq]
        have r15 : ∀ a j, a ≠ 150 → a ≠ 173 → w15 a j = w14 a j := fun a j q1 q2 => by subst e15; rw [st_nk q2, st_nk q1]
        have z15 : w15 173 i = nI (c + A.length + B.length) := by subst e15; exact st_eq
        have f15 : frL s i c w w15 := by subst e15; exact fl_tr f14 (fl_tr (fl_sb (by omega)) (fl_sr (by omega) (by omega)))
        clear e15
        have s15 : w15 150 11 = nI (tb + 1) ∧ w15 150 12 = 0 ∧ w15 150 13 = 0 ∧ w15 150 33 = nI i ∧ w15 150 39 = nI (c + A.length + B.length) ∧ w15 150 19 = nI s := ⟨g1511, (g15 12 (by decide)).trans n12, (g15 13 (by decide)).trans n13, (g15 33 (by decide)).trans n33, (g15 39 (by decide)).trans n39, (g15 19 (by decide)).trans n19⟩
        refine ⟨fun q => absurd s15.2.2.1 q, fun _ => ?_⟩
        refine r_exL (i0 := i) (c0 := c) (w0 := w) (tkm_fl tk f15) hs (by omega) m2 s15 (by omega) (by omega) f15 (Nat.le_refl _) (by omega) (by omega) (fun kd tok e hk w16 l16 => ?_) (fun tc C ec p1 p2 p3 w16 s16 p4 p5 p6 => ?_)
        · rw [e] at hX
          obtain ⟨x, x1, x2, x3, x4⟩ := fl_at hs l16
          unfold wp_12_term_b24
          rw [x1, ix_nI (by omega)]
          refine ⟨vp_in_nI x2 (by decide), fun u5 eu5 u6 eu6 => ?_⟩
          have l5 : FL P s i c w kd tok 2 u5 := by subst eu5; exact x3 174 _ (by omega) (by omega)
          obtain ⟨v, v1, v2, v3, v4⟩ := fl_at hs l5
          rw [v1, nI_1] at eu6
          subst eu6
          exact fl_must v4 hk (fl_12 hs v4 hk (hX hk))
        rw [ec] at hX
        simp only [bnd] at hX
        have f16 : frL s i c w w16 := fl_tr f15 (fl_fe p5 (by omega))
        obtain ⟨o11, o12, o13, o33, o39, o19⟩ := s16
        unfold wp_12_term_b24
        rw [o33, o39, iv2]
        refine ⟨iv, fun w17 e17 w18 e18 => ?_⟩
        have k17 : w17 150 33 = nI i := by subst e17; rw [st_nk (by decide)]; exact o33
        rw [k17, nI_1] at e18
        have g18 : ∀ j, j ≠ 33 → w18 150 j = w16 150 j := fun j hj => by subst e18; subst e17; rw [st_nj hj, st_nk (by decide)]
        have g1833 : w18 150 33 = nI (i + 1) := by subst e18; exact st_eq
        have r18 : ∀ a j, a ≠ 150 → a ≠ 174 → w18 a j = w16 a j := fun a j q1 q2 => by subst e18; subst e17; rw [st_nk q1, st_nk q2]
        have z18 : w18 174 i = nI (c + A.length + B.length + C.length) := by subst e18; subst e17; rw [st_nk (by decide), st_eq]
        have f18 : frL s i c w w18 := by subst e18; subst e17; exact fl_tr f16 (fl_tr (fl_sr (by omega) (by omega)) (fl_sb (by omega)))
        clear e17 e18
        refine r_must (c := 145) (tkm_fl tk f18) p2 ((g18 11 (by decide)).trans o11) ((g18 13 (by decide)).trans o13) (by decide) (by decide) (by decide) (fun kd hk e => ?_) (fun e c7 m3 => ?_)
        · rw [e] at hX
          have l := fl_new (P := P) (kd := kd) (r := 1) f18 (by omega : c ≤ c + A.length + B.length + C.length) (by omega) ((g18 39 (by decide)).trans o39) g1833 (by omega) (by omega) (by omega : tc ≤ 400) ((g18 11 (by decide)).trans o11)
          exact fl_12 hs l hk (hX hk)
        rw [e] at hX
        simp only [bnd] at hX
        have f19 : frL s i c w (st w18 150 11 (nI (tc + 1))) := fl_tr f18 (fl_sb (by omega))
        -- what stands of this branch
        have q170 : w18 170 i = 1 := by rw [r18 170 i (by decide) (by decide), p5 170 i (by omega) (by omega) (by omega), r15 170 i (by decide) (by decide)]; exact z14.1
        have q171 : w18 171 i = nI c := by rw [r18 171 i (by decide) (by decide), p5 171 i (by omega) (by omega) (by omega), r15 171 i (by decide) (by decide)]; exact z14.2.1
        have q172 : w18 172 i = nI (c + A.length) := by rw [r18 172 i (by decide) (by decide), p5 172 i (by omega) (by omega) (by omega), r15 172 i (by decide) (by decide)]; exact z14.2.2
        have q173 : w18 173 i = nI (c + A.length + B.length) := by rw [r18 173 i (by decide) (by decide), p5 173 i (by omega) (by omega) (by omega)]; exact z15
        have code : ∀ a j, (a = 175 ∨ a = 176) → j < c + A.length + B.length → w18 a j = w14 a j := fun a j qa qj => by rw [r18 a j (by omega) (by omega), p5 a j (by omega) (by omega) (by omega), r15 a j (by omega) (by omega)]
        have cA3 : cda nI (w18 175) (w18 176) c A := cda_x (fun j q1 q2 => ⟨code 175 j (Or.inl rfl) (by omega), code 176 j (Or.inr rfl) (by omega)⟩) cA2
        have cB3 : cda nI (w18 175) (w18 176) (c + A.length) B := cda_x (fun j q1 q2 => ⟨code 175 j (Or.inl rfl) (by omega), code 176 j (Or.inr rfl) (by omega)⟩) d6
        have cC3 : cda nI (w18 175) (w18 176) (c + A.length + B.length) C := cda_x (fun j q1 q2 => ⟨r18 175 j (by decide) (by decide), r18 176 j (by decide) (by decide)⟩) p6
        refine r_lw hs ha n (tc + 1) (i + 1) (c + A.length + B.length + C.length) _ (tkm_fl tk f19) (by omega) (by omega) m3 ⟨⟨st_eq, ?_, ?_, ?_, ?_, ?_⟩, by omega, by omega, by omega, by omega⟩ ?_
        · rw [st_nj (by decide), g18 12 (by decide)]; exact o12
        · rw [st_nj (by decide), g18 13 (by decide)]; exact o13
        · rw [st_nj (by decide)]; exact g1833
        · rw [st_nj (by decide), g18 39 (by decide)]; exact o39
        · rw [st_nj (by decide), g18 19 (by decide)]; exact o19
        · cases hr : lwP K V n (tc + 1) with
          | error yy =>
            obtain ⟨kd, tok⟩ := yy
            rw [hr] at hX
            simp only [lzP, bnd] at hX ⊢
            exact fun hk w9 l9 => hX hk w9 (fl_lift f19 (by omega) (by omega) l9)
          | ok yy =>
            obtain ⟨t9, Z, R⟩ := yy
            rw [hr] at hX
            simp only [lzP, bnd] at hX ⊢
            cases hr2 : tkP K 59 t9 with
            | error yy =>
              obtain ⟨kd, tok⟩ := yy
              rw [hr2] at hX
              simp only [bnd] at hX ⊢
              exact fun hk w9 l9 => hX hk w9 (fl_lift f19 (by omega) (by omega) l9)
            | ok t10 =>
              rw [hr2] at hX
              simp only [bnd] at hX ⊢
              intro m9 w9 N c9 st9 bd9 f9 l9
              have row : ∀ x, 170 ≤ x → x ≤ 174 → w9 x i = w18 x i := fun x q1 q2 => by rw [f9 x i (by omega) (by omega) (by omega) (by omega), st_nk (by omega)]
              have cod : ∀ x j, (x = 175 ∨ x = 176) → j < c + A.length + B.length + C.length → w9 x j = w18 x j := fun x j q1 q2 => by rw [f9 x j (by omega) (by omega) (by omega) (by omega), st_nk (by omega)]
              refine hX m9 w9 N c9 st9 ⟨by omega, bd9.2.1, by omega, bd9.2.2.2⟩ (fl_tr f19 (fl_up f9 (by omega) (by omega))) ⟨(row 170 (by omega) (by omega)).trans q170, ⟨c, ?_, ?_, by omega, by omega, by omega, ?_, a3⟩, ⟨c + A.length, ?_, ?_, by omega, by omega, by omega, ?_, d3⟩, ⟨c + A.length + B.length, ?_, ?_, by omega, by omega, by omega, ?_, p3⟩, by omega, l9⟩
              · exact (row 171 (by omega) (by omega)).trans q171
              · exact (row 172 (by omega) (by omega)).trans q172
              · exact cda_x (fun j q1 q2 => ⟨cod 175 j (Or.inl rfl) (by omega), cod 176 j (Or.inr rfl) (by omega)⟩) cA3
              · exact (row 172 (by omega) (by omega)).trans q172
              · exact (row 173 (by omega) (by omega)).trans q173
              · exact cda_x (fun j q1 q2 => ⟨cod 175 j (Or.inl rfl) (by omega), cod 176 j (Or.inr rfl) (by omega)⟩) cB3
              · exact (row 173 (by omega) (by omega)).trans q173
              · exact (row 174 (by omega) (by omega)).trans z18
              · exact cda_x (fun j q1 q2 => ⟨cod 175 j (Or.inl rfl) (by omega), cod 176 j (Or.inr rfl) (by omega)⟩) cC3
      · have et : tkP K 143 t = .error (2, t) := by unfold tkP; rw [if_pos y, if_neg (by omega)]
        rw [et] at hX
        simp only [lzP, bnd] at hX
        refine r_fail (by omega) h11 h13 ?_
        rw [(tk.2.2 t ht).2.2.1]
        have l7 := fl_new (P := P) (kd := 2) (r := 2) (i := i) (s := s) (c := c) (w0 := w) (w := w) (x := i) (fun _ _ _ _ _ _ => rfl) (Nat.le_refl c) (by omega) h39 h33 (by omega) (by omega) (by omega : t ≤ 400) h11
        revert l7
        generalize st (st w 150 13 (nI 2)) 150 14 (nI (P t)) = w3
        intro l7
        obtain ⟨x, x1, x2, x3, _⟩ := fl_at hs l7
        rw [x1, ix_nI (by omega)]
        refine ⟨vp_in_nI x2 (by decide), fun w5 e5 => ?_⟩
        have l8 : FL P s i c w 2 t 2 w5 := by subst e5; exact x3 170 _ (by omega) (by omega)
        obtain ⟨x', x1', x2', x3', _⟩ := fl_at hs l8
        rw [x1', ix_nI (by omega)]
        refine ⟨vp_in_nI x2' (by decide), fun w7 e7 => ?_⟩
        have l9 : FL P s i c w 2 t 2 w7 := by subst e7; exact x3' 171 _ (by omega) (by omega)
        exact fl_expr l9 (Or.inr rfl) (fun w8 l8 => fl_must l8 (Or.inr rfl) (fl_t2 hs l8 (Or.inr rfl) (hX (Or.inr rfl))))
    · rw [if_neg y] at hX
      exact r_lastR tk hs ha ht1 ht h (fun kd tok t e => ke_8 kd tok t e) hX
