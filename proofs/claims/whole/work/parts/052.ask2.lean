theorem fj_rf {w w2 : Mem} (f : frJ w w2) : RF w w2 := fun a j q => f a j (by simp only [scR] at q; omega) (by simp only [scR] at q; omega) (by simp only [scR] at q; omega) (by simp only [scR] at q; omega)
theorem z0 {s : Nat} {T : TX} {w : Mem} (h : RB s T w) : ∀ i, 260 ≤ i → w 180 i = 0 := fun i hi => (h.2.2.2.2.2.1 i hi).1
theorem rel_e {T : TX} {s : Nat} {w w2 wm wm2 : Mem} {wl : MemL} (h : RELt T s w wm wl) (f : fcO w w2) (g : frO2 wm wm2) (e : wm2 181 = wm 180) : REL w2 wm2 wl :=
  ⟨T, s, rel_q h f g (by rw [e]; exact z0 h.1.2.1)⟩
theorem ef {w w2 : Mem} (f : RF w w2) : w2 181 = w 181 := rf_row f 181 (fun j => by simp only [scR]; omega)
theorem efw {w w2 : Mem} (f : frW w w2) : w2 181 = w 181 := fw_row f 181 (by decide) (by decide) (by decide)
theorem sim_pound (a1 a2 a3 : Int32) : SIM (wp_11_pound a1 a2 a3) (wp_12_pound a1 a2 a3) := by
  rintro w wm wl ⟨T, s, h⟩
  obtain ⟨hC, hR, hP, hS⟩ := h.1
  have no : ¬ isM T a1 ∨ ¬ inR 0 30 a2 ∨ ¬ inR 0 60 a3 → wp_12_pound a1 a2 a3 wm wl (fun y wm2 wl2 => (-10000 : Int32) = y ∧ REL w wm2 wl2) := by
    intro q
    refine r_isMan hR (fun x1 => t1 (r_in (fun x2 => t1 (r_in (fun x3 => ?_) (fun _ => u0 ⟨rfl, T, s, h⟩))) (fun _ => t0 ⟨rfl, T, s, h⟩))) (fun _ => t0 ⟨rfl, T, s, h⟩)
    rcases q with q | q | q
    · exact absurd x1 q
    · exact absurd x2 q
    · exact absurd x3 q
  refine c_isMan hC.1.2.2.2.2.1.1 (fun x1 => t1 (c_in (fun x2 => t1 (c_in (fun x3 => u1 ?_) (fun q => u0 (no (Or.inr (Or.inr q)))))) (fun q => t0 (no (Or.inr (Or.inl q)))))) (fun q => t0 (no (Or.inl q)))
  obtain ⟨a, ha, rfl⟩ := inR_man (m8 hR) x1
  have av : vp_in (nI a) 8 := pk_in a 8 (by have := m8 hR; omega)
  refine ⟨av, fun x8 e8 => ⟨av, fun x10 e10 => ?_⟩⟩
  rw [ix_nI (by have := m8 hR; omega), show w 81 a = nI (ta T 0 a) from hC.1.2.2.2.2.2.1 0 a (by omega) ha] at e8
  rw [ix_nI (by have := m8 hR; omega), show w 82 a = nI (ta T 1 a) from hC.1.2.2.2.2.2.1 1 a (by omega) ha] at e10
  subst e8
  subst e10
  rw [hP.1.1]
  refine c_blow hC (cf_re w) (fun w11 f11 => ?_)
  rw [(f11.1 89 6 (by decide)).trans hP.1.2.2.1, (f11.1 89 7 (by decide)).trans hP.1.2.2.2.1]
  refine c_reach hC f11 (fun w12 f12 => ?_)
  rw [(f12.1 89 6 (by decide)).trans hP.1.2.2.1, (f12.1 89 7 (by decide)).trans hP.1.2.2.2.1]
  refine c_reach hC f12 (fun w14 f14 => ?_)
  refine r_isMan hR (fun _ => t1 (r_in (fun _ => t1 (r_in (fun _ => u1 (r_tries hR ha (fun wm2 k x12 e12 w13 e13 w15 e15 => ?_))) (fun q => absurd x3 q))) (fun q => absurd x2 q))) (fun q => absurd x1 q)
  obtain ⟨⟨k1, k2, k3, k4⟩, ⟨v1, v2, v3, v4, v5, v6, v7, v8⟩, l1, l2, l3⟩ := k
  have f15 : RF wm2 w15 := by subst e15; subst e13; exact rf_st (rf_st (rf_re wm2) (by decide)) (by decide)
  have r15 : ∀ j, j ≠ 57 → j ≠ 58 → w15 150 j = wm2 150 j := by subst e15; subst e13; exact fun j h1 h2 => (st_nj h2).trans (st_nj h1)
  have v57 : w15 150 57 = a2 := by subst e15; subst e13; rw [st_nj (by decide), st_eq]
  have v58 : w15 150 58 = a3 := by subst e15; exact st_eq
  refine r_jumps (we := nI (ta T 0 a) - a2) (sk := nI (ta T 1 a) - a3) (rt_rf k4 f15) ha ((r15 51 (by decide) (by decide)).trans v1) ((r15 52 (by decide) (by decide)).trans v2) ((r15 53 (by decide) (by decide)).trans v3) ((r15 54 (by decide) (by decide)).trans v4) ((r15 55 (by decide) (by decide)).trans v5) ((r15 56 (by decide) (by decide)).trans v6) (by rw [v57]) (by rw [v58]) ((r15 61 (by decide) (by decide)).trans k3.2.2.2.2.1) (fun w16 f16 j16 => ?_)
  refine ⟨?_, rel_e h (fc_cf (fc_re w) f14.1) (fo_rf (fo_rf k1 f15) (fj_rf f16)) ((ef (fj_rf f16)).trans ((ef f15).trans k2))⟩
  rw [j16.1, e12, l1, Int32.add_zero]
  rfl
theorem c_calm0 {T : TX} {w0 w : Mem} {tw mw ln sy po : Int32} {mk : Nat → Int32} {Q : Mem → Prop} (h : CF w0 tw mw ln sy po mk w) (K : ∀ w2, CF w0 0 0 ln sy po mk w2 → Q w2) : wp_0_calmDown w Q := by
  rintro _ rfl _ rfl
  refine K _ ⟨fun b j q => ?_, ⟨?_, ?_, ?_, ?_, ?_⟩, fun j hj => ?_⟩
  · have n3 : ¬ (b = 87 ∧ j = 3) := fun z => q (by rw [z.1, z.2]; decide)
    have n4 : ¬ (b = 87 ∧ j = 4) := fun z => q (by rw [z.1, z.2]; decide)
    simp only [st]
    rw [if_neg n3, if_neg n4]
    exact h.1 b j q
  · exact st_eq
  · rw [st_nj (by decide), st_eq]
  · rw [st_nj (by decide), st_nj (by decide)]; exact h.2.1.2.2.1
  · rw [st_nj (by decide), st_nj (by decide)]; exact h.2.1.2.2.2.1
  · rw [st_nj (by decide), st_nj (by decide)]; exact h.2.1.2.2.2.2
  · rw [st_nk (by decide), st_nk (by decide)]; exact h.2.2 j hj
theorem sim_gain (a1 : Int32) : SIM (wp_11_gain a1) (wp_12_gain a1) := by
  rintro w wm wl ⟨T, s, h⟩
  obtain ⟨hC, hR, hP, hS⟩ := h.1
  refine c_isMan hC.1.2.2.2.2.1.1 (fun x1 => u1 ?_) (fun q => u0 (r_isMan hR (fun z => absurd z q) (fun _ => u0 ⟨rfl, T, s, h⟩)))
  obtain ⟨a, ha, rfl⟩ := inR_man (m8 hR) x1
  refine c_tryOut hC hP (cf_re w) ha (fun q => absurd q (by decide)) (fun _ w3 mk3 f3 => c_calm0 (T := T) f3 (fun w5 f5 => ?_))
  rw [(f5.1 89 6 (by decide)).trans hP.1.2.2.1, (f5.1 89 7 (by decide)).trans hP.1.2.2.2.1]
  refine c_jumpNow hC f5 ha (fun q => absurd q (by decide)) (fun _ w6 mk6 f6 => ?_)
  refine r_isMan hR (fun _ => u1 (r_tries hR ha (fun wm2 k x6 e6 w7 e7 w8 e8 => ?_))) (fun q => absurd x1 q)
  obtain ⟨⟨k1, k2, k3, k4⟩, ⟨v1, v2, v3, v4, v5, v6, v7, v8⟩, l1, l2, l3⟩ := k
  have f15 : RF wm2 w8 := by subst e8; subst e7; exact rf_st (rf_st (rf_re wm2) (by decide)) (by decide)
  have r15 : ∀ j, j ≠ 55 → j ≠ 56 → w8 150 j = wm2 150 j := by subst e8; subst e7; exact fun j h1 h2 => (st_nj h2).trans (st_nj h1)
  have v57 : w8 150 55 = 0 := by subst e8; subst e7; rw [st_nj (by decide), st_eq]
  have v58 : w8 150 56 = 0 := by subst e8; exact st_eq
  refine r_jumps (we := nI (ta T 0 a)) (sk := nI (ta T 1 a)) (rt_rf k4 f15) ha ((r15 51 (by decide) (by decide)).trans v1) ((r15 52 (by decide) (by decide)).trans v2) ((r15 53 (by decide) (by decide)).trans v3) ((r15 54 (by decide) (by decide)).trans v4) v57 v58 (by rw [r15 57 (by decide) (by decide), v7, Int32.sub_zero]) (by rw [r15 58 (by decide) (by decide), v8, Int32.sub_zero]) ((r15 61 (by decide) (by decide)).trans k3.2.2.2.2.1) (fun w16 f16 j16 => ?_)
  refine ⟨?_, rel_e h (fc_cf (fc_re w) f6.1) (fo_rf (fo_rf k1 f15) (fj_rf f16)) ((ef (fj_rf f16)).trans ((ef f15).trans k2))⟩
  rw [j16.2.2.1, e6, l3]
  rfl
theorem sim_number (a1 : Int32) : SIM (wp_11_number a1) (wp_12_number a1) := by
  rintro w wm wl ⟨T, s, h⟩
  obtain ⟨hC, hR, hP, hS⟩ := h.1
  refine c_isMan hC.1.2.2.2.2.1.1 (fun x1 => u1 ?_) (fun q => u0 (r_isMan hR (fun z => absurd z q) (fun _ => u0 ⟨rfl, T, s, h⟩)))
  obtain ⟨a, ha, rfl⟩ := inR_man (m8 hR) x1
  rw [hP.1.1]
  refine c_blow hC (cf_re w) (fun w3 f3 => ?_)
  rw [(f3.1 89 6 (by decide)).trans hP.1.2.2.1]
  refine c_jumpNow hC f3 ha (fun q => absurd q (by decide)) (fun _ w4 mk4 f4 => ?_)
  rw [(f4.1 89 6 (by decide)).trans hP.1.2.2.1, (cf_j hC f4).1]
  refine c_jumpNow hC f4 ha (fun q => absurd q (by decide)) (fun _ w6 mk6 f6 => ?_)
  refine r_isMan hR (fun _ => u1 (r_tries hR ha (fun wm2 k w7 e7 => ?_))) (fun q => absurd x1 q)
  rw [Int32.add_zero] at k
  obtain ⟨⟨k1, k2, k3, k4⟩, ⟨v1, v2, v3, v4, v5, v6, v7, v8⟩, l1, l2, l3⟩ := k
  have f15 : RF wm2 w7 := by subst e7; exact rf_st (rf_re wm2) (by decide)
  have r15 : ∀ j, j ≠ 54 → w7 150 j = wm2 150 j := by subst e7; exact fun j h1 => st_nj h1
  have v57 : w7 150 54 = 0 := by subst e7; exact st_eq
  refine r_jumps (we := nI (ta T 0 a)) (sk := nI (ta T 1 a)) (rt_rf k4 f15) ha ((r15 51 (by decide)).trans v1) ((r15 52 (by decide)).trans v2) ((r15 53 (by decide)).trans v3) v57 ((r15 55 (by decide)).trans v5) ((r15 56 (by decide)).trans v6) (by rw [r15 57 (by decide), v7, Int32.sub_zero]) (by rw [r15 58 (by decide), v8, Int32.sub_zero]) ((r15 61 (by decide)).trans k3.2.2.2.2.1) (fun w16 f16 j16 x9 e9 => ?_)
  have t16 := rt_rf (rt_rf k4 f15) (fj_rf f16)
  have hs := hR.1
  refine ⟨by rw [t16.2.1]; exact pk_in s 2 hs, fun w11 e11 => ?_⟩
  rw [t16.2.1, ix_nI (by omega), t16.2.2.1.2.2.1.1] at e11
  have f11 : RF w16 w11 := by subst e11; exact rf_st (rf_re w16) (by decide)
  have g16 : ∀ j, j ≠ 46 → j ≠ 59 → j ≠ 62 → j ≠ 63 → w16 150 j = w7 150 j := fun j h1 h2 h3 h4 => f16 150 j (by decide) (by decide) (by decide) (by omega)
  have r11 : ∀ j, j ≠ 46 → j ≠ 59 → j ≠ 62 → j ≠ 63 → j ≠ 54 → w11 150 j = wm2 150 j := by
    intro j h1 h2 h3 h4 h5
    subst e11
    rw [st_nj h5, g16 j h1 h2 h3 h4]
    exact r15 j h5
  have v54 : w11 150 54 = nI (tm T) - 1 := by subst e11; exact st_eq
  refine r_jumps (we := nI (ta T 0 a)) (sk := nI (ta T 1 a)) (rt_rf t16 f11) ha ((r11 51 (by decide) (by decide) (by decide) (by decide) (by decide)).trans v1) ((r11 52 (by decide) (by decide) (by decide) (by decide) (by decide)).trans v2) ((r11 53 (by decide) (by decide) (by decide) (by decide) (by decide)).trans v3) v54 ((r11 55 (by decide) (by decide) (by decide) (by decide) (by decide)).trans v5) ((r11 56 (by decide) (by decide) (by decide) (by decide) (by decide)).trans v6)
    (by rw [r11 57 (by decide) (by decide) (by decide) (by decide) (by decide), v7, Int32.sub_zero]) (by rw [r11 58 (by decide) (by decide) (by decide) (by decide) (by decide), v8, Int32.sub_zero]) ((r11 61 (by decide) (by decide) (by decide) (by decide) (by decide)).trans k3.2.2.2.2.1) (fun w12 f12 j12 => ?_)
  refine ⟨?_, rel_e h (fc_cf (fc_re w) f6.1) (fo_rf (fo_rf (fo_rf (fo_rf k1 f15) (fj_rf f16)) f11) (fj_rf f12)) ((ef (fj_rf f12)).trans ((ef f11).trans ((ef (fj_rf f16)).trans ((ef f15).trans k2))))⟩
  rw [j12.2.2.1, e9, j16.2.2.1]
  rfl
theorem sim_atGate (a1 a2 a3 : Int32) : SIM (wp_11_atGate a1 a2 a3) (wp_12_atGate a1 a2 a3) := by
  rintro w wm wl ⟨T, s, h⟩
  obtain ⟨hC, hR, hP, hS⟩ := h.1
  have no : ¬ isM T a1 ∨ ¬ inR 0 40 a2 → wp_12_atGate a1 a2 a3 wm wl (fun y wm2 wl2 => (-10000 : Int32) = y ∧ REL w wm2 wl2) := by
    intro q
    refine r_isMan hR (fun x1 => t1 (r_in (fun x2 => ?_) (fun _ => u0 ⟨rfl, T, s, h⟩))) (fun _ => t0 ⟨rfl, T, s, h⟩)
    rcases q with q | q
    · exact absurd x1 q
    · exact absurd x2 q
  refine c_isMan hC.1.2.2.2.2.1.1 (fun x1 => t1 (c_in (fun x2 => ⟨Or.inr rfl, u1 ?_⟩) (fun q => ⟨Or.inl rfl, u0 (no (Or.inr q))⟩))) (fun q => t0 (no (Or.inl q)))
  obtain ⟨a, ha, rfl⟩ := inR_man (m8 hR) x1
  have fin : ∀ v w2, fcO w w2 → (a3 = 0 → v = jL T (nI (tn T 15)) a (wm 180 0) 0 a2 (wm 180 3)) → (¬ a3 = 0 → v = jP T (nI (tn T 15)) a (wm 180 0) 0 a2 (wm 180 3)) →
      wp_12_atGate (nI a) a2 a3 wm wl (fun y wm2 wl2 => v = y ∧ REL w2 wm2 wl2) := by
    intro v w2 fo k1 k2
    refine r_isMan hR (fun _ => t1 (r_in (fun _ => u1 (r_copies hR (fun wm1 g1 e1 p1 b1 => ?_))) (fun q => absurd x2 q))) (fun q => absurd x1 q)
    rw [e1]
    refine r_jumpP hR g1 e1 (z0 hR) p1.1 ha (fun wm2 k => ?_)
    have e := try_q h fo k
    refine ⟨fun q => ⟨?_, e⟩, fun q => ⟨?_, e⟩⟩
    · rw [k.2.2.1, k1 q]; rfl
    · rw [k.2.2.2.2, k2 q]; rfl
  rw [hP.1.1]
  refine c_blow hC (cf_re w) (fun w5 f5 => ?_)
  rw [(f5.1 89 7 (by decide)).trans hP.1.2.2.2.1]
  refine c_jumpNow hC f5 ha (fun q w6 f6 => fin _ w6 (fc_cf (fc_re w) f6.1) (fun _ => rfl) (fun z => absurd q z)) (fun q w6 mk6 f6 => fin _ w6 (fc_cf (fc_re w) f6.1) (fun z => absurd z q) (fun _ => rfl))
theorem sim_wind (a1 a2 : Int32) : SIM (wp_11_wind a1 a2) (wp_12_wind a1 a2) := by
  rintro w wm wl ⟨T, s, h⟩
  obtain ⟨hC, hR, hP, hS⟩ := h.1
  refine c_in (fun x1 => t1 (c_in (fun x2 => u1 (c_wind hC (cf_re w) (fun w2 f2 => ?_))) (fun q => u0 (r_in (fun _ => t1 (r_in (fun z => absurd z q) (fun _ => u0 ⟨rfl, T, s, h⟩))) (fun z => absurd x1 z))))) (fun q => t0 (r_in (fun z => absurd z q) (fun _ => t0 ⟨rfl, T, s, h⟩)))
  refine r_in (fun _ => t1 (r_in (fun _ => u1 (r_copies hR (fun wm1 g1 e1 p1 b1 => r_wind p1.1 (fun wm2 g2 => ⟨rfl, ?_⟩)))) (fun q => absurd x2 q))) (fun q => absurd x1 q)
  exact rel_e h (fc_cf (fc_re w) f2.1) (fo_fw g1 g2) ((efw g2).trans e1)
theorem sim_now (a1 : Int32) : SIM (wp_11_now a1) (wp_12_now a1) := by
  rintro w wm wl ⟨T, s, h⟩
  obtain ⟨hC, hR, hP, hS⟩ := h.1
  obtain ⟨p0, p1, p2, p3, p4⟩ := hP.1
  have rq : ∀ (Q : Int32 → Mem → MemL → Prop), (∀ wm1, frO2 wm wm1 → wm1 181 = wm 180 → RP s T (nI (tn T 15)) false wm1 → (
      (a1 = 0 → Q (wm 180 0) wm1 wl) ∧ (a1 = 1 → Q (wm 180 1) wm1 wl) ∧ (a1 = 2 → Q (wm 180 2) wm1 wl) ∧ (a1 = 3 → wp_12_nextOne wm1 wl Q) ∧ (a1 = 4 → Q (wm 180 3) wm1 wl) ∧ (a1 = 5 → wp_12_meanOf (wm 180 0) wm1 wl Q) ∧ (a1 = 6 → wp_12_trueOf (wm 180 0) wm1 wl Q) ∧ (¬ a1 = 0 → ¬ a1 = 1 → ¬ a1 = 2 → ¬ a1 = 3 → ¬ a1 = 4 → ¬ a1 = 5 → ¬ a1 = 6 → Q (-10000) wm1 wl))) → wp_12_now a1 wm wl Q := by
    intro Q K
    refine r_copies hR (fun wm1 g1 e1 p1 b1 => ?_)
    obtain ⟨k0, k1, k2, k3, k4, k5, k6, k7⟩ := K wm1 g1 e1 p1
    rw [e1]
    refine ⟨fun q => ⟨?_, ?_⟩, fun n0 => ⟨fun q => ⟨?_, ?_⟩, fun n1 => ⟨fun q => ⟨?_, ?_⟩, fun n2 => ⟨k3, fun n3 => ⟨k4, fun n4 => ⟨k5, fun n5 => ⟨k6, fun n6 => k7 n0 n1 n2 n3 n4 n5 n6⟩⟩⟩⟩⟩⟩⟩
    · rw [q]; exact pk_in 0 260 (by omega)
    · have := k0 q; rw [q]; exact this
    · rw [q]; exact pk_in 1 260 (by omega)
    · have := k1 q; rw [q]; exact this
    · rw [q]; exact pk_in 2 260 (by omega)
    · have := k2 q; rw [q]; exact this
  have e0 : ∀ wm1, frO2 wm wm1 → wm1 181 = wm 180 → REL w wm1 wl := fun wm1 g e => rel_e h (fc_re w) g e
  unfold wp_11_now
  rw [p0, p1, p2, p3]
  refine ⟨fun q => rq _ (fun wm1 g e p => ?_), fun n0 => ⟨fun q => rq _ (fun wm1 g e p => ?_), fun n1 => ⟨fun q => rq _ (fun wm1 g e p => ?_), fun n2 => ⟨fun q => ?_, fun n3 => ⟨fun q => rq _ (fun wm1 g e p => ?_), fun n4 => ⟨fun q => c_blow hC (cf_re w) (fun w2 f2 => rq _ (fun wm1 g e p => ?_)), fun n5 => ⟨fun q => c_blow hC (cf_re w) (fun w2 f2 => rq _ (fun wm1 g e p => ?_)), fun n6 => rq _ (fun wm1 g e p => ?_)⟩⟩⟩⟩⟩⟩⟩
  · subst q; exact ⟨fun _ => ⟨rfl, e0 wm1 g e⟩, fun z => absurd z (by decide), fun z => absurd z (by decide), fun z => absurd z (by decide), fun z => absurd z (by decide), fun z => absurd z (by decide), fun z => absurd z (by decide), fun z => absurd rfl z⟩
  · subst q; exact ⟨fun z => absurd z (by decide), fun _ => ⟨rfl, e0 wm1 g e⟩, fun z => absurd z (by decide), fun z => absurd z (by decide), fun z => absurd z (by decide), fun z => absurd z (by decide), fun z => absurd z (by decide), fun _ z => absurd rfl z⟩
  · subst q; exact ⟨fun z => absurd z (by decide), fun z => absurd z (by decide), fun _ => ⟨rfl, e0 wm1 g e⟩, fun z => absurd z (by decide), fun z => absurd z (by decide), fun z => absurd z (by decide), fun z => absurd z (by decide), fun _ _ z => absurd rfl z⟩
  · have nx : ∀ v : Int32, (szP T (wm 180) = 0 → v = -2) → (sn (wm 180) < szP T (wm 180) → v = nI (nxP T false (wm 180))) → wp_12_now a1 wm wl (fun y wm2 wl2 => v = y ∧ REL w wm2 wl2) := by
      intro v z0 z1
      refine rq _ (fun wm1 g e p => ?_)
      subst q
      refine ⟨fun z => absurd z (by decide), fun z => absurd z (by decide), fun z => absurd z (by decide), fun _ => ?_, fun z => absurd z (by decide), fun z => absurd z (by decide), fun z => absurd z (by decide), fun _ _ _ z => absurd rfl z⟩
      refine r_next p.1 p.2.2.2 p.2.2.1 (fun y => ⟨?_, e0 wm1 g e⟩) (fun y => ⟨?_, e0 wm1 g e⟩)
      · rw [e] at y; exact z0 y
      · rw [e] at y ⊢; exact z1 y
    exact c_next hR.2.2.2.1 hP hR.2.2.2.2.2.2 (fun y => nx _ (fun _ => rfl) (fun z => absurd z (by omega))) (fun y => nx _ (fun z => absurd z (by omega)) (fun _ => rfl))
  · subst q; exact ⟨fun z => absurd z (by decide), fun z => absurd z (by decide), fun z => absurd z (by decide), fun z => absurd z (by decide), fun _ => ⟨rfl, e0 wm1 g e⟩, fun z => absurd z (by decide), fun z => absurd z (by decide), fun _ _ _ _ z => absurd rfl z⟩
  · subst q
    refine ⟨fun z => absurd z (by decide), fun z => absurd z (by decide), fun z => absurd z (by decide), fun z => absurd z (by decide), fun z => absurd z (by decide), fun _ => r_mean p.1 (fun wm2 g2 => ⟨f2.2.1.2.1, ?_⟩), fun z => absurd z (by decide), fun _ _ _ _ _ z => absurd rfl z⟩
    exact rel_e h (fc_cf (fc_re w) f2.1) (fo_fw g g2) ((efw g2).trans e)
  · subst q
    refine ⟨fun z => absurd z (by decide), fun z => absurd z (by decide), fun z => absurd z (by decide), fun z => absurd z (by decide), fun z => absurd z (by decide), fun z => absurd z (by decide), fun _ => r_true p.1 (fun wm2 g2 => ⟨f2.2.1.1, ?_⟩), fun _ _ _ _ _ _ z => absurd rfl z⟩
    exact rel_e h (fc_cf (fc_re w) f2.1) (fo_fw g g2) ((efw g2).trans e)
  · exact ⟨fun z => absurd z n0, fun z => absurd z n1, fun z => absurd z n2, fun z => absurd z n3, fun z => absurd z n4, fun z => absurd z n5, fun z => absurd z n6, fun _ _ _ _ _ _ _ => ⟨rfl, e0 wm1 g e⟩⟩
