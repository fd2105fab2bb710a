def frJ (w w2 : Mem) : Prop := ∀ a j, a ≠ 178 → a ≠ 179 → a ≠ 182 → ¬ (a = 150 ∧ (j = 46 ∨ j = 59 ∨ j = 62 ∨ j = 63)) → w2 a j = w a j
/-- what a jump of the reference leaves -/
def JR (T : TX) (a : Nat) (tw m la ln g : Int32) (w2 : Mem) : Prop :=
  w2 150 59 = ln ∧ w2 150 62 = styT (markT T a tw la ln) (-1) (tj T) ∧ w2 150 63 = ptsT T ln (styT (markT T a tw la ln) (-1) (tj T)) (givT T m) g ∧ ∀ j, j < tj T → w2 182 j = markT T a tw la ln j
theorem r_jumps {s a : Nat} {T : TX} {sd la tw g ah m we sk : Int32} {w : Mem} {wl : MemL} {Q : Mem → MemL → Prop} (h : RT s T sd w) (ha : a < tm T) (h51 : w 150 51 = nI a) (h52 : w 150 52 = la) (h53 : w 150 53 = g) (h54 : w 150 54 = ah) (h55 : w 150 55 = tw) (h56 : w 150 56 = m)
    (hwe : nI (ta T 0 a) - w 150 57 = we) (hsk : nI (ta T 1 a) - w 150 58 = sk) (h61 : w 150 61 = -1)
    (K : ∀ w2, frJ w w2 → JR T a tw m la (lenT T tw we sk la ah g) g w2 → Q w2 wl) : wp_12_jumps w wl Q := by
  have h8 : tm T ≤ 8 := h.2.2.2.1.2.2.1.2.2.2.1
  have hs := h.1
  refine r_clears (fun w1 f1 z1 => ?_)
  have g1 : frW w w1 := fw_fo (fw_re w) f1
  refine r_tell (a := 12) (rt_fw h g1) (by omega) (fun x6 e6 w7 e7 => ?_)
  rw [g1 150 53 (by decide) (by decide) (by decide), h53] at e6
  rw [g1 150 55 (by decide) (by decide) (by decide), h55] at e7
  have g7 : frW w w7 := by subst e7; exact fw_st g1
  have x8 : ∀ w9 : Mem, frW w w9 → (8 : Int32) * w9 150 18 + w9 150 51 = nI (8 * s + a) := fun w9 f => by rw [(rt_fw h f).2.1, f 150 51 (by decide) (by decide) (by decide), h51, show (8 : Int32) = nI 8 from rfl, pk_mul, nI_add]
  rw [x8 w7 g7]
  refine ⟨vp_in_nI (by omega) (by decide), fun w9 e9 => ?_⟩
  rw [ix_nI (by omega), (rt_fw h g7).2.2.1.2.2.2.1 0 a (by omega) ha, g7 150 57 (by decide) (by decide) (by decide), hwe] at e9
  have g9 : frW w w9 := by subst e9; exact fw_st g7
  rw [x8 w9 g9]
  refine ⟨vp_in_nI (by omega) (by decide), fun w11 e11 => ?_⟩
  rw [ix_nI (by omega), (rt_fw h g9).2.2.1.2.2.2.1 1 a (by omega) ha, g9 150 58 (by decide) (by decide) (by decide), hsk] at e11
  have g11 : frW w w11 := by subst e11; exact fw_st g9
  intro w12 e12
  rw [g11 150 52 (by decide) (by decide) (by decide), h52] at e12
  have g12 : frW w w12 := by subst e12; exact fw_st g11
  refine r_tell (a := 8) (rt_fw h g12) (by omega) (fun w16 e16 w17 e17 => ?_)
  rw [g12 150 54 (by decide) (by decide) (by decide), h54] at e16
  have g16 : frW w w16 := by subst e16; exact fw_st g12
  have g17 : frW w w17 := by subst e17; exact fw_st g16
  have hV : ∀ j, j < 11 → w17 178 j = faV tw we sk la (nI (tn T 8) * ah) (g - nI (tn T 12)) j := by
    intro j hj
    subst e17
    subst e16
    subst e12
    subst e11
    subst e9
    subst e7
    subst e6
    rw [st_at, st_at, st_at, st_at, st_at, st_at]
    exact up_c (fun _ => up_c (fun _ => up_c (fun _ => up_c (fun _ => up_c (fun _ => up_c (fun _ => z1 j hj))))))
  refine r_tell (a := 0) (rt_fw h g17) (by omega) ?_
  refine r_law 1 (rt_fw h g17) (by omega) (by decide) hV ?_ (fun w21 f21 w24 e24 => ?_)
  · rw [g17 150 55 (by decide) (by decide) (by decide), h55, e6]
    rfl
  · have g21 := fw_tr g17 f21
    have ej : ∀ a j, a ≠ 178 → a ≠ 179 → ¬ (a = 150 ∧ (j = 46 ∨ j = 59)) → w24 a j = w a j := by
      intro b j p q r
      subst e24
      simp only [st]
      rw [if_neg (by omega)]
      exact g21 b j p q (by omega)
    have t24 : RT s T sd w24 := rt_rf h (fun b j q => ej b j (by simp only [scR] at q; omega) (by simp only [scR] at q; omega) (by simp only [scR] at q; omega))
    refine r_marks (tw := tw) (g := g) (m := m) (la := la) (ex := -1) t24 ha ((ej 150 51 (by decide) (by decide) (by decide)).trans h51) ((ej 150 52 (by decide) (by decide) (by decide)).trans h52) ((ej 150 53 (by decide) (by decide) (by decide)).trans h53) ((ej 150 55 (by decide) (by decide) (by decide)).trans h55) ((ej 150 56 (by decide) (by decide) (by decide)).trans h56) rfl ((ej 150 61 (by decide) (by decide) (by decide)).trans h61) ?_
    have e59 : w24 150 59 = lenT T tw we sk la ah g := by subst e24; exact st_eq
    rw [e59]
    intro w2 f2 k1 k2 k3
    refine K w2 (fun b j p q r t => (f2 b j p q r (by omega)).trans (ej b j p q (by omega))) ⟨?_, k1, k2, k3⟩
    exact (f2 150 59 (by decide) (by decide) (by decide) (by decide)).trans e59
/-- a jump of the man a in the second t -/
theorem r_jump {s a : Nat} {T : TX} {sd t la g ah : Int32} {w : Mem} {wl : MemL} {Q : Mem → MemL → Prop} (h : RT s T sd w) (ha : a < tm T) (h61 : w 150 61 = -1)
    (K : ∀ w2, RF w w2 → (w2 150 51 = nI a ∧ w2 150 52 = la ∧ w2 150 53 = g ∧ w2 150 54 = ah ∧ w2 150 55 = trueT T sd t ∧ w2 150 56 = meanT T sd t ∧ w2 150 57 = 0 ∧ w2 150 58 = 0) →
      JR T a (trueT T sd t) (meanT T sd t) la (lenT T (trueT T sd t) (nI (ta T 0 a)) (nI (ta T 1 a)) la ah g) g w2 → Q w2 wl) : wp_12_setsJump (nI a) t la g ah w wl Q := by
  rintro _ rfl _ rfl _ rfl _ rfl
  have f4 : RF w (st (st (st (st w 150 51 (nI a)) 150 52 la) 150 53 g) 150 54 ah) := rf_st (rf_st (rf_st (rf_st (rf_re w) (by decide)) (by decide)) (by decide)) (by decide)
  have v4 : (st (st (st (st w 150 51 (nI a)) 150 52 la) 150 53 g) 150 54 ah) 150 51 = nI a ∧ (st (st (st (st w 150 51 (nI a)) 150 52 la) 150 53 g) 150 54 ah) 150 52 = la ∧ (st (st (st (st w 150 51 (nI a)) 150 52 la) 150 53 g) 150 54 ah) 150 53 = g ∧ (st (st (st (st w 150 51 (nI a)) 150 52 la) 150 53 g) 150 54 ah) 150 54 = ah := by
    simp [st]
  generalize (st (st (st (st w 150 51 (nI a)) 150 52 la) 150 53 g) 150 54 ah) = w4 at f4 v4
  obtain ⟨v1, v2, v3, v4⟩ := v4
  have t4 := rt_rf h f4
  refine r_true t4 (fun w5 f5 w8 e8 => ?_)
  have f8 : RF w w8 := by subst e8; exact rf_st (fw_rf f4 f5) (by decide)
  have t8 := rt_rf h f8
  refine r_mean t8 (fun w9 f9 w12 e12 w13 e13 w14 e14 => ?_)
  have r8 : ∀ j, 51 ≤ j → j < 55 → w14 150 j = w4 150 j := by
    intro j h1 h2
    subst e14
    subst e13
    subst e12
    rw [st_nj (by omega), st_nj (by omega), st_nj (by omega), f9 150 j (by decide) (by decide) (by omega)]
    subst e8
    rw [st_nj (by omega), f5 150 j (by decide) (by decide) (by omega)]
  have r55 : w14 150 55 = trueT T sd t := by
    subst e14
    subst e13
    subst e12
    rw [st_nj (by omega), st_nj (by omega), st_nj (by omega), f9 150 55 (by decide) (by decide) (by omega)]
    subst e8
    exact st_eq
  have r56 : w14 150 56 = meanT T sd t ∧ w14 150 57 = 0 ∧ w14 150 58 = 0 := by
    subst e14
    subst e13
    subst e12
    simp [st]
  have f14 : RF w w14 := by
    subst e14
    subst e13
    subst e12
    exact rf_st (rf_st (rf_st (fw_rf f8 f9) (by decide)) (by decide)) (by decide)
  refine r_jumps (we := nI (ta T 0 a)) (sk := nI (ta T 1 a)) (rt_rf h f14) ha ((r8 51 (by decide) (by decide)).trans v1) ((r8 52 (by decide) (by decide)).trans v2) ((r8 53 (by decide) (by decide)).trans v3) ((r8 54 (by decide) (by decide)).trans v4) r55 r56.1
    (by rw [r56.2.1, Int32.sub_zero]) (by rw [r56.2.2, Int32.sub_zero]) ((f14 150 61 (by decide)).trans h61) (fun w2 f2 j2 => ?_)
  have r2 : ∀ j, 51 ≤ j → j < 59 → w2 150 j = w14 150 j := fun j h1 h2 => f2 150 j (by decide) (by decide) (by decide) (by omega)
  refine K w2 (fun b j q => (f2 b j (by simp only [scR] at q; omega) (by simp only [scR] at q; omega) (by simp only [scR] at q; omega) (by simp only [scR] at q; omega)).trans (f14 b j q)) ⟨?_, ?_, ?_, ?_, ?_, ?_, ?_, ?_⟩ j2
  · rw [r2 51 (by decide) (by decide), r8 51 (by decide) (by decide)]; exact v1
  · rw [r2 52 (by decide) (by decide), r8 52 (by decide) (by decide)]; exact v2
  · rw [r2 53 (by decide) (by decide), r8 53 (by decide) (by decide)]; exact v3
  · rw [r2 54 (by decide) (by decide), r8 54 (by decide) (by decide)]; exact v4
  · rw [r2 55 (by decide) (by decide)]; exact r55
  · rw [r2 56 (by decide) (by decide)]; exact r56.1
  · rw [r2 57 (by decide) (by decide)]; exact r56.2.1
  · rw [r2 58 (by decide) (by decide)]; exact r56.2.2
