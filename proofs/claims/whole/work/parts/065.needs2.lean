theorem sim_needs (a1 : Int32) : SIM (wp_11_needs a1) (wp_12_needs a1) := by
  rintro w wm wl ⟨T, s, h⟩
  obtain ⟨hC, hR, hP, hS⟩ := h.1
  have h8 := m8 hR
  have hs := hR.1
  have hB := hR.2.2.2.1
  have hG := hR.2.2.2.2.2.2
  have h7 : tj T ≤ 7 := hB.2.2.1.2.2.2.2
  refine c_isMan hC.1.2.2.2.2.1.1 (fun x1 => t1 ?_) (fun q => t0 (r_isMan hR (fun z => absurd z q) (fun _ => u0 ⟨rfl, T, s, h⟩)))
  obtain ⟨a, ha, rfl⟩ := inR_man h8 x1
  refine c_toStart hB hP hG ha (fun lf => u1 ?_) (fun lf => u0 ?_)
  rotate_left
  · refine r_isMan hR (fun _ => u1 (r_copies hR (fun wm1 g1 e1 p1 b1 => r_hasLeft p1.1 (by rw [e1]; exact hG) ha (fun z => absurd (by rw [e1] at z; exact z) lf) (fun _ => u0 ⟨rfl, rel_e h (fc_re w) g1 e1⟩)))) (fun q => absurd x1 q)
  obtain ⟨g, gg, hg⟩ := hG.1.2.2.2.2.2.2
  -- points of a length
  obtain ⟨pt, hpt⟩ : ∃ pt : Nat → Int32, ∀ l, ptsT T (nI l) (styT (markT T a 0 0 (nI l)) (-1) (tj T)) (givT T 0) (wm 180 2) = pt l := ⟨_, fun _ => rfl⟩
  obtain ⟨mo, hmo⟩ : ∃ mo : Nat → Int32, ∀ l, ptsT T (nI l) (styT (fun _ => 200) (-1) (tj T)) (givT T 0) (wm 180 2) = mo l := ⟨_, fun _ => rfl⟩
  have gv := givT_b T 0
  have sb := styT_b (mk := fun _ => (200 : Int32)) (ex := -1) (n := tj T) h7 (fun j _ => by decide)
  have pm : ∀ l, l < 10000 → (pt l).toInt ≤ (mo l).toInt ∧ 0 ≤ (pt l).toInt ∧ (pt l).toInt ≤ 200000 := by
    intro l hl
    have s1 := styT_b (mk := markT T a 0 0 (nI l)) (ex := -1) (n := tj T) h7 (fun j _ => markT_b _ _ _ _ _ _)
    have s2 := styT_most (mk := markT T a 0 0 (nI l)) (ex := -1) (n := tj T) h7 (fun j _ => markT_b _ _ _ _ _ _)
    have tln := ti_nI (n := l) (by omega)
    obtain ⟨c, c1, c2, hc⟩ := ptsT_i (ln := nI l) (sy := styT (markT T a 0 0 (nI l)) (-1) (tj T)) hB (by omega) (by omega) s1.1 s1.2 gv.1 gv.2 hg
    have e1 := hc _ s1.1 s1.2
    have e2 := hc _ sb.1 sb.2
    rw [← gg, hpt] at e1
    rw [← gg, hmo] at e2
    omega
  have tb := tbF_m (a := a) hG (tm T) h8
  obtain ⟨hp, hpe, hpb⟩ := (gw_p hG a (by omega)).2
  have hti := ti_nI (n := hp) (by omega)
  obtain ⟨W, hW⟩ : ∃ W, tbF (wm 180) a (tm T) - f2 (wm 180) a = W := ⟨_, rfl⟩
  have tb0 : 0 ≤ (tbF (wm 180) a (tm T)).toInt := by omega
  have wt : W.toInt = (tbF (wm 180) a (tm T)).toInt - hp := by
    rw [← hW, hpe, ti_sub (by rw [hti]; omega) (by rw [hti]; omega), hti]
  obtain ⟨S, hSS⟩ : ∃ S : Nat → Bool, ∀ l, S l = true ↔ W ≤ pt l := ⟨fun l => decide (W ≤ pt l), fun l => by simp⟩
  obtain ⟨V, hV⟩ : ∃ V, V = neR S 10000 0 := ⟨_, rfl⟩
  have fin : ∀ w2, fcO w w2 → wp_12_needs (nI a) wm wl (fun y wm2 wl2 => V = y ∧ REL w2 wm2 wl2) := by
    intro w2 fo
    refine r_isMan hR (fun _ => u1 (r_copies hR (fun wm1 g1 e1 p1 b1 => r_hasLeft p1.1 (by rw [e1]; exact hG) ha (fun _ => u1 ?_) (fun z => absurd lf (by rw [e1] at z; exact z))))) (fun q => absurd x1 q)
    rw [e1]
    refine r_jumpP hR g1 e1 (z0 hR) p1.1 ha (fun wm2 k w11 e11 w12 e12 => ?_)
    obtain ⟨⟨k1, k2, k3, k4⟩, ⟨v1, v2, v3, v4, v5, v6, v7, v8⟩, l1, l2, l3⟩ := k
    have f12 : RF wm2 w12 := by subst e12; subst e11; exact rf_st (rf_st (rf_re wm2) (by decide)) (by decide)
    have r12 : ∀ j, j ≠ 55 → j ≠ 56 → w12 150 j = wm2 150 j := by subst e12; subst e11; exact fun j h1 h2 => (st_nj h2).trans (st_nj h1)
    have v55 : w12 150 55 = 0 := by subst e12; subst e11; rw [st_nj (by decide), st_eq]
    have v56 : w12 150 56 = 0 := by subst e12; exact st_eq
    have t12 := rt_rf k4 f12
    have e12' : w12 181 = wm 180 := (ef f12).trans k2
    refine r_pts (by omega) ?_
    rw [e12']
    have g12 := fo_rf k1 f12
    have er : ∀ w4, RF w12 w4 → REL w2 w4 wl := fun w4 f4 => rel_e h fo (fo_rf g12 f4) ((ef f4).trans e12')
    -- how many he must have
    refine pk_loop (fun n i (z : Int32) => wp_12_needs_b69 (fun y wm2 wl2 => V = y ∧ REL w2 wm2 wl2) n (nI a) z (f2 (wm 180) a) (nI i) w12 wl) (fun i z => z = moR (wm 180) a i) (tm T) 0 (-1) (by omega) rfl (fun n z hz => ?_) (fun n i z hi hz L => ?_)
    · subst hz
      refine ⟨by rw [t12.2.1]; exact pk_in s 2 hs, ?_⟩
      rw [t12.2.1, ix_nI (by omega), t12.2.2.1.2.2.1.1]
      refine pk_le (tm T) (tm T) (fun _ => ?_) (fun q => absurd q (by omega))
      refine pk_loop (fun n l (z : Mem) => wp_12_needs_b130 (fun y wm2 wl2 => V = y ∧ REL w2 wm2 wl2) n (moR (wm 180) a (tm T)) (f2 (wm 180) a) (nI l) z wl) (fun l z => RF w12 z ∧ (∀ j, 51 ≤ j → j < 59 → z 150 j = w12 150 j) ∧ V = neR S (10000 - l) l) 10000 0 w12 (by omega) ⟨rf_re _, fun _ _ _ => rfl, hV⟩ (fun n z hz => ?_) (fun n l z hl hz L => ?_)
      · obtain ⟨f, fv, ev⟩ := hz
        rw [Nat.sub_self] at ev
        exact pk_le 10000 10000 (fun _ => ⟨ev, er z f⟩) (fun q => absurd q (by omega))
      · obtain ⟨f, fv, ev⟩ := hz
        rw [show 10000 - l = (10000 - (l + 1)) + 1 by omega] at ev
        simp only [neR] at ev
        refine pk_le 10000 l (fun q => absurd q (by omega)) (fun _ w1 ew1 => ?_)
        have fz : RF w12 w1 := by subst ew1; exact rf_st f (by decide)
        have v1' : ∀ j, 51 ≤ j → j < 59 → w1 150 j = w12 150 j := by subst ew1; exact fun j h1 h2 => (st_nj (by omega)).trans (fv j h1 h2)
        have v59 : w1 150 59 = nI l := by subst ew1; exact st_eq
        refine r_marks (la := 0) (tw := 0) (ln := nI l) (g := wm 180 2) (m := 0) (ex := -1) (rt_rf t12 fz) ha ?_ ?_ ?_ ?_ ?_ v59 ((fz 150 61 (by decide)).trans ((f12 150 61 (by decide)).trans k3.2.2.2.2.1)) (fun w4 f4 _ k63 _ => ?_)
        · rw [v1' 51 (by omega) (by omega), r12 51 (by decide) (by decide)]; exact v1
        · rw [v1' 52 (by omega) (by omega), r12 52 (by decide) (by decide)]; exact v2
        · rw [v1' 53 (by omega) (by omega), r12 53 (by decide) (by decide)]; exact v3
        · rw [v1' 55 (by omega) (by omega)]; exact v55
        · rw [v1' 56 (by omega) (by omega)]; exact v56
        · rw [hpt] at k63
          rw [k63]
          have fm : RF w12 w4 := rf_tr fz (fun b j q => f4 b j (by simp only [scR] at q; omega) (by simp only [scR] at q; omega) (by simp only [scR] at q; omega) (by simp only [scR] at q; omega))
          obtain ⟨m1, m2, m3⟩ := pm l hl
          have hsum : (f2 (wm 180) a + pt l).toInt = hp + (pt l).toInt := by rw [hpe, ti_add (by rw [hti]; omega) (by rw [hti]; omega), hti]
          have key : (f2 (wm 180) a + pt l < moR (wm 180) a (tm T)) ↔ ¬ W ≤ pt l := by
            rw [Int32.lt_iff_toInt_lt, Int32.le_iff_toInt_le, hsum, wt]
            omega
          refine ⟨fun q x4 e4 => ?_, fun q => ?_⟩
          · rw [nI_1] at e4
            subst e4
            rw [if_neg (fun z => key.mp q ((hSS l).mp z))] at ev
            refine L w4 ⟨fm, fun j h1 h2 => ?_, ev⟩
            rw [f4 150 j (by decide) (by decide) (by decide) (by omega)]
            exact v1' j h1 h2
          · rw [if_pos ((hSS l).mpr (Classical.not_not.mp (fun z => q (key.mpr z))))] at ev
            exact ⟨ev, er w4 fm⟩
    · subst hz
      refine ⟨by rw [t12.2.1]; exact pk_in s 2 hs, ?_⟩
      rw [t12.2.1, ix_nI (by omega), t12.2.2.1.2.2.1.1]
      refine pk_le (tm T) i (fun q => absurd q (by omega)) (fun _ => ⟨fun q => r_pts (by omega) ?_, fun q x1 ex1 => ?_⟩)
      · rw [e12']
        have qa : ¬ i = a := fun z => q (by rw [z])
        have L2 := L _ (show mx (moR (wm 180) a i) (duF (wm 180) a i) = _ by simp only [moR]; rw [if_neg qa])
        have b109 : ∀ v, v = (if a ≤ i then (0 : Int32) else 1) → wp_12_needs_b109 (fun y wm2 wl2 => V = y ∧ REL w2 wm2 wl2) (wp_12_needs_b69 (fun y wm2 wl2 => V = y ∧ REL w2 wm2 wl2) n) (nI a) (moR (wm 180) a i) (f2 (wm 180) a) (nI i) (f2 (wm 180) i) v w12 wl := by
          intro v ev x1 ex1
          have ex : x1 = duF (wm 180) a i := by rw [ex1, ev]; rfl
          subst ex
          obtain ⟨k1, k2⟩ := mx_br (P := fun z => wp_12_needs_b69 (fun y wm2 wl2 => V = y ∧ REL w2 wm2 wl2) n (nI a) z (f2 (wm 180) a) (nI (i + 1)) w12 wl) L2
          refine ⟨fun q x2 e2 => ?_, fun q x2 e2 => ?_⟩
          · rw [nI_1] at e2
            subst e2
            exact k1 q
          · rw [nI_1] at e2
            subst e2
            exact k2 q
        exact pk_le a i (fun c => b109 0 (by rw [if_pos c])) (fun c => b109 1 (by rw [if_neg (by omega)]))
      · rw [nI_1] at ex1
        subst ex1
        exact L _ (by simp only [moR]; rw [if_pos ((nI_eq (by omega) (by omega)).mp (Classical.not_not.mp q))])
  refine c_toBeFirst hB hP hC.1.2.2.2.2.1.1 ha ⟨pk_in a 8 (by omega), fun x8 e8 => ?_⟩
  rw [ix_nI (by omega), show w 91 a = f2 (wm 180) a from hP.2.2.1 a (by omega), hW] at e8
  subst e8
  refine c_most hC (cf_re w) (fun w9 f9 => c_calm0 (T := T) f9 (fun w11 f11 => c_given hC f11 (fun w12 f12 => ?_)))
  refine pk_loop (fun n l (z : Mem) => wp_11_needs_b68 (fun v w2 => wp_12_needs (nI a) wm wl (fun y wm2 wl2 => v = y ∧ REL w2 wm2 wl2)) n (nI a) x8 (styT (fun _ => 200) (-1) (tj T)) (givT T 0) (nI l) z) (fun l z => (∃ ln sy po mk, CF w 0 0 ln sy po mk z) ∧ V = neR S (10000 - l) l) 10000 0 w12 (by omega) ⟨⟨_, _, _, _, f12⟩, hV⟩ (fun n z hz => ?_) (fun n l z hl hz L => ?_)
  · obtain ⟨⟨ln, sy, po, mk, f⟩, ev⟩ := hz
    rw [Nat.sub_self] at ev
    simp only [neR] at ev
    have := fin z (fc_cf (fc_re w) f.1)
    rw [ev] at this
    exact pk_lt 9999 10000 (fun _ => this) (fun q => absurd q (by omega))
  · obtain ⟨⟨ln, sy, po, mk, f⟩, ev⟩ := hz
    rw [show 10000 - l = (10000 - (l + 1)) + 1 by omega] at ev
    simp only [neR] at ev
    have e6 : ∀ z : Mem, fcS w z → z 89 6 = wm 180 2 := fun z f => (f 89 6 (by decide)).trans hP.1.2.2.1
    refine pk_lt 9999 l (fun q => absurd q (by omega)) (fun _ => ?_)
    rw [e6 z f.1]
    refine c_pts hC f ?_
    rw [hmo]
    obtain ⟨m1, m2, m3⟩ := pm l hl
    have b141 : ∀ z2, (∃ ln sy po mk, CF w 0 0 ln sy po mk z2) → ¬ S l = true → wp_11_needs_b141 (fun v w2 => wp_12_needs (nI a) wm wl (fun y wm2 wl2 => v = y ∧ REL w2 wm2 wl2)) (wp_11_needs_b68 (fun v w2 => wp_12_needs (nI a) wm wl (fun y wm2 wl2 => v = y ∧ REL w2 wm2 wl2)) n) (nI a) x8 (styT (fun _ => 200) (-1) (tj T)) (givT T 0) (nI l) z2 := by
      intro z2 f2 ns x1 ex1
      rw [nI_1] at ex1
      subst ex1
      rw [if_neg ns] at ev
      exact L z2 ⟨f2, ev⟩
    refine ⟨fun q w3 e3 => ?_, fun q => b141 z ⟨_, _, _, _, f⟩ (fun z => q ?_)⟩
    · have f3 : CF w 0 0 (nI l) sy po mk w3 := by subst e3; exact cf_len f
      rw [e6 w3 f3.1]
      refine c_judge hC f3 ha (fun w4 mk2 f4 _ => ?_)
      have e7 : w4 87 7 = pt l := f4.2.1.2.2.2.2.trans (hpt l)
      rw [e7]
      refine ⟨fun q2 => b141 w4 ⟨_, _, _, _, f4⟩ (fun z => nlt.mpr ((hSS l).mp z) q2), fun q2 => ?_⟩
      rw [if_pos ((hSS l).mpr (nlt.mp q2))] at ev
      have := fin w4 (fc_cf (fc_re w) f4.1)
      rw [ev] at this
      exact this
    · have := (hSS l).mp z
      rw [Int32.le_iff_toInt_le] at this ⊢
      omega
