/-- the class holds the text T at the cell 48; its lots are of the seed sd -/
def CT (T : TX) (sd : Int32) (w : Mem) : Prop := TC 48 T w ∧ BT T ∧ ZV w ∧ w 87 2 = sd
theorem ct_n {T : TX} {sd : Int32} {w0 w : Mem} {tw mw ln sy po : Int32} {mk : Nat → Int32} (hT : CT T sd w0) (h : CF w0 tw mw ln sy po mk w) (k : Nat) (h1 : 8 ≤ k) (h2 : k < 16) : w 48 (2 + k) = nI (tn T k) :=
  (h.1 48 _ (by simp only [scC]; omega)).trans (hT.1.2.2.2.1 k h1 h2)
theorem ct_z {T : TX} {sd : Int32} {w0 w : Mem} {tw mw ln sy po : Int32} {mk : Nat → Int32} (hT : CT T sd w0) (h : CF w0 tw mw ln sy po mk w) (a j : Nat) (ha : a < 5) (hj : j < 11) (hs : ¬ scC (53 + 6 * a) j) : w (53 + 6 * a) j = 0 :=
  (h.1 _ j hs).trans (hT.2.2.1 a j ha hj hs)
theorem c_wind {T : TX} {sd a1 a2 : Int32} {w0 w : Mem} {tw mw ln sy po : Int32} {mk : Nat → Int32} {Q : Int32 → Mem → Prop} (hT : CT T sd w0) (h : CF w0 tw mw ln sy po mk w) (K : ∀ w2, CF w0 tw mw ln sy po mk w2 → Q (windT T sd a1 a2) w2) : wp_0_windAt a1 a2 w Q := by
  refine s_set (k := 49) (n := 0) (by omega) (s_set (k := 49) (n := 1) (by omega) ?_)
  have h3 : CF w0 tw mw ln sy po mk (st (st w (49 + 4) 0 a2) (49 + 4) 1 a1) := cf_st (cf_st h (by decide) (by decide) (by decide)) (by decide) (by decide) (by decide)
  have hV : ∀ j, j < 11 → (st (st w (49 + 4) 0 a2) (49 + 4) 1 a1) (49 + 4) j = wiV a1 a2 j := by
    intro j hj
    rw [st_at, st_at]
    exact up_c (fun h1 => up_c (fun h0 => ct_z hT h 0 j (by omega) hj (by simp only [scC]; omega)))
  generalize (st (st w (49 + 4) 0 a2) (49 + 4) 1 a1) = w3 at h3 hV
  have e48 : w3 48 11 = nI (tn T 9) := ct_n hT h3 9 (by omega) (by omega)
  have e87 : w3 87 2 = sd := (h3.1 87 2 (by decide)).trans hT.2.2.2
  have g9 : tn T 9 ≤ 30 := hT.2.1.2.1.2.1
  have fin : ∀ r4 : Int32, r4 = lotN sd (8 * a2 + a1) (2 * nI (tn T 9) + 1) → ∀ x5 : Int32, x5 = r4 - w3 48 11 → wp_2_tells 49 w3 (fun r7 w6 => wp_11_held r7 (-99) 99 w6 (fun r9 w8 => Q (r9 + x5) w8)) := by
    intro r4 e4 x5 e5
    refine c_ask 0 rfl (by omega) hT.1 h3 hV (fun w8 f8 _ => s_held ?_)
    have := K w8 f8
    rw [e5, e4, e48]
    rw [show windT T sd a1 a2 = mx (-99) (mn 99 (tl T 0 (wiV a1 a2))) + (lotN sd (8 * a2 + a1) (2 * nI (tn T 9) + 1) - nI (tn T 9)) from by unfold windT; simp only [Int32.sub_eq_add_neg, Int32.add_assoc]] at this
    exact this
  refine s_lot (fun _ => ?_) (fun q => ?_)
  · rw [e48, e87]
    rw [e48] at fin
    exact fin _ rfl
  · refine fin 0 ?_
    rw [e48, show (2 : Int32) = nI 2 from rfl, pk_mul, show nI (2 * tn T 9) + (1 : Int32) = nI (2 * tn T 9 + 1) from nI_add _ 1] at q
    have g0 : tn T 9 = 0 := by
      rcases Nat.eq_zero_or_pos (tn T 9) with e | e
      · exact e
      · exact absurd ((nI_ltI (a := 1) (by omega) (by omega)).mpr (by omega)) q
    rw [g0]
    exact (lotN_one _ _).symm
theorem c_blow {T : TX} {sd t : Int32} {w0 w : Mem} {tw mw ln sy po : Int32} {mk : Nat → Int32} {Q : Mem → Prop} (hT : CT T sd w0) (h : CF w0 tw mw ln sy po mk w) (K : ∀ w2, CF w0 (trueT T sd t) (meanT T sd t) ln sy po mk w2 → Q w2) : wp_0_blow t w Q := by
  refine pk_loop (fun n i (z : Int32 × Int32 × Int32 × Mem) => wp_0_blow_b10 Q n t z.1 z.2.1 z.2.2.1 (nI i) z.2.2.2)
    (fun i z => z.1 = sumN (fun i => windT T sd (nI i) (t + nI i)) i ∧ z.2.1 = sumN (fun i => nI (tn T (3 + i)) * windT T sd (nI i) (t + nI i)) i ∧ z.2.2.1 = sumN (fun i => nI (tn T (3 + i))) i ∧ CF w0 tw mw ln sy po mk z.2.2.2) 5 0 (0, 0, 0, w) (by omega) ⟨rfl, rfl, rfl, h⟩ (fun n z hz => ?_) (fun n i z hi hz L => ?_)
  · obtain ⟨a, b, c, w1⟩ := z
    obtain ⟨rfl, rfl, rfl, f⟩ := hz
    refine pk_le 5 5 (fun _ w2 e2 => ?_) (fun q => absurd q (by omega))
    have fin : ∀ v, v = trueT T sd t → wp_0_blow_b91 Q v w2 := by
      intro v ev w3 e3
      refine K w3 ⟨fun a j q => ?_, ⟨?_, ?_, ?_, ?_, ?_⟩, fun j hj => ?_⟩
      · subst e3
        subst e2
        have n3 : ¬ (a = 87 ∧ j = 3) := fun z => q (by rw [z.1, z.2]; decide)
        have n4 : ¬ (a = 87 ∧ j = 4) := fun z => q (by rw [z.1, z.2]; decide)
        simp only [st]
        rw [if_neg n3, if_neg n4]
        exact f.1 a j q
      · subst e3; rw [st_eq]; exact ev
      · subst e3; subst e2; rw [st_nj (by decide), st_eq]; rfl
      · subst e3; subst e2; rw [st_nj (by decide), st_nj (by decide)]; exact f.2.1.2.2.1
      · subst e3; subst e2; rw [st_nj (by decide), st_nj (by decide)]; exact f.2.1.2.2.2.1
      · subst e3; subst e2; rw [st_nj (by decide), st_nj (by decide)]; exact f.2.1.2.2.2.2
      · subst e3; subst e2; rw [st_nk (by decide), st_nk (by decide)]; exact f.2.2 j hj
    refine ⟨fun q => ⟨q, fin _ ?_⟩, fun q => fin _ ?_⟩
    · unfold trueT partsT
      rw [if_neg q]
    · unfold trueT partsT
      rw [if_pos (Classical.not_not.mp q)]
  · obtain ⟨a, b, c, w1⟩ := z
    obtain ⟨rfl, rfl, rfl, f⟩ := hz
    refine pk_le 5 i (fun q => absurd q (by omega)) (fun _ => ?_)
    refine c_wind hT f (fun w3 f3 x5 e5 => ⟨pk_in i 5 hi, fun x7 e7 => ⟨pk_in i 5 hi, fun x9 e9 x10 e10 => ?_⟩⟩)
    have ep : w3 79 (ix (nI i)) = nI (tn T (3 + i)) := by
      rw [ix_nI (by omega), f3.1 79 i (by simp only [scC]; omega)]
      exact hT.1.2.2.1 i hi
    rw [ep] at e7 e9
    rw [nI_1] at e10
    subst e5
    subst e7
    subst e9
    subst e10
    exact L (_, _, _, w3) ⟨rfl, rfl, rfl, f3⟩
theorem c_slip {T : TX} {sd t : Int32} {a : Nat} {w0 w : Mem} {tw mw ln sy po : Int32} {mk : Nat → Int32} {Q : Int32 → Mem → Prop} (hT : CT T sd w0) (h : CF w0 tw mw ln sy po mk w) (ha : a < tm T) (K : Q (slipT T sd a t) w) : wp_0_slipOf (nI a) t w Q := by
  have h8 : tm T ≤ 8 := hT.2.1.2.2.1.2.2.2.1
  have hb := (hT.2.1.2.2.2.1 a ha).2.2.2.2.1
  refine ⟨pk_in a 8 (by omega), fun x2 e2 => ?_⟩
  have ep : w 83 (ix (nI a)) = nI (ta T 2 a) := by
    rw [ix_nI (by omega), h.1 83 a (by simp only [scC]; omega)]
    exact hT.1.2.2.2.2.2.1 2 a (by omega) ha
  rw [ep] at e2
  subst e2
  unfold slipT at K
  refine s_lot (fun _ => ?_) (fun q => ?_)
  · rw [h.1 87 2 (by decide), hT.2.2.2]
    exact K
  · rw [show (2 : Int32) = nI 2 from rfl, pk_mul, show nI (2 * ta T 2 a) + (1 : Int32) = nI (2 * ta T 2 a + 1) from nI_add _ 1] at q
    have g0 : ta T 2 a = 0 := by
      rcases Nat.eq_zero_or_pos (ta T 2 a) with e | e
      · exact e
      · exact absurd ((nI_ltI (a := 1) (by omega) (by omega)).mpr (by omega)) q
    rw [g0] at K ⊢
    rw [show (2 : Int32) * nI 0 + 1 = 1 from rfl, lotN_one] at K
    exact K
theorem c_goes {T : TX} {sd n : Int32} {a : Nat} {w0 w : Mem} {tw mw ln sy po : Int32} {mk : Nat → Int32} {Q : Int32 → Mem → Prop} (hT : CT T sd w0) (h : CF w0 tw mw ln sy po mk w) (ha : a < tm T) (K : ∀ w2, CF w0 tw mw ln sy po mk w2 → (¬ goesT T n mw a → Q 0 w2) ∧ (goesT T n mw a → Q 1 w2)) : wp_0_goes (nI a) n w Q := by
  have h8 : tm T ≤ 8 := hT.2.1.2.2.1.2.2.2.1
  have av : vp_in (nI a) 8 := pk_in a 8 (by omega)
  refine s_set (k := 73) (n := 0) (by omega) (s_set (k := 73) (n := 2) (by omega) ⟨av, s_set (k := 73) (n := 3) (by omega) ⟨av, s_set (k := 73) (n := 4) (by omega) ?_⟩⟩)
  rw [st_nk (a := 87) (by decide), h.2.1.2.1, st_nk (a := 81) (by decide), st_nk (a := 81) (by decide), st_nk (a := 82) (by decide), st_nk (a := 82) (by decide), st_nk (a := 82) (by decide), ix_nI (by omega),
    h.1 81 a (by simp only [scC]; omega), h.1 82 a (by simp only [scC]; omega), show w0 81 a = nI (ta T 0 a) from hT.1.2.2.2.2.2.1 0 a (by omega) ha, show w0 82 a = nI (ta T 1 a) from hT.1.2.2.2.2.2.1 1 a (by omega) ha]
  refine c_ask 4 rfl (by omega) hT.1 (cf_st (cf_st (cf_st (cf_st h (by decide) (by decide) (by decide)) (by decide) (by decide) (by decide)) (by decide) (by decide) (by decide)) (by decide) (by decide) (by decide)) (V := goV n mw (nI (ta T 0 a)) (nI (ta T 1 a))) ?_ (fun w8 f8 _ => ?_)
  · intro j hj
    rw [st_at, st_at, st_at, st_at]
    exact up_c (fun h4 => up_c (fun h3 => up_c (fun h2 => up_c (fun h0 => ct_z hT h 4 j (by omega) hj (by simp only [scC]; omega)))))
  · obtain ⟨k1, k2⟩ := K w8 f8
    unfold goesT at k1 k2
    refine ⟨fun q => k1 (fun z => ?_), fun q => k2 ?_⟩
    · rw [Int32.le_iff_toInt_le] at q
      rw [Int32.lt_iff_toInt_lt] at z
      omega
    · rw [Int32.le_iff_toInt_le] at q
      rw [Int32.lt_iff_toInt_lt]
      omega
theorem c_reach {T : TX} {sd we sk la g ah : Int32} {w0 w : Mem} {tw mw ln sy po : Int32} {mk : Nat → Int32} {Q : Int32 → Mem → Prop} (hT : CT T sd w0) (h : CF w0 tw mw ln sy po mk w) (K : ∀ w2, CF w0 tw mw (lenT T tw we sk la ah g) sy po mk w2 → Q (lenT T tw we sk la ah g) w2) : wp_0_reach we sk la g ah w Q := by
  refine s_set (k := 55) (n := 2) (by omega) (s_set (k := 55) (n := 3) (by omega) (s_set (k := 55) (n := 4) (by omega) (s_set (k := 55) (n := 5) (by omega) (s_set (k := 55) (n := 6) (by omega) (s_set (k := 55) (n := 7) (by omega) ?_)))))
  have n48 : ∀ (z : Mem) (i : Nat) (v : Int32) (j : Nat), st z (55 + 4) i v 48 j = z 48 j := fun z i v j => st_nk (by decide)
  rw [n48, n48, n48, n48, n48, n48, n48, n48, n48, h.2.1.1, show w 48 10 = nI (tn T 8) from ct_n hT h 8 (by omega) (by omega), show w 48 14 = nI (tn T 12) from ct_n hT h 12 (by omega) (by omega)]
  refine c_ask 1 rfl (by omega) hT.1 (cf_st (cf_st (cf_st (cf_st (cf_st (cf_st h (by decide) (by decide) (by decide)) (by decide) (by decide) (by decide)) (by decide) (by decide) (by decide)) (by decide) (by decide) (by decide)) (by decide) (by decide) (by decide)) (by decide) (by decide) (by decide)) (V := faV tw we sk la (nI (tn T 8) * ah) (g - nI (tn T 12))) ?_ (fun w8 f8 _ => s_held ?_)
  · intro j hj
    rw [st_at, st_at, st_at, st_at, st_at, st_at]
    exact up_c (fun h7 => up_c (fun h6 => up_c (fun h5 => up_c (fun h4 => up_c (fun h3 => up_c (fun h2 => ct_z hT h 1 j (by omega) hj (by simp only [scC]; omega)))))))
  · intro w11 e11
    have e5 : w11 87 5 = lenT T tw we sk la ah g := by subst e11; exact st_eq
    rw [e5]
    refine K w11 ⟨fun a j q => ?_, ⟨?_, ?_, e5, ?_, ?_⟩, fun j hj => ?_⟩
    · subst e11
      have n3 : ¬ (a = 87 ∧ j = 5) := fun z => q (by rw [z.1, z.2]; decide)
      simp only [st]
      rw [if_neg n3]
      exact f8.1 a j q
    · subst e11; rw [st_nj (by decide)]; exact f8.2.1.1
    · subst e11; rw [st_nj (by decide)]; exact f8.2.1.2.1
    · subst e11; rw [st_nj (by decide)]; exact f8.2.1.2.2.2.1
    · subst e11; rw [st_nj (by decide)]; exact f8.2.1.2.2.2.2
    · subst e11; rw [st_nk (by decide)]; exact f8.2.2 j hj
theorem c_reachOf {T : TX} {sd la g ah : Int32} {a : Nat} {w0 w : Mem} {tw mw ln sy po : Int32} {mk : Nat → Int32} {Q : Int32 → Mem → Prop} (hT : CT T sd w0) (h : CF w0 tw mw ln sy po mk w) (ha : a < tm T) (K : ∀ w2, CF w0 tw mw (lenT T tw (nI (ta T 0 a)) (nI (ta T 1 a)) la ah g) sy po mk w2 → Q (lenT T tw (nI (ta T 0 a)) (nI (ta T 1 a)) la ah g) w2) : wp_0_reachOf (nI a) la g ah w Q := by
  have h8 : tm T ≤ 8 := hT.2.1.2.2.1.2.2.2.1
  have av : vp_in (nI a) 8 := pk_in a 8 (by omega)
  refine ⟨av, av, ?_⟩
  rw [ix_nI (by omega), h.1 81 a (by simp only [scC]; omega), h.1 82 a (by simp only [scC]; omega), show w0 81 a = nI (ta T 0 a) from hT.1.2.2.2.2.2.1 0 a (by omega) ha, show w0 82 a = nI (ta T 1 a) from hT.1.2.2.2.2.2.1 1 a (by omega) ha]
  exact c_reach hT h K
