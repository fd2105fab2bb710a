theorem hl_rg (lo hi x : Int32) (h : lo ≤ hi) : lo ≤ mx lo (mn hi x) ∧ mx lo (mn hi x) ≤ hi := by
  rw [Int32.le_iff_toInt_le] at h
  simp only [mx, mn, Int32.lt_iff_toInt_lt, Int32.le_iff_toInt_le]
  split <;> split <;> (try split) <;> omega
theorem styN_0 (mk : Nat → Int32) (ex : Int32) : ∀ n, (styN mk ex n).1 = 0 → styN mk ex n = (0, 0, 200, 0)
  | 0, _ => rfl
  | n + 1, h => by
    simp only [styN] at h ⊢
    split at h
    · rw [if_pos ‹_›]; exact styN_0 mk ex n h
    · simp at h
theorem sub_sw (a b c : Int32) : a - b - c = a - c - b := by
  simp only [Int32.sub_eq_add_neg]
  rw [Int32.add_assoc, Int32.add_comm (-b), ← Int32.add_assoc]
theorem c_style {b1 nb1 fr n : Nat} {ex : Int32} {mk : Nat → Int32} {w : Mem} {Q : Int32 → Mem → Prop} (hn : n ≤ 7) (hb : fr + 7 ≤ nb1) (hb2 : nb1 < 2 ^ 20) (hm : ∀ j, j < n → w b1 (fr + j) = mk j) (hr : ∀ j, j < n → 0 ≤ mk j ∧ mk j ≤ 200) (K : Q (styT mk ex n) w) : wp_11_styleOf b1 nb1 (nI fr) (nI n) ex w Q := by
  refine pk_loop (fun m i (z : Int32 × Int32 × Int32 × Int32) => wp_11_styleOf_b15 b1 nb1 Q m (nI fr) (nI n) ex z.1 z.2.1 z.2.2.1 z.2.2.2 (nI i) w)
    (fun i z => z.1 = (styN mk ex i).2.1 ∧ z.2.1 = nI (styN mk ex i).1 ∧ (0 < (styN mk ex i).1 → z.2.2.1 = (styN mk ex i).2.2.2 ∧ z.2.2.2 = (styN mk ex i).2.2.1)) n 0 (0, 0, 0, 0) (by omega) ⟨rfl, rfl, fun q => (Nat.lt_irrefl 0 q).elim⟩ (fun m z hz => ?_) (fun m i z hi hz L => ?_)
  · obtain ⟨a, b, c, d⟩ := z
    obtain ⟨rfl, rfl, e⟩ := hz
    refine pk_le n n (fun _ => ?_) (fun q => absurd q (by omega))
    have c2 := styN_le mk ex n
    unfold styT at K
    refine pk_lt (styN mk ex n).1 3 (fun q => ?_) (fun q => ?_)
    · rw [if_pos (by omega)] at K
      exact K
    · rw [if_neg (by omega), sub_sw] at K
      obtain ⟨e1, e2⟩ := e (by omega)
      simp only [] at e1 e2
      rw [e1, e2]
      exact K
  · obtain ⟨a, b, c, d⟩ := z
    obtain ⟨rfl, rfl, e⟩ := hz
    refine pk_le n i (fun q => absurd q (by omega)) (fun _ => ?_)
    rw [nI_add]
    refine pk_le nb1 (fr + i) (fun q => absurd q (by omega)) (fun _ => ?_)
    have c2 := styN_le mk ex i
    refine ⟨fun q => ⟨vp_in_nI (by omega) (by omega), fun x2 e2 => ?_⟩, fun q => ?_⟩
    · rw [ix_nI (by omega), hm i hi] at e2
      subst e2
      have es : styN mk ex (i + 1) = ((styN mk ex i).1 + 1, (styN mk ex i).2.1 + mk i, mn (styN mk ex i).2.2.1 (mk i), mx (styN mk ex i).2.2.2 (mk i)) := by
        simp only [styN]; rw [if_neg q]
      have go : ∀ hi lo, hi = mx (styN mk ex i).2.2.2 (mk i) → lo = mn (styN mk ex i).2.2.1 (mk i) → wp_11_styleOf_b83 b1 nb1 Q (wp_11_styleOf_b15 b1 nb1 Q m) (nI fr) (nI n) ex (styN mk ex i).2.1 (nI (styN mk ex i).1) hi (nI i) (mk i) lo w := by
        intro hi lo eh el x1 e1 x2 e2 x3 e3
        rw [nI_1] at e2 e3
        subst e1
        subst e2
        subst e3
        refine L (_, _, hi, lo) ⟨?_, ?_, fun _ => ?_⟩
        · rw [es]
        · rw [es]; rfl
        · rw [es]; exact ⟨eh, el⟩
      rcases Nat.eq_zero_or_pos (styN mk ex i).1 with z0 | zp
      · have e0 : nI (styN mk ex i).1 = 0 := by rw [z0]; rfl
        have s0 := styN_0 mk ex i z0
        refine ⟨fun q => absurd e0 q, fun _ => ⟨fun q => absurd e0 q, fun _ => go _ _ ?_ ?_⟩⟩
        · rw [s0]; exact (mx_le (hr i hi).1).symm
        · rw [s0]; exact (mn_le (hr i hi).2).symm
      · have e0 : ¬ nI (styN mk ex i).1 = 0 := nI_ne0 zp (by omega)
        obtain ⟨e1, e2⟩ := e zp
        simp only [] at e1 e2
        refine ⟨fun _ => ⟨fun _ => go _ _ ?_ ?_, fun q => absurd e0 q⟩, fun q => absurd e0 q⟩
        · rw [e1]
        · rw [e2]
    · intro x1 e1
      rw [nI_1] at e1
      subst e1
      have es : styN mk ex (i + 1) = styN mk ex i := by simp only [styN]; rw [if_pos (Classical.not_not.mp q)]
      exact L (_, _, c, d) ⟨by rw [es], by rw [es], by rw [es]; exact e⟩
theorem c_given {T : TX} {sd m : Int32} {w0 w : Mem} {tw mw ln sy po : Int32} {mk : Nat → Int32} {Q : Int32 → Mem → Prop} (hT : CT T sd w0) (h : CF w0 tw mw ln sy po mk w) (K : ∀ w2, CF w0 tw mw ln sy po mk w2 → Q (givT T m) w2) : wp_0_givenFor m w Q := by
  refine s_set (k := 61) (n := 2) (by omega) ?_
  refine c_ask 2 rfl (by omega) hT.1 (cf_st h (by decide) (by decide) (by decide)) (V := giV m) ?_ (fun w8 f8 _ => s_held (K w8 f8))
  intro j hj
  rw [st_at]
  exact up_c (fun h2 => ct_z hT h 2 j (by omega) hj (by simp only [scC]; omega))
theorem ct_k {T : TX} {sd : Int32} {w0 w : Mem} {tw mw ln sy po : Int32} {mk : Nat → Int32} (hT : CT T sd w0) (h : CF w0 tw mw ln sy po mk w) (k : Nat) (h1 : k < 3) : w 48 (7 + k) = nI (tn T k) :=
  (h.1 48 _ (by simp only [scC]; omega)).trans (hT.1.2.1 k h1)
theorem c_pts {T : TX} {sd l y gi g : Int32} {w0 w : Mem} {tw mw ln sy po : Int32} {mk : Nat → Int32} {Q : Int32 → Mem → Prop} (hT : CT T sd w0) (h : CF w0 tw mw ln sy po mk w) (K : Q (ptsT T l y gi g) w) : wp_0_pointsFor l y gi g w Q := by
  intro x1 e1
  rw [show w 48 9 = nI (tn T 2) from ct_k hT h 2 (by omega), show w 48 7 = nI (tn T 0) from ct_k hT h 0 (by omega)] at e1
  rw [show w 48 15 = nI (tn T 13) from ct_n hT h 13 (by omega) (by omega), show w 48 14 = nI (tn T 12) from ct_n hT h 12 (by omega) (by omega)]
  subst e1
  exact K
theorem cf_j {T : TX} {sd : Int32} {w0 w : Mem} {tw mw ln sy po : Int32} {mk : Nat → Int32} (hT : CT T sd w0) (h : CF w0 tw mw ln sy po mk w) : w 80 6 = nI (tm T) ∧ w 80 7 = nI (tj T) :=
  ⟨(h.1 80 6 (by decide)).trans hT.1.2.2.2.2.1.1, (h.1 80 7 (by decide)).trans hT.1.2.2.2.2.1.2⟩
theorem c_judge {T : TX} {sd la g : Int32} {a : Nat} {w0 w : Mem} {tw mw ln sy po : Int32} {mk : Nat → Int32} {Q : Mem → Prop} (hT : CT T sd w0) (h : CF w0 tw mw ln sy po mk w) (ha : a < tm T)
    (K : ∀ w2 mk2, CF w0 tw mw ln (styT (markT T a tw la ln) (-1) (tj T)) (ptsT T ln (styT (markT T a tw la ln) (-1) (tj T)) (givT T mw) g) mk2 w2 → (∀ j, j < tj T → mk2 j = markT T a tw la ln j) → Q w2) : wp_0_judge (nI a) la g w Q := by
  have h8 : tm T ≤ 8 := hT.2.1.2.2.1.2.2.2.1
  have h7 : tj T ≤ 7 := hT.2.1.2.2.1.2.2.2.2
  have av : vp_in (nI a) 8 := pk_in a 8 (by omega)
  refine s_set (k := 67) (n := 8) (by omega) (s_set (k := 67) (n := 5) (by omega) (s_set (k := 67) (n := 2) (by omega) ?_))
  rw [st_nk (a := 87) (by decide), st_nk (a := 87) (by decide), h.2.1.2.2.1, h.2.1.1]
  have h3 : CF w0 tw mw ln sy po mk (st (st (st w (67 + 4) 8 ln) (67 + 4) 5 la) (67 + 4) 2 tw) := cf_st (cf_st (cf_st h (by decide) (by decide) (by decide)) (by decide) (by decide) (by decide)) (by decide) (by decide) (by decide)
  have hV : ∀ j, j < 11 → j ≠ 9 → j ≠ 10 → (st (st (st w (67 + 4) 8 ln) (67 + 4) 5 la) (67 + 4) 2 tw) 71 j = sbV tw la ln j := by
    intro j hj h9 h10
    have e := ct_z hT h 3 j (by omega) hj
    unfold sbV
    simp only [st, upd]
    by_cases c2 : j = 2
    · subst c2; simp
    · by_cases c5 : j = 5
      · subst c5; simp
      · by_cases c8 : j = 8
        · subst c8; simp
        · simp only [c2, c5, c8, and_false, if_false]
          exact e (by simp only [scC]; omega)
  generalize (st (st (st w (67 + 4) 8 ln) (67 + 4) 5 la) (67 + 4) 2 tw) = w3 at h3 hV
  refine pk_loop (fun n i (z : Mem) => wp_0_judge_b40 Q n (nI a) g (nI i) z)
    (fun i z => ∃ mk2, CF w0 tw mw ln sy po mk2 z ∧ (∀ j, j < i → mk2 j = markT T a tw la ln j) ∧ ∀ j, j < 11 → j ≠ 9 → j ≠ 10 → z 71 j = sbV tw la ln j) (tj T) 0 w3 (by omega) ⟨mk, h3, fun j hj => absurd hj (by omega), hV⟩ (fun n z hz => ?_) (fun n i z hi hz L => ?_)
  · obtain ⟨mk2, f, em, _⟩ := hz
    unfold wp_0_judge_b40
    rw [(cf_j hT f).2]
    refine pk_le (tj T) (tj T) (fun _ => ?_) (fun q => absurd q (by omega))
    refine c_style (fr := 0) (mk := markT T a tw la ln) h7 (by omega) (by omega) (fun j hj => ?_) (fun j hj => hl_rg 0 200 _ (by decide)) (fun w4 e4 => ?_)
    · rw [Nat.zero_add, f.2.2 j (by omega)]
      exact em j hj
    · have f4 : CF w0 tw mw ln (styT (markT T a tw la ln) (-1) (tj T)) po mk2 w4 := by
        subst e4
        refine ⟨fun b j q => ?_, ⟨?_, ?_, ?_, st_eq, ?_⟩, fun j hj => ?_⟩
        · have n3 : ¬ (b = 87 ∧ j = 6) := fun z => q (by rw [z.1, z.2]; decide)
          simp only [st]
          rw [if_neg n3]
          exact f.1 b j q
        · rw [st_nj (by decide)]; exact f.2.1.1
        · rw [st_nj (by decide)]; exact f.2.1.2.1
        · rw [st_nj (by decide)]; exact f.2.1.2.2.1
        · rw [st_nj (by decide)]; exact f.2.1.2.2.2.2
        · rw [st_nk (by decide)]; exact f.2.2 j hj
      rw [f4.2.1.2.1, f4.2.1.2.2.1, f4.2.1.2.2.2.1]
      refine c_given hT f4 (fun w5 f5 => c_pts hT f5 (fun w8 e8 => ?_))
      refine K w8 mk2 ?_ em
      subst e8
      refine ⟨fun b j q => ?_, ⟨?_, ?_, ?_, ?_, st_eq⟩, fun j hj => ?_⟩
      · have n3 : ¬ (b = 87 ∧ j = 7) := fun z => q (by rw [z.1, z.2]; decide)
        simp only [st]
        rw [if_neg n3]
        exact f5.1 b j q
      · rw [st_nj (by decide)]; exact f5.2.1.1
      · rw [st_nj (by decide)]; exact f5.2.1.2.1
      · rw [st_nj (by decide)]; exact f5.2.1.2.2.1
      · rw [st_nj (by decide)]; exact f5.2.1.2.2.2.1
      · rw [st_nk (by decide)]; exact f5.2.2 j hj
  · obtain ⟨mk2, f, em, hv⟩ := hz
    unfold wp_0_judge_b40
    rw [(cf_j hT f).2]
    have iv : vp_in (nI i) 7 := pk_in i 7 (by omega)
    refine pk_le (tj T) i (fun q => absurd q (by omega)) (fun _ => ⟨iv, s_set (k := 67) (n := 9) (by omega) ⟨iv, av, ?_⟩⟩)
    have tjh := hT.1.2.2.2.2.2.2 i hi
    rw [ix_nI (n := i) (by omega), ix_nI (n := a) (by omega), st_nk (a := 86) (by decide), st_nk (a := 84) (by decide), f.1 85 i (by simp only [scC]; omega), f.1 86 i (by simp only [scC]; omega), f.1 84 a (by simp only [scC]; omega),
      show w0 85 i = te T i from tjh.1, show w0 86 i = nI (ta T 4 i) from tjh.2, show w0 84 a = nI (ta T 3 a) from hT.1.2.2.2.2.2.1 3 a (by omega) ha]
    have b112 : ∀ v, v = hmT T a i → wp_0_judge_b112 Q (wp_0_judge_b40 Q n) (nI a) g (nI i) 10 v (st z (67 + 4) 9 (te T i)) := by
      intro v ev
      refine s_set (k := 67) (n := 10) (by omega) ?_
      refine c_ask 3 rfl (by omega) hT.1 (cf_st (cf_st f (by decide) (by decide) (by decide)) (by decide) (by decide) (by decide)) (V := syV tw la ln (te T i) (hmT T a i)) ?_ (fun w8 f8 e8 => s_held ⟨iv, fun w7 e7 x8 ex => ?_⟩)
      · intro j hj
        rw [st_at, st_at, ev]
        exact up_c (fun h10 => up_c (fun h9 => hv j hj h9 h10))
      · rw [ix_nI (by omega)] at e7
        rw [nI_1] at ex
        subst ex
        subst e7
        refine L _ ⟨upd mk2 i (markT T a tw la ln i), ⟨fun b j q => ?_, ?_, fun j hj => ?_⟩, fun j hj => ?_, fun j hj h9 h10 => ?_⟩
        · have n3 : ¬ (b = 88 ∧ j = i) := fun z => q (by rw [z.1]; simp only [scC]; omega)
          simp only [st]
          rw [if_neg n3]
          exact f8.1 b j q
        · rw [st_ne 87 (by decide)]; exact f8.2.1
        · rw [st_at]
          by_cases c : j = i
          · subst c; rw [pk_us, pk_us]; rfl
          · rw [pk_un c, pk_un c]; exact f8.2.2 j hj
        · by_cases c : j = i
          · subst c; rw [pk_us]
          · rw [pk_un c]; exact em j (by omega)
        · rw [st_nk (by decide), show (71 : Nat) = 67 + 4 from rfl, congrFun e8 j, st_nj h10, st_nj h9]
          exact hv j hj h9 h10
    have b4 := hT.2.1.2.2.2.1 a ha
    have b5 := hT.2.1.2.2.2.2 i hi
    refine ⟨fun q => b112 _ ?_, fun q => b112 _ ?_⟩
    · unfold hmT
      rw [if_neg (fun e => q (by rw [e]))]
    · unfold hmT
      rw [if_pos ((nI_eq (by omega) (by omega)).mp (Classical.not_not.mp q))]
