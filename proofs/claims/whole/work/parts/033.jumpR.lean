theorem r_style {s : Nat} {T : TX} {sd ex : Int32} {w : Mem} {wl : MemL} {Q : Mem → MemL → Prop} (h : RT s T sd w) (h61 : w 150 61 = ex) (K : Q (st w 150 62 (styT (w 182) ex (tj T))) wl) : wp_12_setsStyle w wl Q := by
  have h7 : tj T ≤ 7 := h.2.2.2.1.2.2.1.2.2.2.2
  have is : vp_in (w 150 18) 2 := by rw [h.2.1]; exact pk_in s 2 h.1
  have e5 : w 165 (ix (w 150 18)) = nI (tj T) := by rw [h.2.1, ix_nI (by have := h.1; omega)]; exact h.2.2.1.2.2.1.2
  refine pk_loop (fun n i (z : Int32 × Int32 × Int32 × Int32) => wp_12_setsStyle_b14 Q n z.1 z.2.1 z.2.2.1 z.2.2.2 (nI i) w wl)
    (fun i z => z = (nI (styN (w 182) ex i).1, (styN (w 182) ex i).2)) (tj T) 0 (0, 0, 200, 0) (by omega) rfl (fun n z hz => ?_) (fun n i z hi hz L => ?_)
  · subst hz
    refine ⟨is, ?_⟩
    rw [e5]
    refine pk_le (tj T) (tj T) (fun _ => ?_) (fun q => absurd q (by omega))
    have c := styN_le (w 182) ex (tj T)
    unfold styT at K
    refine pk_le (styN (w 182) ex (tj T)).1 2 (fun q w1 e => ?_) (fun q w1 e => ?_)
    · rw [if_pos q] at K
      subst e
      exact K
    · rw [if_neg (by omega)] at K
      subst e
      exact K
  · subst hz
    refine ⟨is, ?_⟩
    rw [e5]
    refine pk_le (tj T) i (fun q => absurd q (by omega)) (fun _ => ?_)
    rw [h61]
    have iv : vp_in (nI i) 7 := pk_in i 7 (by omega)
    refine ⟨fun q => ?_, fun q => ?_⟩
    · have L2 := L (nI ((styN (w 182) ex i).1 + 1), (styN (w 182) ex i).2.1 + w 182 i, mn (styN (w 182) ex i).2.2.1 (w 182 i), mx (styN (w 182) ex i).2.2.2 (w 182 i)) (by simp only [styN]; rw [if_neg q])
      intro x2 e2
      rw [nI_1] at e2
      subst e2
      refine ⟨iv, fun x4 e4 => ⟨iv, ?_⟩⟩
      rw [ix_nI (by omega)] at e4 ⊢
      subst e4
      have b93 : ∀ x1 a b c d, x1 = nI i + 1 → wp_12_setsStyle_b14 Q n a b c d (nI (i + 1)) w wl → wp_12_setsStyle_b14 Q n a b c d x1 w wl := by
        intro x1 a b c d e z
        rw [e, nI_1]
        exact z
      have b72 : ∀ l3, l3 = mn (styN (w 182) ex i).2.2.1 (w 182 i) → wp_12_setsStyle_b72 Q (wp_12_setsStyle_b14 Q n) (nI ((styN (w 182) ex i).1 + 1)) ((styN (w 182) ex i).2.1 + w 182 i) l3 (styN (w 182) ex i).2.2.2 (nI i) w wl := by
        intro l3 e3
        subst e3
        refine ⟨iv, ?_⟩
        rw [ix_nI (by omega)]
        obtain ⟨k1, k2⟩ := mx_br (P := fun l4 => wp_12_setsStyle_b14 Q n (nI ((styN (w 182) ex i).1 + 1)) ((styN (w 182) ex i).2.1 + w 182 i) (mn (styN (w 182) ex i).2.2.1 (w 182 i)) l4 (nI (i + 1)) w wl) L2
        exact ⟨fun q x1 e => b93 _ _ _ _ _ e (k1 q), fun q => ⟨iv, fun x3 e3 x1 e => by subst e3; exact b93 _ _ _ _ _ e (k2 q)⟩⟩
      obtain ⟨k1, k2⟩ := mn_br (P := fun l3 => wp_12_setsStyle_b72 Q (wp_12_setsStyle_b14 Q n) (nI ((styN (w 182) ex i).1 + 1)) ((styN (w 182) ex i).2.1 + w 182 i) l3 (styN (w 182) ex i).2.2.2 (nI i) w wl) (a := (styN (w 182) ex i).2.2.1) (x := w 182 i) (b72 _ rfl)
      exact ⟨k1, fun q => ⟨iv, fun x7 e7 => by subst e7; exact k2 q⟩⟩
    · have L2 := L (nI (styN (w 182) ex i).1, (styN (w 182) ex i).2) (by simp only [styN]; rw [if_pos (Classical.not_not.mp q)])
      intro x1 e1
      rw [e1, nI_1]
      exact L2
theorem r_points {s : Nat} {T : TX} {sd : Int32} {w : Mem} {wl : MemL} {Q : Mem → MemL → Prop} (h : RT s T sd w) (K : ∀ w2, frW w w2 → Q (st w2 150 63 (ptsT T (w 150 59) (w 150 62) (givT T (w 150 56)) (w 150 53))) wl) : wp_12_setsPoints w wl Q := by
  refine r_clears (fun w1 f1 z1 w3 e3 => ?_)
  have f3 : frW w w3 := by subst e3; exact fw_st (fw_fo (fw_re w) f1)
  have hV : ∀ j, j < 11 → w3 178 j = giV (w 150 56) j := by
    intro j hj
    subst e3
    rw [st_at, congrFun (f1 150 (by decide)) 56]
    exact up_c (fun _ => z1 j hj)
  have h3 := rt_fw h f3
  refine r_law 2 h3 (by omega) (by decide) hV rfl (fun w4 f4 => ?_)
  have h4 := rt_fw h3 f4
  have f := fw_tr f3 f4
  refine r_tell (a := 2) h4 (by omega) (r_tell (a := 0) h4 (by omega) (r_tell (a := 13) h4 (by omega) (r_tell (a := 12) h4 (by omega) ?_)))
  have g := K w4 f
  have r : ∀ j, j ≠ 46 → w4 150 j = w 150 j := fun j hj => f 150 j (by decide) (by decide) (by omega)
  rw [r 59 (by decide), r 62 (by decide), r 53 (by decide)]
  intro x19 e19
  subst e19
  obtain ⟨k1, k2⟩ := mx_0 (P := fun x => Q (st w4 150 63 x) wl) g
  exact ⟨fun q w1 e => by subst e; exact k1 q, fun q w1 e => by subst e; exact k2 q⟩
def frM (w w2 : Mem) : Prop := ∀ a j, a ≠ 178 → a ≠ 179 → a ≠ 182 → ¬ (a = 150 ∧ (j = 46 ∨ j = 62 ∨ j = 63)) → w2 a j = w a j
theorem fm_fw {w w2 w3 : Mem} (h : frM w w2) (f : frW w2 w3) : frM w w3 := fun a j p q r t => (f a j p q (by omega)).trans (h a j p q r t)
theorem rt_fm {s : Nat} {T : TX} {sd : Int32} {w w2 : Mem} (h : RT s T sd w) (f : frM w w2) : RT s T sd w2 :=
  rt_rf h (fun a j q => f a j (by simp only [scR] at q; omega) (by simp only [scR] at q; omega) (by simp only [scR] at q; omega) (by simp only [scR] at q; omega))
theorem r_marks {s a : Nat} {T : TX} {sd la tw ln g m ex : Int32} {w : Mem} {wl : MemL} {Q : Mem → MemL → Prop} (h : RT s T sd w) (ha : a < tm T) (h51 : w 150 51 = nI a) (h52 : w 150 52 = la) (h53 : w 150 53 = g) (h55 : w 150 55 = tw) (h56 : w 150 56 = m) (h59 : w 150 59 = ln) (h61 : w 150 61 = ex)
    (K : ∀ w2, frM w w2 → w2 150 62 = styT (markT T a tw la ln) ex (tj T) → w2 150 63 = ptsT T ln (styT (markT T a tw la ln) ex (tj T)) (givT T m) g → (∀ j, j < tj T → w2 182 j = markT T a tw la ln j) → Q w2 wl) : wp_12_marksAll w wl Q := by
  have h7 : tj T ≤ 7 := h.2.2.2.1.2.2.1.2.2.2.2
  have h8 : tm T ≤ 8 := h.2.2.2.1.2.2.1.2.2.2.1
  have hs := h.1
  refine pk_loop (fun n i (z : Mem) => wp_12_marksAll_b2 Q n (nI i) z wl)
    (fun i z => frM w z ∧ ∀ j, j < i → z 182 j = markT T a tw la ln j) (tj T) 0 w (by omega) ⟨fun _ _ _ _ _ _ => rfl, fun j hj => absurd hj (by omega)⟩ (fun n z hz => ?_) (fun n i z hi hz L => ?_)
  · obtain ⟨f, mk⟩ := hz
    have hz := rt_fm h f
    refine ⟨by rw [hz.2.1]; exact pk_in s 2 hs, ?_⟩
    rw [hz.2.1, ix_nI (by omega), hz.2.2.1.2.2.1.2]
    refine pk_le (tj T) (tj T) (fun _ => ?_) (fun q => absurd q (by omega))
    refine r_style hz ((f 150 61 (by decide) (by decide) (by decide) (by decide)).trans h61) ?_
    rw [styT_cg ex (tj T) mk]
    have f2 : frM w (st z 150 62 (styT (markT T a tw la ln) ex (tj T))) := fun b j p q r t => by
      simp only [st]
      rw [if_neg (by omega)]
      exact f b j p q r t
    refine r_points (rt_fm h f2) (fun w3 f3 => ?_)
    rw [f2 150 59 (by decide) (by decide) (by decide) (by decide), f2 150 56 (by decide) (by decide) (by decide) (by decide), f2 150 53 (by decide) (by decide) (by decide) (by decide), h59, h56, h53, st_eq]
    have f4 := fm_fw f2 f3
    refine K _ ?_ ?_ ?_ ?_
    · intro b j p q r t
      simp only [st]
      rw [if_neg (by omega)]
      exact f4 b j p q r t
    · rw [st_nj (by decide), f3 150 62 (by decide) (by decide) (by decide), st_eq]
    · exact st_eq
    · intro j hj
      rw [st_nk (by decide), f3 182 j (by decide) (by decide) (by omega), st_nk (by decide)]
      exact mk j hj
  · obtain ⟨f, mk⟩ := hz
    have hz := rt_fm h f
    refine ⟨by rw [hz.2.1]; exact pk_in s 2 hs, ?_⟩
    rw [hz.2.1, ix_nI (by omega), hz.2.2.1.2.2.1.2]
    refine pk_le (tj T) i (fun q => absurd q (by omega)) (fun _ => ?_)
    have iv : vp_in (nI i) 7 := pk_in i 7 (by omega)
    refine r_clears (fun w6 f6 z6 w8 e8 w9 e9 w10 e10 => ?_)
    rw [congrFun (f6 150 (by decide)) 55, f 150 55 (by decide) (by decide) (by decide) (by decide), h55] at e8
    have g8 : frW z w8 := by subst e8; exact fw_st (fw_fo (fw_re z) f6)
    rw [g8 150 52 (by decide) (by decide) (by decide), f 150 52 (by decide) (by decide) (by decide) (by decide), h52] at e9
    have g9 : frW z w9 := by subst e9; exact fw_st g8
    rw [g9 150 59 (by decide) (by decide) (by decide), f 150 59 (by decide) (by decide) (by decide) (by decide), h59] at e10
    have g10 : frW z w10 := by subst e10; exact fw_st g9
    have hv10 : ∀ j, j < 11 → w10 178 j = sbV tw la ln j := by
      intro j hj
      subst e10
      subst e9
      subst e8
      rw [st_at, st_at, st_at]
      exact up_c (fun _ => up_c (fun _ => up_c (fun _ => z6 j hj)))
    have t10 := rt_fw hz g10
    have q51 : w10 150 51 = nI a := (g10 150 51 (by decide) (by decide) (by decide)).trans ((f 150 51 (by decide) (by decide) (by decide) (by decide)).trans h51)
    have x7 : ∀ w9 : Mem, w9 150 18 = nI s → (7 : Int32) * w9 150 18 + nI i = nI (7 * s + i) := fun w9 e => by rw [e, show (7 : Int32) = nI 7 from rfl, pk_mul, nI_add]
    have x8 : ∀ w9 : Mem, w9 150 18 = nI s → w9 150 51 = nI a → (8 : Int32) * w9 150 18 + w9 150 51 = nI (8 * s + a) := fun w9 e e2 => by rw [e, e2, show (8 : Int32) = nI 8 from rfl, pk_mul, nI_add]
    rw [x7 w10 t10.2.1]
    refine ⟨vp_in_nI (by omega) (by decide), fun w12 e12 => ?_⟩
    rw [ix_nI (by omega), (t10.2.2.1.2.2.2.2 i hi).1] at e12
    have g12 : frW z w12 := by subst e12; exact fw_st g10
    have t12 := rt_fw hz g12
    have p51 : w12 150 51 = nI a := by subst e12; rw [st_nk (by decide)]; exact q51
    rw [x7 w12 t12.2.1, x8 w12 t12.2.1 p51]
    refine ⟨vp_in_nI (by omega) (by decide), vp_in_nI (by omega) (by decide), ?_⟩
    rw [ix_nI (by omega), ix_nI (by omega), (t12.2.2.1.2.2.2.2 i hi).2, t12.2.2.1.2.2.2.1 3 a (by omega) ha]
    have b116 : ∀ v, v = hmT T a i → wp_12_marksAll_b116 Q (wp_12_marksAll_b2 Q n) (nI i) 10 v w12 wl := by
      intro v ev
      refine ⟨pk_in 10 11 (by omega), fun w2 e2 => ?_⟩
      have g2 : frW z w2 := by subst e2; exact fw_st g12
      have hV : ∀ j, j < 11 → w2 178 j = syV tw la ln (te T i) (hmT T a i) j := by
        intro j hj
        subst e2
        subst e12
        subst ev
        rw [st_at, st_at]
        exact up_c (fun _ => up_c (fun _ => hv10 j hj))
      refine r_law 3 (rt_fw hz g2) (by omega) (by decide) hV rfl (fun w3 f3 => ⟨iv, fun w7 e7 x8 e8 => ?_⟩)
      rw [nI_1] at e8
      rw [ix_nI (by omega)] at e7
      subst e8
      subst e7
      have f5 := fm_fw f (fw_tr g2 f3)
      refine L _ ⟨?_, ?_⟩
      · intro b j p q r t
        rw [st_nk r]
        exact f5 b j p q r t
      · intro j hj
        rw [st_at]
        by_cases c : j = i
        · subst c; rw [pk_us]; rfl
        · rw [pk_un c, fw_tr g2 f3 182 j (by decide) (by decide) (by omega)]
          exact mk j (by omega)
    have b4 := h.2.2.2.1.2.2.2.1 a ha
    have b5 := h.2.2.2.1.2.2.2.2 i hi
    refine ⟨fun q => b116 _ ?_, fun q => b116 _ ?_⟩
    · unfold hmT
      rw [if_neg (fun e => q (by rw [e]))]
    · unfold hmT
      rw [if_pos ((nI_eq (by omega) (by omega)).mp (Classical.not_not.mp q))]
