theorem lot_ok {g : Nat} (h : g < 100) : ¬ ((2 : Int32) * nI g + 1 = 0) := by
  rw [show (2 : Int32) = nI 2 from rfl, pk_mul, show nI (2 * g) + (1 : Int32) = nI (2 * g + 1) from nI_add _ 1]
  exact fun q => absurd ((nI_eq (b := 0) (by omega) (by omega)).mp q) (by omega)
theorem r_letsGo {s a : Nat} {T : TX} {sd t : Int32} {lf : Bool} {w : Mem} {wl : MemL} {Q : Mem → MemL → Prop} (h : RT s T sd w) (h61 : w 150 61 = -1) (hP : GW T lf (w 181)) (hz : sn (w 181) < szP T (w 181)) (ha : a < tm T)
    (K : ∀ w2, frP w w2 → w2 181 = stP T sd (w 181) a t → w2 150 59 = jL T sd a t (slipT T sd a t) (w 181 2) (w 181 3) → Q w2 wl) : wp_12_letsGo (nI a) t w wl Q := by
  have h8 : tm T ≤ 8 := h.2.2.2.1.2.2.1.2.2.2.1
  have h7 : tj T ≤ 7 := h.2.2.2.1.2.2.1.2.2.2.2
  have hs := h.1
  have hsl := (h.2.2.2.1.2.2.2.1 a ha).2.2.2.2.1
  obtain ⟨g1, g3, r1, r3, s8, gs, gg⟩ := hP.1
  have hq : rd (w 181) < 3 := szP_q (T := T) (by omega)
  have ea : (8 : Int32) * w 150 18 + nI a = nI (8 * s + a) := by rw [h.2.1, show (8 : Int32) = nI 8 from rfl, pk_mul, nI_add]
  unfold wp_12_letsGo
  rw [ea]
  refine ⟨vp_in_nI (by omega) (by decide), fun x2 e2 x3 e3 => ?_⟩
  rw [ix_nI (by omega), show w 163 (8 * s + a) = nI (ta T 2 a) from h.2.2.1.2.2.2.1 2 a (by omega) ha] at e2
  rw [show w 181 (ix 1) = nI (rd (w 181)) from g1, show (1 : Int32) = nI 1 from rfl, pk_sub r1] at e3
  subst e2
  have e3' : x3 = nI (qP (w 181)) := e3
  subst e3'
  clear e3
  refine s_lotR (lot_ok (by omega)) ?_
  rw [h.2.2.2.2]
  refine r_jump h ha h61 (fun w7 f7 hv hj => ?_)
  have hx : ∀ C : Nat, (nI C + (8 : Int32) * nI (qP (w 181))) + nI a = nI (C + (8 * qP (w 181) + a)) := fun C => by
    rw [show (8 : Int32) = nI 8 from rfl, pk_mul, nI_add, nI_add]
    congr 1
    omega
  have hu : 8 * qP (w 181) + a < 16 := by unfold qP; omega
  generalize hU : 8 * qP (w 181) + a = u at hx hu
  have x0 : ((4 : Int32) + (8 : Int32) * nI (qP (w 181))) + nI a = nI (4 + 16 * 0 + u) := (hx 4).trans (by rw [show 4 + 16 * 0 = 4 from rfl])
  have x1 : ((20 : Int32) + (8 : Int32) * nI (qP (w 181))) + nI a = nI (4 + 16 * 1 + u) := (hx 20).trans (by rw [show 4 + 16 * 1 = 20 from rfl])
  have x2 : ((36 : Int32) + (8 : Int32) * nI (qP (w 181))) + nI a = nI (4 + 16 * 2 + u) := (hx 36).trans (by rw [show 4 + 16 * 2 = 36 from rfl])
  have x3 : ((52 : Int32) + (8 : Int32) * nI (qP (w 181))) + nI a = nI (4 + 16 * 3 + u) := (hx 52).trans (by rw [show 4 + 16 * 3 = 52 from rfl])
  have x4 : ((68 : Int32) + (8 : Int32) * nI (qP (w 181))) + nI a = nI (4 + 16 * 4 + u) := (hx 68).trans (by rw [show 4 + 16 * 4 = 68 from rfl])
  have x5 : ((84 : Int32) + (8 : Int32) * nI (qP (w 181))) + nI a = nI (4 + 16 * 5 + u) := (hx 84).trans (by rw [show 4 + 16 * 5 = 84 from rfl])
  have x6 : ((100 : Int32) + (8 : Int32) * nI (qP (w 181))) + nI a = nI (4 + 16 * 6 + u) := (hx 100).trans (by rw [show 4 + 16 * 6 = 100 from rfl])
  have x7 : ((116 : Int32) + (8 : Int32) * nI (qP (w 181))) + nI a = nI (4 + 16 * 7 + u) := (hx 116).trans (by rw [show 4 + 16 * 7 = 116 from rfl])
  have x8 : ((132 : Int32) + (8 : Int32) * nI (qP (w 181))) + nI a = nI (4 + 16 * 8 + u) := (hx 132).trans (by rw [show 4 + 16 * 8 = 132 from rfl])
  simp only [wp_12_cell, x0, x1, x2, x3, x4, x5, x6, x7, x8]
  have e181 : w7 181 = w 181 := rf_row f7 181 (fun j => by simp only [scR]; omega)
  have hv0 : ∀ w1 : Mem, (∀ b, b ≠ 181 → w1 b = w7 b) → w1 150 59 = vP T sd (w 181) a t 1 ∧ w1 150 63 = vP T sd (w 181) a t 2 ∧ w1 150 62 = vP T sd (w 181) a t 3 ∧ w1 150 52 = vP T sd (w 181) a t 4 ∧ w1 150 53 = vP T sd (w 181) a t 6 ∧ w1 150 56 = vP T sd (w 181) a t 7 ∧ w1 150 54 = vP T sd (w 181) a t 8 := by
    intro w1 f
    rw [f 150 (by decide)]
    exact ⟨hj.1, hj.2.2.1, hj.2.1, hv.2.1, hv.2.2.1, hv.2.2.2.2.2.1, hv.2.2.2.1⟩
  have step : ∀ (k : Nat) (w1 : Mem) (x : Int32) (K : Mem → Prop), k < 9 → ((∀ b, b ≠ 181 → w1 b = w7 b) ∧ w1 181 = ceP (w 181) (vP T sd (w 181) a t) u k) → x = vP T sd (w 181) a t k →
      (∀ w2, ((∀ b, b ≠ 181 → w2 b = w7 b) ∧ w2 181 = ceP (w 181) (vP T sd (w 181) a t) u (k + 1)) → K w2) → (vp_in (nI (4 + 16 * k + u)) 260 ∧ ∀ w2, w2 = st w1 181 (ix (nI (4 + 16 * k + u))) x → K w2) := by
    intro k w1 x K hk f ex KK
    refine ⟨vp_in_nI (by omega) (by decide), fun w2 e2 => KK w2 ?_⟩
    rw [ix_nI (by omega)] at e2
    subst e2
    refine ⟨fun b hb => (st_ne b hb).trans (f.1 b hb), ?_⟩
    rw [st_at, f.2, ex]
    exact ceP_s hu
  refine step 0 w7 _ _ (by decide) ⟨fun _ _ => rfl, ?_⟩ rfl (fun w13 i13 => ?_)
  · rw [e181]
    funext i
    unfold ceP
    rw [if_neg (by omega)]
  refine step 1 w13 _ _ (by decide) i13 (hv0 _ i13.1).1 (fun w18 i18 => ?_)
  refine step 2 w18 _ _ (by decide) i18 (hv0 _ i18.1).2.1 (fun w23 i23 => ?_)
  refine step 3 w23 _ _ (by decide) i23 (hv0 _ i23.1).2.2.1 (fun w28 i28 => ?_)
  refine step 4 w28 _ _ (by decide) i28 (hv0 _ i28.1).2.2.2.1 (fun w33 i33 => ?_)
  refine step 5 w33 _ _ (by decide) i33 rfl (fun w38 i38 => ?_)
  refine step 6 w38 _ _ (by decide) i38 (hv0 _ i38.1).2.2.2.2.1 (fun w43 i43 => ?_)
  refine step 7 w43 _ _ (by decide) i43 (hv0 _ i43.1).2.2.2.2.2.1 (fun w48 i48 => ?_)
  refine step 8 w48 _ _ (by decide) i48 (hv0 _ i48.1).2.2.2.2.2.2 (fun w53 i53 => ?_)
  clear step x0 x1 x2 x3 x4 x5 x6 x7 x8
  have hmk : ∀ j, j < tj T → w7 182 j = jM T sd a t (slipT T sd a t) (w 181 2) (w 181 3) j := hj.2.2.2
  refine pk_loop (fun n i (z : Mem) => wp_12_letsGo_b218 Q n (nI a) t (nI (qP (w 181))) (nI i) z wl)
    (fun i z => (∀ b, b ≠ 181 → z b = w7 b) ∧ z 181 = mkP (ceP (w 181) (vP T sd (w 181) a t) u 9) (jM T sd a t (slipT T sd a t) (w 181 2) (w 181 3)) (148 + 7 * u) i) (tj T) 0 w53 (by omega) ⟨i53.1, ?_⟩ (fun n z hz => ?_) (fun n i z hi hz L => ?_)
  · rw [i53.2]
    funext i
    unfold mkP
    rw [if_neg (by omega)]
  · obtain ⟨f, e⟩ := hz
    have fz : frP w z := fun b j p q => by rw [f b q]; exact f7 b j p
    have hz := rt_fp h fz
    refine ⟨by rw [hz.2.1]; exact pk_in s 2 hs, ?_⟩
    rw [hz.2.1, ix_nI (by omega), hz.2.2.1.2.2.1.2]
    refine pk_le (tj T) (tj T) (fun _ => ?_) (fun q => absurd q (by omega))
    refine r_tell (a := 11) hz (by omega) (fun w5 e5 w6 e6 => ?_)
    have e' : z 181 = stM T sd (w 181) a t := by rw [e, ← hU]; rfl
    have v3 : w5 181 (ix (3 : Int32)) = nI (sn (w 181)) := by
      subst e5
      rw [st_at, show ix (3 : Int32) = 3 from ix_nI (n := 3) (by omega), show ix (0 : Int32) = 0 from ix_nI (n := 0) (by omega), pk_un (by decide), e', stM_lo (by decide)]
      exact g3
    rw [v3, nI_1] at e6
    have f6 : frP w w6 := by subst e6; subst e5; exact fp_st (fp_st fz)
    have q6 : w6 181 = st0 T sd (w 181) a t := by
      subst e6
      subst e5
      rw [st_at, st_at, e']
      rfl
    have k6 : w6 150 59 = jL T sd a t (slipT T sd a t) (w 181 2) (w 181 3) := by
      subst e6
      subst e5
      rw [st_nk (by decide), st_nk (by decide), f 150 (by decide)]
      exact hj.1
    have t6 := rt_fp h f6
    have w63 : w6 181 (ix (3 : Int32)) = nI (sn (w 181) + 1) := by rw [q6]; exact pk_us
    have b318 : ∀ m, m = szP T (w 181) → wp_12_letsGo_b318 Q (nI (sn (w 181) + 1)) (nI m) w6 wl := by
      intro m em
      subst em
      have sz8 : szP T (w 181) ≤ 8 := by
        unfold szP n2
        split
        · omega
        · split
          · split <;> omega
          · omega
      refine pk_le (szP T (w 181)) (sn (w 181) + 1) (fun q w1 e1 w2 e2 => ?_) (fun q => ?_)
      · have v1 : w6 181 (ix (1 : Int32)) = nI (rd (w 181)) := by
          rw [q6]
          unfold st0
          rw [show ix (1 : Int32) = 1 from ix_nI (n := 1) (by omega), pk_un (by decide), pk_un (by decide), stM_lo (by decide)]
          exact g1
        rw [v1, nI_1] at e1
        subst e2
        subst e1
        refine K _ (fp_st (fp_st f6)) ?_ ?_
        · rw [st_at, st_at, q6]
          unfold stP
          rw [if_neg (by omega)]
          rfl
        · rw [st_nk (by decide), st_nk (by decide)]; exact k6
      · refine K _ f6 ?_ k6
        rw [q6]
        unfold stP
        rw [if_pos q]
    rw [w63]
    refine ⟨fun q => r_inSec t6 (b318 _ ?_), fun q => ⟨by rw [t6.2.1]; exact pk_in s 2 hs, ?_⟩⟩
    · have : rd (w 181) ≠ 1 := fun z => q (by unfold qP; rw [z]; rfl)
      unfold szP
      rw [if_neg this, if_pos (by omega)]
    · rw [t6.2.1, ix_nI (by omega), t6.2.2.1.2.2.1.1]
      refine b318 _ ?_
      have e0 : nI (qP (w 181)) = nI 0 := Classical.not_not.mp q
      have : qP (w 181) = 0 := (nI_eq (by omega) (by omega)).mp e0
      unfold qP at this
      unfold szP
      rw [if_pos (by omega)]
  · obtain ⟨f, e⟩ := hz
    have fz : frP w z := fun b j p q => by rw [f b q]; exact f7 b j p
    have hz := rt_fp h fz
    refine ⟨by rw [hz.2.1]; exact pk_in s 2 hs, ?_⟩
    rw [hz.2.1, ix_nI (by omega), hz.2.2.1.2.2.1.2]
    refine pk_le (tj T) i (fun q => absurd q (by omega)) (fun _ => ⟨pk_in i 7 (by omega), ?_⟩)
    have ei : ((148 : Int32) + (7 : Int32) * ((8 : Int32) * nI (qP (w 181)) + nI a)) + nI i = nI (148 + 7 * u + i) := by
      rw [show (8 : Int32) = nI 8 from rfl, pk_mul, nI_add, hU, show (7 : Int32) = nI 7 from rfl, pk_mul, show (148 : Int32) = nI 148 from rfl, nI_add, nI_add]
    rw [ei]
    refine ⟨vp_in_nI (by omega) (by decide), fun w13 e13 x14 e14 => ?_⟩
    rw [ix_nI (by omega), ix_nI (by omega), f 182 (by decide), hmk i hi] at e13
    rw [nI_1] at e14
    subst e14
    subst e13
    refine L _ ⟨fun b hb => (st_ne b hb).trans (f b hb), ?_⟩
    rw [st_at, e]
    exact mkP_s
theorem r_isLetGo {s a n : Nat} {T : TX} {sd : Int32} {w : Mem} {wl : MemL} {Q : Int32 → Mem → MemL → Prop} (h : RT s T sd w) (ha : a < tm T) (K : ∀ w2, frW w w2 → (¬ goesT T (nI n) (meanT T sd (w 181 0 + nI n)) a → Q 0 w2 wl) ∧ (goesT T (nI n) (meanT T sd (w 181 0 + nI n)) a → Q 1 w2 wl)) : wp_12_isLetGo (nI a) (nI n) w wl Q := by
  have h8 : tm T ≤ 8 := h.2.2.2.1.2.2.1.2.2.2.1
  have hs := h.1
  refine r_mean h (fun w1 f1 => r_clears (fun w4 f4 z4 w6 e6 w7 e7 => ?_))
  have g4 : frW w w4 := fw_fo f1 f4
  have g6 : frW w w6 := by subst e6; exact fw_st g4
  have g7 : frW w w7 := by subst e7; exact fw_st g6
  have x8 : ∀ w9 : Mem, frW w w9 → (8 : Int32) * w9 150 18 + nI a = nI (8 * s + a) := fun w9 f => by rw [(rt_fw h f).2.1, show (8 : Int32) = nI 8 from rfl, pk_mul, nI_add]
  rw [x8 w7 g7]
  refine ⟨vp_in_nI (by omega) (by decide), fun w9 e9 => ?_⟩
  rw [ix_nI (by omega), show w7 161 (8 * s + a) = nI (ta T 0 a) from (rt_fw h g7).2.2.1.2.2.2.1 0 a (by omega) ha] at e9
  have g9 : frW w w9 := by subst e9; exact fw_st g7
  rw [x8 w9 g9]
  refine ⟨vp_in_nI (by omega) (by decide), fun w11 e11 => ?_⟩
  rw [ix_nI (by omega), show w9 162 (8 * s + a) = nI (ta T 1 a) from (rt_fw h g9).2.2.1.2.2.2.1 1 a (by omega) ha] at e11
  have g11 : frW w w11 := by subst e11; exact fw_st g9
  refine r_law 4 (V := goV (nI n) (meanT T sd (w 181 0 + nI n)) (nI (ta T 0 a)) (nI (ta T 1 a))) (rt_fw h g11) (by omega) (by decide) ?_ rfl (fun w12 f12 => ?_)
  · intro j hj
    subst e11
    subst e9
    subst e7
    subst e6
    rw [st_at, st_at, st_at, st_at]
    exact up_c (fun _ => up_c (fun _ => up_c (fun _ => up_c (fun _ => z4 j hj))))
  · obtain ⟨k1, k2⟩ := K w12 (fw_tr g11 f12)
    have e := ti_mx (-2147483647) (mn 2147483647 (tl T 4 (goV (nI n) (meanT T sd (w 181 0 + nI n)) (nI (ta T 0 a)) (nI (ta T 1 a)))))
    rw [ti_mn, show (Int32.toInt (-2147483647)) = -2147483647 from rfl, show (Int32.toInt 2147483647) = 2147483647 from rfl] at e
    refine ⟨fun q => k1 (fun z => ?_), fun q => k2 ?_⟩
    · rw [Int32.le_iff_toInt_le, e] at q
      simp only [goesT, Int32.lt_iff_toInt_lt] at z
      simp at q z
      omega
    · rw [Int32.le_iff_toInt_le, e] at q
      simp only [goesT, Int32.lt_iff_toInt_lt]
      simp at q ⊢
      omega
