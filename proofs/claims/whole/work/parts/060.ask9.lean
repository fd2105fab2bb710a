/-- points of the jump u (8 * round + man), the judge x not being asked -/
def pwF (T : TX) (P : Nat → Int32) (x : Int32) (u : Nat) : Int32 := if P (4 + u) = 1 then ptsT T (P (20 + u)) (styT (fun i => P (148 + 7 * u + i)) x (tj T)) (givT T (P (116 + u))) (P (100 + u)) else 0
theorem pwF_b {T : TX} {P : Nat → Int32} (hB : BT T) (hG : GW T false P) (hS : CS T P) (x : Int32) (u : Nat) (hu : u < 16) : ∃ p, pwF T P x u = nI p ∧ p ≤ 200000 := by
  unfold pwF
  split
  · rename_i z
    have hb := (hG.2.2.2.1 u hu).2.2.2
    have e : 4 + (8 * (u / 8) + u % 8) = 4 + u := by omega
    obtain ⟨_, _, k3, g, k4, k5⟩ := hS (u % 8) (u / 8) (by omega) (by omega) (by rw [e]; exact z)
    rw [show 8 * (u / 8) + u % 8 = u by omega] at k3 k4
    rw [k4]
    have sb := styT_b (mk := fun i => P (148 + 7 * u + i)) (ex := x) (n := tj T) hB.2.2.1.2.2.2.2 (fun j hj => by
      rw [k3 j hj]
      exact markT_b _ _ _ _ _ _)
    have gv := givT_b T (P (116 + u))
    exact ptsT_b hB hb.1 hb.2 sb.1 sb.2 gv.1 gv.2 k5
  · exact ⟨0, rfl, by omega⟩
theorem c_ptsW {T : TX} {sd : Int32} {P : Nat → Int32} {a q j : Nat} {w0 w : Mem} {Q : Int32 → Mem → Prop} (hT : CT T sd w0) (f : fcS w0 w) (hP : PL T false P 89 w0) (hG : GW T false P) (hS : CS T P) (ha : a < tm T) (hq : q < 2) (hj : j < tj T)
    (K : ∀ w2, fcS w0 w2 → Q (pwF T P (nI j) (8 * q + a)) w2) : wp_11_pointsWithout (nI a) (nI (q + 1)) (nI j) w Q := by
  have hB := hT.2.1
  have h8 : tm T ≤ 8 := hB.2.2.1.2.2.2.1
  have h7 : tj T ≤ 7 := hB.2.2.1.2.2.2.2
  have p5 : ∀ w6, fcS w0 w6 → PL T false P 89 w6 := fun w6 f6 => pl_fc (by omega) hP f6
  have hu : uc (8 * q + a) < 16 := by unfold uc; omega
  refine c_hasU hB (p5 w f) hG ha hq (fun z1 => u1 ?_) (fun z1 => u0 ?_)
  · have er : (((nI a * (2 : Int32)) + nI (q + 1)) - (1 : Int32)) * (16 : Int32) + 9 = nI (uc (8 * q + a) * 16 + 9) := by
      rw [show (2 : Int32) = nI 2 from rfl, pk_mul, nI_add, show (1 : Int32) = nI 1 from rfl, pk_sub (by omega), show (16 : Int32) = nI 16 from rfl, pk_mul, show (9 : Int32) = nI 9 from rfl, nI_add]
      congr 2
      unfold uc
      omega
    unfold wp_5_styleWithout wp_5_cellsOf
    dsimp only
    rw [er, (cf_j hT (cf_of f)).2]
    obtain ⟨k1, k2, k3, k4⟩ := hS a q hq (by omega) z1
    refine c_style (mk := fun i => P (148 + 7 * (8 * q + a) + i)) h7 (by omega) (by omega) (fun i hi => (p5 w f).2.2.2.2.2 _ i (by omega) hi) (fun i hi => ?_) ?_
    · rw [k3 i hi]
      exact hl_rg 0 200 _ (by decide)
    · refine c_cell (c := 6) (by omega) hq (by omega) ?_
      rw [(p5 w f).2.2.2.1 _ 6 (by omega) (by omega), show 4 + 16 * (6 + 1) + (8 * q + a) = 116 + (8 * q + a) by omega]
      refine c_given hT (cf_of f) (fun w5 f5 => ?_)
      refine c_cell (c := 0) (by omega) hq (by omega) ?_
      rw [(p5 w5 f5.1).2.2.2.1 _ 0 (by omega) (by omega), show 4 + 16 * (0 + 1) + (8 * q + a) = 20 + (8 * q + a) by omega]
      refine c_cell (c := 5) (by omega) hq (by omega) ?_
      rw [(p5 w5 f5.1).2.2.2.1 _ 5 (by omega) (by omega), show 4 + 16 * (5 + 1) + (8 * q + a) = 100 + (8 * q + a) by omega]
      refine c_pts hT f5 ?_
      have := K w5 f5.1
      unfold pwF at this
      rw [if_pos z1] at this
      exact this
  · have := K w f
    unfold pwF at this
    rw [if_neg z1] at this
    exact this
/-- the reference's row: as P, but for points -/
def rwP (w : Mem) (P : Nat → Int32) : Prop := ∀ i, ¬ (36 ≤ i ∧ i < 52) → w 181 i = P i
theorem r_ptsW {s a q j : Nat} {T : TX} {P : Nat → Int32} {w : Mem} {wl : MemL} {Q : Int32 → Mem → MemL → Prop} (h : RT s T (nI (tn T 15)) w) (h61 : w 150 61 = -1) (hr : rwP w P) (hG : GW T false P) (hS : CS T P) (ha : a < tm T) (hq : q < 2) (hj : j < tj T)
    (K : ∀ w2, RF w w2 → Q (pwF T P (nI j) (8 * q + a)) w2 wl) : wp_12_pointsWithout (nI a) (nI q) (nI j) w wl Q := by
  have hB := h.2.2.2.1
  have h8 : tm T ≤ 8 := hB.2.2.1.2.2.2.1
  have h7 : tj T ≤ 7 := hB.2.2.1.2.2.2.2
  have ic : ∀ C : Nat, (nI C + (8 : Int32) * nI q) + nI a = nI (C + (8 * q + a)) := fun C => by
    rw [show (8 : Int32) = nI 8 from rfl, pk_mul, nI_add, nI_add]
    congr 1
    omega
  have i4 : ((4 : Int32) + (8 : Int32) * nI q) + nI a = nI (4 + (8 * q + a)) := ic 4
  have i84 : ((84 : Int32) + (8 : Int32) * nI q) + nI a = nI (84 + (8 * q + a)) := ic 84
  have i68 : ((68 : Int32) + (8 : Int32) * nI q) + nI a = nI (68 + (8 * q + a)) := ic 68
  have i100 : ((100 : Int32) + (8 : Int32) * nI q) + nI a = nI (100 + (8 * q + a)) := ic 100
  have i132 : ((132 : Int32) + (8 : Int32) * nI q) + nI a = nI (132 + (8 * q + a)) := ic 132
  unfold wp_12_pointsWithout
  simp only [wp_12_cell, i4, i84, i68, i100, i132]
  refine ⟨vp_in_nI (by omega) (by decide), ?_⟩
  rw [ix_nI (by omega), ix_nI (by omega), ix_nI (by omega), ix_nI (by omega), ix_nI (by omega), hr _ (by omega), hr _ (by omega), hr _ (by omega), hr _ (by omega), hr _ (by omega)]
  refine ⟨fun z => ?_, fun z => ?_⟩
  · have z1 : P (4 + (8 * q + a)) = 1 := by
      rcases (hG.2.2.2.1 (8 * q + a) (by omega)).1 with k | k
      · exact absurd k z
      · exact k
    obtain ⟨k1, k2, k3, k4⟩ := hS a q hq (by omega) z1
    refine ⟨vp_in_nI (by omega) (by decide), vp_in_nI (by omega) (by decide), vp_in_nI (by omega) (by decide), vp_in_nI (by omega) (by decide), ?_⟩
    refine r_jump h ha h61 (fun w2 f2 v2 j2 w23 e23 => ?_)
    have t2 := rt_rf h f2
    have f23 : ∀ b i, ¬ (b = 150 ∧ i = 61) → w23 b i = w2 b i := by
      subst e23
      intro b i hb
      simp only [st]
      exact if_neg hb
    have t23 : RT s T (nI (tn T 15)) w23 := by
      refine ⟨t2.1, (f23 150 18 (by decide)).trans t2.2.1, tr_rf t2.2.2.1 (fun b h1 h2 h3 h4 => funext (fun i => f23 b i (by omega))), t2.2.2.2.1, (f23 150 49 (by decide)).trans t2.2.2.2.2⟩
    refine r_style (ex := nI j) t23 (by subst e23; exact st_eq) ?_
    have em : styT (w23 182) (nI j) (tj T) = styT (fun i => P (148 + 7 * (8 * q + a) + i)) (nI j) (tj T) := by
      refine styT_cg _ _ (fun i hi => ?_)
      rw [f23 182 i (by omega), j2.2.2.2 i hi]
      exact (k3 i hi).symm
    rw [em]
    have t24 : RT s T (nI (tn T 15)) (st w23 150 62 (styT (fun i => P (148 + 7 * (8 * q + a) + i)) (nI j) (tj T))) := rt_rf t23 (rf_st (rf_re w23) (by decide))
    refine r_points t24 (fun w3 f3 w28 e28 => ?_)
    rw [st_nj (by decide), st_eq, st_nj (by decide), st_nj (by decide), f23 150 59 (by decide), f23 150 56 (by decide), f23 150 53 (by decide), v2.2.2.1, v2.2.2.2.2.2.1] at e28
    have fin : w28 150 63 = pwF T P (nI j) (8 * q + a) := by
      subst e28
      rw [st_nj (by decide), st_eq]
      unfold pwF
      rw [if_pos z1, k1, k2]
      congr 1
      exact j2.1
    rw [fin]
    refine K w28 (fun b i hb => ?_)
    subst e28
    by_cases c : b = 150 ∧ i = 61
    · rw [c.1, c.2, st_eq]
      exact h61.symm
    · have c2 : ¬ (b = 150 ∧ i = 63) := fun z => hb (by rw [z.1, z.2]; decide)
      have c3 : ¬ (b = 150 ∧ i = 62) := fun z => hb (by rw [z.1, z.2]; decide)
      simp only [st]
      rw [if_neg c, if_neg c2, f3 b i (by simp only [scR] at hb; omega) (by simp only [scR] at hb; omega) (by simp only [scR] at hb; omega)]
      simp only [st]
      rw [if_neg c3, f23 b i c]
      exact f2 b i hb
  · have := K w (rf_re w)
    unfold pwF at this
    rw [if_neg (by rw [Classical.not_not.mp z]; decide)] at this
    exact this
theorem r_cellE {a1 a2 a3 : Int32} {w : Mem} {wl : MemL} {Q : Int32 → Mem → MemL → Prop} (K : Q ((a1 + ((8 : Int32) * a2)) + a3) w wl) : wp_12_cell a1 a2 a3 w wl Q := K
theorem r_without {s a j : Nat} {T : TX} {p : Nat → Int32} {P : Nat → Int32} {wm1 : Mem} {wl : MemL} {Q : Int32 → Mem → MemL → Prop} (p1 : RP s T (nI (tn T 15)) false wm1) (e1 : wm1 181 = P) (hG : GW T false P) (hS : CS T P) (ha : a < tm T) (hj : j < tj T) (hp : ∀ u, pwF T P (nI j) u = p u)
    (K : ∀ w2, frP wm1 w2 → rwP w2 P → Q (nI (rkN (fun o => p o + p (8 + o)) a (tm T))) w2 wl) : ∃ nn, wp_12_without_b24 Q nn (nI a) (nI j) 0 wm1 wl := by
  have hB := p1.1.2.2.2.1
  have hs := p1.1.1
  have h8 : tm T ≤ 8 := hB.2.2.1.2.2.2.1
  have pb : ∀ u, u < 16 → ∃ n, p u = nI n ∧ n ≤ 200000 := fun u hu => by rw [← hp]; exact pwF_b hB hG hS _ u hu
  refine pk_loop (fun n i (z : Mem) => wp_12_without_b24 Q n (nI a) (nI j) (nI i) z wl) (fun i z => (∀ b k, ¬ scR b k → b ≠ 181 → z b k = wm1 b k) ∧ rwP z P ∧ (∀ o, i ≤ o → o < 8 → z 181 (36 + o) = P (36 + o) ∧ z 181 (44 + o) = P (44 + o)) ∧ ∀ o, o < i → z 181 (36 + o) = p o ∧ z 181 (44 + o) = p (8 + o)) (tm T) 0 wm1 (by omega) ⟨fun _ _ _ _ => rfl, fun i _ => by rw [e1], fun o _ _ => by rw [e1]; exact ⟨rfl, rfl⟩, fun o ho => absurd ho (by omega)⟩ (fun n z hz => ?_) (fun n i z hi hz L => ?_)
  · obtain ⟨f, hr, hn, ho⟩ := hz
    have fz : frP wm1 z := f
    have t4 := rt_fp p1.1 fz
    refine ⟨by rw [t4.2.1]; exact pk_in s 2 hs, ?_⟩
    rw [t4.2.1, ix_nI (by omega), t4.2.2.1.2.2.1.1]
    refine pk_le (tm T) (tm T) (fun _ => ?_) (fun q => absurd q (by omega))
    refine r_rankBy (r := 2) (f := fun o => if o < tm T then p o + p (8 + o) else f2 (z 181) o) t4 (Or.inr ⟨rfl, ?_⟩) (by omega) (fun o ho2 => ?_) ?_
    · funext o
      split
      · rename_i c
        unfold f2
        rw [(ho o c).1, (ho o c).2]
      · rfl
    · split
      · obtain ⟨n1, q1, q2⟩ := pb o (by omega)
        obtain ⟨n2, q3, q4⟩ := pb (8 + o) (by omega)
        exact ⟨n1 + n2, by rw [q1, q3, nI_add], by omega⟩
      · rename_i c
        unfold f2
        rw [(hn o (by omega) ho2).1, (hn o (by omega) ho2).2]
        obtain ⟨n1, q1, q2⟩ := (hG.2.2.2.1 o (by omega)).2.2.1
        obtain ⟨n2, q3, q4⟩ := (hG.2.2.2.1 (8 + o) (by omega)).2.2.1
        rw [show 36 + (8 + o) = 44 + o by omega] at q3
        exact ⟨n1 + n2, by rw [q1, q3, nI_add], by omega⟩
    · have ek : rkN (fun o => if o < tm T then p o + p (8 + o) else f2 (z 181) o) a (tm T) = rkN (fun o => p o + p (8 + o)) a (tm T) := rkN_cg _ (fun o ho => if_pos ho) (if_pos ha)
      rw [ek]
      exact K z fz hr
  · obtain ⟨f, hr, hn, ho⟩ := hz
    have fz : frP wm1 z := f
    have t4 := rt_fp p1.1 fz
    refine ⟨by rw [t4.2.1]; exact pk_in s 2 hs, ?_⟩
    rw [t4.2.1, ix_nI (by omega), t4.2.2.1.2.2.1.1]
    refine pk_le (tm T) i (fun q => absurd q (by omega)) (fun _ => ⟨3, ?_⟩)
    have one : ∀ (n2 q : Nat) (w5 : Mem), q < 2 → frP wm1 w5 → rwP w5 P → (∀ w6, frP w5 w6 → w6 181 = upd (w5 181) (36 + (8 * q + i)) (p (8 * q + i)) → wp_12_without_b40 Q (wp_12_without_b24 Q n) n2 (nI a) (nI j) (nI i) (nI (q + 1)) w6 wl) →
        wp_12_without_b40 Q (wp_12_without_b24 Q n) (n2 + 1) (nI a) (nI j) (nI i) (nI q) w5 wl := by
      intro n2 q w5 hq f5 r5 KK
      refine pk_le 2 q (fun z => absurd z (by omega)) (fun _ => ?_)
      have ic : ∀ C : Nat, (nI C + (8 : Int32) * nI q) + nI i = nI (C + (8 * q + i)) := fun C => by
        rw [show (8 : Int32) = nI 8 from rfl, pk_mul, nI_add, nI_add]
        congr 1
        omega
      have i36 : ((36 : Int32) + (8 : Int32) * nI q) + nI i = nI (36 + (8 * q + i)) := ic 36
      refine r_cellE ?_
      rw [i36]
      refine r_ptsW (rt_fp p1.1 f5) ((f5 150 61 (by decide) (by decide)).trans p1.2.1) r5 hG hS hi hq hj (fun w6 f6 => ?_)
      refine ⟨vp_in_nI (by omega) (by decide), fun w9 e9 x10 e10 => ?_⟩
      rw [nI_1] at e10
      rw [ix_nI (by omega), hp] at e9
      subst e10
      refine KK w9 ?_ ?_
      · subst e9; exact fp_st (fp_rf f6)
      · subst e9; rw [st_at, ef f6]
    refine one 2 0 z (by omega) fz hr (fun w6 f6 x6 => one 1 1 w6 (by omega) (fp_tr fz f6) ?_ (fun w7 f7 x7 => ?_))
    · intro b hb
      rw [x6, pk_un (by omega)]
      exact hr b hb
    · refine pk_le 2 2 (fun _ x1 ex1 => ?_) (fun z => absurd z (by omega))
      rw [nI_1] at ex1
      subst ex1
      refine L w7 ⟨fp_tr (fp_tr fz f6) f7, fun b hb => ?_, fun o h1 h2 => ?_, fun o ho2 => ?_⟩
      · rw [x7, pk_un (by omega), x6, pk_un (by omega)]
        exact hr b hb
      · rw [x7, x6, pk_un (by omega), pk_un (by omega), pk_un (by omega), pk_un (by omega)]
        exact hn o (by omega) h2
      · rw [x7, x6]
        by_cases c : o = i
        · subst c
          constructor
          · rw [pk_un (by omega), show 36 + o = 36 + (8 * 0 + o) by omega, pk_us, show 8 * 0 + o = o by omega]
          · rw [show 44 + o = 36 + (8 * 1 + o) by omega, pk_us, show 8 * 1 + o = 8 + o by omega]
        · obtain ⟨y1, y2⟩ := ho o (by omega)
          constructor
          · rw [pk_un (by omega), pk_un (by omega)]; exact y1
          · rw [pk_un (by omega), pk_un (by omega)]; exact y2
theorem sim_without (a1 a2 : Int32) : SIM (wp_11_without a1 a2) (wp_12_without a1 a2) := by
  rintro w wm wl ⟨T, s, h⟩
  obtain ⟨hC, hR, hP, hS⟩ := h.1
  have h8 := m8 hR
  have hs := hR.1
  have hG := hR.2.2.2.2.2.2
  have hB := hR.2.2.2.1
  have no : ¬ isM T a1 ∨ ¬ isJ T a2 → wp_12_without a1 a2 wm wl (fun y wm2 wl2 => (-1 : Int32) = y ∧ REL w wm2 wl2) := by
    intro q
    refine r_isMan hR (fun x1 => t1 (r_isJudge hR (fun x2 => ?_) (fun _ => u0 ⟨rfl, T, s, h⟩))) (fun _ => t0 ⟨rfl, T, s, h⟩)
    rcases q with q | q
    · exact absurd x1 q
    · exact absurd x2 q
  refine c_isMan hC.1.2.2.2.2.1.1 (fun x1 => t1 (c_isJudge hC.1.2.2.2.2.1.2 (fun x2 => u1 ?_) (fun q => u0 (no (Or.inr q))))) (fun q => t0 (no (Or.inl q)))
  obtain ⟨a, ha, rfl⟩ := inR_man h8 x1
  obtain ⟨j, hj, rfl⟩ := inR_jdg hB x2
  obtain ⟨p, hp⟩ : ∃ p : Nat → Int32, ∀ u, pwF T (wm 180) (nI j) u = p u := ⟨_, fun _ => rfl⟩
  have pb : ∀ u, u < 16 → ∃ n, p u = nI n ∧ n ≤ 200000 := fun u hu => by rw [← hp]; exact pwF_b hB hG hS _ u hu
  have fin : ∀ w2, fcO w w2 → wp_12_without (nI a) (nI j) wm wl (fun y wm2 wl2 => nI (rkN (fun o => p o + p (8 + o)) a (tm T)) = y ∧ REL w2 wm2 wl2) := by
    intro w2 fo
    refine r_isMan hR (fun _ => t1 (r_isJudge hR (fun _ => u1 (r_copies hR (fun wm1 g1 e1 p1 b1 => ?_))) (fun q => absurd x2 q))) (fun q => absurd x1 q)
    exact r_without p1 e1 hG hS ha hj hp (fun z fz hr => ⟨rfl, T, s, rel_q h fo (fo_fp g1 fz) (fun i hi => by rw [hr i (by omega)]; exact z0 hR i hi)⟩)
  have h80 : ∀ w4, fcS w w4 → w4 80 6 = nI (tm T) := fun w4 f4 => (cf_j hC (cf_of f4)).1
  refine pk_loop (fun n i (z : Mem) => wp_11_without_b20 (fun v w2 => wp_12_without (nI a) (nI j) wm wl (fun y wm2 wl2 => v = y ∧ REL w2 wm2 wl2)) n (nI a) (nI j) (nI i) z) (fun i z => (∀ b k, ¬ scC b k → b ≠ 149 → z b k = w b k) ∧ ∀ o, o < i → z 149 o = p o + p (8 + o)) (tm T) 0 w (by omega) ⟨fun _ _ _ _ => rfl, fun o ho => absurd ho (by omega)⟩ (fun n z hz => ?_) (fun n i z hi hz L => ?_)
  · obtain ⟨f, ho⟩ := hz
    unfold wp_11_without_b20
    have e80 : z 80 6 = nI (tm T) := (f 80 6 (by decide) (by decide)).trans hC.1.2.2.2.2.1.1
    rw [e80]
    refine pk_le (tm T) (tm T) (fun _ => ?_) (fun q => absurd q (by omega))
    refine c_rankAmong h8 rfl (by omega) (f := z 149) (fun o ho => rfl) ?_
    rw [rkN_cg (g := fun o => p o + p (8 + o)) (tm T) (fun o h => ho o h) (ho a ha)]
    exact fin z (fun b k h1 h2 h3 => f b k h1 h3)
  · obtain ⟨f, ho⟩ := hz
    unfold wp_11_without_b20
    have e80 : z 80 6 = nI (tm T) := (f 80 6 (by decide) (by decide)).trans hC.1.2.2.2.2.1.1
    rw [e80]
    refine pk_le (tm T) i (fun q => absurd q (by omega)) (fun _ => ?_)
    have cz : CT T (nI (tn T 15)) z := ct_fr hC (fun b k h1 h2 => f b k h1 (by omega))
    have pz : PL T false (wm 180) 89 z := pl_fr hP (fun b h1 h2 => funext (fun k => f b k (by simp only [scC]; omega) (by omega)))
    refine c_ptsW (q := 0) cz (fs_re z) pz hG hS hi (by omega) hj (fun w3 f3 => ?_)
    refine c_ptsW (q := 1) cz f3 pz hG hS hi (by omega) hj (fun w5 f5 => ⟨pk_in i 8 (by omega), fun w8 e8 x9 e9 => ?_⟩)
    rw [nI_1] at e9
    rw [ix_nI (by omega), hp, hp, show 8 * 0 + i = i by omega, show 8 * 1 + i = 8 + i by omega] at e8
    subst e9
    refine L w8 ⟨fun b k h1 h2 => ?_, fun o ho2 => ?_⟩
    · subst e8
      rw [st_nk h2, f5 b k h1]
      exact f b k h1 h2
    · subst e8
      rw [st_at]
      by_cases c : o = i
      · subst c; rw [pk_us]
      · rw [pk_un c, f5 149 o (by simp only [scC]; omega)]
        exact ho o (by omega)
