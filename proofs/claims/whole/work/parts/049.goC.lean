theorem c_enter {T : TX} {sd t la : Int32} {lf : Bool} {P : Nat → Int32} {k : Nat} {w : Mem} {Q : Mem → Prop} (hk : 89 ≤ k) (hT : CT T sd w) (h : PL T lf P k w) (hP : GW T lf P) (hz : sn P < szP T P) (hla : la = slipT T sd (nxP T lf P) t)
    (hf : w 87 5 = jL T sd (nxP T lf P) t la (P 2) (P 3) ∧ w 87 7 = jP T sd (nxP T lf P) t la (P 2) (P 3) ∧ w 87 6 = jS T sd (nxP T lf P) t la (P 2) (P 3) ∧ w 87 4 = meanT T sd t) (hm : ∀ j, j < tj T → w 88 j = jM T sd (nxP T lf P) t la (P 2) (P 3) j)
    (K : ∀ w2, (∀ b, b < k ∨ k + 4 ≤ b → w2 b = w b) → PL T lf (stP T sd P (nxP T lf P) t) k w2 → Q w2) : wp_5_enter k (nI (nxP T lf P)) la t w Q := by
  have hB := hT.2.1
  have h8 : tm T ≤ 8 := hB.2.2.1.2.2.2.1
  have hPL := h
  obtain ⟨⟨e4, e5, e6, e7, e8⟩, ho, ht, _⟩ := h
  obtain ⟨⟨g1, g3, r1, r3, s8, gs, g, gg, hg⟩, gw, g12, gu, gm⟩ := hP
  have ha : nxP T lf P < tm T := odP_lt hB r1 hz
  have hq : rd P < 3 := szP_q (T := T) (by omega)
  have z8 := szP_8 (P := P) hB
  subst hla
  have was : ¬ P (4 + (8 * qP P + nxP T lf P)) = 1 := by
    intro q
    obtain ⟨i, hi, e⟩ := (gw hq _ ha).mp q
    have := odP_inj (lf := lf) hB r1 (show i < szP T P by omega) hz e
    omega
  generalize hA : nxP T lf P = a at ha hf hm K was
  have hu : 8 * qP P + a < 16 := by unfold qP; omega
  have pt0 : P (36 + (8 * qP P + a)) = 0 := by
    obtain ⟨x1, x2, _⟩ := gu _ hu
    rcases x1 with x | x
    · exact (x2 x).1
    · exact absurd x was
  have er : (((nI a * (2 : Int32)) + w k 5) - (1 : Int32)) * (16 : Int32) = nI (uc (8 * qP P + a) * 16) := by
    rw [e5, g1, show (2 : Int32) = nI 2 from rfl, pk_mul, nI_add, show (1 : Int32) = nI 1 from rfl, pk_sub (by omega), show (16 : Int32) = nI 16 from rfl, pk_mul]
    congr 2
    unfold uc qP
    omega
  have hb : uc (8 * qP P + a) < 16 := by unfold uc; omega
  refine c_enter1 hk (by omega) er (fun w25 f25 x25 => ?_)
  have cl := c_cells (w2 := w25) hB hPL hu rfl hf hm x25
  clear x25
  have av : vp_in (nI a) 8 := pk_in a 8 (by omega)
  refine ⟨av, av, fun w28 e28 w29 e29 w30 e30 => ?_⟩
  rw [ix_nI (by omega), f25 (k + 2) (by omega), f25 87 (by omega), ht a (by omega), hf.2.1] at e28
  have f28 : ∀ b, b ≠ k + 3 → b ≠ k + 2 → w28 b = w b := by subst e28; exact fun b h1 h2 => (st_ne b h2).trans (f25 b h1)
  rw [f28 48 (by omega) (by omega), show w 48 13 = nI (tn T 11) from hT.1.2.2.2.1 11 (by omega) (by omega)] at e29
  have v7 : w29 k 7 = nI (sn P) := by
    subst e29
    rw [st_nj (by decide), f28 k (by omega) (by omega), e7]
    exact g3
  rw [v7, nI_1] at e30
  have f30 : ∀ b, b < k ∨ k + 4 ≤ b → w30 b = w b := by
    intro b hb
    subst e30
    subst e29
    rw [st_ne b (by omega), st_ne b (by omega)]
    exact f28 b (by omega) (by omega)
  have r30 : w30 k 4 = t + nI (tn T 11) ∧ w30 k 5 = nI (rd P) ∧ w30 k 6 = P 2 ∧ w30 k 7 = nI (sn P + 1) ∧ w30 k 8 = nI (szP T P) := by
    subst e30
    subst e29
    refine ⟨?_, ?_, ?_, st_eq, ?_⟩
    · rw [st_nj (by decide), st_eq]
    · rw [st_nj (by decide), st_nj (by decide), f28 k (by omega) (by omega), e5]; exact g1
    · rw [st_nj (by decide), st_nj (by decide), f28 k (by omega) (by omega)]; exact e6
    · rw [st_nj (by decide), st_nj (by decide), f28 k (by omega) (by omega)]; exact e8
  have o30 : w30 (k + 1) = w (k + 1) := by
    subst e30
    subst e29
    rw [st_ne (k + 1) (by omega), st_ne (k + 1) (by omega)]
    exact f28 (k + 1) (by omega) (by omega)
  have t30 : ∀ b, b < 8 → w30 (k + 2) b = f2 (stP T sd P a t) b := by
    intro b hb
    rw [f2_st r1 hq (by omega) hb pt0]
    subst e30
    subst e29
    rw [st_ne (k + 2) (by omega), st_ne (k + 2) (by omega)]
    subst e28
    rw [st_at]
    by_cases c : b = a
    · subst c
      rw [pk_us, if_pos rfl]
    · rw [pk_un c, if_neg c, f25 (k + 2) (by omega), ht b hb]
  have c30 : w30 (k + 3) = w25 (k + 3) := by
    subst e30
    subst e29
    subst e28
    rw [st_ne (k + 3) (by omega), st_ne (k + 3) (by omega), st_ne (k + 3) (by omega)]
  clear e30 e29 e28 f28 v7 f25
  rw [← c30] at cl
  rw [r30.2.2.2.1, r30.2.2.2.2]
  refine pk_lt (sn P + 1) (szP T P) (fun q => ?_) (fun q => ?_)
  · have s1 : stP T sd P a t 1 = nI (rd P) := by rw [stP_1, if_pos q]; exact g1
    have d1 := rd_of s1 (by omega)
    have ez : szP T (stP T sd P a t) = szP T P := by unfold szP; rw [d1]
    refine K w30 f30 ⟨⟨?_, ?_, ?_, ?_, ?_⟩, fun i hi => ?_, t30, cl⟩
    · rw [r30.1, stP_0]
    · rw [r30.2.1, s1]
    · rw [r30.2.2.1, stP_2]
    · rw [r30.2.2.2.1, stP_3, if_pos q]
    · rw [r30.2.2.2.2, ez]
    · rw [ez] at hi
      rw [o30, ho i hi]
      congr 1
      unfold odP
      rw [d1]
      split
      · rfl
      · rename_i z
        exact manS_cg (fun o ho => (f1_st (by unfold qP; omega) o (by omega)).symm) _ (Nat.le_refl _)
  · have s1 : stP T sd P a t 1 = nI (rd P + 1) := by rw [stP_1, if_neg (by omega)]
    have d1 := rd_of s1 (by omega)
    have ez : szP T (stP T sd P a t) = if rd P = 1 then n2 T else 0 := by
      unfold szP
      rw [d1, if_neg (show ¬ rd P + 1 = 1 by omega)]
      by_cases z : rd P = 1
      · rw [if_pos z, if_pos (show rd P + 1 = 2 by omega)]
      · rw [if_neg z, if_neg (show ¬ rd P + 1 = 2 by omega)]
    refine c_bnr (g := f2 (stP T sd P a t)) hk hB ⟨r1, by omega⟩ r30.2.1 ?_ ?_ t30 (fun w2 k1 k2 k3 => ?_)
    · rw [f30 48 (by omega)]; exact hT.1.2.2.2.1 14 (by omega) (by omega)
    · rw [f30 80 (by omega)]; exact hT.1.2.2.2.2.1.1
    · refine K w2 (fun b hb => (k1 b (by omega) (by omega)).trans (f30 b hb)) ⟨⟨?_, ?_, ?_, ?_, ?_⟩, fun i hi => ?_, ?_, ?_⟩
      · rw [k2.1, r30.1, stP_0]
      · rw [k2.2.2.1, s1]
      · rw [k2.2.1, r30.2.2.1, stP_2]
      · rw [k2.2.2.2.1, stP_3, if_neg (by omega)]
      · rw [k2.2.2.2.2, ez]
      · rw [ez] at hi
        rw [k3 i hi]
        congr 1
        have x1 : rd P = 1 := by
          rcases Classical.em (rd P = 1) with z | z
          · exact z
          · rw [if_neg z] at hi; omega
        unfold odP
        rw [d1, if_neg (show ¬ rd P + 1 = 1 by omega)]
        refine manS_cg (fun o ho => ?_) _ (Nat.le_refl _)
        have kk : stP T sd P a t (4 + 16 * 2 + (8 + o)) = _ := (stP_hi (by omega)).trans (stM_c (by omega) (by omega))
        rw [show 4 + 16 * 2 + (8 + o) = 44 + o by omega, if_neg (by unfold qP; omega)] at kk
        have z12 := g12 x1 o (by omega)
        have z0 := ((gu (8 + o) (by omega)).2.1 (by rw [show 4 + (8 + o) = 12 + o by omega]; exact z12)).1
        rw [show 36 + (8 + o) = 44 + o by omega] at z0
        unfold f2 f1
        rw [kk, z0, Int32.add_zero]
      · rw [k1 (k + 2) (by omega) (by omega)]; exact t30
      · rw [k1 (k + 3) (by omega) (by omega)]; exact cl
/-- the class waits -/
theorem c_wait {T : TX} {sd t : Int32} {a : Nat} {w : Mem} {Q : Int32 → Mem → Prop} (hT : CT T sd w) (ha : a < tm T) (K : ∀ w2, fcS w w2 → Q (nI (wtS T sd t a (tn T 10) 0)) w2) : wp_11_waitByGoes (nI a) t w Q := by
  have hB := hT.2.1
  have g10 : tn T 10 ≤ 30 := hB.2.1.2.2.1
  refine pk_loop (fun n i (z : Mem) => wp_11_waitByGoes_b2 Q n (nI a) t (nI i) z)
    (fun i z => fcS w z ∧ wtS T sd t a (tn T 10) 0 = wtS T sd t a (tn T 10 - i) i) (tn T 10) 0 w (by omega) ⟨fun _ _ _ => rfl, rfl⟩ (fun n z hz => ?_) (fun n i z hi hz L => ?_)
  · obtain ⟨f, e⟩ := hz
    rw [Nat.sub_self] at e
    simp only [wtS] at e
    unfold wp_11_waitByGoes_b2
    rw [show z 48 12 = nI (tn T 10) from ct_n hT (cf_of f) 10 (by omega) (by omega)]
    refine pk_le (tn T 10) (tn T 10) (fun _ => ?_) (fun q => absurd q (by omega))
    have := K z f
    rw [e] at this
    exact this
  · obtain ⟨f, e⟩ := hz
    rw [show tn T 10 - i = (tn T 10 - (i + 1)) + 1 by omega] at e
    simp only [wtS] at e
    unfold wp_11_waitByGoes_b2
    rw [show z 48 12 = nI (tn T 10) from ct_n hT (cf_of f) 10 (by omega) (by omega)]
    refine pk_le (tn T 10) i (fun q => absurd q (by omega)) (fun _ => ?_)
    refine c_blow hT (cf_of f) (fun w2 f2 => c_goes hT f2 ha (fun w3 f3 => ⟨fun q => ?_, fun q => ?_⟩))
    · rw [if_neg q] at e
      refine ⟨fun _ x4 e4 => ?_, fun z => absurd rfl z⟩
      rw [nI_1] at e4
      subst e4
      exact L _ ⟨f3.1, e⟩
    · rw [if_pos q] at e
      have := K w3 f3.1
      rw [e] at this
      exact ⟨fun z => absurd z (by decide), fun _ => this⟩
def frQ (k : Nat) (w w2 : Mem) : Prop := ∀ a j, ¬ scC a j → (a < k ∨ k + 4 ≤ a) → w2 a j = w a j
theorem fq_re (k : Nat) (w : Mem) : frQ k w w := fun _ _ _ _ => rfl
theorem fq_tr {k : Nat} {w w2 w3 : Mem} (h : frQ k w w2) (h2 : frQ k w2 w3) : frQ k w w3 := fun a j p q => (h2 a j p q).trans (h a j p q)
theorem ct_fq {T : TX} {sd : Int32} {k : Nat} {w w2 : Mem} (hk : 89 ≤ k) (h : CT T sd w) (f : frQ k w w2) : CT T sd w2 := ct_fr h (fun a j q hj => f a j q (by omega))
theorem ct_fc {T : TX} {sd : Int32} {w w2 : Mem} (h : CT T sd w) (f : fcS w w2) : CT T sd w2 := ct_fr h (fun a j q hj => f a j q)
theorem pl_fc {T : TX} {lf : Bool} {P : Nat → Int32} {k : Nat} {w w2 : Mem} (hk : 89 ≤ k) (h : PL T lf P k w) (f : fcS w w2) : PL T lf P k w2 :=
  pl_fr h (fun a h1 h2 => funext (fun j => f a j (by simp only [scC]; omega)))
theorem c_launch {T : TX} {sd t : Int32} {lf : Bool} {P : Nat → Int32} {k : Nat} {w : Mem} {Q : Mem → Prop} (hk : 89 ≤ k) (hT : CT T sd w) (h : PL T lf P k w) (hP : GW T lf P) (hz : sn P < szP T P)
    (K : ∀ w2, frQ k w w2 → PL T lf (stP T sd P (nxP T lf P) t) k w2 → w2 87 5 = jL T sd (nxP T lf P) t (slipT T sd (nxP T lf P) t) (P 2) (P 3) → Q w2) : wp_11_launch k t w Q := by
  have hB := hT.2.1
  have ha : nxP T lf P < tm T := odP_lt hB hP.1.2.2.1 hz
  refine c_next hB h hP (fun q => absurd q (by omega)) (fun _ => c_slip hT (cf_re w) ha (c_blow hT (cf_re w) (fun w5 f5 => ?_)))
  have p5 := pl_fc hk h f5.1
  rw [p5.1.2.2.1, p5.1.2.2.2.1]
  refine c_reachOf hT f5 ha (fun w6 f6 => ?_)
  have p6 := pl_fc hk h f6.1
  rw [p6.1.2.2.1]
  refine c_judge hT f6 ha (fun w8 mk2 f8 m8 => ?_)
  have p8 := pl_fc hk h f8.1
  refine c_enter hk (ct_fc hT f8.1) p8 hP hz rfl ⟨f8.2.1.2.2.1, f8.2.1.2.2.2.2, f8.2.1.2.2.2.1, f8.2.1.2.1⟩ (fun j hj => ?_) (fun w9 f9 p9 => ?_)
  · have h7 : tj T ≤ 7 := hB.2.2.1.2.2.2.2
    rw [f8.2.2 j (by omega)]
    exact m8 j hj
  · refine K w9 (fun a j q1 q2 => by rw [f9 a q2]; exact f8.1 a j q1) p9 ?_
    rw [f9 87 (by omega)]
    exact f8.2.1.2.2.1
theorem c_startBy {T : TX} {sd : Int32} {lf : Bool} {k N : Nat} {Q : Int32 → Mem → Prop} (hk : 89 ≤ k) (hN : N < 100) : ∀ (m i : Nat) (P : Nat → Int32) (w : Mem), i + m = N → CT T sd w → PL T lf P k w → GW T lf P →
    (∀ w2, frQ k w w2 → PL T lf (runP T sd lf m P) k w2 → Q (nI (i + runN T sd lf m P)) w2) → wp_11_startByGoes_b5 k Q (m + 1) (nI N) (nI i) (nI i) w
  | 0, i, P, w, e, hT, h, hP, K => by
    subst e
    exact pk_le (i + 0) i (fun _ => K w (fq_re k w) h) (fun q => absurd q (by omega))
  | m + 1, i, P, w, e, hT, h, hP, K => by
    have hB := hT.2.1
    refine pk_le N i (fun q => absurd q (by omega)) (fun _ => ?_)
    refine c_next hB h hP (fun q => ⟨fun _ => ?_, fun z => absurd rfl z⟩) (fun q => ⟨fun z => ?_, fun _ => ?_⟩)
    · have := K w (fq_re k w) (by simp only [runP]; rw [if_neg (by omega)]; exact h)
      simp only [runN] at this
      rw [if_neg (by omega)] at this
      exact this
    · exfalso
      have ha : nxP T lf P < tm T := odP_lt hB hP.1.2.2.1 q
      have := nI_pos (n := nxP T lf P) (by have := hB.2.2.1; omega)
      rw [z] at this
      exact this (by decide)
    · have ha : nxP T lf P < tm T := odP_lt hB hP.1.2.2.1 q
      refine c_next hB h hP (fun q2 => absurd q2 (by omega)) (fun _ => ?_)
      rw [h.1.1]
      refine c_wait hT ha (fun w5 f5 => ?_)
      refine c_launch hk (ct_fc hT f5) (pl_fc hk h f5) hP q (fun w7 f7 p7 _ x8 e8 x9 e9 => ?_)
      rw [nI_1] at e8 e9
      subst e8
      subst e9
      have fw : frQ k w w7 := fun a j q1 q2 => (f7 a j q1 q2).trans (f5 a j q1)
      refine c_startBy hk hN m (i + 1) (goP T sd lf P) w7 (by omega) (ct_fq hk hT fw) p7 (gw_go hB hP q) (fun w2 f2 p2 => ?_)
      have := K w2 (fq_tr fw f2) (by simp only [runP]; rw [if_pos q]; exact p2)
      simp only [runN] at this
      rw [if_pos q] at this
      rw [show i + 1 + runN T sd lf m (goP T sd lf P) = i + (runN T sd lf m (goP T sd lf P) + 1) by omega]
      exact this
