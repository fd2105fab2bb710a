/-- the first best of the first n + 1 -/
def bsF (f : Nat → Int32) : Nat → Nat × Int32
  | 0 => (0, f 0)
  | n + 1 => if f (n + 1) ≤ (bsF f n).2 then bsF f n else (n + 1, f (n + 1))
theorem bsF_s (f : Nat → Int32) {i : Nat} (h : 1 ≤ i) : bsF f (i + 1 - 1) = if f i ≤ (bsF f (i - 1)).2 then bsF f (i - 1) else (i, f i) := by
  rw [show i + 1 - 1 = i - 1 + 1 by omega]
  simp only [bsF]
  rw [show i - 1 + 1 = i by omega]
def hiF (f : Nat → Int32) : Nat → Int32
  | 0 => f 0
  | n + 1 => mx (hiF f n) (f (n + 1))
def loF (f : Nat → Int32) : Nat → Int32
  | 0 => f 0
  | n + 1 => mn (loF f n) (f (n + 1))
theorem hiF_s (f : Nat → Int32) {i : Nat} (h : 1 ≤ i) : hiF f (i + 1 - 1) = mx (hiF f (i - 1)) (f i) ∧ loF f (i + 1 - 1) = mn (loF f (i - 1)) (f i) := by
  rw [show i + 1 - 1 = i - 1 + 1 by omega]
  simp only [hiF, loF]
  rw [show i - 1 + 1 = i by omega]
  exact ⟨rfl, rfl⟩
theorem jL_0 (T : TX) (sd : Int32) (a : Nat) (t la g ah : Int32) : 0 ≤ (jL T sd a t la g ah).toInt ∧ (jL T sd a t la g ah).toInt ≤ 9999 := lenT_b T _ _ _ _ _ _
theorem mx_0le (x : Int32) : 0 ≤ (mx 0 x).toInt := by
  rw [ti_mx]
  exact Int.le_max_left _ _
theorem jP_0 (T : TX) (sd : Int32) (a : Nat) (t la g ah : Int32) : 0 ≤ (jP T sd a t la g ah).toInt := mx_0le _
theorem try_tr {s a : Nat} {T : TX} {t la g ah : Int32} {P : Nat → Int32} {w w1 w2 : Mem} (f : frO2 w w1) (k : TRY s T a t la g ah P w1 w2) : TRY s T a t la g ah P w w2 := ⟨⟨fo_tr f k.1.1, k.1.2⟩, k.2⟩
theorem fo_180 {w w2 : Mem} (f : frO2 w w2) : w2 180 = w 180 := funext (fun j => f 180 j (by simp only [scR]; omega) (by omega) (by omega))
theorem rb_tell {s a : Nat} {T : TX} {w : Mem} {wl : MemL} {Q : Int32 → Mem → MemL → Prop} (h : RB s T w) (ha : a < 16) (K : Q (nI (tn T a)) w wl) : wp_12_tell0 (nI a) w wl Q := by
  refine r_tell0 (a := a) h.2.1 h.1 (by omega) ?_
  rw [h.2.2.1.2.1 a ha]
  exact K
theorem sim_spread (a1 : Int32) : SIM (wp_11_spread a1) (wp_12_spread a1) := by
  rintro w wm wl ⟨T, s, h⟩
  obtain ⟨hC, hR, hP, hS⟩ := h.1
  refine c_isMan hC.1.2.2.2.2.1.1 (fun x1 => u1 ?_) (fun q => u0 (r_isMan hR (fun z => absurd z q) (fun _ => u0 ⟨rfl, T, s, h⟩)))
  obtain ⟨a, ha, rfl⟩ := inR_man (m8 hR) x1
  have g10 : tn T 10 ≤ 30 := hR.2.2.2.1.2.1.2.2.1
  have bd := fun i : Nat => jL_0 T (nI (tn T 15)) a (wm 180 0 + nI i) 0 (wm 180 2) (wm 180 3)
  obtain ⟨f, hf⟩ : ∃ f : Nat → Int32, ∀ i, jL T (nI (tn T 15)) a (wm 180 0 + nI i) 0 (wm 180 2) (wm 180 3) = f i := ⟨_, fun _ => rfl⟩
  have hf0 : jL T (nI (tn T 15)) a (wm 180 0 + 0) 0 (wm 180 2) (wm 180 3) = f 0 := hf 0
  simp only [hf] at bd
  have fin : ∀ w2, fcO w w2 → wp_12_spread (nI a) wm wl (fun y wm2 wl2 => hiF f (tn T 10) - loF f (tn T 10) = y ∧ REL w2 wm2 wl2) := by
    intro w2 fo
    refine r_isMan hR (fun _ => u1 ?_) (fun q => absurd x1 q)
    refine pk_loop (fun n i (z : Int32 × Int32 × Mem) => wp_12_spread_b19 (fun y wm2 wl2 => hiF f (tn T 10) - loF f (tn T 10) = y ∧ REL w2 wm2 wl2) n (nI a) z.1 z.2.1 (nI i) z.2.2 wl)
      (fun i z => (i = 0 → z.1 = 10000 ∧ z.2.1 = -1) ∧ (1 ≤ i → z.1 = loF f (i - 1) ∧ z.2.1 = hiF f (i - 1)) ∧ frO2 wm z.2.2 ∧ ∀ j, 260 ≤ j → z.2.2 181 j = 0) (tn T 10 + 1) 0 (10000, -1, wm) (by omega) ⟨fun _ => ⟨rfl, rfl⟩, fun q => absurd q (by omega), fo_re wm, fun j hj => (hR.2.2.2.2.2.1 j hj).2⟩ (fun n z hz => ?_) (fun n i z hi hz L => ?_)
    · obtain ⟨b, c, w4⟩ := z
      obtain ⟨_, e, g, e0⟩ := hz
      obtain ⟨rfl, rfl⟩ := e (by omega)
      refine rb_tell (a := 10) (rb_fo hR g e0) (by omega) (pk_lt (tn T 10) (tn T 10 + 1) (fun _ => ⟨rfl, T, s, rel_q h fo g e0⟩) (fun q => absurd q (by omega)))
    · obtain ⟨b, c, w4⟩ := z
      obtain ⟨ea, e, g, e0⟩ := hz
      dsimp only at ea e g e0
      have b4 := rb_fo hR g e0
      refine rb_tell (a := 10) b4 (by omega) (pk_lt (tn T 10) i (fun q => absurd q (by omega)) (fun _ => ?_))
      dsimp only
      refine r_tries b4 ha (fun w5 k => ?_)
      rw [show w4 180 = wm 180 from fo_180 g] at k
      rw [k.2.2.1, hf]
      have g5 := fo_tr g k.1.1
      have e5 : ∀ j, 260 ≤ j → w5 181 j = 0 := by rw [k.1.2.1]; exact z0 hR
      have bi := bd i
      have L2 := L (mn b (f i), mx c (f i), w5) ⟨fun q => absurd q (by omega), fun _ => ?_, g5, e5⟩
      · have b64 : ∀ x y, (x = mn b (f i) → y = mx c (f i) → wp_12_spread_b64 (fun y wm2 wl2 => hiF f (tn T 10) - loF f (tn T 10) = y ∧ REL w2 wm2 wl2) (wp_12_spread_b19 (fun y wm2 wl2 => hiF f (tn T 10) - loF f (tn T 10) = y ∧ REL w2 wm2 wl2) n) (nI a) x y (nI i) w5 wl) := by
          intro x y ex ey x1 e1
          rw [nI_1] at e1
          subst e1
          subst ex
          subst ey
          exact L2
        have b51 : ∀ x, x = mn b (f i) → wp_12_spread_b51 (fun y wm2 wl2 => hiF f (tn T 10) - loF f (tn T 10) = y ∧ REL w2 wm2 wl2) (wp_12_spread_b19 (fun y wm2 wl2 => hiF f (tn T 10) - loF f (tn T 10) = y ∧ REL w2 wm2 wl2) n) (nI a) x c (nI i) w5 wl := by
          intro x ex
          unfold wp_12_spread_b51
          rw [k.2.2.1, hf]
          exact ⟨fun q => b64 _ _ ex (mx_ge q).symm, fun q x1 e1 => b64 _ _ ex (by rw [e1]; exact (mx_le (by rw [Int32.le_iff_toInt_le] at q ⊢; omega)).symm)⟩
        have q5 : ∀ x y : Int32, ¬ x ≤ y → y < x := fun x y => by rw [Int32.le_iff_toInt_le, Int32.lt_iff_toInt_lt]; omega
        exact ⟨fun q => b51 _ (if_neg (fun z => nlt.mpr q z)).symm, fun q x6 e6 => b51 _ (by rw [e6]; exact (if_pos (q5 _ _ q)).symm)⟩
      · rcases Nat.eq_zero_or_pos i with i0 | i1
        · obtain ⟨rfl, rfl⟩ := ea i0
          subst i0
          constructor
          · show mn 10000 (f 0) = f 0
            apply Int32.toInt_inj.mp
            rw [ti_mn, show (10000 : Int32).toInt = 10000 from rfl]
            omega
          · show mx (-1) (f 0) = f 0
            apply Int32.toInt_inj.mp
            rw [ti_mx, show (-1 : Int32).toInt = -1 from rfl]
            omega
        · obtain ⟨rfl, rfl⟩ := e i1
          obtain ⟨s1, s2⟩ := hiF_s f i1
          exact ⟨s2.symm, s1.symm⟩
  refine c_tryOut hC hP (cf_re w) ha (fun _ w3 f3 => ?_) (fun q => absurd rfl q)
  rw [hf0]
  refine pk_loop (fun n i (z : Int32 × Int32 × Mem) => wp_11_spread_b24 (fun v w2 => wp_12_spread (nI a) wm wl (fun y wm2 wl2 => v = y ∧ REL w2 wm2 wl2)) n (nI a) z.1 z.2.1 (nI i) z.2.2)
    (fun i z => 1 ≤ i ∧ z.1 = hiF f (i - 1) ∧ z.2.1 = loF f (i - 1) ∧ fcS w z.2.2) (tn T 10 + 1) 1 (f 0, f 0, w3) (by omega) ⟨by omega, rfl, rfl, f3.1⟩ (fun n z hz => ?_) (fun n i z hi hz L => ?_)
  · obtain ⟨b, c, w4⟩ := z
    obtain ⟨_, rfl, rfl, g⟩ := hz
    unfold wp_11_spread_b24
    dsimp only
    rw [show w4 48 12 = nI (tn T 10) from ct_n hC (cf_of g) 10 (by omega) (by omega)]
    exact pk_lt (tn T 10) (tn T 10 + 1) (fun _ => fin w4 (fc_cf (fc_re w) g)) (fun q => absurd q (by omega))
  · obtain ⟨b, c, w4⟩ := z
    obtain ⟨i1, rfl, rfl, g⟩ := hz
    unfold wp_11_spread_b24
    dsimp only
    rw [show w4 48 12 = nI (tn T 10) from ct_n hC (cf_of g) 10 (by omega) (by omega)]
    refine pk_lt (tn T 10) i (fun q => absurd q (by omega)) (fun _ => ?_)
    refine c_tryOut hC hP (cf_of g) ha (fun _ w5 f5 x3 e3 x4 e4 x5 e5 => ?_) (fun q => absurd rfl q)
    rw [hf] at e3 e4
    rw [nI_1] at e5
    obtain ⟨s1, s2⟩ := hiF_s f i1
    subst e3
    subst e4
    subst e5
    exact L (mx (hiF f (i - 1)) (f i), mn (loF f (i - 1)) (f i), w5) ⟨by omega, s1.symm, s2.symm, f5.1⟩
theorem sim_wait (a1 a2 : Int32) : SIM (wp_11_wait a1 a2) (wp_12_wait a1 a2) := by
  rintro w wm wl ⟨T, s, h⟩
  obtain ⟨hC, hR, hP, hS⟩ := h.1
  refine c_isMan hC.1.2.2.2.2.1.1 (fun x1 => t1 (c_in (fun x2 => u1 ?_) (fun q => u0 (r_isMan hR (fun _ => t1 (r_in (fun z => absurd z q) (fun _ => u0 ⟨rfl, T, s, h⟩))) (fun z => absurd x1 z))))) (fun q => t0 (r_isMan hR (fun z => absurd z q) (fun _ => t0 ⟨rfl, T, s, h⟩)))
  obtain ⟨a, ha, rfl⟩ := inR_man (m8 hR) x1
  obtain ⟨wh, hwh, rfl⟩ := inR_nI (n := 3) (by omega) x2
  have g10 : tn T 10 ≤ 30 := hR.2.2.2.1.2.1.2.2.1
  have bd := fun i : Nat => (jL_0 T (nI (tn T 15)) a (wm 180 0 + nI i) 0 (wm 180 2) (wm 180 3)).1
  have bp := fun i : Nat => jP_0 T (nI (tn T 15)) a (wm 180 0 + nI i) 0 (wm 180 2) (wm 180 3)
  obtain ⟨f, hf⟩ : ∃ f : Nat → Int32, ∀ i, jL T (nI (tn T 15)) a (wm 180 0 + nI i) 0 (wm 180 2) (wm 180 3) = f i := ⟨_, fun _ => rfl⟩
  obtain ⟨p, hp⟩ : ∃ f : Nat → Int32, ∀ i, jP T (nI (tn T 15)) a (wm 180 0 + nI i) 0 (wm 180 2) (wm 180 3) = f i := ⟨_, fun _ => rfl⟩
  have hf0 : jL T (nI (tn T 15)) a (wm 180 0 + 0) 0 (wm 180 2) (wm 180 3) = f 0 := hf 0
  have hp0 : jP T (nI (tn T 15)) a (wm 180 0 + 0) 0 (wm 180 2) (wm 180 3) = p 0 := hp 0
  simp only [hf] at bd
  simp only [hp] at bp
  have fin : ∀ v w2, fcO w w2 → v = (if wh = 0 then nI (bsF f (tn T 10)).1 else if wh = 1 then (bsF f (tn T 10)).2 else if wh = 2 then nI (bsF p (tn T 10)).1 else (bsF p (tn T 10)).2) →
      wp_12_wait (nI a) (nI wh) wm wl (fun y wm2 wl2 => v = y ∧ REL w2 wm2 wl2) := by
    intro v w2 fo ev
    refine r_isMan hR (fun _ => t1 (r_in (fun _ => u1 ?_) (fun q => absurd x2 q))) (fun q => absurd x1 q)
    refine pk_loop (fun n i (z : Int32 × Int32 × Int32 × Int32 × Mem) => wp_12_wait_b33 (fun y wm2 wl2 => v = y ∧ REL w2 wm2 wl2) n (nI a) (nI wh) z.1 z.2.1 z.2.2.1 z.2.2.2.1 (nI i) z.2.2.2.2 wl)
      (fun i z => (i = 0 → z.2.1 = -1 ∧ z.2.2.2.1 = -1) ∧ (1 ≤ i → z.1 = nI (bsF f (i - 1)).1 ∧ z.2.1 = (bsF f (i - 1)).2 ∧ z.2.2.1 = nI (bsF p (i - 1)).1 ∧ z.2.2.2.1 = (bsF p (i - 1)).2) ∧ frO2 wm z.2.2.2.2 ∧ ∀ j, 260 ≤ j → z.2.2.2.2 181 j = 0) (tn T 10 + 1) 0 (0, -1, 0, -1, wm) (by omega) ⟨fun _ => ⟨rfl, rfl⟩, fun q => absurd q (by omega), fo_re wm, fun j hj => (hR.2.2.2.2.2.1 j hj).2⟩ (fun n z hz => ?_) (fun n i z hi hz L => ?_)
    · obtain ⟨b, c, d, k, w4⟩ := z
      obtain ⟨_, e, g, e0⟩ := hz
      obtain ⟨rfl, rfl, rfl, rfl⟩ := e (by omega)
      rw [show tn T 10 + 1 - 1 = tn T 10 by omega]
      have er : REL w2 w4 wl := ⟨T, s, rel_q h fo g e0⟩
      refine rb_tell (a := 10) (rb_fo hR g e0) (by omega) (pk_lt (tn T 10) (tn T 10 + 1) (fun _ => ⟨fun q0 => ⟨fun q1 => ⟨fun q2 => ⟨?_, er⟩, fun q2 => ⟨?_, er⟩⟩, fun q1 => ⟨?_, er⟩⟩, fun q0 => ⟨?_, er⟩⟩) (fun q => absurd q (by omega)))
      · rw [ev, if_neg (fun z => q0 (by rw [z]; rfl)), if_neg (fun z => q1 (by rw [z]; rfl)), if_neg (fun z => q2 (by rw [z]; rfl))]
      · have w2' : wh = 2 := (nI_eq (b := 2) (by omega) (by omega)).mp (Classical.not_not.mp q2)
        rw [ev, w2', if_neg (by decide), if_neg (by decide), if_pos rfl]
      · have w2' : wh = 1 := (nI_eq (b := 1) (by omega) (by omega)).mp (Classical.not_not.mp q1)
        rw [ev, w2', if_neg (by decide), if_pos rfl]
      · have w2' : wh = 0 := (nI_eq (b := 0) (by omega) (by omega)).mp (Classical.not_not.mp q0)
        rw [ev, w2', if_pos rfl]
    · obtain ⟨b, c, d, k, w4⟩ := z
      obtain ⟨ea, e, g, e0⟩ := hz
      dsimp only at ea e g e0
      have b4 := rb_fo hR g e0
      refine rb_tell (a := 10) b4 (by omega) (pk_lt (tn T 10) i (fun q => absurd q (by omega)) (fun _ => ?_))
      dsimp only
      refine r_tries b4 ha (fun w5 kt => ?_)
      rw [show w4 180 = wm 180 from fo_180 g] at kt
      have v59 : w5 150 59 = f i := kt.2.2.1.trans (hf i)
      have v63 : w5 150 63 = p i := kt.2.2.2.2.trans (hp i)
      rw [v59]
      have g5 := fo_tr g kt.1.1
      have e5 : ∀ j, 260 ≤ j → w5 181 j = 0 := by rw [kt.1.2.1]; exact z0 hR
      have bi := bd i
      have pi := bp i
      have b70 : ∀ x y, x = nI (bsF f (i + 1 - 1)).1 → y = (bsF f (i + 1 - 1)).2 → wp_12_wait_b70 (fun y wm2 wl2 => v = y ∧ REL w2 wm2 wl2) (wp_12_wait_b33 (fun y wm2 wl2 => v = y ∧ REL w2 wm2 wl2) n) (nI a) (nI wh) x y d k (nI i) w5 wl := by
        intro x y ex ey
        have b89 : ∀ x2 y2, x2 = nI (bsF p (i + 1 - 1)).1 → y2 = (bsF p (i + 1 - 1)).2 → wp_12_wait_b89 (fun y wm2 wl2 => v = y ∧ REL w2 wm2 wl2) (wp_12_wait_b33 (fun y wm2 wl2 => v = y ∧ REL w2 wm2 wl2) n) (nI a) (nI wh) x y x2 y2 (nI i) w5 wl := by
          intro x2 y2 ex2 ey2 x1 e1
          rw [nI_1] at e1
          subst e1
          exact L (x, y, x2, y2, w5) ⟨fun q => absurd q (by omega), fun _ => ⟨ex, ey, ex2, ey2⟩, g5, e5⟩
        unfold wp_12_wait_b70
        rw [v63]
        rcases Nat.eq_zero_or_pos i with i0 | i1
        · obtain ⟨_, h2⟩ := ea i0
          subst h2
          subst i0
          refine ⟨fun q => ?_, fun q x1 e1 => ?_⟩
          · rw [Int32.le_iff_toInt_le, show (-1 : Int32).toInt = -1 from rfl] at q
            omega
          · exact b89 _ _ rfl (by rw [e1]; rfl)
        · obtain ⟨_, _, h1, h2⟩ := e i1
          subst h1
          subst h2
          have ec := bsF_s p i1
          refine ⟨fun q => ?_, fun q x1 e1 => ?_⟩
          · rw [if_pos q] at ec
            exact b89 _ _ (by rw [ec]) (by rw [ec])
          · rw [if_neg q] at ec
            exact b89 _ _ (by rw [ec]) (by rw [ec, e1])
      rcases Nat.eq_zero_or_pos i with i0 | i1
      · obtain ⟨h2, _⟩ := ea i0
        subst h2
        subst i0
        refine ⟨fun q => ?_, fun q x1 e1 => ?_⟩
        · rw [Int32.le_iff_toInt_le, show (-1 : Int32).toInt = -1 from rfl] at q
          omega
        · exact b70 _ _ rfl (by rw [e1]; rfl)
      · obtain ⟨h1, h2, _⟩ := e i1
        subst h1
        subst h2
        have ec := bsF_s f i1
        refine ⟨fun q => ?_, fun q x1 e1 => ?_⟩
        · rw [if_pos q] at ec
          exact b70 _ _ (by rw [ec]) (by rw [ec])
        · rw [if_neg q] at ec
          exact b70 _ _ (by rw [ec]) (by rw [ec, e1])
  have cl : ∀ (g : Nat → Int32) (pt : Int32), ((pt = 0 ∧ g = f ∧ wh < 2) ∨ (¬ pt = 0 ∧ g = p ∧ 2 ≤ wh)) → wp_11_wait_b29 (fun v w2 => wp_12_wait (nI a) (nI wh) wm wl (fun y wm2 wl2 => v = y ∧ REL w2 wm2 wl2)) (nI a) (nI wh) pt w := by
    intro g pt hg
    have lp : ∀ w3, fcS w w3 → ∃ nn, wp_11_wait_b46 (fun v w2 => wp_12_wait (nI a) (nI wh) wm wl (fun y wm2 wl2 => v = y ∧ REL w2 wm2 wl2)) nn (nI a) (nI wh) pt 0 (g 0) (nI 1) w3 := by
      intro w3 f3
      refine pk_loop (fun n i (z : Int32 × Int32 × Mem) => wp_11_wait_b46 (fun v w2 => wp_12_wait (nI a) (nI wh) wm wl (fun y wm2 wl2 => v = y ∧ REL w2 wm2 wl2)) n (nI a) (nI wh) pt z.1 z.2.1 (nI i) z.2.2)
        (fun i z => 1 ≤ i ∧ z.1 = nI (bsF g (i - 1)).1 ∧ z.2.1 = (bsF g (i - 1)).2 ∧ fcS w z.2.2) (tn T 10 + 1) 1 (0, g 0, w3) (by omega) ⟨by omega, rfl, rfl, f3⟩ (fun n z hz => ?_) (fun n i z hi hz L => ?_)
      · obtain ⟨b, c, w4⟩ := z
        obtain ⟨_, rfl, rfl, g4⟩ := hz
        rw [show tn T 10 + 1 - 1 = tn T 10 by omega]
        unfold wp_11_wait_b46
        dsimp only
        rw [show w4 48 12 = nI (tn T 10) from ct_n hC (cf_of g4) 10 (by omega) (by omega)]
        have fo := fc_cf (fc_re w) g4
        refine pk_lt (tn T 10) (tn T 10 + 1) (fun _ => ⟨fun q => fin _ _ fo ?_, fun q => ⟨fun q2 => fin _ _ fo ?_, fun q2 => fin _ _ fo ?_⟩⟩) (fun q => absurd q (by omega))
        · have w0 : wh = 0 := (nI_eq (b := 0) (by omega) (by omega)).mp q
          rw [w0, if_pos rfl]
          rcases hg with ⟨_, rfl, _⟩ | ⟨_, _, hh⟩
          · rfl
          · omega
        · rw [if_neg (fun z => q (by rw [z]; rfl))]
          rcases hg with ⟨_, rfl, hh⟩ | ⟨_, rfl, hh⟩
          · rw [if_pos (by
              rcases (show wh = 0 ∨ wh = 1 by omega) with z | z
              · exact absurd (by rw [z]; rfl) q
              · exact z)]
          · rw [if_neg (by omega), if_neg (fun z => q2 (by rw [z]; rfl))]
        · have w0 : wh = 2 := (nI_eq (b := 2) (by omega) (by omega)).mp (Classical.not_not.mp q2)
          rw [w0, if_neg (by decide), if_neg (by decide), if_pos rfl]
          rcases hg with ⟨_, _, hh⟩ | ⟨_, rfl, _⟩
          · omega
          · rfl
      · obtain ⟨b, c, w4⟩ := z
        obtain ⟨i1, rfl, rfl, g4⟩ := hz
        unfold wp_11_wait_b46
        dsimp only
        rw [show w4 48 12 = nI (tn T 10) from ct_n hC (cf_of g4) 10 (by omega) (by omega)]
        refine pk_lt (tn T 10) i (fun q => absurd q (by omega)) (fun _ => ?_)
        have nx : ∀ v w5, v = g i → fcS w w5 → ((v ≤ (bsF g (i - 1)).2 → wp_11_wait_b84 (fun v w2 => wp_12_wait (nI a) (nI wh) wm wl (fun y wm2 wl2 => v = y ∧ REL w2 wm2 wl2)) (wp_11_wait_b46 (fun v w2 => wp_12_wait (nI a) (nI wh) wm wl (fun y wm2 wl2 => v = y ∧ REL w2 wm2 wl2)) n) (nI a) (nI wh) pt (nI (bsF g (i - 1)).1) (bsF g (i - 1)).2 (nI i) w5) ∧
            (¬ v ≤ (bsF g (i - 1)).2 → wp_11_wait_b84 (fun v w2 => wp_12_wait (nI a) (nI wh) wm wl (fun y wm2 wl2 => v = y ∧ REL w2 wm2 wl2)) (wp_11_wait_b46 (fun v w2 => wp_12_wait (nI a) (nI wh) wm wl (fun y wm2 wl2 => v = y ∧ REL w2 wm2 wl2)) n) (nI a) (nI wh) pt (nI i) v (nI i) w5)) := by
          intro v w5 ev f5
          subst ev
          have ec := bsF_s g i1
          refine ⟨fun q x1 e1 => ?_, fun q x1 e1 => ?_⟩
          · rw [nI_1] at e1
            subst e1
            rw [if_pos q] at ec
            exact L (nI (bsF g (i - 1)).1, (bsF g (i - 1)).2, w5) ⟨by omega, by rw [ec], by rw [ec], f5⟩
          · rw [nI_1] at e1
            subst e1
            rw [if_neg q] at ec
            exact L (nI i, g i, w5) ⟨by omega, by rw [ec], by rw [ec], f5⟩
        refine c_tryOut hC hP (cf_of g4) ha (fun q w5 f5 => ?_) (fun q w5 mk5 f5 => ?_)
        · refine nx _ w5 ?_ f5.1
          rcases hg with ⟨_, rfl, _⟩ | ⟨hh, _⟩
          · exact hf i
          · exact absurd q hh
        · refine nx _ w5 ?_ f5.1
          rcases hg with ⟨hh, _⟩ | ⟨_, rfl, _⟩
          · exact absurd hh q
          · exact hp i
    refine c_tryOut hC hP (cf_re w) ha (fun q w3 f3 => ?_) (fun q w3 mk3 f3 => ?_)
    · have := lp w3 f3.1
      rcases hg with ⟨_, rfl, _⟩ | ⟨hh, _⟩
      · rw [hf0]; exact this
      · exact absurd q hh
    · have := lp w3 f3.1
      rcases hg with ⟨hh, _⟩ | ⟨_, rfl, _⟩
      · exact absurd hh q
      · rw [hp0]; exact this
  exact pk_lt wh 2 (fun q => cl f 0 (Or.inl ⟨rfl, rfl, q⟩)) (fun q => cl p 1 (Or.inr ⟨by decide, rfl, q⟩))
