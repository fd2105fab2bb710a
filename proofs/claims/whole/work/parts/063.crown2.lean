theorem stP_z {T : TX} {sd t : Int32} {lf : Bool} {P : Nat → Int32} {i : Nat} (hB : BT T) (h : GW T lf P) (hs : sn P < szP T P) (hi : 260 ≤ i) : stP T sd P (nxP T lf P) t i = P i := by
  have ha := odP_lt (lf := lf) hB h.1.2.2.1 hs
  have hq : rd P < 3 := szP_q (T := T) (by omega)
  have hb := hB.2.2.1
  have hA : nxP T lf P < 8 := by unfold nxP; omega
  rw [stP_hi (by omega)]
  unfold stM mkP ceP
  rw [if_neg (by unfold qP; omega), if_neg (by omega)]
theorem runP_z {T : TX} {sd : Int32} {lf : Bool} {i : Nat} (hB : BT T) (hi : 260 ≤ i) : ∀ (n : Nat) (P : Nat → Int32), GW T lf P → runP T sd lf n P i = P i
  | 0, _, _ => rfl
  | n + 1, P, h => by
    simp only [runP]
    split
    · rename_i c
      rw [runP_z hB hi n _ (gw_go hB h c)]
      exact stP_z hB h c hi
    · rfl
theorem sim_crown (a1 a2 : Int32) : SIM (wp_11_crown a1 a2) (wp_12_crown a1 a2) := by
  rintro w wm wl ⟨T, s, h⟩
  obtain ⟨hC, hR, hP, hS⟩ := h.1
  have h8 := m8 hR
  have hs := hR.1
  have hB := hR.2.2.2.1
  have hG := hR.2.2.2.2.2.2
  refine c_isMan hC.1.2.2.2.2.1.1 (fun x1 => t1 (c_in (fun x2 => u1 ?_) (fun q => u0 (r_isMan hR (fun _ => t1 (r_in (fun z => absurd z q) (fun _ => u0 ⟨rfl, T, s, h⟩))) (fun z => absurd x1 z))))) (fun q => t0 (r_isMan hR (fun z => absurd z q) (fun _ => t0 ⟨rfl, T, s, h⟩)))
  obtain ⟨a, ha, rfl⟩ := inR_man h8 x1
  obtain ⟨N, hN, rfl⟩ : ∃ N, N ≤ 10 ∧ a2 = nI N := inR_nI (n := 10) (by omega) ⟨by have := x2.1; rw [Int32.le_iff_toInt_le] at this ⊢; rw [show (1 : Int32).toInt = 1 from rfl] at this; rw [show (0 : Int32).toInt = 0 from rfl]; omega, x2.2⟩
  obtain ⟨rk, hrk⟩ : ∃ rk : Nat → Nat, ∀ i, rkN (f2 (runP T (nI (tn T 15) + nI i) false 16 (wm 180))) a (tm T) = rk i := ⟨_, fun _ => rfl⟩
  have rk8 : ∀ i, rk i ≤ 8 := fun i => by rw [← hrk]; have := rkN_le (f2 (runP T (nI (tn T 15) + nI i) false 16 (wm 180))) a (tm T); omega
  -- how many of the first i are 0
  obtain ⟨cn, hcn0, hcn⟩ : ∃ cn : Nat → Nat, cn 0 = 0 ∧ ∀ i, cn (i + 1) = if rk i = 0 then cn i + 1 else cn i := by
    refine ⟨fun n => Nat.rec 0 (fun i c => if rk i = 0 then c + 1 else c) n, rfl, fun i => rfl⟩
  have fin : ∀ w2, fcO w w2 → wp_12_crown (nI a) (nI N) wm wl (fun y wm2 wl2 => nI (cn N) = y ∧ REL w2 wm2 wl2) := by
    intro w2 fo
    refine r_isMan hR (fun _ => t1 (r_in (fun _ => u1 ?_) (fun q => absurd x2 q))) (fun q => absurd x1 q)
    refine pk_loop (fun n i (z : Int32 × Mem) => wp_12_crown_b25 (fun y wm2 wl2 => nI (cn N) = y ∧ REL w2 wm2 wl2) n (nI a) (nI N) z.1 (nI i) z.2 wl) (fun i z => z.1 = nI (cn i) ∧ frO2 wm z.2 ∧ ∀ j, 260 ≤ j → z.2 181 j = 0) N 0 (0, wm) (by omega) ⟨by rw [hcn0]; rfl, fo_re wm, fun j hj => (hR.2.2.2.2.2.1 j hj).2⟩ (fun n z hz => ?_) (fun n i z hi hz L => ?_)
    · obtain ⟨b, w4⟩ := z
      obtain ⟨rfl, g, e0⟩ := hz
      exact pk_le N N (fun _ => ⟨rfl, T, s, rel_q h fo g e0⟩) (fun q => absurd q (by omega))
    · obtain ⟨b, w4⟩ := z
      obtain ⟨rfl, g, e0⟩ := hz
      dsimp only at g e0 ⊢
      have b4 := rb_fo hR g e0
      refine pk_le N i (fun q => absurd q (by omega)) (fun _ => r_copies b4 (fun w1 g1 e1 p1 b1 w3 e3 => ?_))
      rw [p1.1.2.2.2.2] at e3
      have f3 : ∀ b i, ¬ (b = 150 ∧ i = 49) → w3 b i = w1 b i := by
        subst e3
        intro b i hb
        simp only [st]
        exact if_neg hb
      have e180 : w4 180 = wm 180 := fo_180 g
      have e3' : w3 181 = wm 180 := by
        funext i
        rw [f3 181 i (by omega), e1, e180]
      have p3 : RP s T (nI (tn T 15) + nI i) false w3 := by
        refine ⟨⟨p1.1.1, (f3 150 18 (by decide)).trans p1.1.2.1, tr_rf p1.1.2.2.1 (fun b h1 h2 h3 h4 => funext (fun i => f3 b i (by omega))), hB, by subst e3; exact st_eq⟩, (f3 150 61 (by decide)).trans p1.2.1, (f3 150 50 (by decide)).trans p1.2.2.1, by rw [e3']; exact hG⟩
      refine ⟨17, r_startsAll 16 w3 p3 (remP_16 hB) (fun w5 f5 e5 => ?_)⟩
      rw [e3'] at e5
      have g5 : GW T false (w5 181) := by rw [e5]; exact gw_run hB 16 _ hG
      have p5 := rp_fp p3 f5 g5
      have g35 : frO2 wm w5 := by
        refine fo_fp (fo_tr g (fo_tr g1 ?_)) f5
        exact fun b i h1 h2 h3 => f3 b i (by omega)
      have z5 : ∀ j, 260 ≤ j → w5 181 j = 0 := by
        intro j hj
        rw [e5, runP_z hB hj 16 _ hG]
        exact z0 hR j hj
      refine r_rankBy (r := 2) p5.1 (Or.inr ⟨rfl, rfl⟩) (by omega) (fun o ho => (gw_p g5 o ho).2) ?_
      rw [e5, hrk]
      have hc := hcn i
      have := rk8 i
      refine ⟨fun q x1 ex1 => ?_, fun q x9 e9 x1 ex1 => ?_⟩
      · rw [nI_1] at ex1
        subst ex1
        rw [if_neg (fun z => q (by rw [z]; rfl))] at hc
        exact L (nI (cn i), w5) ⟨by rw [hc], g35, z5⟩
      · rw [nI_1] at ex1 e9
        subst ex1
        rw [if_pos ((nI_eq (b := 0) (by omega) (by omega)).mp (Classical.not_not.mp q))] at hc
        exact L (x9, w5) ⟨by rw [e9, hc], g35, z5⟩
  refine pk_loop (fun n i (z : Int32 × Mem) => wp_11_crown_b25 (fun v w2 => wp_12_crown (nI a) (nI N) wm wl (fun y wm2 wl2 => v = y ∧ REL w2 wm2 wl2)) n (nI a) (nI N) z.1 (nI i) z.2) (fun i z => z.1 = nI (cn i) ∧ ∀ b j, ¬ scC b j → (b < 93 ∨ 97 ≤ b) → ¬ (b = 87 ∧ j = 2) → z.2 b j = w b j) N 0 (0, w) (by omega) ⟨by rw [hcn0]; rfl, fun _ _ _ _ _ => rfl⟩ (fun n z hz => ?_) (fun n i z hi hz L => ?_)
  · obtain ⟨b, w4⟩ := z
    obtain ⟨rfl, f⟩ := hz
    refine pk_le N N (fun _ w1 e1 => fin w1 (fun b j h1 h2 h3 => ?_)) (fun q => absurd q (by omega))
    dsimp only at f e1
    rw [f 48 17 (by decide) (by decide) (by decide), show w 48 17 = nI (tn T 15) from hC.1.2.2.2.1 15 (by omega) (by omega)] at e1
    subst e1
    by_cases c : b = 87 ∧ j = 2
    · rw [c.1, c.2, st_eq]
      exact hC.2.2.2.symm
    · simp only [st]
      rw [if_neg c]
      exact f b j h1 h2 c
  · obtain ⟨b, w4⟩ := z
    obtain ⟨rfl, f⟩ := hz
    dsimp only at f ⊢
    refine pk_le N i (fun q => absurd q (by omega)) (fun _ w2 e2 => ?_)
    rw [f 48 17 (by decide) (by decide) (by decide), show w 48 17 = nI (tn T 15) from hC.1.2.2.2.1 15 (by omega) (by omega)] at e2
    have f2' : ∀ b j, ¬ scC b j → (b < 93 ∨ 97 ≤ b) → ¬ (b = 87 ∧ j = 2) → w2 b j = w b j := by
      intro b j h1 h2 h3
      subst e2
      simp only [st]
      rw [if_neg h3]
      exact f b j h1 h2 h3
    have c2 : CT T (nI (tn T 15) + nI i) w2 := by
      have := ct_fr (w2 := st w2 87 2 (nI (tn T 15))) hC (fun b j h1 h2 => by
        by_cases c : b = 87 ∧ j = 2
        · rw [c.1, c.2, st_eq]
          exact hC.2.2.2.symm
        · simp only [st]
          rw [if_neg c]
          exact f2' b j h1 (by omega) c)
      refine ⟨tc_fr this.1 (fun a ha => ?_) ?_ (fun a h1 h2 => ?_), hB, fun a j ha hj hs => ?_, by subst e2; exact st_eq⟩
      · rw [st_ne _ (by omega), st_ne _ (by omega), st_ne _ (by omega), st_ne _ (by omega)]
        exact ⟨rfl, rfl, rfl, rfl⟩
      · rw [st_ne _ (by omega)]
      · rw [st_ne _ (by omega)]
      · have := this.2.2.1 a j ha hj hs
        rw [st_ne _ (by omega)] at this
        exact this
    have p2 : PL T false (wm 180) 89 w2 := pl_fr hP (fun b h1 h2 => funext (fun j => f2' b j (by simp only [scC]; omega) (by omega) (by omega)))
    refine c_copyP hB p2 (fun w3 f3 p3 => ?_)
    have c3 : CT T (nI (tn T 15) + nI i) w3 := ct_fr c2 (fun b j h1 h2 => by rw [f3 b (by omega)])
    refine ⟨17, c_startBy (N := 16) (by omega) (by omega) 16 0 (wm 180) w3 (by omega) c3 p3 hG (fun w5 f5 p5 => ?_)⟩
    have f25 : ∀ b j, ¬ scC b j → (b < 93 ∨ 97 ≤ b) → ¬ (b = 87 ∧ j = 2) → w5 b j = w b j := by
      intro b j h1 h2 h3
      rw [f5 b j h1 (by omega), f3 b (by omega)]
      exact f2' b j h1 h2 h3
    unfold wp_5_rankOf
    rw [show w5 80 6 = nI (tm T) from (f25 80 6 (by decide) (by omega) (by decide)).trans hC.1.2.2.2.2.1.1]
    refine c_rankAmong h8 rfl (by omega) (f := f2 (runP T (nI (tn T 15) + nI i) false 16 (wm 180))) (fun o ho => p5.2.2.1 o ho) ?_
    rw [hrk]
    have hc := hcn i
    have := rk8 i
    refine ⟨fun q x1 ex1 => ?_, fun q x9 e9 x1 ex1 => ?_⟩
    · rw [nI_1] at ex1
      subst ex1
      rw [if_neg (fun z => q (by rw [z]; rfl))] at hc
      exact L (nI (cn i), w5) ⟨by rw [hc], f25⟩
    · rw [nI_1] at ex1 e9
      subst ex1
      rw [if_pos ((nI_eq (b := 0) (by omega) (by omega)).mp (Classical.not_not.mp q))] at hc
      exact L (x9, w5) ⟨by rw [e9, hc], f25⟩
theorem sim_reversed (a1 : Int32) : SIM (wp_11_reversed a1) (wp_12_reversed a1) := by
  rintro w wm wl ⟨T, s, h⟩
  obtain ⟨hC, hR, hP, hS⟩ := h.1
  have h8 := m8 hR
  have hs := hR.1
  have hB := hR.2.2.2.1
  refine c_isMan hC.1.2.2.2.2.1.1 (fun x1 => u1 ?_) (fun q => u0 (r_isMan hR (fun z => absurd z q) (fun _ => u0 ⟨rfl, T, s, h⟩)))
  obtain ⟨a, ha, rfl⟩ := inR_man h8 x1
  have gB := gw_beg hB true
  have fin : ∀ w2, fcO w w2 → wp_12_reversed (nI a) wm wl (fun y wm2 wl2 => nI (rkN (f2 (runP T (nI (tn T 15)) true 16 (begP T))) a (tm T)) = y ∧ REL w2 wm2 wl2) := by
    intro w2 fo
    refine r_isMan hR (fun _ => u1 (r_begins hs hR.2.1 hR.2.2.1 (fun i hi => (hR.2.2.2.2.2.1 i hi).2) (fun w4 f4 e4 e49 e50 w6 e6 => ?_))) (fun q => absurd x1 q)
    have f6 : ∀ b i, b ≠ 181 → ¬ (b = 150 ∧ (i = 49 ∨ i = 50)) → w6 b i = wm b i := by
      subst e6
      intro b i h1 h2
      simp only [st]
      rw [if_neg (by omega)]
      exact f4 b i h1 h2
    have e6' : w6 181 = begP T := by subst e6; rw [st_ne 181 (by decide)]; exact e4
    have p6 : RP s T (nI (tn T 15)) true w6 := by
      refine ⟨⟨hs, (f6 150 18 (by decide) (by decide)).trans hR.2.1, tr_rf hR.2.2.1 (fun b h1 h2 h3 h4 => funext (fun i => f6 b i (by omega) (by omega))), hB, ?_⟩, (f6 150 61 (by decide) (by decide)).trans hR.2.2.2.2.1, ?_, by rw [e6']; exact gB⟩
      · subst e6; rw [st_nj (by decide)]; exact e49
      · subst e6; exact st_eq
    refine ⟨17, r_startsAll 16 w6 p6 (remP_16 hB) (fun w5 f5 e5 => ?_)⟩
    rw [e6'] at e5
    have g5 : GW T true (w5 181) := by rw [e5]; exact gw_run hB 16 _ gB
    have p5 := rp_fp p6 f5 g5
    have gp : ∀ o, o < 8 → ∃ p, f2 (w5 181) o = nI p ∧ p ≤ 400000 := fun o ho => (gw_p g5 o ho).2
    refine r_rankBy (r := 2) p5.1 (Or.inr ⟨rfl, rfl⟩) (by omega) gp ⟨by rw [e5], T, s, rel_q h fo (fo_fp (fun b i h1 h2 h3 => f6 b i h2 (by omega)) f5) (fun i hi => ?_)⟩
    rw [e5, runP_z hB hi 16 _ gB]
    exact begP_0 T (by omega)
  have h14 : w 48 14 = nI (tn T 12) := hC.1.2.2.2.1 12 (by omega) (by omega)
  refine c_begin (T := T) (by omega) h14 hC.1.2.2.2.2.1.1 hB (fun w3 f3 p3 => c_turn hB p3 (fun w4 f4 p4 => ?_))
  have f34 : ∀ b, b < 93 ∨ 97 ≤ b → w4 b = w b := fun b hb => by rw [f4 b (by omega), f3 b hb]
  have c4 : CT T (nI (tn T 15)) w4 := ct_fr hC (fun b j h1 h2 => by rw [f34 b (by omega)])
  refine ⟨17, c_startBy (N := 16) (by omega) (by omega) 16 0 (begP T) w4 (by omega) c4 p4 gB (fun w5 f5 p5 => ?_)⟩
  have f25 : fcO w w5 := by
    intro b j h1 h2 h3
    rw [f5 b j h1 (by omega), f34 b (by omega)]
  unfold wp_5_rankOf
  rw [show w5 80 6 = nI (tm T) from (f25 80 6 (by decide) (by omega) (by decide)).trans hC.1.2.2.2.2.1.1]
  refine c_rankAmong h8 rfl (by omega) (f := f2 (runP T (nI (tn T 15)) true 16 (begP T))) (fun o ho => p5.2.2.1 o ho) ?_
  exact fin w5 f25
