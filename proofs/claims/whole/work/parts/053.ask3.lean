theorem r_abs {x : Int32} {w : Mem} {wl : MemL} {Q : Int32 → Mem → MemL → Prop} (K : Q (ab x) w wl) : wp_12_plainly0 x w wl Q := by
  refine ⟨fun q => ?_, fun q => ?_⟩
  · rwa [show ab x = x from if_pos q] at K
  · rwa [show ab x = -x from (if_neg q).trans (Int32.zero_sub x)] at K
/-- the calmest of the first n + 1 -/
def clF (f : Nat → Int32) : Nat → Nat × Int32
  | 0 => (0, f 0)
  | n + 1 => if ab (clF f n).2 ≤ ab (f (n + 1)) then clF f n else (n + 1, f (n + 1))
theorem c_mean0 {T : TX} {sd t : Int32} : meanT T sd (t + nI 0) = meanT T sd t := by rw [show nI 0 = (0 : Int32) from rfl, Int32.add_zero]
theorem clF_s (f : Nat → Int32) {i : Nat} (h : 1 ≤ i) : clF f (i + 1 - 1) = if ab (clF f (i - 1)).2 ≤ ab (f i) then clF f (i - 1) else (i, f i) := by
  rw [show i + 1 - 1 = i - 1 + 1 by omega]
  simp only [clF]
  rw [show i - 1 + 1 = i by omega]
theorem sim_calm (a1 a2 : Int32) : SIM (wp_11_calm a1 a2) (wp_12_calm a1 a2) := by
  rintro w wm wl ⟨T, s, h⟩
  obtain ⟨hC, hR, hP, hS⟩ := h.1
  refine c_in (fun x1 => t1 (c_in (fun x2 => u1 ?_) (fun q => u0 (r_in (fun _ => t1 (r_in (fun z => absurd z q) (fun _ => u0 ⟨rfl, T, s, h⟩))) (fun z => absurd x1 z))))) (fun q => t0 (r_in (fun z => absurd z q) (fun _ => t0 ⟨rfl, T, s, h⟩)))
  obtain ⟨N, hN, rfl⟩ := inR_nI (n := 999) (by omega) x1
  obtain ⟨f, hf⟩ : ∃ f : Nat → Int32, ∀ i, meanT T (nI (tn T 15)) (wm 180 0 + nI i) = f i := ⟨_, fun _ => rfl⟩
  have hf0 : meanT T (nI (tn T 15)) (wm 180 0) = f 0 := by rw [← hf 0]; exact c_mean0.symm
  have fin : ∀ v w2, fcO w w2 → v = (if a2 = 0 then nI (clF f N).1 else (clF f N).2) →
      wp_12_calm (nI N) a2 wm wl (fun y wm2 wl2 => v = y ∧ REL w2 wm2 wl2) := by
    intro v w2 fo ev
    refine r_in (fun _ => t1 (r_in (fun _ => u1 (r_copies hR (fun wm1 g1 e1 p1 b1 => ?_))) (fun q => absurd x2 q))) (fun q => absurd x1 q)
    rw [e1, ix0]
    refine r_mean p1.1 (fun wm3 g3 => ?_)
    rw [hf0]
    refine pk_loop (fun n i (z : Int32 × Int32 × Mem) => wp_12_calm_b45 (fun y wm2 wl2 => v = y ∧ REL w2 wm2 wl2) n (nI N) a2 z.1 z.2.1 (nI i) z.2.2 wl)
      (fun i z => 1 ≤ i ∧ z.1 = nI (clF f (i - 1)).1 ∧ z.2.1 = (clF f (i - 1)).2 ∧ frW wm1 z.2.2) (N + 1) 1 (0, f 0, wm3) (by omega) ⟨by omega, rfl, rfl, g3⟩ (fun n z hz => ?_) (fun n i z hi hz L => ?_)
    · obtain ⟨b, c, w4⟩ := z
      obtain ⟨_, rfl, rfl, f4⟩ := hz
      rw [show N + 1 - 1 = N by omega]
      have e := rel_e h fo (fo_fw g1 f4) ((efw f4).trans e1)
      refine pk_lt N (N + 1) (fun _ => ⟨fun q => ⟨?_, e⟩, fun q => ⟨?_, e⟩⟩) (fun q => absurd q (by omega))
      · rw [ev, if_neg q]
      · rw [ev, if_pos (Classical.not_not.mp q)]
    · obtain ⟨b, c, w4⟩ := z
      obtain ⟨i1, rfl, rfl, f4⟩ := hz
      have p4 := rt_fw p1.1 f4
      refine pk_lt N i (fun q => absurd q (by omega)) (fun _ => ?_)
      dsimp only
      rw [show w4 181 = wm 180 from (efw f4).trans e1, ix0]
      refine r_mean p4 (fun w5 f5 => r_abs (r_abs ?_))
      rw [hf]
      have ec := clF_s f i1
      refine ⟨fun q x1 e1 => ?_, fun q x1 e1 => ?_⟩
      · rw [nI_1] at e1
        subst e1
        rw [if_neg (fun z => nlt.mpr z q)] at ec
        exact L (nI i, f i, w5) ⟨by omega, by rw [ec], by rw [ec], fw_tr f4 f5⟩
      · rw [nI_1] at e1
        subst e1
        rw [if_pos (nlt.mp q)] at ec
        exact L (nI (clF f (i - 1)).1, (clF f (i - 1)).2, w5) ⟨by omega, by rw [ec], by rw [ec], fw_tr f4 f5⟩
  rw [hP.1.1]
  refine c_blow hC (cf_re w) (fun w5 f5 x6 e6 => ?_)
  rw [f5.2.1.2.1, hf0] at e6
  subst e6
  refine pk_loop (fun n i (z : Int32 × Int32 × Mem) => wp_11_calm_b52 (fun v w2 => wp_12_calm (nI N) a2 wm wl (fun y wm2 wl2 => v = y ∧ REL w2 wm2 wl2)) n (nI N) a2 z.1 z.2.1 (nI i) z.2.2)
    (fun i z => 1 ≤ i ∧ z.1 = nI (clF f (i - 1)).1 ∧ z.2.1 = (clF f (i - 1)).2 ∧ fcS w z.2.2) (N + 1) 1 (0, f 0, w5) (by omega) ⟨by omega, rfl, rfl, f5.1⟩ (fun n z hz => ?_) (fun n i z hi hz L => ?_)
  · obtain ⟨b, c, w4⟩ := z
    obtain ⟨_, rfl, rfl, f4⟩ := hz
    rw [show N + 1 - 1 = N by omega]
    refine pk_lt N (N + 1) (fun _ => ⟨fun q => fin _ _ (fc_cf (fc_re w) f4) ?_, fun q => fin _ _ (fc_cf (fc_re w) f4) ?_⟩) (fun q => absurd q (by omega))
    · rw [if_neg q]
    · rw [if_pos (Classical.not_not.mp q)]
  · obtain ⟨b, c, w4⟩ := z
    obtain ⟨i1, rfl, rfl, f4⟩ := hz
    refine pk_lt N i (fun q => absurd q (by omega)) (fun _ => ?_)
    dsimp only
    rw [show w4 89 4 = wm 180 0 from (f4 89 4 (by decide)).trans hP.1.1]
    refine c_blow hC (cf_of f4) (fun w6 f6 => ?_)
    rw [f6.2.1.2.1, hf]
    have ec := clF_s f i1
    refine ⟨fun q x1 e1 => ?_, fun q x2 e2 x1 e1 => ?_⟩
    · rw [nI_1] at e1
      subst e1
      rw [if_pos q] at ec
      exact L (nI (clF f (i - 1)).1, (clF f (i - 1)).2, w6) ⟨by omega, by rw [ec], by rw [ec], f6.1⟩
    · rw [nI_1] at e1
      subst e1
      subst e2
      rw [if_neg q] at ec
      exact L (nI i, f i, w6) ⟨by omega, by rw [ec], by rw [ec], f6.1⟩
/-- the windiest of the first n + 1 -/
def wdF (f : Nat → Int32) : Nat → Nat
  | 0 => 0
  | n + 1 => if ab (f (n + 1)) ≤ ab (f (wdF f n)) then wdF f n else n + 1
theorem ab_i (x : Int32) : 0 ≤ (ab x).toInt ∨ (ab x).toInt = -2147483648 := by
  simp only [ab]
  split
  · rename_i q
    rw [Int32.le_iff_toInt_le, show (0 : Int32).toInt = 0 from rfl] at q
    exact Or.inl q
  · rename_i q
    rw [Int32.le_iff_toInt_le, show (0 : Int32).toInt = 0 from rfl] at q
    rw [Int32.toInt_sub, show (0 : Int32).toInt = 0 from rfl]
    have := Int32.le_toInt x
    rcases Int.lt_or_eq_of_le this with c | c
    · left
      rw [Int.bmod_eq_of_le (by simp at c; omega) (by simp at c; omega)]
      omega
    · right
      rw [← c]
      decide
theorem sim_windiest (a1 : Int32) : SIM (wp_11_windiest a1) (wp_12_windiest a1) := by
  rintro w wm wl ⟨T, s, h⟩
  obtain ⟨hC, hR, hP, hS⟩ := h.1
  refine c_in (fun x1 => u1 ?_) (fun q => u0 (r_in (fun z => absurd z q) (fun _ => u0 ⟨rfl, T, s, h⟩)))
  obtain ⟨f, hf⟩ : ∃ f : Nat → Int32, ∀ i, windT T (nI (tn T 15)) (nI i) a1 = f i := ⟨_, fun _ => rfl⟩
  have fin : ∀ w2, fcO w w2 → wp_12_windiest a1 wm wl (fun y wm2 wl2 => nI (wdF f 4) = y ∧ REL w2 wm2 wl2) := by
    intro w2 fo
    refine r_in (fun _ => u1 (r_copies hR (fun wm1 g1 e1 p1 b1 => ?_))) (fun q => absurd x1 q)
    refine pk_loop (fun n i (z : Int32 × Mem) => wp_12_windiest_b21 (fun y wm2 wl2 => nI (wdF f 4) = y ∧ REL w2 wm2 wl2) n a1 z.1 (nI i) z.2 wl) (fun i z => 1 ≤ i ∧ z.1 = nI (wdF f (i - 1)) ∧ frW wm1 z.2) 5 1 (0, wm1) (by omega) ⟨by omega, rfl, fw_re _⟩ (fun n z hz => ?_) (fun n i z hi hz L => ?_)
    · obtain ⟨b, w4⟩ := z
      obtain ⟨_, rfl, g⟩ := hz
      exact pk_le 5 5 (fun _ => ⟨rfl, rel_e h fo (fo_fw g1 g) ((efw g).trans e1)⟩) (fun q => absurd q (by omega))
    · obtain ⟨b, w4⟩ := z
      obtain ⟨i1, rfl, g⟩ := hz
      refine pk_le 5 i (fun q => absurd q (by omega)) (fun _ => ?_)
      have p4 := rt_fw p1.1 g
      refine r_wind p4 (fun w5 f5 => r_abs (r_wind (rt_fw p4 f5) (fun w6 f6 => r_abs ?_)))
      have ec : wdF f (i + 1 - 1) = if ab (f i) ≤ ab (f (wdF f (i - 1))) then wdF f (i - 1) else i := by
        rw [show i + 1 - 1 = i - 1 + 1 by omega]
        simp only [wdF]
        rw [show i - 1 + 1 = i by omega]
      rw [hf, hf]
      refine ⟨fun q x1 e1 => ?_, fun q x1 e1 => ?_⟩
      · rw [nI_1] at e1
        subst e1
        rw [if_pos q] at ec
        exact L (nI (wdF f (i - 1)), w6) ⟨by omega, by rw [ec], fw_tr (fw_tr g f5) f6⟩
      · rw [nI_1] at e1
        subst e1
        rw [if_neg q] at ec
        exact L (nI i, w6) ⟨by omega, by rw [ec], fw_tr (fw_tr g f5) f6⟩
  refine pk_loop (fun n i (z : Int32 × Int32 × Mem) => wp_11_windiest_b19 (fun v w2 => wp_12_windiest a1 wm wl (fun y wm2 wl2 => v = y ∧ REL w2 wm2 wl2)) n a1 z.1 z.2.1 (nI i) z.2.2)
    (fun i z => z.1 = nI (wdF f (i - 1)) ∧ z.2.1.toInt = (if i = 0 then -1 else max (-1) (ab (f (wdF f (i - 1)))).toInt) ∧ fcS w z.2.2) 5 0 (0, -1, w) (by omega) ⟨rfl, rfl, fs_re w⟩ (fun n z hz => ?_) (fun n i z hi hz L => ?_)
  · obtain ⟨b, c, w4⟩ := z
    obtain ⟨rfl, ec, g⟩ := hz
    exact pk_le 5 5 (fun _ => fin w4 (fc_cf (fc_re w) g)) (fun q => absurd q (by omega))
  · obtain ⟨b, c, w4⟩ := z
    obtain ⟨rfl, ec, g⟩ := hz
    refine pk_le 5 i (fun q => absurd q (by omega)) (fun _ => ?_)
    refine c_wind hC (cf_of g) (fun w5 f5 x3 e3 => ?_)
    rw [hf] at e3
    subst e3
    have ai := ab_i (f i)
    have aj := ab_i (f (wdF f (i - 1)))
    simp only [] at ec ⊢
    by_cases i0 : i = 0
    · subst i0
      rw [if_pos rfl] at ec
      have e0 : wdF f (0 + 1 - 1) = 0 := rfl
      refine ⟨fun q x1 e1 => ?_, fun q x1 e1 => ?_⟩
      · rw [nI_1] at e1
        subst e1
        rw [Int32.le_iff_toInt_le] at q
        refine L (_, c, w5) ⟨rfl, ?_, f5.1⟩
        rw [if_neg (by omega), e0]
        simp only []
        omega
      · rw [nI_1] at e1
        subst e1
        rw [Int32.le_iff_toInt_le] at q
        refine L (nI 0, ab (f 0), w5) ⟨rfl, ?_, f5.1⟩
        rw [if_neg (by omega), e0]
        simp only []
        omega
    · rw [if_neg i0] at ec
      have ed : wdF f (i + 1 - 1) = if ab (f i) ≤ ab (f (wdF f (i - 1))) then wdF f (i - 1) else i := by
        rw [show i + 1 - 1 = i - 1 + 1 by omega]
        simp only [wdF]
        rw [show i - 1 + 1 = i by omega]
      refine ⟨fun q x1 e1 => ?_, fun q x1 e1 => ?_⟩
      · rw [nI_1] at e1
        subst e1
        rw [Int32.le_iff_toInt_le] at q
        rw [if_pos (by rw [Int32.le_iff_toInt_le]; omega)] at ed
        refine L (nI (wdF f (i - 1)), c, w5) ⟨by rw [ed], ?_, f5.1⟩
        rw [if_neg (by omega), ed]
        exact ec
      · rw [nI_1] at e1
        subst e1
        rw [Int32.le_iff_toInt_le] at q
        rw [if_neg (by rw [Int32.le_iff_toInt_le]; omega)] at ed
        refine L (nI i, ab (f i), w5) ⟨by rw [ed], ?_, f5.1⟩
        rw [if_neg (by omega), ed]
        simp only []
        omega
theorem sim_points (a1 : Int32) : SIM (wp_11_points a1) (wp_12_points a1) := by
  rintro w wm wl ⟨T, s, h⟩
  obtain ⟨hC, hR, hP, hS⟩ := h.1
  refine c_isMan hC.1.2.2.2.2.1.1 (fun x1 => t1 ?_) (fun q => t0 (r_isMan hR (fun z => absurd z q) (fun _ => u0 ⟨rfl, T, s, h⟩)))
  obtain ⟨a, ha, rfl⟩ := inR_man (m8 hR) x1
  have h8 := m8 hR
  refine ⟨pk_in a 8 (by omega), ?_⟩
  rw [ix_nI (by omega), show w 91 a = f2 (wm 180) a from hP.2.2.1 a (by omega)]
  refine r_isMan hR (fun _ => u1 (r_copies hR (fun wm1 g1 e1 p1 b1 => r_pts (by omega) ⟨by rw [e1], rel_e h (fc_re w) g1 e1⟩))) (fun q => absurd x1 q)
theorem sim_rank (a1 : Int32) : SIM (wp_11_rank a1) (wp_12_rank a1) := by
  rintro w wm wl ⟨T, s, h⟩
  obtain ⟨hC, hR, hP, hS⟩ := h.1
  refine c_isMan hC.1.2.2.2.2.1.1 (fun x1 => t1 ?_) (fun q => t0 (r_isMan hR (fun z => absurd z q) (fun _ => u0 ⟨rfl, T, s, h⟩)))
  obtain ⟨a, ha, rfl⟩ := inR_man (m8 hR) x1
  have h8 := m8 hR
  unfold wp_5_rankOf
  rw [show w 80 6 = nI (tm T) from hC.1.2.2.2.2.1.1]
  refine c_rankAmong h8 rfl (by omega) (f := f2 (wm 180)) (fun o ho => hP.2.2.1 o ho) ?_
  refine r_isMan hR (fun _ => u1 (r_copies hR (fun wm1 g1 e1 p1 b1 => r_rankBy (r := 2) p1.1 (Or.inr ⟨rfl, rfl⟩) (by omega) (fun o ho => (gw_p p1.2.2.2 o ho).2) ⟨by rw [e1], rel_e h (fc_re w) g1 e1⟩))) (fun q => absurd x1 q)
theorem sim_ranked (a1 : Int32) : SIM (wp_11_ranked a1) (wp_12_ranked a1) := by
  rintro w wm wl ⟨T, s, h⟩
  obtain ⟨hC, hR, hP, hS⟩ := h.1
  refine c_isMan hC.1.2.2.2.2.1.1 (fun x1 => t1 ?_) (fun q => t0 (r_isMan hR (fun z => absurd z q) (fun _ => u0 ⟨rfl, T, s, h⟩)))
  obtain ⟨a, ha, rfl⟩ := inR_man (m8 hR) x1
  have h8 := m8 hR
  refine c_manOf h8 hC.1.2.2.2.2.1.1 (f := f2 (wm 180)) (fun o ho => hP.2.2.1 o ho) ha ?_
  refine r_isMan hR (fun _ => u1 (r_copies hR (fun wm1 g1 e1 p1 b1 => ?_))) (fun q => absurd x1 q)
  obtain ⟨s1, s2⟩ := manS_sp (f2 (wm 180)) ha
  have hs := hR.1
  refine pk_loop (fun n i (_ : Unit) => wp_12_ranked_b16 (fun y wm2 wl2 => nI (manS (f2 (wm 180)) (tm T) a (tm T)) = y ∧ REL w wm2 wl2) n (nI a) (nI i) wm1 wl) (fun i _ => i ≤ manS (f2 (wm 180)) (tm T) a (tm T)) (tm T) 0 () (by omega) (by omega) (fun n z hz => absurd hz (by omega)) (fun n i z hi hz L => ?_)
  refine ⟨by rw [p1.1.2.1]; exact pk_in s 2 hs, ?_⟩
  rw [p1.1.2.1, ix_nI (by omega), p1.1.2.2.1.2.2.1.1]
  refine pk_le (tm T) i (fun q => absurd q (by omega)) (fun _ => ?_)
  refine r_rankBy (r := 2) p1.1 (Or.inr ⟨rfl, rfl⟩) (by omega) (fun o ho => (gw_p p1.2.2.2 o ho).2) ?_
  rw [e1]
  have := rkN_le (f2 (wm 180)) i (tm T)
  refine ⟨fun q x5 e5 => ?_, fun q => ?_⟩
  · rw [nI_1] at e5
    subst e5
    refine L () ?_
    rcases Nat.lt_or_ge i (manS (f2 (wm 180)) (tm T) a (tm T)) with c | c
    · exact c
    · exact absurd (by rw [show i = manS (f2 (wm 180)) (tm T) a (tm T) by omega, s2]) q
  · rw [rkN_inj (show i < tm T by omega) s1 (((nI_eq (by omega) (by omega)).mp (Classical.not_not.mp q)).trans s2.symm)]
    exact ⟨rfl, rel_e h (fc_re w) g1 e1⟩
/-- the most of the others -/
def moF (f : Nat → Int32) (a : Nat) : Nat → Int32
  | 0 => 0
  | n + 1 => if n = a then moF f a n else mx (moF f a n) (f n)
theorem sim_lead (a1 : Int32) : SIM (wp_11_lead a1) (wp_12_lead a1) := by
  rintro w wm wl ⟨T, s, h⟩
  obtain ⟨hC, hR, hP, hS⟩ := h.1
  refine c_isMan hC.1.2.2.2.2.1.1 (fun x1 => t1 ?_) (fun q => t0 (r_isMan hR (fun z => absurd z q) (fun _ => u0 ⟨rfl, T, s, h⟩)))
  obtain ⟨a, ha, rfl⟩ := inR_man (m8 hR) x1
  have h8 := m8 hR
  have hs := hR.1
  refine ⟨pk_in a 8 (by omega), ?_⟩
  rw [ix_nI (by omega), show w 91 a = f2 (wm 180) a from hP.2.2.1 a (by omega)]
  refine pk_loop (fun n i (z : Int32) => wp_5_mostOfOthers_b4 89 (fun r5 w4 => wp_12_lead (nI a) wm wl (fun y wm2 wl2 => f2 (wm 180) a - r5 = y ∧ REL w4 wm2 wl2)) n (nI a) z (nI i) w) (fun i z => z = moF (f2 (wm 180)) a i) (tm T) 0 0 (by omega) rfl (fun n z hz => ?_) (fun n i z hi hz L => ?_)
  · subst hz
    unfold wp_5_mostOfOthers_b4
    rw [show w 80 6 = nI (tm T) from hC.1.2.2.2.2.1.1]
    refine pk_le (tm T) (tm T) (fun _ => ?_) (fun q => absurd q (by omega))
    refine r_isMan hR (fun _ => u1 (r_copies hR (fun wm1 g1 e1 p1 b1 => ?_))) (fun q => absurd x1 q)
    refine pk_loop (fun n i (z : Int32) => wp_12_lead_b20 (fun y wm2 wl2 => f2 (wm 180) a - moF (f2 (wm 180)) a (tm T) = y ∧ REL w wm2 wl2) n (nI a) z (nI i) wm1 wl) (fun i z => z = moF (f2 (wm 180)) a i) (tm T) 0 0 (by omega) rfl (fun n z hz => ?_) (fun n i z hi hz L => ?_)
    · subst hz
      refine ⟨by rw [p1.1.2.1]; exact pk_in s 2 hs, ?_⟩
      rw [p1.1.2.1, ix_nI (by omega), p1.1.2.2.1.2.2.1.1]
      refine pk_le (tm T) (tm T) (fun _ => r_pts (by omega) ⟨by rw [e1], rel_e h (fc_re w) g1 e1⟩) (fun q => absurd q (by omega))
    · subst hz
      refine ⟨by rw [p1.1.2.1]; exact pk_in s 2 hs, ?_⟩
      rw [p1.1.2.1, ix_nI (by omega), p1.1.2.2.1.2.2.1.1]
      refine pk_le (tm T) i (fun q => absurd q (by omega)) (fun _ => ⟨fun q x1 e => ?_, fun q => r_pts (by omega) ?_⟩)
      · rw [nI_1] at e
        subst e
        exact L _ (by simp only [moF]; rw [if_pos ((nI_eq (by omega) (by omega)).mp q)])
      · rw [e1]
        have qa : ¬ i = a := fun z => q (by rw [z])
        have em : moF (f2 (wm 180)) a (i + 1) = mx (moF (f2 (wm 180)) a i) (f2 (wm 180) i) := by simp only [moF]; rw [if_neg qa]
        obtain ⟨k1, k2⟩ := mx_br (P := fun v => wp_12_lead_b20 (fun y wm2 wl2 => f2 (wm 180) a - moF (f2 (wm 180)) a (tm T) = y ∧ REL w wm2 wl2) n (nI a) v (nI (i + 1)) wm1 wl) (a := moF (f2 (wm 180)) a i) (x := f2 (wm 180) i) (L _ em.symm)
        refine ⟨fun q x1 e => ?_, fun q => r_pts (by omega) (fun x1 e => ?_)⟩
        · rw [nI_1] at e
          subst e
          exact k1 q
        · rw [nI_1] at e
          subst e
          rw [e1]
          exact k2 q
  · subst hz
    unfold wp_5_mostOfOthers_b4
    rw [show w 80 6 = nI (tm T) from hC.1.2.2.2.2.1.1]
    refine pk_le (tm T) i (fun q => absurd q (by omega)) (fun _ => ⟨fun q x1 e => ?_, fun q => ⟨pk_in i 8 (by omega), fun x2 e2 x1 e => ?_⟩⟩)
    · rw [nI_1] at e
      subst e
      exact L _ (by simp only [moF]; rw [if_pos ((nI_eq (by omega) (by omega)).mp q)])
    · rw [nI_1] at e
      rw [ix_nI (by omega), show w (89 + 2) i = f2 (wm 180) i from hP.2.2.1 i (by omega)] at e2
      subst e
      subst e2
      exact L _ (by simp only [moF]; rw [if_neg (fun z => q (by rw [z]))])
