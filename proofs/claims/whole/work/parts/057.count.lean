def byF (P : Nat → Int32) (sf : Int32) (u : Nat) : Int32 := if P (4 + u) = 1 then (if sf < P (20 + u) then 1 else 0) else 0
theorem c_beyond {T : TX} {P : Nat → Int32} {sf : Int32} {w : Mem} {Q : Int32 → Mem → Prop} (hB : BT T) (hP : PL T false P 89 w) (hG : GW T false P) (h80 : w 80 6 = nI (tm T)) (K : Q (sumN (byF P sf) 16) w) : wp_5_jumpsBeyond 89 sf w Q := by
  have h8 : tm T ≤ 8 := hB.2.2.1.2.2.2.1
  have e16 : sumN (byF P sf) 16 = sumN (fun a => byF P sf a + byF P sf (8 + a)) (tm T) := sumN_16 h8 (fun a h1 h2 => by
    obtain ⟨g1, g2⟩ := hG.2.2.2.2 a h1 h2
    unfold byF
    rw [g1, show 4 + (8 + a) = 12 + a by omega, g2, if_neg (by decide), if_neg (by decide)]
    exact ⟨rfl, rfl⟩)
  rw [e16] at K
  refine pk_loop (fun n i (z : Int32) => wp_5_jumpsBeyond_b4 89 Q n sf z (nI i) w) (fun i z => z = sumN (fun a => byF P sf a + byF P sf (8 + a)) i) (tm T) 0 0 (by omega) rfl (fun n z hz => ?_) (fun n i z hi hz L => ?_)
  · subst hz
    unfold wp_5_jumpsBeyond_b4
    rw [h80]
    exact pk_le (tm T) (tm T) (fun _ => K) (fun q => absurd q (by omega))
  · subst hz
    unfold wp_5_jumpsBeyond_b4
    rw [h80]
    refine pk_le (tm T) i (fun q => absurd q (by omega)) (fun _ => ?_)
    have L2 := L _ (show sumN (fun a => byF P sf a + byF P sf (8 + a)) i + (byF P sf i + byF P sf (8 + i)) = _ from rfl)
    rw [← Int32.add_assoc] at L2
    refine ⟨3, ?_⟩
    have one : ∀ (n2 q : Nat) (x : Int32), q < 2 → (∀ y, y = x + byF P sf (8 * q + i) → wp_5_jumpsBeyond_b21 89 Q (wp_5_jumpsBeyond_b4 89 Q n) n2 sf y (nI i) (nI (q + 1 + 1)) w) → wp_5_jumpsBeyond_b21 89 Q (wp_5_jumpsBeyond_b4 89 Q n) (n2 + 1) sf x (nI i) (nI (q + 1)) w := by
      intro n2 q x hq KK
      refine pk_lt 2 (q + 1) (fun z => absurd z (by omega)) (fun _ => ?_)
      have b52 : ∀ v, v = x + byF P sf (8 * q + i) → wp_5_jumpsBeyond_b52 89 Q (wp_5_jumpsBeyond_b4 89 Q n) (wp_5_jumpsBeyond_b21 89 Q (wp_5_jumpsBeyond_b4 89 Q n) n2) sf v (nI i) (nI (q + 1)) w := by
        intro v ev x2 e2
        rw [nI_1] at e2
        subst e2
        exact KK _ ev
      refine c_hasU hB hP hG (by omega) hq (fun z => t1 ?_) (fun z => t0 (b52 _ ?_))
      · refine c_cell (c := 0) (by omega) hq (by omega) ?_
        rw [hP.2.2.2.1 _ 0 (by omega) (by omega), show 4 + 16 * (0 + 1) + (8 * q + i) = 20 + (8 * q + i) by omega]
        refine ⟨fun z2 => b52 _ ?_, fun z2 x6 e6 => b52 _ ?_⟩
        · unfold byF
          rw [if_pos z, if_neg (nlt.mpr z2), Int32.add_zero]
        · unfold byF
          rw [if_pos z, if_pos (Classical.not_not.mp (fun y => z2 (nlt.mp y))), e6]
      · unfold byF
        rw [if_neg z, Int32.add_zero]
    refine one 2 0 _ (by omega) (fun y ey => one 1 1 y (by omega) (fun y2 ey2 => ?_))
    refine pk_lt 2 3 (fun _ x1 e1 => ?_) (fun z => absurd z (by omega))
    rw [nI_1] at e1
    subst e1
    rw [ey2, ey]
    rw [show 8 * 0 + i = i by omega, show 8 * 1 + i = 8 + i by omega]
    exact L2
def mxF (f : Nat → Int32) : Nat → Int32
  | 0 => 0
  | n + 1 => mx (mxF f n) (f n)
theorem mxF_p (f : Nat → Int32) (x : Int) : ∀ n, (mxF f n).toInt ≤ x ↔ 0 ≤ x ∧ ∀ i, i < n → (f i).toInt ≤ x
  | 0 => ⟨fun h => ⟨h, fun i hi => absurd hi (by omega)⟩, fun h => h.1⟩
  | n + 1 => by
    simp only [mxF]
    rw [ti_mx, Int.max_le, mxF_p f x n]
    constructor
    · rintro ⟨⟨h0, h1⟩, h2⟩
      refine ⟨h0, fun i hi => ?_⟩
      rcases Nat.lt_or_ge i n with c | c
      · exact h1 i c
      · rw [show i = n by omega]; exact h2
    · rintro ⟨h0, h1⟩
      exact ⟨⟨h0, fun i hi => h1 i (by omega)⟩, h1 n (by omega)⟩
theorem mxF_0 (f : Nat → Int32) (n : Nat) : 0 ≤ (mxF f n).toInt := ((mxF_p f _ n).mp (Int.le_refl _)).1
theorem mxF_e {f g : Nat → Int32} {n m : Nat} (h1 : ∀ i, i < n → (f i).toInt ≤ (mxF g m).toInt) (h2 : ∀ i, i < m → (g i).toInt ≤ (mxF f n).toInt) : mxF f n = mxF g m := by
  apply Int32.toInt_inj.mp
  exact Int.le_antisymm ((mxF_p f _ n).mpr ⟨mxF_0 _ _, h1⟩) ((mxF_p g _ m).mpr ⟨mxF_0 _ _, h2⟩)
theorem mxF_i (f : Nat → Int32) {n i : Nat} (h : i < n) : (f i).toInt ≤ (mxF f n).toInt := ((mxF_p f _ n).mp (Int.le_refl _)).2 i h
theorem c_longest {T : TX} {P : Nat → Int32} {w : Mem} {Q : Int32 → Mem → Prop} (hB : BT T) (hP : PL T false P 89 w) (hG : GW T false P) (h80 : w 80 6 = nI (tm T)) (K : Q (mxF (fun u => P (20 + u)) 16) w) : wp_5_longest 89 w Q := by
  have h8 : tm T ≤ 8 := hB.2.2.1.2.2.2.1
  have e16 : mxF (fun u => P (20 + u)) 16 = mxF (fun a => mx (P (20 + a)) (P (28 + a))) (tm T) := by
    refine mxF_e (fun i hi => ?_) (fun i hi => ?_)
    · rcases Nat.lt_or_ge i 8 with c | c
      · rcases Nat.lt_or_ge i (tm T) with d | d
        · refine Int.le_trans ?_ (mxF_i (fun a => mx (P (20 + a)) (P (28 + a))) d)
          simp only [ti_mx]
          exact Int.le_max_left _ _
        · have := (hG.2.2.2.1 i hi).2.1 (hG.2.2.2.2 i d c).1
          simp only [this.2]
          exact mxF_0 _ _
      · rcases Nat.lt_or_ge (i - 8) (tm T) with d | d
        · refine Int.le_trans ?_ (mxF_i (fun a => mx (P (20 + a)) (P (28 + a))) d)
          simp only [ti_mx]
          rw [show 28 + (i - 8) = 20 + i by omega]
          exact Int.le_max_right _ _
        · have z := (hG.2.2.2.2 (i - 8) d (by omega)).2
          rw [show 12 + (i - 8) = 4 + i by omega] at z
          have := (hG.2.2.2.1 i hi).2.1 z
          simp only [this.2]
          exact mxF_0 _ _
    · simp only [ti_mx]
      refine Int.max_le.mpr ⟨mxF_i (fun u => P (20 + u)) (show i < 16 by omega), ?_⟩
      have := mxF_i (fun u => P (20 + u)) (show 8 + i < 16 by omega)
      rw [show 20 + (8 + i) = 28 + i by omega] at this
      exact this
  rw [e16] at K
  refine pk_loop (fun n i (z : Int32) => wp_5_longest_b4 89 Q n z (nI i) w) (fun i z => z = mxF (fun a => mx (P (20 + a)) (P (28 + a))) i) (tm T) 0 0 (by omega) rfl (fun n z hz => ?_) (fun n i z hi hz L => ?_)
  · subst hz
    unfold wp_5_longest_b4
    rw [h80]
    exact pk_le (tm T) (tm T) (fun _ => K) (fun q => absurd q (by omega))
  · subst hz
    unfold wp_5_longest_b4
    rw [h80]
    refine pk_le (tm T) i (fun q => absurd q (by omega)) (fun _ => ?_)
    refine c_cell (q := 0) (c := 0) (by omega) (by omega) (by omega) (c_cell (q := 1) (c := 0) (by omega) (by omega) (by omega) (fun x5 e5 x6 e6 => ?_))
    rw [hP.2.2.2.1 _ 0 (by omega) (by omega), hP.2.2.2.1 _ 0 (by omega) (by omega), show 4 + 16 * (0 + 1) + (8 * 0 + i) = 20 + i by omega, show 4 + 16 * (0 + 1) + (8 * 1 + i) = 28 + i by omega] at e5
    rw [nI_1] at e6
    subst e5
    subst e6
    exact L _ rfl
theorem sim_count (a1 : Int32) : SIM (wp_11_count a1) (wp_12_count a1) := by
  rintro w wm wl ⟨T, s, h⟩
  obtain ⟨hC, hR, hP, hS⟩ := h.1
  have hE : REL w wm wl := ⟨T, s, h⟩
  have hs := hR.1
  have hG := hR.2.2.2.2.2.2
  have hB := hR.2.2.2.1
  have iv : vp_in (wm 150 18) 2 := by rw [hR.2.1]; exact pk_in s 2 hs
  have h80 : w 80 6 = nI (tm T) := hC.1.2.2.2.2.1.1
  have h87 : w 80 7 = nI (tj T) := hC.1.2.2.2.2.1.2
  have e160 : wm 160 (ix (wm 150 18)) = nI (tm T) := by rw [hR.2.1, ix_nI (by omega)]; exact hR.2.2.1.2.2.1.1
  have e165 : wm 165 (ix (wm 150 18)) = nI (tj T) := by rw [hR.2.1, ix_nI (by omega)]; exact hR.2.2.1.2.2.1.2
  have tl : ∀ (a : Nat) (v : Int32), a < 16 → v = nI (tn T a) → wp_12_tell0 (nI a) wm wl (fun r w3 v5 => v = r ∧ REL w w3 v5) := fun a v ha ev => rb_tell hR ha ⟨ev, hE⟩
  -- the answers of the reference
  have rq : ∀ v : Int32, (a1 = 0 → v = nI (tm T)) → (a1 = 1 → v = nI (tj T)) → (a1 = 2 → v = nI (tn T 0)) → (a1 = 3 → v = nI (tn T 1)) → (a1 = 4 → v = nI (tn T 2)) → (a1 = 5 → v = nI (tn T 10)) → (a1 = 6 → v = nI (tn T 14)) → (a1 = 7 → v = sumN (byF (wm 180) (nI (tn T 1))) 16) →
      (a1 = 8 → v = wm 150 2) → (a1 = 9 → v = wm 150 64) → (a1 = 10 → v = wm 150 66) → (a1 = 11 → v = sumN (wm 187) 3) → (a1 = 12 → v = mxF (fun u => wm 180 (20 + u)) 16) →
      (¬ a1 = 0 → ¬ a1 = 1 → ¬ a1 = 2 → ¬ a1 = 3 → ¬ a1 = 4 → ¬ a1 = 5 → ¬ a1 = 6 → ¬ a1 = 7 → ¬ a1 = 8 → ¬ a1 = 9 → ¬ a1 = 10 → ¬ a1 = 11 → ¬ a1 = 12 → v = -1) → wp_12_count a1 wm wl (fun y wm2 wl2 => v = y ∧ REL w wm2 wl2) := by
    intro v k0 k1 k2 k3 k4 k5 k6 k7 k8 k9 k10 k11 k12 k13
    refine ⟨fun q => ⟨iv, ?_, hE⟩, fun n0 => ⟨fun q => ⟨iv, ?_, hE⟩, fun n1 => ⟨fun q => ?_, fun n2 => ⟨fun q => ?_, fun n3 => ⟨fun q => ?_, fun n4 => ⟨fun q => tl 10 v (by omega) (k5 q), fun n5 => ⟨fun q => tl 14 v (by omega) (k6 q), fun n6 => ⟨fun q => ?_, fun n7 => ⟨fun q => ⟨k8 q, hE⟩, fun n8 => ⟨fun q => ⟨k9 q, hE⟩, fun n9 => ⟨fun q => ⟨k10 q, hE⟩, fun n10 => ⟨fun q => ?_, fun n11 => ⟨fun q => ?_, fun n12 => ⟨k13 n0 n1 n2 n3 n4 n5 n6 n7 n8 n9 n10 n11 n12, hE⟩⟩⟩⟩⟩⟩⟩⟩⟩⟩⟩⟩⟩⟩
    · rw [e160]; exact k0 q
    · rw [e165]; exact k1 q
    · have := tl 0 v (by omega) (k2 q); rw [q]; exact this
    · have := tl 1 v (by omega) (k3 q); rw [q]; exact this
    · have := tl 2 v (by omega) (k4 q); rw [q]; exact this
    · refine pk_loop (fun n i (z : Int32) => wp_12_count_b114 (fun y wm2 wl2 => v = y ∧ REL w wm2 wl2) n z (nI i) wm wl) (fun i z => z = sumN (byF (wm 180) (nI (tn T 1))) i) 16 0 0 (by omega) rfl (fun n z hz => ?_) (fun n i z hi hz L => ?_)
      · subst hz
        exact pk_le 16 16 (fun _ => ⟨k7 q, hE⟩) (fun q => absurd q (by omega))
      · subst hz
        refine pk_le 16 i (fun q => absurd q (by omega)) (fun _ => ?_)
        rw [show (4 : Int32) + nI i = nI (4 + i) from nI_add 4 i, show (20 : Int32) + nI i = nI (20 + i) from nI_add 20 i]
        refine ⟨vp_in_nI (by omega) (by decide), ?_⟩
        rw [ix_nI (by omega), ix_nI (by omega)]
        have e : sumN (byF (wm 180) (nI (tn T 1))) (i + 1) = sumN (byF (wm 180) (nI (tn T 1))) i + byF (wm 180) (nI (tn T 1)) i := rfl
        unfold byF at e
        refine ⟨fun q x1 e1 => ?_, fun q => ⟨vp_in_nI (by omega) (by decide), rb_tell (a := 1) hR (by omega) ⟨fun q2 x1 e1 => ?_, fun q2 x6 e6 x1 e1 => ?_⟩⟩⟩
        · rw [nI_1] at e1
          subst e1
          rw [if_neg q, Int32.add_zero] at e
          exact L _ e.symm
        · rw [nI_1] at e1
          subst e1
          rw [if_pos (Classical.not_not.mp q), if_neg (nlt.mpr q2), Int32.add_zero] at e
          exact L _ e.symm
        · rw [nI_1] at e1
          subst e1
          rw [if_pos (Classical.not_not.mp q), if_pos (Classical.not_not.mp (fun y => q2 (nlt.mp y)))] at e
          exact L _ (e6.trans e.symm)
    · obtain ⟨s0, s1, s2⟩ := (⟨(h.2.1.2.1 0 (by omega)).1, (h.2.1.2.1 1 (by omega)).1, (h.2.1.2.1 2 (by omega)).1⟩ : _ ∧ _ ∧ _)
      rw [s0.1] at s0
      rw [s1.1] at s1
      rw [s2.1] at s2
      have ev := k11 q
      have es : sumN (wm 187) 3 = ((0 + wm 187 0) + wm 187 1) + wm 187 2 := rfl
      rw [es, Int32.zero_add] at ev
      have i1 : ix (1 : Int32) = 1 := ix_nI (n := 1) (by omega)
      have i2 : ix (2 : Int32) = 2 := ix_nI (n := 2) (by omega)
      have b203 : ∀ x y, x = wm 187 0 → y = wm 187 1 → wp_12_count_b203 (fun y wm2 wl2 => v = y ∧ REL w wm2 wl2) x y wm wl := by
        intro x y ex ey
        unfold wp_12_count_b203
        rw [i2]
        refine ⟨fun z => ⟨?_, hE⟩, fun z => ⟨?_, hE⟩⟩
        · rw [ev, ex, ey, z]
        · rcases s2.2 with y2 | y2
          · exact absurd y2 z
          · rw [ev, ex, ey, y2]
      have b189 : ∀ x, x = wm 187 0 → wp_12_count_b189 (fun y wm2 wl2 => v = y ∧ REL w wm2 wl2) x wm wl := by
        intro x ex
        unfold wp_12_count_b189
        rw [i1]
        refine ⟨fun z => b203 _ _ ex z.symm, fun z => b203 _ _ ex ?_⟩
        rcases s1.2 with y2 | y2
        · exact absurd y2 z
        · exact y2.symm
      rw [ix0]
      refine ⟨fun z => b189 _ z.symm, fun z => b189 _ ?_⟩
      rcases s0.2 with y2 | y2
      · exact absurd y2 z
      · exact y2.symm
    · refine pk_loop (fun n i (z : Int32) => wp_12_count_b224 (fun y wm2 wl2 => v = y ∧ REL w wm2 wl2) n z (nI i) wm wl) (fun i z => z = mxF (fun u => wm 180 (20 + u)) i) 16 0 0 (by omega) rfl (fun n z hz => ?_) (fun n i z hi hz L => ?_)
      · subst hz
        exact pk_le 16 16 (fun _ => ⟨k12 q, hE⟩) (fun q => absurd q (by omega))
      · subst hz
        refine pk_le 16 i (fun q => absurd q (by omega)) (fun _ => ?_)
        rw [show (4 : Int32) + nI i = nI (4 + i) from nI_add 4 i, show (20 : Int32) + nI i = nI (20 + i) from nI_add 20 i]
        refine ⟨vp_in_nI (by omega) (by decide), ?_⟩
        rw [ix_nI (by omega), ix_nI (by omega)]
        have e : mxF (fun u => wm 180 (20 + u)) (i + 1) = mx (mxF (fun u => wm 180 (20 + u)) i) (wm 180 (20 + i)) := rfl
        refine ⟨fun q x1 e1 => ?_, fun q => ⟨vp_in_nI (by omega) (by decide), fun q2 x1 e1 => ?_, fun q2 => ⟨vp_in_nI (by omega) (by decide), fun x4 e4 x1 e1 => ?_⟩⟩⟩
        · rw [nI_1] at e1
          subst e1
          have z0 := (hG.2.2.2.1 i hi).2.1 (by
            rcases (hG.2.2.2.1 i hi).1 with y | y
            · exact y
            · exact absurd y q)
          rw [z0.2, mx_ge (by rw [Int32.le_iff_toInt_le]; exact mxF_0 _ _)] at e
          exact L _ e.symm
        · rw [nI_1] at e1
          subst e1
          rw [mx_ge q2] at e
          exact L _ e.symm
        · rw [nI_1] at e1
          subst e1
          have : mxF (fun u => wm 180 (20 + u)) i ≤ wm 180 (20 + i) := by
            rw [Int32.le_iff_toInt_le] at q2 ⊢
            omega
          rw [mx_le this] at e
          exact L _ (e4.trans e.symm)
  obtain ⟨nt, nt1, nt2, nt3, nt4⟩ := h.2.1.2.2.2
  obtain ⟨no, no1, no2, no3, no4⟩ := h.2.1.2.2.1
  obtain ⟨nh, nx, nh1, nh2, nh3, nh4, nh5, nh6⟩ := h.2.1.1
  have ab : ∀ {x y : Int32} {C : Prop}, a1 = x → ¬ x = y → a1 = y → C := fun e n z => absurd (e.symm.trans z) n
  refine ⟨fun q => rq _ (fun _ => h80) (ab q (by decide)) (ab q (by decide)) (ab q (by decide)) (ab q (by decide)) (ab q (by decide)) (ab q (by decide)) (ab q (by decide)) (ab q (by decide)) (ab q (by decide)) (ab q (by decide)) (ab q (by decide)) (ab q (by decide)) (fun z => absurd q z),
    fun n0 => ⟨fun q => rq _ (fun z => absurd z n0) (fun _ => h87) (ab q (by decide)) (ab q (by decide)) (ab q (by decide)) (ab q (by decide)) (ab q (by decide)) (ab q (by decide)) (ab q (by decide)) (ab q (by decide)) (ab q (by decide)) (ab q (by decide)) (ab q (by decide)) (fun _ z => absurd q z),
    fun n1 => ⟨fun q => rq _ (fun z => absurd z n0) (fun z => absurd z n1) (fun _ => hC.1.2.1 0 (by omega)) (ab q (by decide)) (ab q (by decide)) (ab q (by decide)) (ab q (by decide)) (ab q (by decide)) (ab q (by decide)) (ab q (by decide)) (ab q (by decide)) (ab q (by decide)) (ab q (by decide)) (fun _ _ z => absurd q z),
    fun n2 => ⟨fun q => rq _ (fun z => absurd z n0) (fun z => absurd z n1) (fun z => absurd z n2) (fun _ => hC.1.2.1 1 (by omega)) (ab q (by decide)) (ab q (by decide)) (ab q (by decide)) (ab q (by decide)) (ab q (by decide)) (ab q (by decide)) (ab q (by decide)) (ab q (by decide)) (ab q (by decide)) (fun _ _ _ z => absurd q z),
    fun n3 => ⟨fun q => rq _ (fun z => absurd z n0) (fun z => absurd z n1) (fun z => absurd z n2) (fun z => absurd z n3) (fun _ => hC.1.2.1 2 (by omega)) (ab q (by decide)) (ab q (by decide)) (ab q (by decide)) (ab q (by decide)) (ab q (by decide)) (ab q (by decide)) (ab q (by decide)) (ab q (by decide)) (fun _ _ _ _ z => absurd q z),
    fun n4 => ⟨fun q => rq _ (fun z => absurd z n0) (fun z => absurd z n1) (fun z => absurd z n2) (fun z => absurd z n3) (fun z => absurd z n4) (fun _ => hC.1.2.2.2.1 10 (by omega) (by omega)) (ab q (by decide)) (ab q (by decide)) (ab q (by decide)) (ab q (by decide)) (ab q (by decide)) (ab q (by decide)) (ab q (by decide)) (fun _ _ _ _ _ z => absurd q z),
    fun n5 => ⟨fun q => rq _ (fun z => absurd z n0) (fun z => absurd z n1) (fun z => absurd z n2) (fun z => absurd z n3) (fun z => absurd z n4) (fun z => absurd z n5) (fun _ => hC.1.2.2.2.1 14 (by omega) (by omega)) (ab q (by decide)) (ab q (by decide)) (ab q (by decide)) (ab q (by decide)) (ab q (by decide)) (ab q (by decide)) (fun _ _ _ _ _ _ z => absurd q z),
    fun n6 => ⟨fun q => ?_, fun n7 => ⟨fun q => ?_, fun n8 => ⟨fun q => ?_, fun n9 => ⟨fun q => ?_, fun n10 => ⟨fun q => ?_, fun n11 => ⟨fun q => ?_, fun n12 => ?_⟩⟩⟩⟩⟩⟩⟩⟩⟩⟩⟩⟩⟩
  · refine c_beyond hB hP hG h80 ?_
    rw [show w 48 8 = nI (tn T 1) from hC.1.2.1 1 (by omega)]
    exact rq _ (fun z => absurd z n0) (fun z => absurd z n1) (fun z => absurd z n2) (fun z => absurd z n3) (fun z => absurd z n4) (fun z => absurd z n5) (fun z => absurd z n6) (fun _ => rfl) (ab q (by decide)) (ab q (by decide)) (ab q (by decide)) (ab q (by decide)) (ab q (by decide)) (fun _ _ _ _ _ _ _ z => absurd q z)
  · exact rq _ (fun z => absurd z n0) (fun z => absurd z n1) (fun z => absurd z n2) (fun z => absurd z n3) (fun z => absurd z n4) (fun z => absurd z n5) (fun z => absurd z n6) (fun z => absurd z n7) (fun _ => nt2.trans nt3.symm) (ab q (by decide)) (ab q (by decide)) (ab q (by decide)) (ab q (by decide)) (fun _ _ _ _ _ _ _ _ z => absurd q z)
  · exact rq _ (fun z => absurd z n0) (fun z => absurd z n1) (fun z => absurd z n2) (fun z => absurd z n3) (fun z => absurd z n4) (fun z => absurd z n5) (fun z => absurd z n6) (fun z => absurd z n7) (fun z => absurd z n8) (fun _ => nh3.trans nh5.symm) (ab q (by decide)) (ab q (by decide)) (ab q (by decide)) (fun _ _ _ _ _ _ _ _ _ z => absurd q z)
  · exact rq _ (fun z => absurd z n0) (fun z => absurd z n1) (fun z => absurd z n2) (fun z => absurd z n3) (fun z => absurd z n4) (fun z => absurd z n5) (fun z => absurd z n6) (fun z => absurd z n7) (fun z => absurd z n8) (fun z => absurd z n9) (fun _ => no2.trans no3.symm) (ab q (by decide)) (ab q (by decide)) (fun _ _ _ _ _ _ _ _ _ _ z => absurd q z)
  · have fin : wp_12_count a1 wm wl (fun y wm2 wl2 => sumN (wm 187) 3 = y ∧ REL w wm2 wl2) := rq _ (fun z => absurd z n0) (fun z => absurd z n1) (fun z => absurd z n2) (fun z => absurd z n3) (fun z => absurd z n4) (fun z => absurd z n5) (fun z => absurd z n6) (fun z => absurd z n7) (fun z => absurd z n8) (fun z => absurd z n9) (fun z => absurd z n10) (fun _ => rfl) (ab q (by decide)) (fun _ _ _ _ _ _ _ _ _ _ _ z => absurd q z)
    refine pk_loop (fun n i (z : Int32) => wp_6_countHeld_b4 (fun r4 w3 => wp_12_count a1 wm wl (fun y wm2 wl2 => r4 = y ∧ REL w3 wm2 wl2)) n z (nI i) w) (fun i z => z = sumN (wm 187) i) 3 0 0 (by omega) rfl (fun n z hz => ?_) (fun n i z hi hz L => ?_)
    · subst hz
      exact pk_le 3 3 (fun _ => fin) (fun q => absurd q (by omega))
    · subst hz
      refine pk_le 3 i (fun q => absurd q (by omega)) (fun _ => ⟨pk_in i 3 hi, ?_⟩)
      rw [ix_nI (by omega)]
      obtain ⟨e1, e2⟩ := (h.2.1.2.1 i hi).1
      have b24 : ∀ v, v = wm 187 i → wp_6_countHeld_b24 (fun r4 w3 => wp_12_count a1 wm wl (fun y wm2 wl2 => r4 = y ∧ REL w3 wm2 wl2)) (wp_6_countHeld_b4 (fun r4 w3 => wp_12_count a1 wm wl (fun y wm2 wl2 => r4 = y ∧ REL w3 wm2 wl2)) n) (nI i) (sumN (wm 187) i) v w := by
        intro v ev x1 e1 x2 e2
        rw [nI_1] at e2
        subst e2
        exact L _ (by rw [e1, ev]; rfl)
      refine ⟨fun z => b24 _ (by rw [← e1, z]), fun z => b24 _ ?_⟩
      rcases e2 with y | y
      · exact absurd y z
      · rw [← e1, y]
  · refine c_longest hB hP hG h80 ?_
    exact rq _ (fun z => absurd z n0) (fun z => absurd z n1) (fun z => absurd z n2) (fun z => absurd z n3) (fun z => absurd z n4) (fun z => absurd z n5) (fun z => absurd z n6) (fun z => absurd z n7) (fun z => absurd z n8) (fun z => absurd z n9) (fun z => absurd z n10) (fun z => absurd z n11) (fun _ => rfl) (fun _ _ _ _ _ _ _ _ _ _ _ _ z => absurd q z)
  · exact rq _ (fun z => absurd z n0) (fun z => absurd z n1) (fun z => absurd z n2) (fun z => absurd z n3) (fun z => absurd z n4) (fun z => absurd z n5) (fun z => absurd z n6) (fun z => absurd z n7) (fun z => absurd z n8) (fun z => absurd z n9) (fun z => absurd z n10) (fun z => absurd z n11) (fun z => absurd z n12) (fun _ _ _ _ _ _ _ _ _ _ _ _ _ => rfl)
