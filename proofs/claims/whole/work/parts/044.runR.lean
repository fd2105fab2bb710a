/-- how many seconds he waits, of k still possible, n gone by -/
def wtS (T : TX) (sd t : Int32) (a : Nat) : Nat → Nat → Nat
  | 0, n => n
  | k + 1, n => if goesT T (nI n) (meanT T sd (t + nI n)) a then n else wtS T sd t a k (n + 1)
/-- one start by the law -/
def goP (T : TX) (sd : Int32) (lf : Bool) (P : Nat → Int32) : Nat → Int32 := stP T sd P (nxP T lf P) (P 0 + nI (wtS T sd (P 0) (nxP T lf P) (tn T 10) 0))
def runP (T : TX) (sd : Int32) (lf : Bool) : Nat → (Nat → Int32) → (Nat → Int32)
  | 0, P => P
  | n + 1, P => if sn P < szP T P then runP T sd lf n (goP T sd lf P) else P
def runN (T : TX) (sd : Int32) (lf : Bool) : Nat → (Nat → Int32) → Nat
  | 0, _ => 0
  | n + 1, P => if sn P < szP T P then runN T sd lf n (goP T sd lf P) + 1 else 0
def remP (T : TX) (P : Nat → Int32) : Nat := if rd P = 1 then (tm T - sn P) + n2 T else if rd P = 2 then n2 T - sn P else 0
theorem szP_8 {T : TX} {P : Nat → Int32} (hB : BT T) : szP T P ≤ 8 := by
  have := hB.2.2.1
  unfold szP n2
  split
  · omega
  · split
    · split <;> omega
    · omega
theorem remP_16 {T : TX} {P : Nat → Int32} (hB : BT T) : remP T P ≤ 16 := by
  have := hB.2.2.1
  have : n2 T ≤ 8 := by unfold n2; split <;> omega
  unfold remP
  split
  · omega
  · split <;> omega
theorem remP_st {T : TX} {lf : Bool} {sd t : Int32} {P : Nat → Int32} {a : Nat} (hB : BT T) (h : GW T lf P) (hs : sn P < szP T P) : remP T (stP T sd P a t) + 1 = remP T P := by
  obtain ⟨⟨g1, g3, r1, r3, s8, gs, g, gg, hg⟩, _⟩ := h
  have hq : rd P < 3 := szP_q (T := T) (by omega)
  have s8 := szP_8 (P := P) hB
  rcases Nat.lt_or_ge (sn P + 1) (szP T P) with c | c
  · have d1 := rd_of (P := stP T sd P a t) (n := rd P) (by rw [stP_1, if_pos c]; exact g1) (by omega)
    have d3 := sn_of (P := stP T sd P a t) (n := sn P + 1) (by rw [stP_3, if_pos c]) (by omega)
    unfold remP
    rw [d1, d3]
    unfold szP at hs c
    split
    · rename_i z
      rw [if_pos z] at hs c
      omega
    · rename_i z
      rw [if_neg z] at hs c
      split
      · rename_i z2
        rw [if_pos z2] at hs c
        omega
      · omega
  · have d1 := rd_of (P := stP T sd P a t) (n := rd P + 1) (by rw [stP_1, if_neg (by omega)]) (by omega)
    have d3 := sn_of (P := stP T sd P a t) (n := 0) (by rw [stP_3, if_neg (by omega)]; rfl) (by omega)
    unfold remP
    rw [d1, d3]
    unfold szP at hs c
    rw [if_neg (by omega)]
    by_cases z : rd P = 1
    · rw [if_pos z] at hs c ⊢
      rw [if_pos (by omega)]
      omega
    · have z2 : rd P = 2 := by omega
      rw [if_neg z, if_pos z2] at hs c ⊢
      rw [if_neg (show ¬ rd P + 1 = 2 by omega)]
      omega
theorem remP_0 {T : TX} {P : Nat → Int32} (h : remP T P = 0) : ¬ sn P < szP T P := by
  unfold remP at h
  unfold szP
  split
  · rename_i z
    rw [if_pos z] at h
    omega
  · rename_i z
    rw [if_neg z] at h
    split
    · rename_i z2
      rw [if_pos z2] at h
      omega
    · omega
theorem gw_go {T : TX} {lf : Bool} {sd : Int32} {P : Nat → Int32} (hB : BT T) (h : GW T lf P) (hs : sn P < szP T P) : GW T lf (goP T sd lf P) := gw_st hB h hs
theorem gw_run {T : TX} {lf : Bool} {sd : Int32} (hB : BT T) : ∀ (n : Nat) (P : Nat → Int32), GW T lf P → GW T lf (runP T sd lf n P)
  | 0, _, h => h
  | n + 1, P, h => by
    simp only [runP]
    split
    · exact gw_run hB n _ (gw_go hB h ‹_›)
    · exact h
theorem runN_0 {T : TX} {lf : Bool} {sd : Int32} {n : Nat} {P : Nat → Int32} : runN T sd lf (n + 1) P = 0 ↔ ¬ sn P < szP T P := by
  simp only [runN]
  split <;> simp_all
theorem runN_le {T : TX} {lf : Bool} {sd : Int32} : ∀ (n : Nat) (P : Nat → Int32), runN T sd lf n P ≤ n
  | 0, _ => Nat.le_refl _
  | n + 1, P => by
    have := runN_le (T := T) (lf := lf) (sd := sd) n (goP T sd lf P)
    simp only [runN]
    split <;> omega
/-- what play needs of the reference's memory -/
def RP (s : Nat) (T : TX) (sd : Int32) (lf : Bool) (w : Mem) : Prop := RT s T sd w ∧ w 150 61 = -1 ∧ w 150 50 = bI lf ∧ GW T lf (w 181)
theorem rp_fp {s : Nat} {T : TX} {sd : Int32} {lf : Bool} {w w2 : Mem} (h : RP s T sd lf w) (f : frP w w2) (g : GW T lf (w2 181)) : RP s T sd lf w2 :=
  ⟨rt_fp h.1 f, (f 150 61 (by decide) (by decide)).trans h.2.1, (f 150 50 (by decide) (by decide)).trans h.2.2.1, g⟩
theorem r_starts {s : Nat} {T : TX} {sd : Int32} {lf : Bool} {w : Mem} {wl : MemL} {Q : Mem → MemL → Prop} (h : RP s T sd lf w) (hz : sn (w 181) < szP T (w 181)) (K : ∀ w2, frP w w2 → w2 181 = goP T sd lf (w 181) → Q w2 wl) : wp_12_starts w wl Q := by
  have hB := h.1.2.2.2.1
  have g10 : tn T 10 ≤ 30 := hB.2.1.2.2.1
  have ha : nxP T lf (w 181) < tm T := odP_lt hB h.2.2.2.1.2.2.1 hz
  refine r_next h.1 h.2.2.2 h.2.2.1 (fun q => absurd q (by omega)) (fun _ => ?_)
  have b32 : ∀ z i, frW w z → wtS T sd (w 181 0) (nxP T lf (w 181)) (tn T 10) 0 = i → wp_12_starts_b32 Q (nI (nxP T lf (w 181))) (nI i) z wl := by
    intro z i f e
    subst e
    have e181 : z 181 = w 181 := fw_row f 181 (by decide) (by decide) (by decide)
    have fz : frP w z := fp_rf (fw_rf (rf_re w) f)
    unfold wp_12_starts_b32
    refine r_letsGo (lf := lf) (rt_fw h.1 f) ((f 150 61 (by decide) (by decide) (by decide)).trans h.2.1) (by rw [e181]; exact h.2.2.2) (by rw [e181]; exact hz) ha (fun w2 f2 e2 _ => K w2 (fp_tr fz f2) ?_)
    rw [e2, e181]
    rfl
  refine pk_loop (fun n i (z : Mem) => wp_12_starts_b7 Q n (nI (nxP T lf (w 181))) (nI i) z wl)
    (fun i z => frW w z ∧ wtS T sd (w 181 0) (nxP T lf (w 181)) (tn T 10) 0 = wtS T sd (w 181 0) (nxP T lf (w 181)) (tn T 10 - i) i) (tn T 10) 0 w (by omega) ⟨fw_re w, rfl⟩ (fun n z hz => ?_) (fun n i z hi hz L => ?_)
  · obtain ⟨f, e⟩ := hz
    refine r_tell (a := 10) (rt_fw h.1 f) (by omega) ?_
    rw [Nat.sub_self] at e
    exact pk_le (tn T 10) (tn T 10) (fun _ => b32 z _ f e) (fun q => absurd q (by omega))
  · obtain ⟨f, e⟩ := hz
    have e181 : z 181 = w 181 := fw_row f 181 (by decide) (by decide) (by decide)
    refine r_tell (a := 10) (rt_fw h.1 f) (by omega) ?_
    refine pk_le (tn T 10) i (fun q => absurd q (by omega)) (fun _ => ?_)
    rw [show tn T 10 - i = (tn T 10 - (i + 1)) + 1 by omega] at e
    simp only [wtS] at e
    refine r_isLetGo (rt_fw h.1 f) ha (fun w4 f4 => ?_)
    rw [e181]
    refine ⟨fun q => ?_, fun q => ?_⟩
    · rw [if_neg q] at e
      refine ⟨fun z => absurd rfl z, fun _ x7 e7 => ?_⟩
      rw [nI_1] at e7
      subst e7
      exact L _ ⟨fw_tr f f4, e⟩
    · rw [if_pos q] at e
      exact ⟨fun _ => b32 w4 i (fw_tr f f4) e, fun z => absurd (by decide) z⟩
theorem r_startsAll {s : Nat} {T : TX} {sd : Int32} {lf : Bool} {wl : MemL} {Q : Mem → MemL → Prop} : ∀ (k : Nat) (w : Mem), RP s T sd lf w → remP T (w 181) ≤ k → (∀ w2, frP w w2 → w2 181 = runP T sd lf k (w 181) → Q w2 wl) → wp_12_startsAll_b0 Q (k + 1) w wl
  | 0, w, h, hr, K => by
    have := remP_0 (show remP T (w 181) = 0 by omega)
    have gs := h.2.2.2.1.2.2.2.2.2.1
    refine r_next h.1 h.2.2.2 h.2.2.1 (fun q => ⟨fun _ => K w (fp_re w) rfl, fun q => absurd (by decide) q⟩) (fun q => absurd q this)
  | k + 1, w, h, hr, K => by
    have hB := h.1.2.2.2.1
    refine r_next h.1 h.2.2.2 h.2.2.1 (fun q => ⟨fun _ => K w (fp_re w) ?_, fun q => absurd (by decide) q⟩) (fun q => ⟨fun q2 => ?_, fun _ => ?_⟩)
    · simp only [runP]
      rw [if_neg (by omega)]
    · have ha : nxP T lf (w 181) < tm T := odP_lt hB h.2.2.2.1.2.2.1 q
      exact absurd q2 (nI_pos (by have := hB.2.2.1; omega))
    · refine r_starts h q (fun w2 f2 e2 => ?_)
      have g2 : GW T lf (w2 181) := by rw [e2]; exact gw_go hB h.2.2.2 q
      refine r_startsAll k w2 (rp_fp h f2 g2) ?_ (fun w3 f3 e3 => K w3 (fp_tr f2 f3) ?_)
      · have := remP_st (sd := sd) (t := w 181 0 + nI (wtS T sd (w 181 0) (nxP T lf (w 181)) (tn T 10) 0)) (a := nxP T lf (w 181)) hB h.2.2.2 q
        rw [e2]
        unfold goP
        omega
      · rw [e3, e2]
        simp only [runP]
        rw [if_pos q]
theorem r_run {s N : Nat} {T : TX} {sd : Int32} {lf : Bool} {wl : MemL} {Q : Int32 → Mem → MemL → Prop} (hN : N < 100) : ∀ (k i : Nat) (w : Mem), i + k = N → RP s T sd lf w → (∀ w2, frP w w2 → w2 181 = runP T sd lf k (w 181) → wp_12_start_b40 Q (nI (i + runN T sd lf k (w 181))) w2 wl) → wp_12_start_b18 Q (k + 1) (nI N) (nI i) w wl
  | 0, i, w, e, h, K => by
    subst e
    exact pk_le (i + 0) i (fun _ => K w (fp_re w) rfl) (fun q => absurd q (by omega))
  | k + 1, i, w, e, h, K => by
    have hB := h.1.2.2.2.1
    refine pk_le N i (fun q => absurd q (by omega)) (fun _ => ?_)
    refine r_next h.1 h.2.2.2 h.2.2.1 (fun q => ⟨fun _ => ?_, fun q => absurd (by decide) q⟩) (fun q => ⟨fun q2 => ?_, fun _ => ?_⟩)
    · have := K w (fp_re w) (by simp only [runP]; rw [if_neg (by omega)])
      simp only [runN] at this
      rw [if_neg (by omega)] at this
      exact this
    · have ha : nxP T lf (w 181) < tm T := odP_lt hB h.2.2.2.1.2.2.1 q
      exact absurd q2 (nI_pos (by have := hB.2.2.1; omega))
    · refine r_starts h q (fun w2 f2 e2 x6 e6 => ?_)
      rw [nI_1] at e6
      subst e6
      have g2 : GW T lf (w2 181) := by rw [e2]; exact gw_go hB h.2.2.2 q
      refine r_run hN k (i + 1) w2 (by omega) (rp_fp h f2 g2) (fun w3 f3 e3 => ?_)
      have := K w3 (fp_tr f2 f3) (by rw [e3, e2]; simp only [runP]; rw [if_pos q])
      simp only [runN] at this
      rw [if_pos q] at this
      rw [e2, show i + 1 + runN T sd lf k (goP T sd lf (w 181)) = i + (runN T sd lf k (goP T sd lf (w 181)) + 1) by omega]
      exact this
