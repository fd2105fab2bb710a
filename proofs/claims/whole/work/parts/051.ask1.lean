theorem t1 {A B : Prop} (b : B) : ((1 : Int32) = 0 → A) ∧ (¬ (1 : Int32) = 0 → B) := ⟨fun q => absurd q (by decide), fun _ => b⟩
theorem t0 {A B : Prop} (a : A) : ((0 : Int32) = 0 → A) ∧ (¬ (0 : Int32) = 0 → B) := ⟨fun _ => a, fun q => absurd rfl q⟩
theorem u1 {A B : Prop} (a : A) : (¬ (1 : Int32) = 0 → A) ∧ (¬ ¬ (1 : Int32) = 0 → B) := ⟨fun _ => a, fun q => absurd (by decide) q⟩
theorem u0 {A B : Prop} (b : B) : (¬ (0 : Int32) = 0 → A) ∧ (¬ ¬ (0 : Int32) = 0 → B) := ⟨fun q => absurd rfl q, fun _ => b⟩
def gL (T : TX) (tw : Int32) (a : Nat) (la g ah : Int32) : Int32 := lenT T tw (nI (ta T 0 a)) (nI (ta T 1 a)) la ah g
def gS (T : TX) (tw : Int32) (a : Nat) (la ln : Int32) : Int32 := styT (markT T a tw la ln) (-1) (tj T)
def gP (T : TX) (tw mw : Int32) (a : Nat) (la g ln : Int32) : Int32 := ptsT T ln (gS T tw a la ln) (givT T mw) g
theorem jL_g (T : TX) (sd : Int32) (a : Nat) (t la g ah : Int32) : jL T sd a t la g ah = gL T (trueT T sd t) a la g ah := rfl
theorem jS_g (T : TX) (sd : Int32) (a : Nat) (t la g ah : Int32) : jS T sd a t la g ah = gS T (trueT T sd t) a la (gL T (trueT T sd t) a la g ah) := rfl
theorem jP_g (T : TX) (sd : Int32) (a : Nat) (t la g ah : Int32) : jP T sd a t la g ah = gP T (trueT T sd t) (meanT T sd t) a la g (gL T (trueT T sd t) a la g ah) := rfl
theorem c_jumpNow {T : TX} {sd la g ah pt : Int32} {a : Nat} {w0 w : Mem} {tw mw ln sy po : Int32} {mk : Nat → Int32} {Q : Int32 → Mem → Prop} (hT : CT T sd w0) (h : CF w0 tw mw ln sy po mk w) (ha : a < tm T)
    (K0 : pt = 0 → ∀ w2, CF w0 tw mw (gL T tw a la g ah) sy po mk w2 → Q (gL T tw a la g ah) w2)
    (K1 : ¬ pt = 0 → ∀ w2 mk2, CF w0 tw mw (gL T tw a la g ah) (gS T tw a la (gL T tw a la g ah)) (gP T tw mw a la g (gL T tw a la g ah)) mk2 w2 → Q (gP T tw mw a la g (gL T tw a la g ah)) w2) : wp_11_jumpNow (nI a) la g ah pt w Q := by
  refine c_reachOf hT h ha (fun w1 f1 => ⟨fun q => ⟨fun _ => ?_, fun q2 => absurd q q2⟩, fun q => c_judge hT f1 ha (fun w3 mk2 f3 _ => ⟨fun q2 => absurd q2 q, fun _ => ?_⟩)⟩)
  · rw [f1.2.1.2.2.1]
    exact K0 q w1 f1
  · rw [f3.2.1.2.2.2.2]
    exact K1 q w3 mk2 f3
theorem c_tryOut {T : TX} {sd n la pt : Int32} {a : Nat} {P : Nat → Int32} {w0 w : Mem} {tw mw ln sy po : Int32} {mk : Nat → Int32} {Q : Int32 → Mem → Prop} (hT : CT T sd w0) (hP : PL T false P 89 w0) (h : CF w0 tw mw ln sy po mk w) (ha : a < tm T)
    (K0 : pt = 0 → ∀ w2, CF w0 (trueT T sd (P 0 + n)) (meanT T sd (P 0 + n)) (jL T sd a (P 0 + n) la (P 2) (P 3)) sy po mk w2 → Q (jL T sd a (P 0 + n) la (P 2) (P 3)) w2)
    (K1 : ¬ pt = 0 → ∀ w2 mk2, CF w0 (trueT T sd (P 0 + n)) (meanT T sd (P 0 + n)) (jL T sd a (P 0 + n) la (P 2) (P 3)) (jS T sd a (P 0 + n) la (P 2) (P 3)) (jP T sd a (P 0 + n) la (P 2) (P 3)) mk2 w2 → Q (jP T sd a (P 0 + n) la (P 2) (P 3)) w2) : wp_11_tryOut (nI a) n la pt w Q := by
  have e4 : w 89 4 = P 0 := (h.1 89 4 (by decide)).trans hP.1.1
  unfold wp_11_tryOut
  rw [e4]
  refine c_blow hT h (fun w1 f1 => ?_)
  rw [(f1.1 89 6 (by decide)).trans hP.1.2.2.1, (f1.1 89 7 (by decide)).trans hP.1.2.2.2.1]
  exact c_jumpNow hT f1 ha K0 K1
/-- a try of the reference, and what it leaves for another one -/
def TRY (s : Nat) (T : TX) (a : Nat) (t la g ah : Int32) (P : Nat → Int32) (w w2 : Mem) : Prop :=
  (frO2 w w2 ∧ w2 181 = P ∧ RB s T w2 ∧ RT s T (nI (tn T 15)) w2) ∧ (w2 150 51 = nI a ∧ w2 150 52 = la ∧ w2 150 53 = g ∧ w2 150 54 = ah ∧ w2 150 55 = trueT T (nI (tn T 15)) t ∧ w2 150 56 = meanT T (nI (tn T 15)) t ∧ w2 150 57 = 0 ∧ w2 150 58 = 0) ∧
  w2 150 59 = jL T (nI (tn T 15)) a t la g ah ∧ w2 150 62 = jS T (nI (tn T 15)) a t la g ah ∧ w2 150 63 = jP T (nI (tn T 15)) a t la g ah
/-- a jump, the row being copied -/
theorem r_jumpP {s a : Nat} {T : TX} {t la g ah : Int32} {P : Nat → Int32} {w w1 : Mem} {wl : MemL} {Q : Mem → MemL → Prop} (h : RB s T w) (f1 : frO2 w w1) (e1 : w1 181 = P) (z1 : ∀ i, 260 ≤ i → P i = 0) (hR : RT s T (nI (tn T 15)) w1) (ha : a < tm T)
    (K : ∀ w2, TRY s T a t la g ah P w w2 → Q w2 wl) : wp_12_setsJump (nI a) t la g ah w1 wl Q := by
  have b1 := rb_fo h f1 (by rw [e1]; exact z1)
  refine r_jump hR ha b1.2.2.2.2.1 (fun w2 f2 v2 j2 => K w2 ?_)
  have e2 : w2 181 = P := (rf_row f2 181 (fun j => by simp only [scR]; omega)).trans e1
  have g2 := fo_rf f1 f2
  exact ⟨⟨g2, e2, rb_fo h g2 (by rw [e2]; exact z1), rt_rf hR f2⟩, v2, j2.1, j2.2.1, j2.2.2.1⟩
theorem r_tries {s a : Nat} {T : TX} {n la : Int32} {w : Mem} {wl : MemL} {Q : Mem → MemL → Prop} (h : RB s T w) (ha : a < tm T)
    (K : ∀ w2, TRY s T a (w 180 0 + n) la (w 180 2) (w 180 3) (w 180) w w2 → Q w2 wl) : wp_12_tries (nI a) n la w wl Q := by
  refine r_copies h (fun w1 f1 e1 p1 b1 => ?_)
  rw [e1]
  exact r_jumpP h f1 e1 (fun i hi => (h.2.2.2.2.2.1 i hi).1) p1.1 ha K
theorem try_q {s a : Nat} {T : TX} {t la g ah : Int32} {w w2 wm wm2 : Mem} {wl : MemL} (h : RELt T s w wm wl) (f : fcO w w2) (k : TRY s T a t la g ah (wm 180) wm wm2) : REL w2 wm2 wl :=
  ⟨T, s, rel_q h f k.1.1 (by rw [k.1.2.1]; exact fun i hi => (h.1.2.1.2.2.2.2.2.1 i hi).1)⟩
theorem m8 {T : TX} {s : Nat} {w : Mem} (h : RB s T w) : tm T ≤ 8 := h.2.2.2.1.2.2.1.2.2.2.1
/-- what an answer of both sides must show -/
abbrev SIM (c : Mem → (Int32 → Mem → Prop) → Prop) (r : Mem → MemL → (Int32 → Mem → MemL → Prop) → Prop) : Prop :=
  ∀ w wm wl, REL w wm wl → c w (fun x w2 => r wm wl (fun y wm2 wl2 => x = y ∧ REL w2 wm2 wl2))
theorem sim_place : SIM wp_11_place wp_12_place := by
  rintro w wm wl ⟨T, s, h⟩
  exact ⟨h.2.2.1, T, s, h⟩
theorem sim_attempt (a1 a2 a3 a4 : Int32) : SIM (wp_11_attempt a1 a2 a3 a4) (wp_12_attempt a1 a2 a3 a4) := by
  rintro w wm wl ⟨T, s, h⟩
  obtain ⟨hC, hR, hP, hS⟩ := h.1
  have no : ¬ isM T a1 ∨ ¬ inR 0 999 a2 ∨ ¬ inR (-9) 9 a3 ∨ ¬ inR 0 2 a4 → wp_12_attempt a1 a2 a3 a4 wm wl (fun y wm2 wl2 => (-10000 : Int32) = y ∧ REL w wm2 wl2) := by
    intro q
    refine r_isMan hR (fun x1 => t1 (r_in (fun x2 => t1 (r_in (fun x3 => t1 (r_in (fun x4 => ?_) (fun _ => u0 ⟨rfl, T, s, h⟩))) (fun _ => t0 ⟨rfl, T, s, h⟩))) (fun _ => t0 ⟨rfl, T, s, h⟩))) (fun _ => t0 ⟨rfl, T, s, h⟩)
    rcases q with q | q | q | q
    · exact absurd x1 q
    · exact absurd x2 q
    · exact absurd x3 q
    · exact absurd x4 q
  refine c_isMan hC.1.2.2.2.2.1.1 (fun x1 => t1 (c_in (fun x2 => t1 (c_in (fun x3 => ⟨Or.inr rfl, t1 (c_in (fun x4 => u1 ?_) (fun q => u0 (no (Or.inr (Or.inr (Or.inr q))))))⟩) (fun q => ⟨Or.inl rfl, t0 (no (Or.inr (Or.inr (Or.inl q))))⟩))) (fun q => t0 (no (Or.inr (Or.inl q)))))) (fun q => t0 (no (Or.inl q)))
  obtain ⟨a, ha, rfl⟩ := inR_man (m8 hR) x1
  refine c_tryOut hC hP (cf_re w) ha (fun q => absurd q (by decide)) (fun _ w2 mk2 f2 => ?_)
  have fo : fcO w w2 := fc_cf (fc_re w) f2.1
  have go : ∀ v2 : Int32, ((a4 = 0 → v2 = w2 87 5) ∧ (¬ a4 = 0 → a4 = 1 → v2 = w2 87 7) ∧ (¬ a4 = 0 → ¬ a4 = 1 → v2 = w2 87 6)) → wp_12_attempt (nI a) a2 a3 a4 wm wl (fun y wm2 wl2 => v2 = y ∧ REL w2 wm2 wl2) := by
    rintro v2 ⟨k1, k2, k3⟩
    refine r_isMan hR (fun _ => t1 (r_in (fun _ => t1 (r_in (fun _ => t1 (r_in (fun _ => u1 (r_tries hR ha (fun wm2 k => ?_))) (fun q => absurd x4 q))) (fun q => absurd x3 q))) (fun q => absurd x2 q))) (fun q => absurd x1 q)
    have e := try_q h fo k
    refine ⟨fun q0 => ⟨fun q1 => ⟨?_, e⟩, fun q1 => ⟨?_, e⟩⟩, fun q0 => ⟨?_, e⟩⟩
    · rw [k3 q0 q1, f2.2.1.2.2.2.1, k.2.2.2.1]
    · rw [k2 q0 (Classical.not_not.mp q1), f2.2.1.2.2.2.2, k.2.2.2.2]
    · rw [k1 (Classical.not_not.mp q0), f2.2.1.2.2.1, k.2.2.1]
  refine ⟨fun q => go _ ⟨fun _ => rfl, fun z => absurd q z, fun z => absurd q z⟩, fun q => ⟨fun q1 => go _ ⟨fun z => absurd z q, fun _ _ => rfl, fun _ z => absurd q1 z⟩, fun q1 => go _ ⟨fun z => absurd z q, fun _ z => absurd z q1, fun _ _ => rfl⟩⟩⟩
theorem sim_cost (a1 a2 a3 : Int32) : SIM (wp_11_cost a1 a2 a3) (wp_12_cost a1 a2 a3) := by
  rintro w wm wl ⟨T, s, h⟩
  obtain ⟨hC, hR, hP, hS⟩ := h.1
  have no : ¬ isM T a1 ∨ ¬ inR (-9) 9 a2 → wp_12_cost a1 a2 a3 wm wl (fun y wm2 wl2 => (-10000 : Int32) = y ∧ REL w wm2 wl2) := by
    intro q
    refine r_isMan hR (fun x1 => t1 (r_in (fun x2 => ?_) (fun _ => u0 ⟨rfl, T, s, h⟩))) (fun _ => t0 ⟨rfl, T, s, h⟩)
    rcases q with q | q
    · exact absurd x1 q
    · exact absurd x2 q
  refine c_isMan hC.1.2.2.2.2.1.1 (fun x1 => t1 (c_in (fun x2 => ⟨Or.inr rfl, u1 ?_⟩) (fun q => ⟨Or.inl rfl, u0 (no (Or.inr q))⟩))) (fun q => t0 (no (Or.inl q)))
  obtain ⟨a, ha, rfl⟩ := inR_man (m8 hR) x1
  have fin : ∀ v1 v2 w2, fcO w w2 → (a3 = 0 → v1 = jL T (nI (tn T 15)) a (wm 180 0 + 0) 0 (wm 180 2) (wm 180 3) ∧ v2 = jL T (nI (tn T 15)) a (wm 180 0 + 0) a2 (wm 180 2) (wm 180 3)) → (¬ a3 = 0 → v1 = jP T (nI (tn T 15)) a (wm 180 0 + 0) 0 (wm 180 2) (wm 180 3) ∧ v2 = jP T (nI (tn T 15)) a (wm 180 0 + 0) a2 (wm 180 2) (wm 180 3)) →
      wp_12_cost (nI a) a2 a3 wm wl (fun y wm2 wl2 => v1 - v2 = y ∧ REL w2 wm2 wl2) := by
    intro v1 v2 w2 fo k1 k2
    refine r_isMan hR (fun _ => t1 (r_in (fun _ => u1 (r_tries hR ha (fun wm2 k => ?_))) (fun q => absurd x2 q))) (fun q => absurd x1 q)
    have e180 : wm2 180 = wm 180 := funext (fun j => k.1.1 180 j (by simp only [scR]; omega) (by omega) (by omega))
    have b45 : ∀ v0, v0 = v1 → wp_12_cost_b45 (fun y wm2 wl2 => v1 - v2 = y ∧ REL w2 wm2 wl2) (nI a) a2 a3 v0 wm2 wl := by
      intro v0 e0
      refine r_tries k.1.2.2.1 ha (fun wm3 k3 => ?_)
      rw [e180] at k3
      have e := try_q h fo (⟨⟨fo_tr k.1.1 k3.1.1, k3.1.2.1, k3.1.2.2.1, k3.1.2.2.2⟩, k3.2⟩)
      refine ⟨fun q => ⟨?_, e⟩, fun q => ⟨?_, e⟩⟩
      · rw [e0, k3.2.2.1, (k1 q).2]
      · rw [e0, k3.2.2.2.2, (k2 q).2]
    refine ⟨fun q => b45 _ ?_, fun q => b45 _ ?_⟩
    · rw [k.2.2.1, (k1 q).1]
    · rw [k.2.2.2.2, (k2 q).1]
  refine c_tryOut hC hP (cf_re w) ha (fun q w2 f2 => ?_) (fun q w2 mk2 f2 => ?_)
  · exact c_tryOut hC hP f2 ha (fun _ w3 f3 => fin _ _ w3 (fc_cf (fc_re w) f3.1) (fun _ => ⟨rfl, rfl⟩) (fun z => absurd q z)) (fun z => absurd q z)
  · exact c_tryOut hC hP f2 ha (fun z => absurd z q) (fun _ w3 mk3 f3 => fin _ _ w3 (fc_cf (fc_re w) f3.1) (fun z => absurd z q) (fun _ => ⟨rfl, rfl⟩))
