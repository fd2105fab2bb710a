theorem c_isSafe {T : TX} {P : Nat → Int32} {g : Nat} {sf : Nat → Nat → Prop} {w0 w : Mem} {Q : Int32 → Mem → Prop} (hT : CT T (nI (tn T 15)) w0) (hP : PL T false P 89 w0) (f0 : fcS w0 w) (hsf : ∀ n a, sf n a ↔ jL T (nI (tn T 15)) a (P 0 + nI n) 0 (nI g) (P 3) ≤ nI (tn T 1))
    (K : ∀ w2, fcS w0 w2 → ((∀ n a, n < 10 → a < tm T → sf n a) → Q 1 w2) ∧ (¬ (∀ n a, n < 10 → a < tm T → sf n a) → Q 0 w2)) : wp_11_isSafeGate (nI g) w Q := by
  have h8 : tm T ≤ 8 := hT.2.1.2.2.1.2.2.2.1
  refine pk_loop (fun n i (z : Mem) => wp_11_isSafeGate_b2 Q n (nI g) (nI i) z) (fun i z => fcS w0 z ∧ ∀ n a, n < i → a < tm T → sf n a) 10 0 w (by omega) ⟨f0, fun n a h => absurd h (by omega)⟩ (fun n z hz => ?_) (fun n i z hi hz L => ?_)
  · exact pk_lt 9 10 (fun _ => (K z hz.1).1 hz.2) (fun q => absurd q (by omega))
  · obtain ⟨f, hall⟩ := hz
    refine pk_lt 9 i (fun q => absurd q (by omega)) (fun _ => ?_)
    rw [show z 89 4 = P 0 from (f 89 4 (by decide)).trans hP.1.1]
    refine c_blow hT (cf_of f) (fun w1 f1 => ?_)
    refine pk_loop (fun n2 j (z2 : Mem) => wp_11_isSafeGate_b26 Q (wp_11_isSafeGate_b2 Q n) n2 (nI g) (nI i) (nI j) z2) (fun j z2 => (∃ ln sy po mk, CF w0 (trueT T (nI (tn T 15)) (P 0 + nI i)) (meanT T (nI (tn T 15)) (P 0 + nI i)) ln sy po mk z2) ∧ ∀ a, a < j → sf i a) (tm T) 0 w1 (by omega) ⟨⟨_, _, _, _, f1⟩, fun a h => absurd h (by omega)⟩ (fun n2 z2 hz2 => ?_) (fun n2 j z2 hj hz2 L2 => ?_)
    · obtain ⟨⟨ln, sy, po, mk, f2⟩, hall2⟩ := hz2
      unfold wp_11_isSafeGate_b26
      rw [(cf_j hT f2).1]
      refine pk_le (tm T) (tm T) (fun _ x1 e1 => ?_) (fun q => absurd q (by omega))
      rw [nI_1] at e1
      subst e1
      refine L z2 ⟨f2.1, fun n a h1 h2 => ?_⟩
      rcases Nat.lt_or_ge n i with c | c
      · exact hall n a c h2
      · rw [show n = i by omega]; exact hall2 a h2
    · obtain ⟨⟨ln, sy, po, mk, f2⟩, hall2⟩ := hz2
      unfold wp_11_isSafeGate_b26
      rw [(cf_j hT f2).1]
      refine pk_le (tm T) j (fun q => absurd q (by omega)) (fun _ => ?_)
      rw [show z2 89 7 = P 3 from (f2.1 89 7 (by decide)).trans hP.1.2.2.2.1]
      refine c_reachOf hT f2 hj (fun w3 f3 => ?_)
      rw [show w3 48 8 = nI (tn T 1) from ct_k hT f3 1 (by omega)]
      have hs := hsf i j
      rw [jL_g] at hs
      unfold gL at hs
      refine ⟨fun q x4 e4 => ?_, fun q => (K w3 f3.1).2 (fun z => q (hs.mp (z i j (by omega) hj)))⟩
      rw [nI_1] at e4
      subst e4
      refine L2 w3 ⟨⟨_, _, _, _, f3⟩, fun a h => ?_⟩
      rcases Nat.lt_or_ge a j with c | c
      · exact hall2 a c
      · rw [show a = j by omega]; exact hs.mpr q
theorem r_isSafe {T : TX} {s g : Nat} {P : Nat → Int32} {sf : Nat → Nat → Prop} {w0 w : Mem} {wl : MemL} {Q : Int32 → Mem → MemL → Prop} (h : RT s T (nI (tn T 15)) w0) (h61 : w0 150 61 = -1) (e1 : w0 181 = P) (f0 : RF w0 w) (hsf : ∀ n a, sf n a ↔ jL T (nI (tn T 15)) a (P 0 + nI n) 0 (nI g) (P 3) ≤ nI (tn T 1))
    (K : ∀ w2, RF w0 w2 → ((∀ n a, n < 10 → a < tm T → sf n a) → Q 1 w2 wl) ∧ (¬ (∀ n a, n < 10 → a < tm T → sf n a) → Q 0 w2 wl)) : wp_12_isSafe (nI g) w wl Q := by
  have h8 : tm T ≤ 8 := h.2.2.2.1.2.2.1.2.2.2.1
  have hs := h.1
  refine pk_loop (fun n i (z : Mem) => wp_12_isSafe_b2 Q n (nI g) (nI i) z wl) (fun i z => RF w0 z ∧ ∀ n a, n < 10 → a < i → sf n a) (tm T) 0 w (by omega) ⟨f0, fun n a _ h => absurd h (by omega)⟩ (fun n z hz => ?_) (fun n i z hi hz L => ?_)
  · obtain ⟨f, hall⟩ := hz
    have t := rt_rf h f
    refine ⟨by rw [t.2.1]; exact pk_in s 2 hs, ?_⟩
    rw [t.2.1, ix_nI (by omega), t.2.2.1.2.2.1.1]
    exact pk_le (tm T) (tm T) (fun _ => (K z f).1 hall) (fun q => absurd q (by omega))
  · obtain ⟨f, hall⟩ := hz
    have t := rt_rf h f
    refine ⟨by rw [t.2.1]; exact pk_in s 2 hs, ?_⟩
    rw [t.2.1, ix_nI (by omega), t.2.2.1.2.2.1.1]
    refine pk_le (tm T) i (fun q => absurd q (by omega)) (fun _ => ?_)
    refine pk_loop (fun n2 j (z2 : Mem) => wp_12_isSafe_b17 Q (wp_12_isSafe_b2 Q n) n2 (nI g) (nI i) (nI j) z2 wl) (fun j z2 => RF w0 z2 ∧ ∀ n, n < j → sf n i) 10 0 z (by omega) ⟨f, fun a h => absurd h (by omega)⟩ (fun n2 z2 hz2 => ?_) (fun n2 j z2 hj hz2 L2 => ?_)
    · obtain ⟨f2, hall2⟩ := hz2
      refine pk_le 10 10 (fun _ x1 e1 => ?_) (fun q => absurd q (by omega))
      rw [nI_1] at e1
      subst e1
      refine L z2 ⟨f2, fun n a h1 h2 => ?_⟩
      rcases Nat.lt_or_ge a i with c | c
      · exact hall n a h1 c
      · rw [show a = i by omega]; exact hall2 n h1
    · obtain ⟨f2, hall2⟩ := hz2
      have t2 := rt_rf h f2
      refine pk_le 10 j (fun q => absurd q (by omega)) (fun _ => ?_)
      rw [(ef f2).trans e1, ix0, show ix (3 : Int32) = 3 from ix_nI (n := 3) (by omega)]
      refine r_jump t2 hi ((f2 150 61 (by decide)).trans h61) (fun w3 f3 _ j3 => ?_)
      have f23 := rf_tr f2 f3
      refine r_tell (a := 1) (rt_rf h f23) (by omega) ?_
      have hss := hsf j i
      have e59 : w3 150 59 = jL T (nI (tn T 15)) i (P 0 + nI j) 0 (nI g) (P 3) := j3.1
      rw [← e59] at hss
      refine ⟨fun q x4 e4 => ?_, fun q => (K w3 f23).2 (fun z => q (hss.mp (z j i hj hi)))⟩
      rw [nI_1] at e4
      subst e4
      refine L2 w3 ⟨f23, fun a h => ?_⟩
      rcases Nat.lt_or_ge a j with c | c
      · exact hall2 a c
      · rw [show a = j by omega]; exact hss.mpr q
/-- the first gate from i on downwards that is safe; -2: none -/
def sgF (S : Nat → Bool) : Nat → Int32
  | 0 => -2
  | n + 1 => if S n = true then nI n else sgF S n
theorem sgF_c (S : Nat → Bool) : ∀ n, n ≤ 41 → sgF S n = -2 ∨ ∃ g, g ≤ 40 ∧ sgF S n = nI g
  | 0, _ => Or.inl rfl
  | n + 1, h => by
    simp only [sgF]
    split
    · exact Or.inr ⟨n, by omega, rfl⟩
    · exact sgF_c S n (by omega)
theorem sim_gates (a1 : Int32) : SIM (wp_11_gates a1) (wp_12_gates a1) := by
  rintro w wm wl ⟨T, s, h⟩
  obtain ⟨hC, hR, hP, hS⟩ := h.1
  have h8 := m8 hR
  have hs := hR.1
  have hB := hR.2.2.2.1
  refine c_in (fun x1 => u1 ?_) (fun q => u0 (r_in (fun z => absurd z q) (fun _ => u0 ⟨rfl, T, s, h⟩)))
  obtain ⟨sf, hsf⟩ : ∃ sf : Nat → Nat → Nat → Prop, ∀ g n a, sf g n a ↔ jL T (nI (tn T 15)) a (wm 180 0 + nI n) 0 (nI g) (wm 180 3) ≤ nI (tn T 1) := ⟨_, fun _ _ _ => Iff.rfl⟩
  obtain ⟨S, hSS⟩ : ∃ S : Nat → Bool, ∀ g, S g = true ↔ ∀ n a, n < 10 → a < tm T → sf g n a := ⟨fun g => @decide (∀ n a, n < 10 → a < tm T → sf g n a) (Classical.propDecidable _), fun v => by simp⟩
  obtain ⟨V, hV⟩ : ∃ V, V = sgF S 41 := ⟨_, rfl⟩
  obtain ⟨ln, hln⟩ : ∃ ln : Nat → Nat → Int32, ∀ g a, jL T (nI (tn T 15)) a (wm 180 0) 0 (nI g) (wm 180 3) = ln g a := ⟨_, fun _ _ => rfl⟩
  have fin : ∀ x w2, fcO w w2 → (V = -2 → x = -2) → (¬ V = -2 → a1 = 0 → x = V) → (∀ g, g ≤ 40 → V = nI g → ¬ a1 = 0 → x = sumN (ln g) (tm T)) → wp_12_gates a1 wm wl (fun y wm2 wl2 => x = y ∧ REL w2 wm2 wl2) := by
    intro x w2 fo k0 k1 k2
    refine r_in (fun _ => u1 (r_copies hR (fun wm1 g1 e1 p1 b1 => ?_))) (fun q => absurd x1 q)
    have er : ∀ w4, RF wm1 w4 → REL w2 w4 wl := fun w4 f4 => rel_e h fo (fo_rf g1 f4) ((ef f4).trans e1)
    have b36 : ∀ v w4, v = V → RF wm1 w4 → wp_12_gates_b36 (fun y wm2 wl2 => x = y ∧ REL w2 wm2 wl2) a1 v w4 wl := by
      intro v w4 ev f4
      subst ev
      have hc := sgF_c S 41 (by omega)
      rw [← hV] at hc
      refine ⟨fun q => ⟨fun q2 => ?_, fun q2 => ⟨k1 (fun z => ?_) (Classical.not_not.mp q2), er w4 f4⟩⟩, fun q => ⟨k0 ?_, er w4 f4⟩⟩
      · rcases hc with c | ⟨g, hg, c⟩
        · rw [c] at q; exact absurd q (by decide)
        · have kx := k2 g hg c q2
          rw [c]
          refine pk_loop (fun n i (z : Int32 × Mem) => wp_12_gates_b54 (fun y wm2 wl2 => x = y ∧ REL w2 wm2 wl2) n (nI g) z.1 (nI i) z.2 wl) (fun i z => z.1 = sumN (ln g) i ∧ RF wm1 z.2) (tm T) 0 (0, w4) (by omega) ⟨rfl, f4⟩ (fun n z hz => ?_) (fun n i z hi hz L => ?_)
          · obtain ⟨b, w5⟩ := z
            obtain ⟨rfl, f5⟩ := hz
            dsimp only at f5 ⊢
            have t := rt_rf p1.1 f5
            refine ⟨by rw [t.2.1]; exact pk_in s 2 hs, ?_⟩
            rw [t.2.1, ix_nI (by omega), t.2.2.1.2.2.1.1]
            exact pk_le (tm T) (tm T) (fun _ => ⟨kx, er w5 f5⟩) (fun q => absurd q (by omega))
          · obtain ⟨b, w5⟩ := z
            obtain ⟨rfl, f5⟩ := hz
            dsimp only at f5 ⊢
            have t := rt_rf p1.1 f5
            refine ⟨by rw [t.2.1]; exact pk_in s 2 hs, ?_⟩
            rw [t.2.1, ix_nI (by omega), t.2.2.1.2.2.1.1]
            refine pk_le (tm T) i (fun q => absurd q (by omega)) (fun _ => ?_)
            rw [(ef f5).trans e1, ix0, show ix (3 : Int32) = 3 from ix_nI (n := 3) (by omega)]
            refine r_jump t hi ((f5 150 61 (by decide)).trans p1.2.1) (fun w6 f6 _ j6 x4 e4 x5 e5 => ?_)
            rw [nI_1] at e5
            have e59 : w6 150 59 = jL T (nI (tn T 15)) i (wm 180 0) 0 (nI g) (wm 180 3) := j6.1
            rw [e59, hln] at e4
            subst e4
            subst e5
            exact L (sumN (ln g) i + ln g i, w6) ⟨rfl, rf_tr f5 f6⟩
      · rw [z] at q; exact absurd q (by decide)
      · rcases hc with c | ⟨g, hg, c⟩
        · exact c
        · rw [c] at q; exact absurd (nI_pos' (by omega)) q
    have down : ∀ (n : Nat) (w4 : Mem), n ≤ 41 → RF wm1 w4 → V = sgF S n → wp_12_gates_b18 (fun y wm2 wl2 => x = y ∧ REL w2 wm2 wl2) (n + 1) a1 (nI n + -1) w4 wl := by
      intro n
      induction n with
      | zero =>
        intro w4 _ f4 ev
        exact ⟨fun _ => ⟨fun q => absurd q (by decide), fun _ => ⟨k0 ev, er w4 f4⟩⟩, fun q => absurd (by decide) q⟩
      | succ n ih =>
        intro w4 hn f4 ev
        rw [pk_m1]
        refine ⟨fun q => absurd q (nI_pos (by omega)), fun _ => r_isSafe p1.1 p1.2.1 e1 f4 (hsf n) (fun w5 f5 => ⟨fun q => u1 (b36 _ w5 ?_ f5), fun q => u0 (fun x4 e4 => ?_)⟩)⟩
        · rw [ev]
          simp only [sgF]
          rw [if_pos ((hSS n).mpr q)]
        · subst e4
          refine ih w5 (by omega) f5 ?_
          rw [ev]
          simp only [sgF]
          rw [if_neg (fun z => q ((hSS n).mp z))]
    exact ⟨42, down 41 wm1 (by omega) (rf_re _) hV⟩
  have down : ∀ (n : Nat) (w4 : Mem) (Q : Int32 → Mem → Prop), n ≤ 41 → fcS w w4 → V = sgF S n → (∀ w5, fcS w w5 → Q V w5) → wp_11_safeGate_b3 Q (n + 1) (nI n + -1) w4 := by
    intro n
    induction n with
    | zero =>
      intro w4 Q _ f4 ev K
      refine ⟨fun _ => ?_, fun q => absurd (by decide) q⟩
      have := K w4 f4
      rw [ev] at this
      exact this
    | succ n ih =>
      intro w4 Q hn f4 ev K
      rw [pk_m1]
      refine ⟨fun q => absurd q (nI_pos (by omega)), fun _ => c_isSafe hC hP f4 (hsf n) (fun w5 f5 => ⟨fun q => t1 ?_, fun q => t0 (fun x4 e4 => ?_)⟩)⟩
      · have := K w5 f5
        rw [ev] at this
        simp only [sgF] at this
        rw [if_pos ((hSS n).mpr q)] at this
        exact this
      · subst e4
        refine ih w5 Q (by omega) f5 ?_ K
        rw [ev]
        simp only [sgF]
        rw [if_neg (fun z => q ((hSS n).mp z))]
  refine ⟨42, down 41 w _ (by omega) (fs_re w) hV (fun w3 f3 => ?_)⟩
  have fo := fc_cf (fc_re w) f3
  refine ⟨fun q => fin _ w3 fo (fun z => z) (fun _ _ => rfl) (fun _ _ _ z => absurd q z), fun q => ⟨fun q2 => ?_, fun q2 => fin _ w3 fo (fun z => z) (fun _ z => absurd z q) (fun g hg z _ => ?_)⟩⟩
  · have hc := sgF_c S 41 (by omega)
    rw [← hV] at hc
    rcases hc with c | ⟨g, hg, c⟩
    · exact absurd c q2
    · rw [show w3 89 4 = wm 180 0 from (f3 89 4 (by decide)).trans hP.1.1]
      refine c_blow hC (cf_of f3) (fun w5 f5 => ?_)
      rw [c]
      refine pk_loop (fun n i (z : Int32 × Mem) => wp_11_gates_b47 (fun v w2 => wp_12_gates a1 wm wl (fun y wm2 wl2 => v = y ∧ REL w2 wm2 wl2)) n (nI g) z.1 (nI i) z.2) (fun i z => z.1 = sumN (ln g) i ∧ ∃ l sy po mk, CF w (trueT T (nI (tn T 15)) (wm 180 0)) (meanT T (nI (tn T 15)) (wm 180 0)) l sy po mk z.2) (tm T) 0 (0, w5) (by omega) ⟨rfl, _, _, _, _, f5⟩ (fun n z hz => ?_) (fun n i z hi hz L => ?_)
      · obtain ⟨b, w6⟩ := z
        obtain ⟨rfl, l, sy, po, mk, f6⟩ := hz
        dsimp only at f6 ⊢
        unfold wp_11_gates_b47
        rw [(cf_j hC f6).1]
        refine pk_le (tm T) (tm T) (fun _ => fin _ w6 (fc_cf (fc_re w) f6.1) (fun z => absurd z q2) (fun _ z => absurd z q) (fun g2 hg2 z _ => ?_)) (fun q => absurd q (by omega))
        have : g = g2 := (nI_eq (by omega) (by omega)).mp (c.symm.trans z)
        rw [this]
      · obtain ⟨b, w6⟩ := z
        obtain ⟨rfl, l, sy, po, mk, f6⟩ := hz
        dsimp only at f6 ⊢
        unfold wp_11_gates_b47
        rw [(cf_j hC f6).1]
        refine pk_le (tm T) i (fun q => absurd q (by omega)) (fun _ => ?_)
        rw [show w6 89 7 = wm 180 3 from (f6.1 89 7 (by decide)).trans hP.1.2.2.2.1]
        refine c_reachOf hC f6 hi (fun w7 f7 x3 e3 x4 e4 => ?_)
        have hl := hln g i
        rw [jL_g] at hl
        unfold gL at hl
        rw [hl] at e3
        rw [nI_1] at e4
        subst e3
        subst e4
        exact L (sumN (ln g) i + ln g i, w7) ⟨rfl, _, _, _, _, f7⟩
  · have e2 := z.symm.trans (Classical.not_not.mp q2)
    have := nI_pos (n := g) (by omega)
    rw [e2] at this
    exact absurd (by decide) this
