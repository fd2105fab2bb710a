/-- which late is the i-th that may have been, of k still to be looked at, from v on, c found -/
def slR (S : Nat → Bool) (x : Int32) : Nat → Nat → Nat → Int32
  | 0, _, c => if x = -1 then nI c else -1
  | k + 1, v, c => if S v = true then (if nI c = x then nI v else slR S x k (v + 1) (c + 1)) else slR S x k (v + 1) c
theorem sim_slips (a1 a2 a3 : Int32) : SIM (wp_11_slips a1 a2 a3) (wp_12_slips a1 a2 a3) := by
  rintro w wm wl ⟨T, s, h⟩
  obtain ⟨hC, hR, hP, hS⟩ := h.1
  obtain ⟨nt, nt1, nt2, nt3, nt4⟩ := h.2.1.2.2.1
  have h8 := m8 hR
  have hs := hR.1
  have hB := hR.2.2.2.1
  have no : ¬ isM T a1 ∨ ¬ inR 0 (nI nt) a2 ∨ ¬ -1 ≤ a3 → wp_12_slips a1 a2 a3 wm wl (fun y wm2 wl2 => (-1 : Int32) = y ∧ REL w wm2 wl2) := by
    intro q
    refine r_isMan hR (fun x1 => t1 ?_) (fun _ => t0 ⟨rfl, T, s, h⟩)
    rw [nt3]
    refine r_in (fun x2 => t1 ⟨fun x3 => ?_, fun _ => ⟨rfl, T, s, h⟩⟩) (fun _ => t0 ⟨rfl, T, s, h⟩)
    rcases q with q | q | q
    · exact absurd x1 q
    · exact absurd x2 q
    · exact absurd x3 q
  refine c_isMan hC.1.2.2.2.2.1.1 (fun x1 => t1 ?_) (fun q => t0 (no (Or.inl q)))
  rw [nt2]
  refine c_in (fun x2 => t1 ⟨fun x3 => ?_, fun q => no (Or.inr (Or.inr q))⟩) (fun q => t0 (no (Or.inr (Or.inl q))))
  obtain ⟨a, ha, rfl⟩ := inR_man (m8 hR) x1
  obtain ⟨k, hk, rfl⟩ := inR_nI (n := nt) (by omega) x2
  obtain ⟨p, hp⟩ : ∃ p : Nat → Nat → Prop, ∀ i v, p i v ↔ (wm 184 i = nI a → jL T (nI (tn T 15)) a (wm 185 i) (nI v - 9) (nI (tn T 12)) 0 = wm 186 i) := ⟨_, fun _ _ => Iff.rfl⟩
  obtain ⟨S, hSS⟩ : ∃ S : Nat → Bool, ∀ v, S v = true ↔ ∀ i, i < k → p i v := ⟨fun v => @decide (∀ i, i < k → p i v) (Classical.propDecidable _), fun v => by simp⟩
  obtain ⟨V, hV⟩ : ∃ V, V = slR S a3 19 0 0 := ⟨_, rfl⟩
  have fin : ∀ w2, fcO w w2 → wp_12_slips (nI a) (nI k) a3 wm wl (fun y wm2 wl2 => V = y ∧ REL w2 wm2 wl2) := by
    intro w2 fo
    refine r_isMan hR (fun _ => t1 ?_) (fun q => absurd x1 q)
    rw [nt3]
    refine r_in (fun _ => t1 ⟨fun _ => ?_, fun q => absurd x3 q⟩) (fun q => absurd x2 q)
    refine r_plainly hs hR.2.1 hR.2.2.1 ?_
    have g1 : frO2 wm (st (st wm 150 49 (nI (tn T 15))) 150 50 0) := by
      intro b j q r z
      simp only [st]
      rw [if_neg (by omega), if_neg (by omega)]
    have e1 : (st (st wm 150 49 (nI (tn T 15))) 150 50 0) 181 = wm 181 := by rw [st_ne 181 (by decide), st_ne 181 (by decide)]
    have b1 := rb_fo hR g1 (by rw [e1]; exact fun i hi => (hR.2.2.2.2.2.1 i hi).2)
    have t1' : RT s T (nI (tn T 15)) (st (st wm 150 49 (nI (tn T 15))) 150 50 0) := ⟨b1.1, b1.2.1, b1.2.2.1, b1.2.2.2.1, by rw [st_nj (by decide), st_eq]⟩
    generalize (st (st wm 150 49 (nI (tn T 15))) 150 50 0) = wm1 at g1 e1 b1 t1'
    have er : ∀ w4, RF wm1 w4 → REL w2 w4 wl := fun w4 f4 => ⟨T, s, rel_q h fo (fo_rf g1 f4) (by rw [ef f4, e1]; exact fun i hi => (hR.2.2.2.2.2.1 i hi).2)⟩
    have row : ∀ w4, RF wm1 w4 → ∀ b, 184 ≤ b → w4 b = wm b := fun w4 f4 b hb => (rf_row f4 b (fun j => by simp only [scR]; omega)).trans (funext (fun j => g1 b j (by simp only [scR]; omega) (by omega) (by omega)))
    refine pk_loop (fun n i (z : Int32 × Mem) => wp_12_slips_b37 (fun y wm2 wl2 => V = y ∧ REL w2 wm2 wl2) n (nI a) (nI k) a3 z.1 (nI i) z.2 wl) (fun i z => RF wm1 z.2 ∧ ∃ c, z.1 = nI c ∧ V = slR S a3 (19 - i) i c) 19 0 (0, wm1) (by omega) ⟨rf_re _, 0, rfl, hV⟩ (fun n z hz => ?_) (fun n i z hi hz L => ?_)
    · obtain ⟨x, w4⟩ := z
      obtain ⟨f4, c, rfl, ec⟩ := hz
      dsimp only at f4 ⊢
      rw [Nat.sub_self] at ec
      simp only [slR] at ec
      refine pk_le 19 19 (fun _ => ⟨fun q => ⟨?_, er w4 f4⟩, fun q => ⟨?_, er w4 f4⟩⟩) (fun q => absurd q (by omega))
      · rw [ec, if_neg q]
      · rw [ec, if_pos (Classical.not_not.mp q)]
    · obtain ⟨x, w4⟩ := z
      obtain ⟨f4, c, rfl, ec⟩ := hz
      dsimp only at f4 ⊢
      rw [show 19 - i = (19 - (i + 1)) + 1 by omega] at ec
      simp only [slR] at ec
      refine pk_le 19 i (fun q => absurd q (by omega)) (fun _ => ?_)
      -- isSo
      have so : ∀ (Q : Int32 → Mem → MemL → Prop), (∀ w5, RF wm1 w5 → (S i = true → Q 1 w5 wl) ∧ (¬ S i = true → Q 0 w5 wl)) → wp_12_isSo (nI a) (nI i - 9) (nI k) w4 wl Q := by
        intro Q KQ
        refine pk_loop (fun n j (z : Mem) => wp_12_isSo_b3 Q n (nI a) (nI i - 9) (nI k) (nI j) z wl) (fun j z => RF wm1 z ∧ ∀ j2, j2 < j → p j2 i) k 0 w4 (by omega) ⟨f4, fun j2 h2 => absurd h2 (by omega)⟩ (fun n z hz => ?_) (fun n j z hj hz L2 => ?_)
        · exact pk_le k k (fun _ => (KQ z hz.1).1 ((hSS i).mpr hz.2)) (fun q => absurd q (by omega))
        · obtain ⟨f5, hall⟩ := hz
          have t5 := rt_rf t1' f5
          have jv : vp_in (nI j) 20 := pk_in j 20 (by omega)
          refine pk_le k j (fun q => absurd q (by omega)) (fun _ => ⟨jv, ?_⟩)
          rw [ix_nI (by omega), row z f5 184 (by omega)]
          have b59 : ∀ w6, RF wm1 w6 → p j i → wp_12_isSo_b59 Q (wp_12_isSo_b3 Q n) (nI a) (nI i - 9) (nI k) (nI j) w6 wl := by
            intro w6 f6 hpj x1 e1
            rw [nI_1] at e1
            subst e1
            refine L2 w6 ⟨f6, fun j2 h2 => ?_⟩
            rcases Nat.lt_or_ge j2 j with c1 | c1
            · exact hall j2 c1
            · rw [show j2 = j by omega]; exact hpj
          refine ⟨fun q => ⟨jv, r_tell (a := 12) t5 (by omega) ?_⟩, fun q => b59 z f5 ((hp j i).mpr (fun z => absurd z q))⟩
          rw [row z f5 185 (by omega)]
          refine r_jump t5 ha ((f5 150 61 (by decide)).trans b1.2.2.2.2.1) (fun w6 f6 _ j6 => ⟨jv, ?_⟩)
          have f65 := rf_tr f5 f6
          have e59 : w6 150 59 = jL T (nI (tn T 15)) a (wm 185 j) (nI i - 9) (nI (tn T 12)) 0 := j6.1
          rw [e59, row w6 f65 186 (by omega)]
          refine ⟨fun q2 => b59 w6 f65 ((hp j i).mpr (fun _ => q2)), fun q2 => (KQ w6 f65).2 (fun z => q2 ?_)⟩
          exact (hp j i).mp ((hSS i).mp z j hj) q
      refine so _ (fun w5 f5 => ⟨fun q => ?_, fun q => ?_⟩)
      · rw [if_pos q] at ec
        refine u1 ⟨fun q2 x4 e4 x1 e1 => ?_, fun q2 => ⟨?_, er w5 f5⟩⟩
        · rw [nI_1] at e1 e4
          subst e1
          subst e4
          rw [if_neg q2] at ec
          exact L (nI (c + 1), w5) ⟨f5, c + 1, rfl, ec⟩
        · rw [ec, if_pos (Classical.not_not.mp q2)]
      · rw [if_neg q] at ec
        refine u0 (fun x1 e1 => ?_)
        rw [nI_1] at e1
        subst e1
        exact L (nI c, w5) ⟨f5, c, rfl, ec⟩
  have ls : ∀ n : Nat, nI n - 9 + 1 = nI (n + 1) - 9 := fun n => by
    rw [← nI_1 n, Int32.sub_eq_add_neg, Int32.sub_eq_add_neg, Int32.add_assoc, Int32.add_comm (-9) 1, ← Int32.add_assoc]
  have l9 : ∀ n : Nat, n < 100 → ((9 : Int32) < nI n - 9 ↔ 18 < n) := fun n hn => by
    rw [Int32.lt_iff_toInt_lt, show (9 : Int32) = nI 9 from rfl, pk_sub_toInt (by omega) (by omega), ti_nI (by omega)]
    omega
  refine pk_loop (fun n i (z : Int32 × Mem) => wp_11_slips_b37 (fun v w2 => wp_12_slips (nI a) (nI k) a3 wm wl (fun y wm2 wl2 => v = y ∧ REL w2 wm2 wl2)) n (nI a) (nI k) a3 z.1 (nI i - 9) z.2) (fun i z => fcS w z.2 ∧ ∃ c, z.1 = nI c ∧ V = slR S a3 (19 - i) i c) 19 0 (0, w) (by omega) ⟨fs_re w, 0, rfl, hV⟩ (fun n z hz => ?_) (fun n i z hi hz L => ?_)
  · obtain ⟨x, w4⟩ := z
    obtain ⟨f4, c, rfl, ec⟩ := hz
    dsimp only at f4 ⊢
    rw [Nat.sub_self] at ec
    simp only [slR] at ec
    have := fin w4 (fc_cf (fc_re w) f4)
    rw [ec] at this
    refine ⟨fun _ => ⟨fun q => ?_, fun q => ?_⟩, fun q => absurd ((l9 19 (by omega)).mpr (by omega)) q⟩
    · rw [if_neg q] at this; exact this
    · rw [if_pos (Classical.not_not.mp q)] at this; exact this
  · obtain ⟨x, w4⟩ := z
    obtain ⟨f4, c, rfl, ec⟩ := hz
    dsimp only at f4 ⊢
    rw [show 19 - i = (19 - (i + 1)) + 1 by omega] at ec
    simp only [slR] at ec
    refine ⟨fun q => absurd ((l9 i (by omega)).mp q) (by omega), fun _ => ?_⟩
    have so : ∀ (Q : Int32 → Mem → Prop), (∀ w5, fcS w w5 → (S i = true → Q 1 w5) ∧ (¬ S i = true → Q 0 w5)) → wp_11_mayBeSoLate (nI a) (nI k) (nI i - 9) w4 Q := by
      intro Q KQ
      refine pk_loop (fun n j (z : Mem) => wp_11_mayBeSoLate_b3 Q n (nI a) (nI k) (nI i - 9) (nI j) z) (fun j z => fcS w z ∧ ∀ j2, j2 < j → p j2 i) k 0 w4 (by omega) ⟨f4, fun j2 h2 => absurd h2 (by omega)⟩ (fun n z hz => ?_) (fun n j z hj hz L2 => ?_)
      · exact pk_le k k (fun _ => (KQ z hz.1).1 ((hSS i).mpr hz.2)) (fun q => absurd q (by omega))
      · obtain ⟨f5, hall⟩ := hz
        have jv : vp_in (nI j) 20 := pk_in j 20 (by omega)
        obtain ⟨m1, m2, m3⟩ := nt4 j (by omega)
        refine pk_le k j (fun q => absurd q (by omega)) (fun _ => pk_le 20 j (fun q => absurd q (by omega)) (fun _ => ⟨jv, ?_⟩))
        rw [ix_nI (by omega), f5 146 j (by simp only [scC]; omega), m1]
        have b82 : ∀ w6, fcS w w6 → p j i → wp_11_mayBeSoLate_b82 Q (wp_11_mayBeSoLate_b3 Q n) (nI a) (nI k) (nI i - 9) (nI j) w6 := by
          intro w6 f6 hpj x1 e1
          rw [nI_1] at e1
          subst e1
          refine L2 w6 ⟨f6, fun j2 h2 => ?_⟩
          rcases Nat.lt_or_ge j2 j with c1 | c1
          · exact hall j2 c1
          · rw [show j2 = j by omega]; exact hpj
        refine ⟨fun q => ⟨jv, ?_⟩, fun q => b82 z f5 ((hp j i).mpr (fun z => absurd z q))⟩
        rw [f5 147 j (by simp only [scC]; omega), m2]
        refine c_blow hC (cf_of f5) (fun w6 f6 => ?_)
        rw [show w6 48 14 = nI (tn T 12) from ct_n hC f6 12 (by omega) (by omega)]
        refine c_reachOf hC f6 ha (fun w7 f7 => ⟨jv, ?_⟩)
        rw [f7.1 148 j (by simp only [scC]; omega), m3]
        have hj := hp j i
        rw [jL_g] at hj
        unfold gL at hj
        refine ⟨fun q2 => b82 w7 f7.1 (hj.mpr (fun _ => q2)), fun q2 => (KQ w7 f7.1).2 (fun z => q2 ?_)⟩
        exact hj.mp ((hSS i).mp z j (by omega)) q
    refine so _ (fun w5 f5 => ⟨fun q => ?_, fun q => ?_⟩)
    · rw [if_pos q] at ec
      refine u1 ⟨fun q2 x4 e4 x1 e1 => ?_, fun q2 => ?_⟩
      · rw [nI_1] at e4
        rw [ls] at e1
        subst e1
        subst e4
        rw [if_neg q2] at ec
        exact L (nI (c + 1), w5) ⟨f5, c + 1, rfl, ec⟩
      · rw [if_pos (Classical.not_not.mp q2)] at ec
        have := fin w5 (fc_cf (fc_re w) f5)
        rw [ec] at this
        rw [show nI i - 9 + 9 = nI i from Int32.sub_add_cancel _ _]
        exact this
    · rw [if_neg q] at ec
      refine u0 (fun x1 e1 => ?_)
      rw [ls] at e1
      subst e1
      exact L (nI c, w5) ⟨f5, c, rfl, ec⟩
