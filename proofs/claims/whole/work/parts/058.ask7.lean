def hmS (P : Nat → Int32) (v : Nat → Nat → Int32) (s : Int32 × Int32 × Int32) (a q : Nat) : Int32 × Int32 × Int32 := if P (4 + (8 * q + a)) = 1 then (if s.1 < 0 ∨ s.2.1 < v a q then (nI a, v a q, nI (q + 1)) else s) else s
def hmF (P : Nat → Int32) (v : Nat → Nat → Int32) : Nat → Int32 × Int32 × Int32
  | 0 => (-2, -2, -2)
  | n + 1 => hmS P v (hmS P v (hmF P v n) n 0) n 1
def hmI (s : Int32 × Int32 × Int32) : Prop := s.1 = -2 ∨ ∃ a, a < 8 ∧ s.1 = nI a
theorem hmS_i {P : Nat → Int32} {v : Nat → Nat → Int32} {s : Int32 × Int32 × Int32} {a q : Nat} (ha : a < 8) (h : hmI s) : hmI (hmS P v s a q) := by
  unfold hmS
  split
  · split
    · exact Or.inr ⟨a, ha, rfl⟩
    · exact h
  · exact h
theorem hmF_i {P : Nat → Int32} {v : Nat → Nat → Int32} : ∀ n, n ≤ 8 → hmI (hmF P v n)
  | 0, _ => Or.inl rfl
  | n + 1, h => hmS_i (by omega) (hmS_i (by omega) (hmF_i n (by omega)))
theorem sim_himself (a1 : Int32) : SIM (wp_11_himself a1) (wp_12_himself a1) := by
  rintro w wm wl ⟨T, s, h⟩
  obtain ⟨hC, hR, hP, hS⟩ := h.1
  have h8 := m8 hR
  have hs := hR.1
  have hG := hR.2.2.2.2.2.2
  have hB := hR.2.2.2.1
  refine c_in (fun x1 => u1 ?_) (fun q => u0 (r_in (fun z => absurd z q) (fun _ => u0 ⟨rfl, T, s, h⟩)))
  obtain ⟨wh, hwh, rfl⟩ := inR_nI (n := 2) (by omega) x1
  obtain ⟨v, hv⟩ : ∃ v : Nat → Nat → Int32, ∀ a q, wm 180 (20 + (8 * q + a)) - jL T (nI (tn T 15)) a (wm 180 (84 + (8 * q + a))) 0 (wm 180 (100 + (8 * q + a))) (wm 180 (132 + (8 * q + a))) = v a q := ⟨_, fun _ _ => rfl⟩
  generalize hZ : hmF (wm 180) v (tm T) = Z
  have fin : ∀ x w2, fcO w w2 → x = (if wh = 0 then Z.1 else if wh = 1 then Z.2.1 else Z.2.2) → wp_12_himself (nI wh) wm wl (fun y wm2 wl2 => x = y ∧ REL w2 wm2 wl2) := by
    intro x w2 fo ex
    refine r_in (fun _ => u1 (r_copies hR (fun wm1 g1 e1 p1 b1 => ?_))) (fun q => absurd x1 q)
    refine pk_loop (fun n i (z : (Int32 × Int32 × Int32) × Mem) => wp_12_himself_b30 (fun y wm2 wl2 => x = y ∧ REL w2 wm2 wl2) n (nI wh) z.1.1 z.1.2.1 z.1.2.2 (nI i) z.2 wl) (fun i z => z.1 = hmF (wm 180) v i ∧ RF wm1 z.2) (tm T) 0 ((-2, -2, -2), wm1) (by omega) ⟨rfl, rf_re _⟩ (fun n z hz => ?_) (fun n i z hi hz L => ?_)
    · obtain ⟨y, w4⟩ := z
      obtain ⟨rfl, f4⟩ := hz
      dsimp only at f4 ⊢
      have t4 := rt_rf p1.1 f4
      have er : REL w2 w4 wl := rel_e h fo (fo_rf g1 f4) ((ef f4).trans e1)
      refine ⟨by rw [t4.2.1]; exact pk_in s 2 hs, ?_⟩
      rw [t4.2.1, ix_nI (by omega), t4.2.2.1.2.2.1.1, hZ]
      refine pk_le (tm T) (tm T) (fun _ => ⟨fun q0 => ⟨fun q1 => ⟨?_, er⟩, fun q1 => ⟨?_, er⟩⟩, fun q0 => ⟨?_, er⟩⟩) (fun q => absurd q (by omega))
      · rw [ex, if_neg (fun z => q0 (by rw [z]; rfl)), if_neg (fun z => q1 (by rw [z]; rfl))]
      · have w1' : wh = 1 := (nI_eq (b := 1) (by omega) (by omega)).mp (Classical.not_not.mp q1)
        rw [ex, w1', if_neg (by decide), if_pos rfl]
      · have w1' : wh = 0 := (nI_eq (b := 0) (by omega) (by omega)).mp (Classical.not_not.mp q0)
        rw [ex, w1', if_pos rfl]
    · obtain ⟨y, w4⟩ := z
      obtain ⟨rfl, f4⟩ := hz
      dsimp only at f4 ⊢
      have t4 := rt_rf p1.1 f4
      refine ⟨by rw [t4.2.1]; exact pk_in s 2 hs, ?_⟩
      rw [t4.2.1, ix_nI (by omega), t4.2.2.1.2.2.1.1]
      refine pk_le (tm T) i (fun q => absurd q (by omega)) (fun _ => ⟨3, ?_⟩)
      have one : ∀ (n2 q : Nat) (y : Int32 × Int32 × Int32) (w5 : Mem), q < 2 → hmI y → RF wm1 w5 → (∀ y2 w6, y2 = hmS (wm 180) v y i q → RF wm1 w6 → wp_12_himself_b47 (fun y wm2 wl2 => x = y ∧ REL w2 wm2 wl2) (wp_12_himself_b30 (fun y wm2 wl2 => x = y ∧ REL w2 wm2 wl2) n) n2 (nI wh) y2.1 y2.2.1 y2.2.2 (nI i) (nI (q + 1)) w6 wl) →
          wp_12_himself_b47 (fun y wm2 wl2 => x = y ∧ REL w2 wm2 wl2) (wp_12_himself_b30 (fun y wm2 wl2 => x = y ∧ REL w2 wm2 wl2) n) (n2 + 1) (nI wh) y.1 y.2.1 y.2.2 (nI i) (nI q) w5 wl := by
        intro n2 q y w5 hq hy f5 KK
        have t5 := rt_rf p1.1 f5
        have e5 : w5 181 = wm 180 := (ef f5).trans e1
        have c61 : w5 150 61 = -1 := (f5 150 61 (by decide)).trans p1.2.1
        have ic : ∀ C : Nat, (nI C + (8 : Int32) * nI q) + nI i = nI (C + (8 * q + i)) := fun C => by
          rw [show (8 : Int32) = nI 8 from rfl, pk_mul, nI_add, nI_add]
          congr 1
          omega
        have i4 : ((4 : Int32) + (8 : Int32) * nI q) + nI i = nI (4 + (8 * q + i)) := ic 4
        have i84 : ((84 : Int32) + (8 : Int32) * nI q) + nI i = nI (84 + (8 * q + i)) := ic 84
        have i100 : ((100 : Int32) + (8 : Int32) * nI q) + nI i = nI (100 + (8 * q + i)) := ic 100
        have i132 : ((132 : Int32) + (8 : Int32) * nI q) + nI i = nI (132 + (8 * q + i)) := ic 132
        have i20 : ((20 : Int32) + (8 : Int32) * nI q) + nI i = nI (20 + (8 * q + i)) := ic 20
        refine pk_le 2 q (fun z => absurd z (by omega)) (fun _ => ?_)
        simp only [wp_12_cell, i4, i84, i100, i132, i20]
        refine ⟨vp_in_nI (by omega) (by decide), ?_⟩
        rw [ix_nI (by omega), ix_nI (by omega), ix_nI (by omega), ix_nI (by omega), ix_nI (by omega), e5]
        have b173 : ∀ w6, hmS (wm 180) v y i q = y → RF wm1 w6 → wp_12_himself_b173 (fun y wm2 wl2 => x = y ∧ REL w2 wm2 wl2) (wp_12_himself_b30 (fun y wm2 wl2 => x = y ∧ REL w2 wm2 wl2) n) (wp_12_himself_b47 (fun y wm2 wl2 => x = y ∧ REL w2 wm2 wl2) (wp_12_himself_b30 (fun y wm2 wl2 => x = y ∧ REL w2 wm2 wl2) n) n2) (nI wh) y.1 y.2.1 y.2.2 (nI i) (nI q) w6 wl := by
          intro w6 e f6 x1 e1
          rw [nI_1] at e1
          subst e1
          exact KK y w6 e.symm f6
        refine ⟨fun z => ?_, fun z => ?_⟩
        · have z1 : wm 180 (4 + (8 * q + i)) = 1 := by
            rcases (hG.2.2.2.1 (8 * q + i) (by omega)).1 with k | k
            · exact absurd k z
            · exact k
          refine ⟨vp_in_nI (by omega) (by decide), vp_in_nI (by omega) (by decide), vp_in_nI (by omega) (by decide), ?_⟩
          refine r_jump t5 hi c61 (fun w6 f6 _ j6 => ⟨vp_in_nI (by omega) (by decide), fun x24 e24 => ?_⟩)
          have f65 := rf_tr f5 f6
          rw [(ef f65).trans e1, j6.1] at e24
          have ev : x24 = v i q := e24.trans (hv i q)
          subst ev
          clear e24
          have b161 : hmS (wm 180) v y i q = (nI i, v i q, nI (q + 1)) → wp_12_himself_b161 (fun y wm2 wl2 => x = y ∧ REL w2 wm2 wl2) (wp_12_himself_b30 (fun y wm2 wl2 => x = y ∧ REL w2 wm2 wl2) n) (wp_12_himself_b47 (fun y wm2 wl2 => x = y ∧ REL w2 wm2 wl2) (wp_12_himself_b30 (fun y wm2 wl2 => x = y ∧ REL w2 wm2 wl2) n) n2) (nI wh) (nI i) (nI q) (v i q) w6 wl := by
            intro e x1 e1 x2 e2
            rw [nI_1] at e1 e2
            subst e1
            subst e2
            exact KK (nI i, v i q, nI (q + 1)) w6 e.symm f65
          have eh : hmS (wm 180) v y i q = if y.1 < 0 ∨ y.2.1 < v i q then (nI i, v i q, nI (q + 1)) else y := by
            unfold hmS
            rw [if_pos z1]
          refine ⟨fun k => b161 ?_, fun k => ⟨fun k2 => b161 ?_, fun k2 => b173 w6 ?_ f65⟩⟩
          · rw [eh, if_pos (Or.inl k)]
          · rw [eh, if_pos (Or.inr k2)]
          · rw [eh, if_neg (fun z => z.elim k k2)]
        · have z0' : ¬ wm 180 (4 + (8 * q + i)) = 1 := by rw [Classical.not_not.mp z]; decide
          refine b173 w5 ?_ f5
          unfold hmS
          rw [if_neg z0']
      refine one 2 0 _ w4 (by omega) (hmF_i i (by omega)) f4 (fun y2 w6 ey f6 => one 1 1 y2 w6 (by omega) (by rw [ey]; exact hmS_i (by omega) (hmF_i i (by omega))) f6 (fun y3 w7 ey3 f7 => ?_))
      refine pk_le 2 2 (fun _ x1 ex1 => ?_) (fun z => absurd z (by omega))
      rw [nI_1] at ex1
      subst ex1
      exact L (y3, w7) ⟨by rw [ey3, ey]; rfl, f7⟩
  have h80 : w 80 6 = nI (tm T) := hC.1.2.2.2.2.1.1
  refine pk_loop (fun n i (z : (Int32 × Int32 × Int32) × Mem) => wp_11_himself_b26 (fun x w2 => wp_12_himself (nI wh) wm wl (fun y wm2 wl2 => x = y ∧ REL w2 wm2 wl2)) n (nI wh) z.1.1 z.1.2.2 z.1.2.1 (nI i) z.2) (fun i z => z.1 = hmF (wm 180) v i ∧ fcS w z.2) (tm T) 0 ((-2, -2, -2), w) (by omega) ⟨rfl, fs_re w⟩ (fun n z hz => ?_) (fun n i z hi hz L => ?_)
  · obtain ⟨y, w4⟩ := z
    obtain ⟨rfl, f4⟩ := hz
    dsimp only at f4 ⊢
    unfold wp_11_himself_b26
    rw [(cf_j hC (cf_of f4)).1, hZ]
    have fo := fc_cf (fc_re w) f4
    refine pk_le (tm T) (tm T) (fun _ => ⟨fun q0 => fin _ _ fo ?_, fun q0 => ⟨fun q1 => fin _ _ fo ?_, fun q1 => fin _ _ fo ?_⟩⟩) (fun q => absurd q (by omega))
    · rw [if_pos ((nI_eq (b := 0) (by omega) (by omega)).mp q0)]
    · rw [if_neg (fun z => q0 (by rw [z]; rfl)), if_pos ((nI_eq (b := 1) (by omega) (by omega)).mp q1)]
    · rw [if_neg (fun z => q0 (by rw [z]; rfl)), if_neg (fun z => q1 (by rw [z]; rfl))]
  · obtain ⟨y, w4⟩ := z
    obtain ⟨rfl, f4⟩ := hz
    dsimp only at f4 ⊢
    unfold wp_11_himself_b26
    rw [(cf_j hC (cf_of f4)).1]
    refine pk_le (tm T) i (fun q => absurd q (by omega)) (fun _ => ⟨3, ?_⟩)
    have one : ∀ (n2 q : Nat) (y : Int32 × Int32 × Int32) (w5 : Mem), q < 2 → hmI y → fcS w w5 → (∀ y2 w6, y2 = hmS (wm 180) v y i q → fcS w w6 → wp_11_himself_b44 (fun x w2 => wp_12_himself (nI wh) wm wl (fun y wm2 wl2 => x = y ∧ REL w2 wm2 wl2)) (wp_11_himself_b26 (fun x w2 => wp_12_himself (nI wh) wm wl (fun y wm2 wl2 => x = y ∧ REL w2 wm2 wl2)) n) n2 (nI wh) y2.1 y2.2.2 y2.2.1 (nI i) (nI (q + 1 + 1)) w6) →
        wp_11_himself_b44 (fun x w2 => wp_12_himself (nI wh) wm wl (fun y wm2 wl2 => x = y ∧ REL w2 wm2 wl2)) (wp_11_himself_b26 (fun x w2 => wp_12_himself (nI wh) wm wl (fun y wm2 wl2 => x = y ∧ REL w2 wm2 wl2)) n) (n2 + 1) (nI wh) y.1 y.2.2 y.2.1 (nI i) (nI (q + 1)) w5 := by
      intro n2 q y w5 hq hy f5 KK
      have p5 : ∀ w6, fcS w w6 → PL T false (wm 180) 89 w6 := fun w6 f6 => pl_fc (by omega) hP f6
      refine pk_lt 2 (q + 1) (fun z => absurd z (by omega)) (fun _ => ?_)
      have b100 : ∀ w6, hmS (wm 180) v y i q = y → fcS w w6 → wp_11_himself_b100 (fun x w2 => wp_12_himself (nI wh) wm wl (fun y wm2 wl2 => x = y ∧ REL w2 wm2 wl2)) (wp_11_himself_b26 (fun x w2 => wp_12_himself (nI wh) wm wl (fun y wm2 wl2 => x = y ∧ REL w2 wm2 wl2)) n) (wp_11_himself_b44 (fun x w2 => wp_12_himself (nI wh) wm wl (fun y wm2 wl2 => x = y ∧ REL w2 wm2 wl2)) (wp_11_himself_b26 (fun x w2 => wp_12_himself (nI wh) wm wl (fun y wm2 wl2 => x = y ∧ REL w2 wm2 wl2)) n) n2) (nI wh) y.1 y.2.2 y.2.1 (nI i) (nI (q + 1)) w6 := by
        intro w6 e f6 x1 e1
        rw [nI_1] at e1
        subst e1
        exact KK y w6 e.symm f6
      refine c_hasU hB (p5 w5 f5) hG hi hq (fun z1 => u1 ?_) (fun z1 => u0 (b100 w5 ?_ f5))
      · refine c_cell (c := 4) (by omega) hq (by omega) ?_
        rw [(p5 w5 f5).2.2.2.1 _ 4 (by omega) (by omega), show 4 + 16 * (4 + 1) + (8 * q + i) = 84 + (8 * q + i) by omega]
        refine c_blow hC (cf_of f5) (fun w6 f6 => ?_)
        refine c_cell (c := 5) (by omega) hq (by omega) ?_
        rw [(p5 w6 f6.1).2.2.2.1 _ 5 (by omega) (by omega), show 4 + 16 * (5 + 1) + (8 * q + i) = 100 + (8 * q + i) by omega]
        refine c_cell (c := 7) (by omega) hq (by omega) ?_
        rw [(p5 w6 f6.1).2.2.2.1 _ 7 (by omega) (by omega), show 4 + 16 * (7 + 1) + (8 * q + i) = 132 + (8 * q + i) by omega]
        refine c_reachOf hC f6 hi (fun w7 f7 => ?_)
        refine c_cell (c := 0) (by omega) hq (by omega) ?_
        rw [(p5 w7 f7.1).2.2.2.1 _ 0 (by omega) (by omega), show 4 + 16 * (0 + 1) + (8 * q + i) = 20 + (8 * q + i) by omega]
        have ev := hv i q
        rw [jL_g] at ev
        unfold gL at ev
        rw [ev]
        have eh : hmS (wm 180) v y i q = if y.1 < 0 ∨ y.2.1 < v i q then (nI i, v i q, nI (q + 1)) else y := by
          unfold hmS
          rw [if_pos z1]
        have b90 : hmS (wm 180) v y i q = (nI i, v i q, nI (q + 1)) → wp_11_himself_b90 (fun x w2 => wp_12_himself (nI wh) wm wl (fun y wm2 wl2 => x = y ∧ REL w2 wm2 wl2)) (wp_11_himself_b26 (fun x w2 => wp_12_himself (nI wh) wm wl (fun y wm2 wl2 => x = y ∧ REL w2 wm2 wl2)) n) (wp_11_himself_b44 (fun x w2 => wp_12_himself (nI wh) wm wl (fun y wm2 wl2 => x = y ∧ REL w2 wm2 wl2)) (wp_11_himself_b26 (fun x w2 => wp_12_himself (nI wh) wm wl (fun y wm2 wl2 => x = y ∧ REL w2 wm2 wl2)) n) n2) (nI wh) (nI i) (nI (q + 1)) (v i q) w7 := by
          intro e x1 e1
          rw [nI_1] at e1
          subst e1
          exact KK (nI i, v i q, nI (q + 1)) w7 e.symm f7.1
        refine ⟨fun k => b90 ?_, fun k => ⟨fun k2 => b100 w7 ?_ f7.1, fun k2 => b90 ?_⟩⟩
        · rw [eh, if_pos (Or.inl (by rw [k]; decide))]
        · rw [eh, if_neg]
          rintro (z | z)
          · rcases hy with y0 | ⟨b, hb, y0⟩
            · exact k y0
            · rw [y0] at z
              exact nI_pos (by omega) z
          · exact nlt.mpr k2 z
        · rw [eh, if_pos (Or.inr (Classical.not_not.mp (fun z => k2 (nlt.mp z))))]
      · unfold hmS
        rw [if_neg z1]
    refine one 2 0 _ w4 (by omega) (hmF_i i (by omega)) f4 (fun y2 w6 ey f6 => one 1 1 y2 w6 (by omega) (by rw [ey]; exact hmS_i (by omega) (hmF_i i (by omega))) f6 (fun y3 w7 ey3 f7 => ?_))
    refine pk_lt 2 3 (fun _ x1 ex1 => ?_) (fun z => absurd z (by omega))
    rw [nI_1] at ex1
    subst ex1
    exact L (y3, w7) ⟨by rw [ey3, ey]; rfl, f7⟩
