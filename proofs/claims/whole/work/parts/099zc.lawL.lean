-- printed by wip/whole/gen12.py
/-- the law's loop -/
theorem law_loop {L : Nat} {xs : Nat → Int32} (hL : L ≤ 3072) : ∀ (n i : Nat) (w wm : Mem) (wl : MemL), L - i < n → i ≤ L → REL w wm wl → wp_law_b18 L xs n (nI i) w wm wl := by
  intro n
  induction n with
  | zero => exact fun i w wm wl hn _ _ => absurd hn (Nat.not_lt_zero _)
  | succ n ih =>
    intro i w wm wl hn hi hR
    unfold wp_law_b18
    refine ⟨fun _ => trivial, fun q => ?_⟩
    have h6 : i + 6 ≤ L := by
      rw [Int32.lt_iff_toInt_lt, show Int32.ofNat L = nI L from rfl, ti_sub (by rw [ti_nI (by omega)]; simp; omega) (by rw [ti_nI (by omega)]; simp; omega), ti_nI (by omega), ti_nI (by omega), show (6 : Int32).toInt = 6 from rfl] at q
      omega
    have vv : ∀ k, k < 6 → vp_in (nI i + nI k) L := fun k hk => by
      rw [nI_add]
      exact vp_in_nI (by omega) (by omega)
    have V1 : vp_in (nI i + (1 : Int32)) L := vv 1 (by decide)
    have V2 : vp_in (nI i + (2 : Int32)) L := vv 2 (by decide)
    have V3 : vp_in (nI i + (3 : Int32)) L := vv 3 (by decide)
    have V4 : vp_in (nI i + (4 : Int32)) L := vv 4 (by decide)
    have V5 : vp_in (nI i + (5 : Int32)) L := vv 5 (by decide)
    have go : ∀ w2 wm2 wl2, REL w2 wm2 wl2 → wp_law_b1433 L xs (wp_law_b18 L xs n) (nI i) w2 wm2 wl2 := by
      intro w2 wm2 wl2 h x1 e1
      rw [show (6 : Int32) = nI 6 from rfl, nI_add] at e1
      subst e1
      exact ih (i + 6) w2 wm2 wl2 (by omega) h6 h
    have nx : ∀ (x y : Int32) (w2 wm2 : Mem) (wl2 : MemL), x = y ∧ REL w2 wm2 wl2 → (x = y → wp_law_b1433 L xs (wp_law_b18 L xs n) (nI i) w2 wm2 wl2) ∧ (¬ x = y → False) := fun x y w2 wm2 wl2 h => ⟨fun _ => go w2 wm2 wl2 h.2, fun z => z h.1⟩
    refine ⟨vp_in_nI (by omega) (by omega), ?_⟩
    refine ⟨fun _ => ⟨V1, V2, V3, V4, V5, mq_11_feed (fun x w2 q => ⟨V1, V2, V3, V4, V5, mq_12_feed (fun y wm2 wl2 q2 => nx _ _ _ _ _ q2) q⟩) (sim_feed _ _ _ _ _ w wm wl hR)⟩, fun _ => ?_⟩
    refine ⟨fun _ => ⟨V1, mq_11_back (fun x w2 q => ⟨V1, mq_12_back (fun y wm2 wl2 q2 => nx _ _ _ _ _ q2) q⟩) (sim_back _ w wm wl hR)⟩, fun _ => ?_⟩
    refine ⟨fun _ => simg_read w wm wl hR _ (fun x y w2 wm2 wl2 q2 => nx _ _ _ _ _ q2), fun _ => ?_⟩
    refine ⟨fun _ => mq_11_place (fun x w2 q => mq_12_place (fun y wm2 wl2 q2 => nx _ _ _ _ _ q2) q) (sim_place w wm wl hR), fun _ => ?_⟩
    refine ⟨fun _ => ⟨V1, mq_11_now (fun x w2 q => ⟨V1, mq_12_now (fun y wm2 wl2 q2 => nx _ _ _ _ _ q2) q⟩) (sim_now _ w wm wl hR)⟩, fun _ => ?_⟩
    refine ⟨fun _ => ⟨V1, V2, mq_11_wind (fun x w2 q => ⟨V1, V2, mq_12_wind (fun y wm2 wl2 q2 => nx _ _ _ _ _ q2) q⟩) (sim_wind _ _ w wm wl hR)⟩, fun _ => ?_⟩
    refine ⟨fun _ => ⟨V1, V2, V3, mq_11_jump (fun x w2 q => ⟨V1, V2, V3, mq_12_jump (fun y wm2 wl2 q2 => nx _ _ _ _ _ q2) q⟩) (sim_jump _ _ _ w wm wl hR)⟩, fun _ => ?_⟩
    refine ⟨fun _ => ⟨V1, V2, V3, mq_11_mark (fun x w2 q => ⟨V1, V2, V3, mq_12_mark (fun y wm2 wl2 q2 => nx _ _ _ _ _ q2) q⟩) (sim_mark _ _ _ w wm wl hR)⟩, fun _ => ?_⟩
    refine ⟨fun _ => ⟨V1, mq_11_points (fun x w2 q => ⟨V1, mq_12_points (fun y wm2 wl2 q2 => nx _ _ _ _ _ q2) q⟩) (sim_points _ w wm wl hR)⟩, fun _ => ?_⟩
    refine ⟨fun _ => ⟨V1, mq_11_rank (fun x w2 q => ⟨V1, mq_12_rank (fun y wm2 wl2 q2 => nx _ _ _ _ _ q2) q⟩) (sim_rank _ w wm wl hR)⟩, fun _ => ?_⟩
    refine ⟨fun _ => ⟨V1, mq_11_ranked (fun x w2 q => ⟨V1, mq_12_ranked (fun y wm2 wl2 q2 => nx _ _ _ _ _ q2) q⟩) (sim_ranked _ w wm wl hR)⟩, fun _ => ?_⟩
    refine ⟨fun _ => ⟨V1, mq_11_start (fun x w2 q => ⟨V1, mq_12_start (fun y wm2 wl2 q2 => nx _ _ _ _ _ q2) q⟩) (sim_start _ w wm wl hR)⟩, fun _ => ?_⟩
    refine ⟨fun _ => ⟨V1, mq_11_letGo (fun x w2 q => ⟨V1, mq_12_letGo (fun y wm2 wl2 q2 => nx _ _ _ _ _ q2) q⟩) (sim_letGo _ w wm wl hR)⟩, fun _ => ?_⟩
    refine ⟨fun _ => ⟨V1, mq_11_gate (fun x w2 q => ⟨V1, mq_12_gate (fun y wm2 wl2 q2 => nx _ _ _ _ _ q2) q⟩) (sim_gate _ w wm wl hR)⟩, fun _ => ?_⟩
    refine ⟨fun _ => ⟨V1, mq_11_pause (fun x w2 q => ⟨V1, mq_12_pause (fun y wm2 wl2 q2 => nx _ _ _ _ _ q2) q⟩) (sim_pause _ w wm wl hR)⟩, fun _ => ?_⟩
    refine ⟨fun _ => mq_11_undo (fun x w2 q => mq_12_undo (fun y wm2 wl2 q2 => nx _ _ _ _ _ q2) q) (sim_undo w wm wl hR), fun _ => ?_⟩
    refine ⟨fun _ => ⟨V1, V2, V3, V4, mq_11_attempt (fun x w2 q => ⟨V1, V2, V3, V4, mq_12_attempt (fun y wm2 wl2 q2 => nx _ _ _ _ _ q2) q⟩) (sim_attempt _ _ _ _ w wm wl hR)⟩, fun _ => ?_⟩
    refine ⟨fun _ => ⟨V1, V2, mq_11_wait (fun x w2 q => ⟨V1, V2, mq_12_wait (fun y wm2 wl2 q2 => nx _ _ _ _ _ q2) q⟩) (sim_wait _ _ w wm wl hR)⟩, fun _ => ?_⟩
    refine ⟨fun _ => ⟨V1, V2, V3, fun e => (mq_11_cost (fun x w2 q => ⟨V1, V2, V3, fun _ => mq_12_cost (fun y wm2 wl2 q2 => nx _ _ _ _ _ q2) q, fun z => absurd e z⟩) (sim_cost _ _ 0 w wm wl hR)), fun e => (mq_11_cost (fun x w2 q => ⟨V1, V2, V3, fun z => absurd z e, fun _ => mq_12_cost (fun y wm2 wl2 q2 => nx _ _ _ _ _ q2) q⟩) (sim_cost _ _ 1 w wm wl hR))⟩, fun _ => ?_⟩
    refine ⟨fun _ => ⟨V1, V2, V3, mq_11_pound (fun x w2 q => ⟨V1, V2, V3, mq_12_pound (fun y wm2 wl2 q2 => nx _ _ _ _ _ q2) q⟩) (sim_pound _ _ _ w wm wl hR)⟩, fun _ => ?_⟩
    refine ⟨fun _ => ⟨V1, mq_11_gain (fun x w2 q => ⟨V1, mq_12_gain (fun y wm2 wl2 q2 => nx _ _ _ _ _ q2) q⟩) (sim_gain _ w wm wl hR)⟩, fun _ => ?_⟩
    refine ⟨fun _ => ⟨V1, mq_11_number (fun x w2 q => ⟨V1, mq_12_number (fun y wm2 wl2 q2 => nx _ _ _ _ _ q2) q⟩) (sim_number _ w wm wl hR)⟩, fun _ => ?_⟩
    refine ⟨fun _ => ⟨V1, mq_11_gates (fun x w2 q => ⟨V1, mq_12_gates (fun y wm2 wl2 q2 => nx _ _ _ _ _ q2) q⟩) (sim_gates _ w wm wl hR)⟩, fun _ => ?_⟩
    refine ⟨fun _ => ⟨V1, V2, mq_11_crown (fun x w2 q => ⟨V1, V2, mq_12_crown (fun y wm2 wl2 q2 => nx _ _ _ _ _ q2) q⟩) (sim_crown _ _ w wm wl hR)⟩, fun _ => ?_⟩
    refine ⟨fun _ => ⟨V1, V2, mq_11_without (fun x w2 q => ⟨V1, V2, mq_12_without (fun y wm2 wl2 q2 => nx _ _ _ _ _ q2) q⟩) (sim_without _ _ w wm wl hR)⟩, fun _ => ?_⟩
    refine ⟨fun _ => ⟨V1, mq_11_needs (fun x w2 q => ⟨V1, mq_12_needs (fun y wm2 wl2 q2 => nx _ _ _ _ _ q2) q⟩) (sim_needs _ w wm wl hR)⟩, fun _ => ?_⟩
    refine ⟨fun _ => ⟨V1, mq_11_spread (fun x w2 q => ⟨V1, mq_12_spread (fun y wm2 wl2 q2 => nx _ _ _ _ _ q2) q⟩) (sim_spread _ w wm wl hR)⟩, fun _ => ?_⟩
    refine ⟨fun _ => ⟨V1, V2, V3, fun e => (mq_11_atGate (fun x w2 q => ⟨V1, V2, V3, fun _ => mq_12_atGate (fun y wm2 wl2 q2 => nx _ _ _ _ _ q2) q, fun z => absurd e z⟩) (sim_atGate _ _ 0 w wm wl hR)), fun e => (mq_11_atGate (fun x w2 q => ⟨V1, V2, V3, fun z => absurd z e, fun _ => mq_12_atGate (fun y wm2 wl2 q2 => nx _ _ _ _ _ q2) q⟩) (sim_atGate _ _ 1 w wm wl hR))⟩, fun _ => ?_⟩
    refine ⟨fun _ => ⟨V1, mq_11_lead (fun x w2 q => ⟨V1, mq_12_lead (fun y wm2 wl2 q2 => nx _ _ _ _ _ q2) q⟩) (sim_lead _ w wm wl hR)⟩, fun _ => ?_⟩
    refine ⟨fun _ => ⟨V1, mq_11_reversed (fun x w2 q => ⟨V1, mq_12_reversed (fun y wm2 wl2 q2 => nx _ _ _ _ _ q2) q⟩) (sim_reversed _ w wm wl hR)⟩, fun _ => ?_⟩
    refine ⟨fun _ => ⟨V1, fun e => (And.intro V2 (mq_11_harsh (fun x w2 q => ⟨V1, fun _ => (And.intro V2 (mq_12_harsh (fun y wm2 wl2 q2 => nx _ _ _ _ _ q2) q)), fun z => absurd e z⟩) (sim_harsh 0 _ w wm wl hR))), fun e => (And.intro V2 (mq_11_harsh (fun x w2 q => ⟨V1, fun z => absurd z e, fun _ => (And.intro V2 (mq_12_harsh (fun y wm2 wl2 q2 => nx _ _ _ _ _ q2) q))⟩) (sim_harsh 1 _ w wm wl hR)))⟩, fun _ => ?_⟩
    refine ⟨fun _ => ⟨V1, V2, mq_11_calm (fun x w2 q => ⟨V1, V2, mq_12_calm (fun y wm2 wl2 q2 => nx _ _ _ _ _ q2) q⟩) (sim_calm _ _ w wm wl hR)⟩, fun _ => ?_⟩
    refine ⟨fun _ => ⟨V1, mq_11_windiest (fun x w2 q => ⟨V1, mq_12_windiest (fun y wm2 wl2 q2 => nx _ _ _ _ _ q2) q⟩) (sim_windiest _ w wm wl hR)⟩, fun _ => ?_⟩
    refine ⟨fun _ => ⟨V1, mq_11_progress (fun x w2 q => ⟨V1, mq_12_progress (fun y wm2 wl2 q2 => nx _ _ _ _ _ q2) q⟩) (sim_progress _ w wm wl hR)⟩, fun _ => ?_⟩
    refine ⟨fun _ => ⟨V1, mq_11_himself (fun x w2 q => ⟨V1, mq_12_himself (fun y wm2 wl2 q2 => nx _ _ _ _ _ q2) q⟩) (sim_himself _ w wm wl hR)⟩, fun _ => ?_⟩
    refine ⟨fun _ => ⟨V1, V2, V3, mq_11_tell (fun x w2 q => ⟨V1, V2, V3, mq_12_tell (fun y wm2 wl2 q2 => nx _ _ _ _ _ q2) q⟩) (sim_tell _ _ _ w wm wl hR)⟩, fun _ => ?_⟩
    refine ⟨fun _ => mq_11_forget (fun x w2 q => mq_12_forget (fun y wm2 wl2 q2 => nx _ _ _ _ _ q2) q) (sim_forget w wm wl hR), fun _ => ?_⟩
    refine ⟨fun _ => ⟨V1, V2, V3, mq_11_slips (fun x w2 q => ⟨V1, V2, V3, mq_12_slips (fun y wm2 wl2 q2 => nx _ _ _ _ _ q2) q⟩) (sim_slips _ _ _ w wm wl hR)⟩, fun _ => ?_⟩
    refine ⟨fun _ => ⟨V1, mq_11_hold (fun x w2 q => ⟨V1, mq_12_hold (fun y wm2 wl2 q2 => nx _ _ _ _ _ q2) q⟩) (sim_hold _ w wm wl hR)⟩, fun _ => ?_⟩
    refine ⟨fun _ => ⟨V1, mq_11_restore (fun x w2 q => ⟨V1, mq_12_restore (fun y wm2 wl2 q2 => nx _ _ _ _ _ q2) q⟩) (sim_restore _ w wm wl hR)⟩, fun _ => ?_⟩
    refine ⟨fun _ => ⟨V1, mq_11_count (fun x w2 q => ⟨V1, mq_12_count (fun y wm2 wl2 q2 => nx _ _ _ _ _ q2) q⟩) (sim_count _ w wm wl hR)⟩, fun _ => ?_⟩
    exact go w wm wl hR
