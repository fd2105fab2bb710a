theorem hr_keep {T : TX} {n x : Nat} {P : Nat → Int32} {w wm w2 wm2 : Mem} (hn : n ≤ 40) (hx : x < 40) (hh : ∀ i, i < n → SR T (cu (wm 183) (260 * i)) (w (99 + (x + 40 - n + i) % 40)) ∧ GS T (cu (wm 183) (260 * i))) (hP : GS T P)
    (a1 : w2 97 1 = nI (if n = 40 then 40 else n + 1)) (a2 : w2 97 2 = nI ((x + 1) % 40)) (a3 : SR T P (w2 (99 + x))) (a4 : ∀ y, y < 40 → y ≠ x → w2 (99 + y) = w (99 + y))
    (b1 : wm2 150 64 = nI (if n = 40 then 40 else n + 1)) (b2 : ∀ i, i < (if n = 40 then 39 else n) → cu (wm2 183) (260 * i) = cu (wm 183) (260 * (if n = 40 then i + 1 else i))) (b3 : cu (wm2 183) (260 * (if n = 40 then 39 else n)) = P) : HR T w2 wm2 := by
  refine ⟨if n = 40 then 40 else n + 1, (x + 1) % 40, by split <;> omega, by omega, a1, a2, b1, fun i hi => ?_⟩
  by_cases c : n = 40
  · rw [if_pos c] at hi b2 b3
    rw [if_pos c]
    rcases Nat.lt_or_ge i 39 with d | d
    · have := b2 i d
      rw [if_pos c] at this
      rw [this, show ((x + 1) % 40 + 40 - 40 + i) % 40 = (x + 40 - n + (i + 1)) % 40 by omega, a4 _ (by omega) (by omega)]
      exact hh (i + 1) (by omega)
    · rw [show i = 39 by omega, b3, show ((x + 1) % 40 + 40 - 40 + 39) % 40 = x by omega]
      exact ⟨a3, hP⟩
  · rw [if_neg c] at hi b2 b3
    rw [if_neg c]
    rcases Nat.lt_or_ge i n with d | d
    · have := b2 i d
      rw [if_neg c] at this
      rw [this, show ((x + 1) % 40 + 40 - (n + 1) + i) % 40 = (x + 40 - n + i) % 40 by omega, a4 _ (by omega) (by omega)]
      exact hh i d
    · rw [show i = n by omega, b3, show ((x + 1) % 40 + 40 - (n + 1) + n) % 40 = x by omega]
      exact ⟨a3, hP⟩
/-- both sides after something was done -/
theorem rel_new {T : TX} {s : Nat} {w w2 wm wm2 : Mem} {wl : MemL} (h : RELt T s w wm wl) (fc : ∀ a j, ¬ scC a j → ¬ (89 ≤ a ∧ a < 97) → ¬ (97 ≤ a ∧ a < 139) → a ≠ 149 → w2 a j = w a j)
    (fr : ∀ a j, ¬ scR a j → a ≠ 180 → a ≠ 181 → a ≠ 183 → ¬ (a = 150 ∧ (j = 49 ∨ j = 50 ∨ j = 64)) → wm2 a j = wm a j) (z1 : ∀ i, 260 ≤ i → wm2 180 i = 0 ∧ wm2 181 i = 0) (hP' : PL T false (wm2 180) 89 w2) (hG : GS T (wm2 180)) (hH' : HR T w2 wm2) : REL w2 wm2 wl := by
  obtain ⟨⟨hC, hR, hP, hS⟩, ⟨hH, hL, hT, hA⟩, h12, hK⟩ := h
  have cr : ∀ a, 139 ≤ a → a ≠ 149 → w2 a = w a := fun a h1 h2 => funext (fun j => fc a j (by simp only [scC]; omega) (by omega) (by omega) h2)
  have cl : ∀ a, a < 49 → w2 a = w a := fun a h1 => funext (fun j => fc a j (by simp only [scC]; omega) (by omega) (by omega) (by omega))
  have rr : ∀ a, a ≠ 150 → a ≠ 178 → a ≠ 179 → a ≠ 180 → a ≠ 181 → a ≠ 182 → a ≠ 183 → wm2 a = wm a := fun a h1 h2 h3 h4 h5 h6 h7 => funext (fun j => fr a j (by simp only [scR]; omega) h4 h5 h7 (by omega))
  obtain ⟨r1, r2, r3, r4, r5, r6, r7⟩ := hR
  refine ⟨T, s, ⟨⟨ct_fr hC (fun a j q ha => fc a j q (by omega) (by omega) (by omega)), ⟨r1, (fr 150 18 (by decide) (by decide) (by decide) (by decide) (by decide)).trans r2, tr_rf r3 (fun b k1 k2 k3 k4 => rr b (by omega) (by omega) (by omega) (by omega) (by omega) (by omega) (by omega)), r4, (fr 150 61 (by decide) (by decide) (by decide) (by decide) (by decide)).trans r5, z1, hG.1⟩, hP', hG.2⟩, ⟨hH', ?_, ?_, ?_⟩, ?_, hK⟩⟩
  · intro i hi
    rw [cr 144 (by decide) (by decide), cr (141 + i) (by omega) (by omega), rr 187 (by decide) (by decide) (by decide) (by decide) (by decide) (by decide) (by decide), rr 188 (by decide) (by decide) (by decide) (by decide) (by decide) (by decide) (by decide)]
    exact hL i hi
  · unfold TO
    rw [cr 145 (by decide) (by decide), cr 146 (by decide) (by decide), cr 147 (by decide) (by decide), cr 148 (by decide) (by decide), rr 184 (by decide) (by decide) (by decide) (by decide) (by decide) (by decide) (by decide), rr 185 (by decide) (by decide) (by decide) (by decide) (by decide) (by decide) (by decide), rr 186 (by decide) (by decide) (by decide) (by decide) (by decide) (by decide) (by decide), fr 150 66 (by decide) (by decide) (by decide) (by decide) (by decide)]
    exact hT
  · unfold TA
    rw [cl 1 (by decide), cl 2 (by decide), rr 151 (by decide) (by decide) (by decide) (by decide) (by decide) (by decide) (by decide), fr 150 2 (by decide) (by decide) (by decide) (by decide) (by decide)]
    exact hA
  · rw [cl 0 (by decide), fr 150 17 (by decide) (by decide) (by decide) (by decide) (by decide)]; exact h12
/-- the class keeps what goes on, then does something; the reference does it, then keeps -/
theorem act_end {T : TX} {s n x : Nat} {w w2 w3 wm wm3 : Mem} {wl : MemL} {v : Int32} {Q : Mem → MemL → Prop} (h : RELt T s w wm wl) (hn : n ≤ 40) (hx : x < 40) (h64 : wm 150 64 = nI n)
    (hh : ∀ i, i < n → SR T (cu (wm 183) (260 * i)) (w (99 + (x + 40 - n + i) % 40)) ∧ GS T (cu (wm 183) (260 * i)))
    (f2 : ∀ a, a ≠ 97 → a ≠ 99 + x → w2 a = w a) (a1 : w2 97 1 = nI (if n = 40 then 40 else n + 1)) (a2 : w2 97 2 = nI ((x + 1) % 40)) (a3 : SR T (wm 180) (w2 (99 + x)))
    (f3 : frQ 89 w2 w3) (P' : Nat → Int32) (hP' : PL T false P' 89 w3) (hG : GS T P') (hz : ∀ i, 260 ≤ i → P' i = 0) (g3 : frO2 wm wm3) (e3 : wm3 181 = P')
    (K : ∀ wm4, REL w3 wm4 wl → wm4 180 = P' → (∀ j, j ≠ 64 → wm4 150 j = wm3 150 j) → Q wm4 wl) : wp_12_keeps wm3 wl Q := by
  have hR := h.1.2.1
  have e180 : wm3 180 = wm 180 := fo_180 g3
  have h64' : wm3 150 64 = nI n := (g3 150 64 (by decide) (by decide) (by decide)).trans h64
  have e183 : wm3 183 = wm 183 := funext (fun j => g3 183 j (by simp only [scR]; omega) (by omega) (by omega))
  refine r_keeps hn h64' (by rw [e180, e3]; exact fun i hi => ⟨z0 hR i hi, hz i hi⟩) (fun wm4 k1 k2 k3 k4 k5 => ?_)
  have e4 : wm4 180 = P' := k2.trans e3
  have cq : ∀ a, 97 ≤ a → w3 a = w2 a := fun a ha => funext (fun j => f3 a j (by simp only [scC]; omega) (by omega))
  refine K wm4 (rel_new h (fun a j q1 q2 q3 q4 => ?_) (fun a j q1 q2 q3 q4 q5 => ?_) ?_ (by rw [e4]; exact hP') (by rw [e4]; exact hG) ?_) e4 (fun j hj => k1 150 j (by decide) (by decide) (by omega))
  · rw [f3 a j q1 (by omega), f2 a (by omega) (by omega)]
  · rw [k1 a j q4 q2 (by omega)]
    exact g3 a j q1 q3 (by omega)
  · intro i hi
    have : wm4 181 = P' := (funext (fun j => k1 181 j (by decide) (by decide) (by omega))).trans e3
    rw [e4, this]
    exact ⟨hz i hi, hz i hi⟩
  · rw [e183] at k4
    rw [e180] at k5
    refine hr_keep hn hx hh ⟨hR.2.2.2.2.2.2, h.1.2.2.2⟩ ?_ ?_ ?_ (fun y hy hyx => ?_) k3 k4 k5
    · rw [cq 97 (by omega)]; exact a1
    · rw [cq 97 (by omega)]; exact a2
    · rw [cq _ (by omega)]; exact a3
    · rw [cq _ (by omega), f2 _ (by omega) (by omega)]
theorem sim_start (a1 : Int32) : SIM (wp_11_start a1) (wp_12_start a1) := by
  rintro w wm wl ⟨T, s, h⟩
  obtain ⟨hC, hR, hP, hS⟩ := h.1
  have hB := hR.2.2.2.1
  have hG := hR.2.2.2.2.2.2
  obtain ⟨n, x, n1, n2, n3, n4, n5, n6⟩ := h.2.1.1
  refine c_in (fun x1 => t1 ?_) (fun q => t0 (r_in (fun z => absurd z q) (fun _ => u0 ⟨rfl, T, s, h⟩)))
  obtain ⟨N, hN, rfl⟩ : ∃ N, N ≤ 16 ∧ a1 = nI N := inR_nI (n := 16) (by omega) ⟨by have := x1.1; rw [Int32.le_iff_toInt_le] at this ⊢; rw [show (1 : Int32).toInt = 1 from rfl] at this; rw [show (0 : Int32).toInt = 0 from rfl]; omega, x1.2⟩
  have N1 : 1 ≤ N := by
    rcases Nat.eq_zero_or_pos N with z | z
    · exact absurd x1.1 (by rw [z]; decide)
    · exact z
  obtain ⟨M, rfl⟩ : ∃ M, N = M + 1 := ⟨N - 1, by omega⟩
  have rq : ∀ (Q : Int32 → Mem → MemL → Prop), (∀ wm1, frO2 wm wm1 → wm1 181 = runP T (nI (tn T 15)) false (M + 1) (wm 180) → wp_12_start_b40 Q (nI (0 + runN T (nI (tn T 15)) false (M + 1) (wm 180))) wm1 wl) → wp_12_start (nI (M + 1)) wm wl Q := by
    intro Q K
    refine r_in (fun _ => u1 (r_copies hR (fun wm1 g1 e1 p1 b1 => ?_))) (fun q => absurd x1 q)
    exact ⟨M + 1 + 1, r_run (by omega) (M + 1) 0 wm1 (by omega) p1 (fun w2 f2 e2 => by
      rw [e1] at e2 ⊢
      exact K w2 (fo_fp g1 f2) e2)⟩
  refine c_next hB hP hG (fun z => ⟨fun q => absurd rfl q, fun _ => ?_⟩) (fun z => ⟨fun _ => ?_, fun q => ?_⟩)
  · refine rq _ (fun wm1 g1 e1 => ?_)
    have r0 : runN T (nI (tn T 15)) false (M + 1) (wm 180) = 0 := runN_0.mpr (by omega)
    have rp : runP T (nI (tn T 15)) false (M + 1) (wm 180) = wm 180 := by
      simp only [runP]
      rw [if_neg (by omega)]
    rw [r0]
    exact ⟨fun q => absurd rfl q, fun _ => ⟨rfl, rel_e h (fc_re w) g1 (e1.trans rp)⟩⟩
  · refine c_keep hB hP n1 n2 n3 n4 (fun w2 f2 k1 k2 k3 => ?_)
    have c2 : CT T (nI (tn T 15)) w2 := ct_fr hC (fun b j h1 h2 => by rw [f2 b (by omega) (by omega)])
    have p2 : PL T false (wm 180) 89 w2 := pl_fr hP (fun b h1 h2 => f2 b (by omega) (by omega))
    refine ⟨M + 1 + 1, c_startBy (N := M + 1) (by omega) (by omega) (M + 1) 0 (wm 180) w2 (by omega) c2 p2 hG (fun w3 f3 p3 => rq _ (fun wm1 g1 e1 => ?_))⟩
    have r0 : runN T (nI (tn T 15)) false (M + 1) (wm 180) ≠ 0 := fun y => runN_0.mp y z
    have rl := runN_le (T := T) (lf := false) (sd := nI (tn T 15)) (M + 1) (wm 180)
    refine ⟨fun _ => ?_, fun q => ?_⟩
    · exact act_end (v := 0) h n1 n2 n5 n6 f2 k1 k2 k3 f3 _ p3 ⟨gw_run hB _ _ hG, cs_run hB _ _ hG hS⟩ (fun i hi => by rw [runP_z hB hi _ _ hG]; exact z0 hR i hi) g1 e1 (fun wm4 hr _ _ => ⟨rfl, hr⟩)
    · have := (nI_eq (b := 0) (by omega) (by omega)).mp (Classical.not_not.mp q)
      omega
  · exfalso
    have ha := odP_lt (lf := false) hB hG.1.2.2.1 z
    have := nI_pos (n := nxP T false (wm 180)) (by have := hB.2.2.1; unfold nxP; omega)
    have q' := Classical.not_not.mp q
    rw [q'] at this
    exact this (by decide)
theorem sim_letGo (a1 : Int32) : SIM (wp_11_letGo a1) (wp_12_letGo a1) := by
  rintro w wm wl ⟨T, s, h⟩
  obtain ⟨hC, hR, hP, hS⟩ := h.1
  have hB := hR.2.2.2.1
  have hG := hR.2.2.2.2.2.2
  have b10 : tn T 10 ≤ 30 := hB.2.1.2.2.1
  obtain ⟨n, x, n1, n2, n3, n4, n5, n6⟩ := h.2.1.1
  unfold wp_11_letGo
  rw [show w 48 12 = nI (tn T 10) from hC.1.2.2.2.1 10 (by omega) (by omega)]
  refine c_in (fun x1 => t1 ?_) (fun q => t0 (rb_tell (a := 10) hR (by omega) (r_in (fun z => absurd z q) (fun _ => u0 ⟨rfl, T, s, h⟩))))
  have rq : ∀ (Q : Int32 → Mem → MemL → Prop), (szP T (wm 180) = 0 → ∀ wm1, frO2 wm wm1 → wm1 181 = wm 180 → Q (-1) wm1 wl) →
      (sn (wm 180) < szP T (wm 180) → ∀ wm1, frO2 wm wm1 → wm1 181 = stP T (nI (tn T 15)) (wm 180) (nxP T false (wm 180)) (wm 180 0 + a1) → wm1 150 59 = jL T (nI (tn T 15)) (nxP T false (wm 180)) (wm 180 0 + a1) (slipT T (nI (tn T 15)) (nxP T false (wm 180)) (wm 180 0 + a1)) (wm 180 2) (wm 180 3) →
        wp_12_keeps wm1 wl (fun w14 v15 => Q (w14 150 59) w14 v15)) → wp_12_letGo a1 wm wl Q := by
    intro Q K0 K1
    refine rb_tell (a := 10) hR (by omega) (r_in (fun _ => u1 (r_copies hR (fun wm1 g1 e1 p1 b1 => ?_))) (fun q => absurd x1 q))
    refine r_next p1.1 p1.2.2.2 p1.2.2.1 (fun z => ⟨fun q => absurd q (by decide), fun _ => K0 (by rw [← e1]; exact z) wm1 g1 e1⟩) (fun z => ?_)
    have z' : sn (wm 180) < szP T (wm 180) := by rw [← e1]; exact z
    have ha := odP_lt (lf := false) hB hG.1.2.2.1 z'
    rw [e1]
    refine ⟨fun _ => r_letsGo (lf := false) p1.1 p1.2.1 p1.2.2.2 z ha (fun w2 f2 e2 e59 => ?_), fun q => absurd (nI_pos' (by have := hB.2.2.1; unfold nxP; omega)) q⟩
    rw [e1] at e2 e59
    exact K1 z' w2 (fo_fp g1 f2) e2 e59
  refine c_next hB hP hG (fun z => ⟨fun q => absurd rfl q, fun _ => ?_⟩) (fun z => ⟨fun _ => ?_, fun q => ?_⟩)
  · exact rq _ (fun _ wm1 g1 e1 => ⟨rfl, rel_e h (fc_re w) g1 e1⟩) (fun y => absurd y (by omega))
  · refine c_keep hB hP n1 n2 n3 n4 (fun w2 f2 k1 k2 k3 => ?_)
    have c2 : CT T (nI (tn T 15)) w2 := ct_fr hC (fun b j h1 h2 => by rw [f2 b (by omega) (by omega)])
    have p2 : PL T false (wm 180) 89 w2 := pl_fr hP (fun b h1 h2 => f2 b (by omega) (by omega))
    rw [p2.1.1]
    refine c_launch (by omega) c2 p2 hG z (fun w3 f3 p3 e5 => rq _ (fun y => absurd z (by omega)) (fun _ wm1 g1 e1 e59 => ?_))
    refine act_end (v := 0) h n1 n2 n5 n6 f2 k1 k2 k3 f3 _ p3 ⟨gw_st hB hG z, cs_st hB hG hS z⟩ (fun i hi => by rw [stP_z hB hG z hi]; exact z0 hR i hi) g1 e1 (fun wm4 hr _ hv => ⟨?_, hr⟩)
    rw [hv 59 (by decide), e59, e5]
  · exfalso
    have ha := odP_lt (lf := false) hB hG.1.2.2.1 z
    have := nI_pos (n := nxP T false (wm 180)) (by have := hB.2.2.1; unfold nxP; omega)
    have q' := Classical.not_not.mp q
    rw [q'] at this
    exact this (by decide)
