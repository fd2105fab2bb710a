def hasJ (P : Nat → Int32) (x y : Int32) : Prop := ∃ a q, a < 8 ∧ q < 2 ∧ x = nI a ∧ y = nI (q + 1) ∧ P (4 + (8 * q + a)) = 1
theorem c_cell {k a q c : Nat} {w : Mem} {Q : Int32 → Mem → Prop} (ha : a < 8) (hq : q < 2) (hc : c < 16) (K : Q (w (k + 3) (uc (8 * q + a) * 16 + c)) w) : wp_5_cell k (nI a) (nI (q + 1)) (nI c) w Q := by
  have eu : uc (8 * q + a) = a * 2 + q := by unfold uc; omega
  have er : (((nI a * (2 : Int32)) + nI (q + 1)) - (1 : Int32)) * (16 : Int32) = nI ((a * 2 + q) * 16) := by
    rw [show (2 : Int32) = nI 2 from rfl, pk_mul, nI_add, show (1 : Int32) = nI 1 from rfl, pk_sub (by omega), show (16 : Int32) = nI 16 from rfl, pk_mul]
    congr 1
  unfold wp_5_cell wp_5_cellsOf
  rw [er]
  intro x3 e3
  rw [nI_add] at e3
  subst e3
  refine pk_lt ((a * 2 + q) * 16 + c) 0 (fun q => absurd q (by omega)) (fun _ => ?_)
  refine pk_le 256 ((a * 2 + q) * 16 + c) (fun q => absurd q (by omega)) (fun _ => ⟨vp_in_nI (by omega) (by decide), ?_⟩)
  rw [ix_nI (by omega), ← eu]
  exact K
theorem inR_12 {y : Int32} (h : inR 1 2 y) : ∃ q, q < 2 ∧ y = nI (q + 1) := by
  obtain ⟨h1, h2⟩ := h
  rw [Int32.le_iff_toInt_le] at h1 h2
  rw [show (1 : Int32).toInt = 1 from rfl] at h1
  rw [show (2 : Int32).toInt = 2 from rfl] at h2
  exact ⟨y.toInt.toNat - 1, by omega, nI_ti (by omega) (by omega)⟩
theorem c_hasJump {T : TX} {P : Nat → Int32} {k : Nat} {x y : Int32} {w : Mem} {Q : Int32 → Mem → Prop} (hB : BT T) (hP : PL T false P k w) (hG : GW T false P) (K1 : ∀ a q, a < tm T → q < 2 → x = nI a → y = nI (q + 1) → P (4 + (8 * q + a)) = 1 → Q 1 w) (K0 : ¬ hasJ P x y → Q 0 w) : wp_5_hasJump k x y w Q := by
  refine c_in (fun h1 => t1 (c_in (fun h2 => t1 ?_) (fun z => t0 (K0 ?_)))) (fun z => t0 (K0 ?_))
  · obtain ⟨a, ha, rfl⟩ := inR_nI (n := 7) (by omega) h1
    obtain ⟨q, hq, rfl⟩ := inR_12 h2
    refine c_cell (c := 8) (by omega) hq (by omega) ?_
    rw [hP.2.2.2.2.1 _ (by omega)]
    refine ⟨fun z => K0 ?_, fun z => K1 a q ?_ hq rfl rfl (Classical.not_not.mp z)⟩
    · rintro ⟨a2, q2, h1, h2, h3, h4, h5⟩
      have e1 : a = a2 := (nI_eq (by omega) (by omega)).mp h3
      have e2 : q + 1 = q2 + 1 := (nI_eq (by omega) (by omega)).mp h4
      have e3 : q = q2 := by omega
      subst e1
      subst e3
      exact z h5
    · rcases Nat.lt_or_ge a (tm T) with c | c
      · exact c
      · exfalso
        obtain ⟨g1, g2⟩ := hG.2.2.2.2 a c (by omega)
        rcases (show q = 0 ∨ q = 1 by omega) with rfl | rfl
        · rw [show 4 + (8 * 0 + a) = 4 + a by omega, g1] at z
          exact z (by decide)
        · rw [show 4 + (8 * 1 + a) = 12 + a by omega, g2] at z
          exact z (by decide)
  · rintro ⟨a2, q2, h1, h2, h3, h4, h5⟩
    apply z
    rw [h4]
    exact ⟨nI_le (a := 1) (by omega) (by omega), nI_le (b := 2) (by omega) (by omega)⟩
  · rintro ⟨a2, q2, h1, h2, h3, h4, h5⟩
    apply z
    rw [h3]
    exact ⟨nI_le (a := 0) (by omega) (by omega), nI_le (b := 7) (by omega) (by omega)⟩
theorem isM_of {T : TX} {a : Nat} (h8 : tm T ≤ 8) (h : a < tm T) : isM T (nI a) := by
  refine ⟨nI_le (a := 0) (by omega) (by omega), ?_⟩
  rw [show (1 : Int32) = nI 1 from rfl, pk_sub (by omega)]
  exact nI_le (by omega) (by omega)
theorem r_hasJump {T : TX} {s : Nat} {x y : Int32} {w : Mem} {wl : MemL} {Q : Int32 → Mem → MemL → Prop} (hR : RB s T w) (K1 : ∀ a q, a < tm T → q < 2 → x = nI a → y = nI (q + 1) → w 180 (4 + (8 * q + a)) = 1 → Q 1 w wl) (K0 : ¬ hasJ (w 180) x y → Q 0 w wl) : wp_12_hasJump x y w wl Q := by
  have h8 := m8 hR
  refine r_isMan hR (fun h1 => t1 (r_in (fun h2 => t1 ?_) (fun z => t0 (K0 ?_)))) (fun z => t0 (K0 ?_))
  · obtain ⟨a, ha, rfl⟩ := inR_man h8 h1
    obtain ⟨q, hq, rfl⟩ := inR_12 h2
    have ei : ((4 : Int32) + (8 : Int32) * (nI (q + 1) - (1 : Int32))) + nI a = nI (4 + (8 * q + a)) := by
      rw [show (1 : Int32) = nI 1 from rfl, pk_sub (by omega), show (8 : Int32) = nI 8 from rfl, pk_mul, show (4 : Int32) = nI 4 from rfl, nI_add, nI_add]
      congr 1
      omega
    unfold wp_12_cell
    rw [ei]
    refine ⟨vp_in_nI (by omega) (by decide), ?_⟩
    rw [ix_nI (by omega)]
    refine ⟨fun z => K0 ?_, fun z => K1 a q ha hq rfl rfl (Classical.not_not.mp z)⟩
    rintro ⟨a2, q2, h1, h2, h3, h4, h5⟩
    have e1 : a = a2 := (nI_eq (by omega) (by omega)).mp h3
    have e2 : q + 1 = q2 + 1 := (nI_eq (by omega) (by omega)).mp h4
    have e3 : q = q2 := by omega
    subst e1
    subst e3
    exact z h5
  · rintro ⟨a2, q2, h1, h2, h3, h4, h5⟩
    apply z
    rw [h4]
    exact ⟨nI_le (a := 1) (by omega) (by omega), nI_le (b := 2) (by omega) (by omega)⟩
  · rintro ⟨a2, q2, h1, h2, h3, h4, h5⟩
    apply z
    rw [h3]
    refine isM_of h8 ?_
    rcases Nat.lt_or_ge a2 (tm T) with c | c
    · exact c
    · exfalso
      obtain ⟨g1, g2⟩ := hR.2.2.2.2.2.2.2.2.2.2 a2 c (by omega)
      rcases (show q2 = 0 ∨ q2 = 1 by omega) with rfl | rfl
      · rw [show 4 + (8 * 0 + a2) = 4 + a2 by omega, g1] at h5
        exact absurd h5 (by decide)
      · rw [show 4 + (8 * 1 + a2) = 12 + a2 by omega, g2] at h5
        exact absurd h5 (by decide)
theorem hasJ_of {P : Nat → Int32} {a q : Nat} (ha : a < 8) (hq : q < 2) (h : P (4 + (8 * q + a)) = 1) : hasJ P (nI a) (nI (q + 1)) := ⟨a, q, ha, hq, rfl, rfl, h⟩
theorem r_cellI {C a q : Nat} (hq : q < 2) : (nI C + (8 : Int32) * (nI (q + 1) - (1 : Int32))) + nI a = nI (C + (8 * q + a)) := by
  rw [show (1 : Int32) = nI 1 from rfl, pk_sub (by omega), show (8 : Int32) = nI 8 from rfl, pk_mul, nI_add, nI_add]
  congr 1
  omega
theorem sim_jump (a1 a2 a3 : Int32) : SIM (wp_11_jump a1 a2 a3) (wp_12_jump a1 a2 a3) := by
  rintro w wm wl ⟨T, s, h⟩
  obtain ⟨hC, hR, hP, hS⟩ := h.1
  have h8 := m8 hR
  refine c_hasJump hR.2.2.2.1 hP hR.2.2.2.2.2.2 (fun a q ha hq e1 e2 e3 => t1 (c_in (fun x3 => u1 ?_) (fun z => u0 ?_))) (fun z => t0 ?_)
  · subst e1
    subst e2
    obtain ⟨c, hc, rfl⟩ := inR_nI (n := 7) (by omega) x3
    refine c_cell (by omega) hq (by omega) ?_
    rw [hP.2.2.2.1 _ c (by omega) (by omega)]
    refine r_hasJump hR (fun a' q' ha' hq' e1 e2 e3 => t1 (r_in (fun _ => u1 ?_) (fun z => absurd x3 z))) (fun z => absurd (hasJ_of (by omega) hq e3) z)
    have ei : (20 : Int32) + (16 : Int32) * nI c = nI (20 + 16 * c) := by rw [show (16 : Int32) = nI 16 from rfl, pk_mul, show (20 : Int32) = nI 20 from rfl, nI_add]
    unfold wp_12_cell
    rw [ei, r_cellI hq]
    refine ⟨vp_in_nI (by omega) (by decide), ?_, T, s, h⟩
    rw [ix_nI (by omega)]
    congr 1
    omega
  · subst e1
    subst e2
    exact r_hasJump hR (fun a' q' ha' hq' e1 e2 e3 => t1 (r_in (fun y => absurd y z) (fun _ => u0 ⟨rfl, T, s, h⟩))) (fun z => absurd (hasJ_of (by omega) hq e3) z)
  · exact r_hasJump hR (fun a' q' ha' hq' e1 e2 e3 => absurd ⟨a', q', by omega, hq', e1, e2, e3⟩ z) (fun z => t0 ⟨rfl, T, s, h⟩)
theorem inR_jdg {T : TX} {x : Int32} (hB : BT T) (h : isJ T x) : ∃ a, a < tj T ∧ x = nI a := inR_man (by have := hB.2.2.1.2.2.2.2; omega) h
theorem sim_mark (a1 a2 a3 : Int32) : SIM (wp_11_mark a1 a2 a3) (wp_12_mark a1 a2 a3) := by
  rintro w wm wl ⟨T, s, h⟩
  obtain ⟨hC, hR, hP, hS⟩ := h.1
  have h8 := m8 hR
  have h7 : tj T ≤ 7 := hR.2.2.2.1.2.2.1.2.2.2.2
  refine c_hasJump hR.2.2.2.1 hP hR.2.2.2.2.2.2 (fun a q ha hq e1 e2 e3 => t1 (c_isJudge hC.1.2.2.2.2.1.2 (fun x3 => u1 ?_) (fun z => u0 ?_))) (fun z => t0 ?_)
  · subst e1
    subst e2
    obtain ⟨j, hj, rfl⟩ := inR_jdg hR.2.2.2.1 x3
    rw [show (9 : Int32) = nI 9 from rfl, nI_add]
    refine c_cell (by omega) hq (by omega) ?_
    rw [show uc (8 * q + a) * 16 + (9 + j) = uc (8 * q + a) * 16 + 9 + j by omega, hP.2.2.2.2.2 _ j (by omega) hj]
    refine r_hasJump hR (fun a' q' ha' hq' e1 e2 e3 => t1 (r_isJudge hR (fun _ => t1 ?_) (fun z => absurd x3 z))) (fun z => absurd (hasJ_of (by omega) hq e3) z)
    have ei : ((148 : Int32) + (7 : Int32) * ((8 : Int32) * (nI (q + 1) - (1 : Int32)) + nI a)) + nI j = nI (148 + 7 * (8 * q + a) + j) := by
      rw [show (1 : Int32) = nI 1 from rfl, pk_sub (by omega), show (8 : Int32) = nI 8 from rfl, pk_mul, nI_add, show (7 : Int32) = nI 7 from rfl, pk_mul, show (148 : Int32) = nI 148 from rfl, nI_add, nI_add]
      rfl
    rw [ei]
    refine ⟨vp_in_nI (by omega) (by decide), ?_, T, s, h⟩
    rw [ix_nI (by omega)]
  · subst e1
    subst e2
    exact r_hasJump hR (fun a' q' ha' hq' e1 e2 e3 => t1 (r_isJudge hR (fun y => absurd y z) (fun _ => t0 ⟨rfl, T, s, h⟩))) (fun z => absurd (hasJ_of (by omega) hq e3) z)
  · exact r_hasJump hR (fun a' q' ha' hq' e1 e2 e3 => absurd ⟨a', q', by omega, hq', e1, e2, e3⟩ z) (fun z => t0 ⟨rfl, T, s, h⟩)
theorem sim_progress (a1 : Int32) : SIM (wp_11_progress a1) (wp_12_progress a1) := by
  rintro w wm wl ⟨T, s, h⟩
  obtain ⟨hC, hR, hP, hS⟩ := h.1
  have h8 := m8 hR
  have hG := hR.2.2.2.2.2.2
  have q01 : ∀ q, q < 2 → (1 : Int32) = nI (q + 1) → q = 0 := fun q hq e => by have := (nI_eq (a := 1) (b := q + 1) (by omega) (by omega)).mp e; omega
  have q12 : ∀ q, q < 2 → (2 : Int32) = nI (q + 1) → q = 1 := fun q hq e => by have := (nI_eq (a := 2) (b := q + 1) (by omega) (by omega)).mp e; omega
  refine c_hasJump hR.2.2.2.1 hP hG (fun a q ha hq e1 e2 e3 => t1 (c_hasJump hR.2.2.2.1 hP hG (fun a' q' ha' hq' e1' e2' e3' => u1 ?_) (fun z => u0 ?_))) (fun z => t0 ?_)
  · subst e1
    have := q01 q hq e2
    subst this
    have := q12 q' hq' e2'
    subst this
    have ea : a = a' := (nI_eq (by omega) (by omega)).mp e1'
    subst ea
    refine c_cell (q := 1) (c := 0) (by omega) (by omega) (by omega) (c_cell (q := 0) (c := 0) (by omega) (by omega) (by omega) ?_)
    rw [hP.2.2.2.1 _ 0 (by omega) (by omega), hP.2.2.2.1 _ 0 (by omega) (by omega)]
    refine r_hasJump hR (fun _ _ _ _ _ _ _ => t1 (r_hasJump hR (fun _ _ _ _ _ _ _ => t1 ?_) (fun z => absurd ⟨a, 1, by omega, by omega, rfl, rfl, e3'⟩ z))) (fun z => absurd ⟨a, 0, by omega, by omega, rfl, rfl, e3⟩ z)
    have i1 : ((20 : Int32) + (8 : Int32) * (1 : Int32)) + nI a = nI (28 + a) := nI_add 28 a
    have i0 : ((20 : Int32) + (8 : Int32) * (0 : Int32)) + nI a = nI (20 + a) := nI_add 20 a
    simp only [wp_12_cell, i1, i0]
    refine ⟨vp_in_nI (by omega) (by decide), vp_in_nI (by omega) (by decide), ?_, T, s, h⟩
    rw [ix_nI (by omega), ix_nI (by omega)]
    congr 2
    · omega
    · omega
  · subst e1
    refine r_hasJump hR (fun _ _ _ _ _ _ _ => t1 (r_hasJump hR (fun a2 q2 k1 k2 k3 k4 k5 => absurd ⟨a2, q2, by omega, k2, k3, k4, k5⟩ z) (fun _ => t0 ⟨rfl, T, s, h⟩))) (fun _ => t0 ⟨rfl, T, s, h⟩)
  · exact r_hasJump hR (fun a' q' ha' hq' e1 e2 e3 => absurd ⟨a', q', by omega, hq', e1, e2, e3⟩ z) (fun z => t0 ⟨rfl, T, s, h⟩)
