theorem tr_cg {s : Nat} {T : TX} {w0 w : Mem} (h : TR s T w0) (f : ∀ b, 159 ≤ b → b < 177 → w b = w0 b) : TR s T w := by
  obtain ⟨h1, h2, h3, h4, h5⟩ := h
  refine ⟨fun a ha => ?_, ?_, ?_, ?_, ?_⟩
  · have q := h1 a ha
    unfold TRl at q ⊢
    rw [f 168 (by decide) (by decide), f 169 (by decide) (by decide)]
    rcases q with q | ⟨i, N, Z, R, a1, a2, a3, a4, a5, a6, a7⟩
    · exact Or.inl q
    · exact Or.inr ⟨i, N, Z, R, a1, a2, a3, a4, a5, lwR_rw (fun b hb hb2 => f b (by omega) (by omega)) R i N a6, a7⟩
  · rw [f 159 (by decide) (by decide)]; exact h2
  · rw [f 160 (by decide) (by decide), f 165 (by decide) (by decide)]; exact h3
  · intro r a hr ha; rw [f (161 + r) (by omega) (by omega)]; exact h4 r a hr ha
  · rw [f 166 (by decide) (by decide), f 167 (by decide) (by decide)]; exact h5
theorem ct_fr2 {T : TX} {sd : Int32} {w w2 : Mem} (h : CT T sd w) (f : ∀ a j, ¬ scC a j → 48 ≤ a → a < 88 → w2 a j = w a j) : CT T sd w2 := by
  have row : ∀ a, 48 ≤ a → a < 88 → (∀ j, ¬ scC a j) → w2 a = w a := fun a h1 ha h => funext (fun j => f a j (h j) h1 ha)
  refine ⟨tc_fr h.1 (fun a ha => ⟨row _ (by omega) (by omega) (fun j => by simp only [scC]; omega), row _ (by omega) (by omega) (fun j => by simp only [scC]; omega), row _ (by omega) (by omega) (fun j => by simp only [scC]; omega), f _ 6 (by simp only [scC]; omega) (by omega) (by omega)⟩) (row _ (by omega) (by omega) (fun j => by simp only [scC]; omega)) (fun a h1 h2 => row _ (by omega) (by omega) (fun j => by simp only [scC]; omega)), h.2.1, fun a j ha hj hs => ?_, (f 87 2 (by decide) (by omega) (by omega)).trans h.2.2.2⟩
  rw [f (53 + 6 * a) j hs (by omega) (by omega)]
  exact h.2.2.1 a j ha hj hs
theorem nb1 : vp_nar .boolean (1 : Int32) = 1 := by rfl
theorem nb0 : vp_nar .boolean (0 : Int32) = 0 := by rfl
/-- both sides after something else was written -/
theorem rel_oth {T : TX} {s : Nat} {w w2 wm wm2 : Mem} {wl : MemL} (h : RELt T s w wm wl) (fc : ∀ a, ¬ (139 ≤ a ∧ a < 149) → a ≠ 1 → a ≠ 2 → w2 a = w a)
    (fr : ∀ a j, a ≠ 151 → a < 184 → ¬ (a = 150 ∧ (j = 2 ∨ j = 66)) → wm2 a j = wm a j) (hL : SL T w2 wm2) (hT : TO w2 wm2) (hA : TA w2 wm2) : REL w2 wm2 wl := by
  obtain ⟨⟨hC, hR, hP, hS⟩, ⟨hH, _, _, _⟩, h12, hK⟩ := h
  have rr : ∀ a, a ≠ 150 → a ≠ 151 → a < 184 → wm2 a = wm a := fun a h1 h2 h3 => funext (fun j => fr a j h2 h3 (by omega))
  obtain ⟨r1, r2, r3, r4, r5, r6, r7⟩ := hR
  have e180 := rr 180 (by decide) (by decide) (by decide)
  have e181 := rr 181 (by decide) (by decide) (by decide)
  refine ⟨T, s, ⟨⟨ct_fr2 hC (fun a j q h1 ha => by rw [fc a (by omega) (by omega) (by omega)]), ⟨r1, (fr 150 18 (by decide) (by decide) (by decide)).trans r2, ?_, r4, (fr 150 61 (by decide) (by decide) (by decide)).trans r5, by rw [e180, e181]; exact r6, by rw [e180]; exact r7⟩, ?_, by rw [e180]; exact hS⟩, ⟨?_, hL, hT, hA⟩, ?_, hK⟩⟩
  · refine tr_cg r3 (fun b h1 h2 => rr b (by omega) (by omega) (by omega))
  · rw [e180]; exact pl_fr hP (fun b h1 h2 => fc b (by omega) (by omega) (by omega))
  · obtain ⟨n, x, k1, k2, k3, k4, k5, k6⟩ := hH
    refine ⟨n, x, k1, k2, ?_, ?_, (fr 150 64 (by decide) (by decide) (by decide)).trans k5, fun i hi => ?_⟩
    · rw [fc 97 (by decide) (by decide) (by decide)]; exact k3
    · rw [fc 97 (by decide) (by decide) (by decide)]; exact k4
    · rw [fc _ (by omega) (by omega) (by omega), rr 183 (by decide) (by decide) (by decide)]; exact k6 i hi
  · rw [fc 0 (by decide) (by decide) (by decide), fr 150 17 (by decide) (by decide) (by decide)]; exact h12
theorem sim_tell (a1 a2 a3 : Int32) : SIM (wp_11_tell a1 a2 a3) (wp_12_tell a1 a2 a3) := by
  rintro w wm wl ⟨T, s, h⟩
  obtain ⟨hC, hR, hP, hS⟩ := h.1
  obtain ⟨n, n1, n2, n3, n4⟩ := h.2.1.2.2.1
  have h8 := m8 hR
  have no : nI n = 20 ∨ ¬ isM T a1 ∨ ¬ inR 0 9999 a2 ∨ ¬ inR 0 9999 a3 → wp_12_tell a1 a2 a3 wm wl (fun y wm2 wl2 => (-1 : Int32) = y ∧ REL w wm2 wl2) := by
    intro q
    unfold wp_12_tell
    rw [n3]
    refine ⟨fun _ => ⟨rfl, T, s, h⟩, fun ne => r_isMan hR (fun x1 => t1 (r_in (fun x2 => t1 (r_in (fun x3 => ?_) (fun _ => u0 ⟨rfl, T, s, h⟩))) (fun _ => t0 ⟨rfl, T, s, h⟩))) (fun _ => t0 ⟨rfl, T, s, h⟩)⟩
    rcases q with q | q | q | q
    · exact absurd q ne
    · exact absurd x1 q
    · exact absurd x2 q
    · exact absurd x3 q
  refine c_isMan hC.1.2.2.2.2.1.1 (fun x1 => t1 (c_in (fun x2 => t1 (c_in (fun x3 => u1 ?_) (fun q => u0 (no (Or.inr (Or.inr (Or.inr q))))))) (fun q => t0 (no (Or.inr (Or.inr (Or.inl q))))))) (fun q => t0 (no (Or.inr (Or.inl q))))
  unfold wp_10_add
  rw [n2]
  refine pk_lt n 20 (fun c => ⟨vp_in_nI c (by decide), ?_⟩) (fun c => no (Or.inl (by rw [show n = 20 by omega]; rfl)))
  rw [ix_nI (by omega)]
  intro w2 e2
  have g2 : w2 145 3 = nI n := by subst e2; rw [st_nk (by decide)]; exact n2
  rw [g2]
  refine ⟨vp_in_nI c (by decide), ?_⟩
  rw [ix_nI (by omega)]
  intro w4 e4
  have g4 : w4 145 3 = nI n := by subst e4; rw [st_nk (by decide)]; exact g2
  rw [g4]
  refine ⟨vp_in_nI c (by decide), ?_⟩
  rw [ix_nI (by omega)]
  intro w6 e6
  have g6 : w6 145 3 = nI n := by subst e6; rw [st_nk (by decide)]; exact g4
  rw [g6, nI_1]
  intro w7 e7
  have g7 : w7 145 3 = nI (n + 1) := by subst e7; exact st_eq
  rw [g7, nI_pred]
  have cf : ∀ a, a ≠ 145 → a ≠ 146 → a ≠ 147 → a ≠ 148 → w7 a = w a := by
    subst e7
    subst e6
    subst e4
    subst e2
    exact fun a h1 h2 h3 h4 => by rw [st_ne a h1, st_ne a h4, st_ne a h3, st_ne a h2]
  have c146 : w7 146 = upd (w 146) n a1 := by
    subst e7; subst e6; subst e4; subst e2
    rw [st_ne 146 (by decide), st_ne 146 (by decide), st_ne 146 (by decide), st_at]
  have c147 : w7 147 = upd (w 147) n a2 := by
    subst e7; subst e6; subst e4; subst e2
    rw [st_ne 147 (by decide), st_ne 147 (by decide), st_at, st_ne 147 (by decide)]
  have c148 : w7 148 = upd (w 148) n a3 := by
    subst e7; subst e6; subst e4; subst e2
    rw [st_ne 148 (by decide), st_at, st_ne 148 (by decide), st_ne 148 (by decide)]
  clear e7 e6 e4 e2 g2 g4 g6
  unfold wp_12_tell
  rw [n3]
  refine ⟨fun q => ?_, fun _ => r_isMan hR (fun _ => t1 (r_in (fun _ => t1 (r_in (fun _ => u1 ?_) (fun z => absurd x3 z))) (fun z => absurd x2 z))) (fun z => absurd x1 z)⟩
  · have := (nI_eq (b := 20) (by omega) (by omega)).mp q
    omega
  · rw [n3]
    refine ⟨vp_in_nI c (by decide), ?_⟩
    rw [ix_nI (by omega)]
    intro m2 e2
    have g2 : m2 150 66 = nI n := by subst e2; rw [st_nk (by decide)]; exact n3
    rw [g2]
    refine ⟨vp_in_nI c (by decide), ?_⟩
    rw [ix_nI (by omega)]
    intro m4 e4
    have g4 : m4 150 66 = nI n := by subst e4; rw [st_nk (by decide)]; exact g2
    rw [g4]
    refine ⟨vp_in_nI c (by decide), ?_⟩
    rw [ix_nI (by omega)]
    intro m6 e6
    have g6 : m6 150 66 = nI n := by subst e6; rw [st_nk (by decide)]; exact g4
    rw [g6, nI_1]
    intro m7 e7
    have k7 : m7 150 66 = nI (n + 1) := by subst e7; exact st_eq
    rw [k7, nI_pred]
    have rf : ∀ a j, a ≠ 184 → a ≠ 185 → a ≠ 186 → ¬ (a = 150 ∧ j = 66) → m7 a j = wm a j := by
      subst e7
      subst e6
      subst e4
      subst e2
      intro a j h1 h2 h3 h4
      simp only [st]
      rw [if_neg h4, if_neg (by omega), if_neg (by omega), if_neg (by omega)]
    have c184 : m7 184 = upd (wm 184) n a1 := by
      subst e7; subst e6; subst e4; subst e2
      rw [st_ne 184 (by decide), st_ne 184 (by decide), st_ne 184 (by decide), st_at]
    have c185 : m7 185 = upd (wm 185) n a2 := by
      subst e7; subst e6; subst e4; subst e2
      rw [st_ne 185 (by decide), st_ne 185 (by decide), st_at, st_ne 185 (by decide)]
    have c186 : m7 186 = upd (wm 186) n a3 := by
      subst e7; subst e6; subst e4; subst e2
      rw [st_ne 186 (by decide), st_at, st_ne 186 (by decide), st_ne 186 (by decide)]
    clear e7 e6 e4 e2 g2 g4 g6
    refine ⟨rfl, rel_oth h (fun a h1 h2 h3 => cf a (by omega) (by omega) (by omega) (by omega)) (fun a j h1 h2 h3 => rf a j (by omega) (by omega) (by omega) (by omega)) ?_ ⟨n + 1, by omega, g7, k7, fun i hi => ?_⟩ ?_⟩
    · intro i hi
      rw [cf 144 (by decide) (by decide) (by decide) (by decide), cf (141 + i) (by omega) (by omega) (by omega) (by omega), funext (fun j => rf 187 j (by decide) (by decide) (by decide) (by omega)), funext (fun j => rf 188 j (by decide) (by decide) (by decide) (by omega))]
      exact h.2.1.2.1 i hi
    · rw [c146, c147, c148, c184, c185, c186]
      by_cases z : i = n
      · subst z
        rw [pk_us, pk_us, pk_us, pk_us, pk_us, pk_us]
        exact ⟨rfl, rfl, rfl⟩
      · rw [pk_un z, pk_un z, pk_un z, pk_un z, pk_un z, pk_un z]
        exact n4 i (by omega)
    · unfold TA
      rw [cf 1 (by decide) (by decide) (by decide) (by decide), cf 2 (by decide) (by decide) (by decide) (by decide), rf 150 2 (by decide) (by decide) (by decide) (by decide), funext (fun j => rf 151 j (by decide) (by decide) (by decide) (by omega))]
      exact h.2.1.2.2.2
theorem sim_forget : SIM wp_11_forget wp_12_forget := by
  rintro w wm wl ⟨T, s, h⟩
  obtain ⟨n, n1, n2, n3, n4⟩ := h.2.1.2.2.1
  intro x1 e1 w2 e2 y1 f1 m2 f2
  subst e1
  subst f1
  refine ⟨by rw [n2, n3], rel_oth h (fun a h1 h2 h3 => by subst e2; exact st_ne a (by omega)) (fun a j h1 h2 h3 => by subst f2; simp only [st]; rw [if_neg (by omega)]) ?_ ⟨0, by omega, by subst e2; exact st_eq, by subst f2; exact st_eq, fun i hi => absurd hi (by omega)⟩ ?_⟩
  · intro i hi
    subst e2
    subst f2
    rw [st_ne 144 (by decide), st_ne (141 + i) (by omega), st_ne 187 (by decide), st_ne 188 (by decide)]
    exact h.2.1.2.1 i hi
  · unfold TA
    subst e2
    subst f2
    rw [st_ne 1 (by decide), st_ne 2 (by decide), st_nj (by decide), st_ne 151 (by decide)]
    exact h.2.1.2.2.2
theorem sim_hold (a1 : Int32) : SIM (wp_11_hold a1) (wp_12_hold a1) := by
  rintro w wm wl ⟨T, s, h⟩
  obtain ⟨hC, hR, hP, hS⟩ := h.1
  have hB := hR.2.2.2.1
  refine c_in (fun x1 => u1 ?_) (fun q => u0 ⟨Or.inl rfl, r_in (fun z => absurd z q) (fun _ => u0 ⟨rfl, T, s, h⟩)⟩)
  obtain ⟨k, hk, rfl⟩ := inR_nI (n := 2) (by omega) x1
  have kv : vp_in (nI k) 3 := pk_in k 3 (by omega)
  refine ⟨kv, ?_⟩
  rw [ix_nI (by omega)]
  refine c_save hB hP (by omega) (fun w4 f4 s4 => ⟨kv, fun w6 e6 => ⟨Or.inr rfl, ?_⟩⟩)
  rw [nb1] at e6
  have cf : ∀ a, a ≠ 144 → a ≠ 141 + k → w6 a = w a := by subst e6; exact fun a h1 h2 => (st_ne a h1).trans (f4 a h2)
  have c144 : w6 144 = upd (w 144) k 1 := by subst e6; rw [st_at, f4 144 (by omega)]
  have cs : SR T (wm 180) (w6 (141 + k)) := by subst e6; rw [st_ne _ (by omega)]; exact s4
  clear e6
  refine r_in (fun _ => u1 ⟨kv, fun m5 e5 => ?_⟩) (fun z => absurd x1 z)
  rw [nb1, ix_nI (by omega)] at e5
  refine pk_loop (fun n i (z : Mem) => wp_12_hold_b20 (fun y wm2 wl2 => 1 = y ∧ REL w6 wm2 wl2) n (nI k) (nI i) z wl) (fun i z => (∀ a, a ≠ 188 → z a = m5 a) ∧ (∀ j, ¬ (260 * k ≤ j ∧ j < 260 * k + 260) → z 188 j = wm 188 j) ∧ ∀ j, j < i → z 188 (260 * k + j) = wm 180 j) 260 0 m5 (by omega) ⟨fun _ _ => rfl, fun j _ => by subst e5; rw [st_nk (by decide)], fun j hj => absurd hj (by omega)⟩ (fun n z hz2 => ?_) (fun n i z hi hz2 L => ?_)
  · obtain ⟨f, e, e0⟩ := hz2
    refine pk_le 260 260 (fun _ => ⟨rfl, ?_⟩) (fun q => absurd q (by omega))
    have rf : ∀ a j, a ≠ 187 → a ≠ 188 → z a j = wm a j := by
      intro a j h1 h2
      rw [f a h2]
      subst e5
      exact st_nk h1
    have r187 : z 187 = upd (wm 187) k 1 := by rw [f 187 (by decide)]; subst e5; exact st_at
    refine rel_oth h (fun a h1 h2 h3 => cf a (by omega) (by omega)) (fun a j h1 h2 h3 => rf a j (by omega) (by omega)) (fun i hi => ?_) ?_ ?_
    · rw [c144, r187]
      by_cases c : i = k
      · subst c
        rw [pk_us, pk_us]
        have ec : cu (z 188) (260 * i) = wm 180 := by
          funext j
          unfold cu
          split
          · exact e0 j ‹_›
          · rw [z0 hR j (by omega)]
        rw [ec]
        exact ⟨⟨rfl, Or.inr rfl⟩, fun _ => ⟨cs, hR.2.2.2.2.2.2, hS⟩⟩
      · rw [pk_un c, pk_un c, cf (141 + i) (by omega) (by omega)]
        have ec : cu (z 188) (260 * i) = cu (wm 188) (260 * i) := cu_cg (fun j hj => e _ (by omega))
        rw [ec]
        exact h.2.1.2.1 i hi
    · unfold TO
      rw [cf 145 (by decide) (by omega), cf 146 (by decide) (by omega), cf 147 (by decide) (by omega), cf 148 (by decide) (by omega), rf 150 66 (by decide) (by decide), funext (fun j => rf 184 j (by decide) (by decide)), funext (fun j => rf 185 j (by decide) (by decide)), funext (fun j => rf 186 j (by decide) (by decide))]
      exact h.2.1.2.2.1
    · unfold TA
      rw [cf 1 (by decide) (by omega), cf 2 (by decide) (by omega), rf 150 2 (by decide) (by decide), funext (fun j => rf 151 j (by decide) (by decide))]
      exact h.2.1.2.2.2
  · obtain ⟨f, e, e0⟩ := hz2
    refine pk_le 260 i (fun q => absurd q (by omega)) (fun _ => ?_)
    rw [show (260 : Int32) = nI 260 from rfl, pk_mul, nI_add]
    refine ⟨vp_in_nI hi (by decide), vp_in_nI (by omega) (by decide), fun w3 e3 x4 e4 => ?_⟩
    have z180 : z 180 i = wm 180 i := by rw [f 180 (by decide)]; subst e5; exact st_nk (by decide)
    rw [ix_nI (by omega), ix_nI (by omega), z180] at e3
    rw [nI_1] at e4
    subst e4
    subst e3
    refine L _ ⟨fun a ha => (st_ne a ha).trans (f a ha), fun j hj => ?_, fun j hj => ?_⟩
    · rw [st_at, pk_un (by omega)]; exact e j hj
    · rw [st_at]
      by_cases c : j = i
      · subst c; exact pk_us
      · rw [pk_un (by omega)]; exact e0 j (by omega)
theorem sim_restore (a1 : Int32) : SIM (wp_11_restore a1) (wp_12_restore a1) := by
  rintro w wm wl ⟨T, s, h⟩
  obtain ⟨hC, hR, hP, hS⟩ := h.1
  have hB := hR.2.2.2.1
  refine c_in (fun x1 => t1 ?_) (fun q => t0 (u0 (r_in (fun z => absurd z q) (fun _ => t0 ⟨rfl, T, s, h⟩))))
  obtain ⟨k, hk, rfl⟩ := inR_nI (n := 2) (by omega) x1
  have kv : vp_in (nI k) 3 := pk_in k 3 (by omega)
  obtain ⟨⟨l1, l2⟩, l3⟩ := h.2.1.2.1 k (by omega)
  refine ⟨kv, ?_⟩
  rw [ix_nI (by omega)]
  refine ⟨fun q => ⟨kv, ?_⟩, fun q => u0 (r_in (fun _ => t1 ⟨kv, ?_⟩) (fun z => absurd x1 z))⟩
  · have h1 : w 144 k = 1 := by
      rcases l2 with y | y
      · exact absurd y q
      · exact y
    obtain ⟨s1, s2⟩ := l3 h1
    refine c_load hB (by omega) s1 (fun w5 f5 p5 => u1 (fun w6 e6 w7 e7 => ?_))
    have f7 : ∀ a, a ≠ 97 → w7 a = w5 a := by subst e7; subst e6; exact fun a ha => (st_ne a ha).trans (st_ne a ha)
    have v1 : w7 97 1 = nI 0 := by subst e7; subst e6; rw [st_nj (by decide)]; exact st_eq
    have v2 : w7 97 2 = nI 0 := by subst e7; exact st_eq
    refine r_in (fun _ => t1 ⟨kv, ?_⟩) (fun z => absurd x1 z)
    rw [ix_nI (by omega), ← l1]
    refine ⟨fun _ => ?_, fun z => absurd q z⟩
    refine pk_loop (fun n i (z : Mem) => wp_12_restore_b22 (fun y wm2 wl2 => 1 = y ∧ REL w7 wm2 wl2) n (nI k) (nI i) z wl) (fun i z => (∀ a, a ≠ 180 → z a = wm a) ∧ (∀ j, j < i → z 180 j = wm 188 (260 * k + j)) ∧ ∀ j, 260 ≤ j → z 180 j = 0) 260 0 wm (by omega) ⟨fun _ _ => rfl, fun j hj => absurd hj (by omega), fun j hj => z0 hR j hj⟩ (fun n z hz2 => ?_) (fun n i z hi hz2 L => ?_)
    · obtain ⟨f, e, e0⟩ := hz2
      refine pk_le 260 260 (fun _ w1 e1 => ⟨rfl, ?_⟩) (fun q => absurd q (by omega))
      have f1 : ∀ a j, a ≠ 180 → ¬ (a = 150 ∧ j = 64) → w1 a j = wm a j := by
        intro a j h1 h2
        subst e1
        simp only [st]
        rw [if_neg h2, f a h1]
      have g180 : w1 180 = cu (wm 188) (260 * k) := by
        subst e1
        rw [st_ne 180 (by decide)]
        funext j
        unfold cu
        split
        · exact e j ‹_›
        · exact e0 j (by omega)
      refine rel_new h (fun a j q1 q2 q3 q4 => by rw [f7 a (by omega), f5 a (by omega)]) (fun a j q1 q2 q3 q4 q5 => f1 a j q2 (by omega)) (fun i hi => ⟨?_, ?_⟩) (by rw [g180]; exact pl_fr p5 (fun b h1 h2 => f7 b (by omega))) (by rw [g180]; exact s2) ⟨0, 0, by omega, by omega, v1, v2, by subst e1; exact st_eq, fun i hi => absurd hi (by omega)⟩
      · rw [g180]; unfold cu; rw [if_neg (by omega)]
      · rw [f1 181 i (by decide) (by omega)]; exact (hR.2.2.2.2.2.1 i hi).2
    · obtain ⟨f, e, e0⟩ := hz2
      refine pk_le 260 i (fun q => absurd q (by omega)) (fun _ => ?_)
      rw [show (260 : Int32) = nI 260 from rfl, pk_mul, nI_add]
      refine ⟨vp_in_nI (by omega) (by decide), vp_in_nI hi (by decide), fun w3 e3 x4 e4 => ?_⟩
      rw [ix_nI (by omega), ix_nI (by omega), f 188 (by decide)] at e3
      rw [nI_1] at e4
      subst e4
      subst e3
      refine L _ ⟨fun a ha => (st_ne a ha).trans (f a ha), fun j hj => ?_, fun j hj => ?_⟩
      · rw [st_at]
        by_cases c : j = i
        · subst c; exact pk_us
        · rw [pk_un c]; exact e j (by omega)
      · rw [st_at, pk_un (by omega)]; exact e0 j hj
  · rw [ix_nI (by omega), ← l1]
    exact ⟨fun z => absurd z q, fun _ => ⟨rfl, T, s, h⟩⟩
