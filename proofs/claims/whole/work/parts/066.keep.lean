theorem c_save {T : TX} {P : Nat → Int32} {b1 : Nat} {w : Mem} {Q : Mem → Prop} (hB : BT T) (h : PL T false P 89 w) (hb : b1 < 89 ∨ 93 ≤ b1) (K : ∀ w2, (∀ a, a ≠ b1 → w2 a = w a) → SR T P (w2 b1) → Q w2) : wp_5_save 89 b1 277 w Q := by
  have i0 : ix (0 : Int32) = 0 := ix0
  have i1 : ix (1 : Int32) = 1 := ix_nI (n := 1) (by omega)
  have i2 : ix (2 : Int32) = 2 := ix_nI (n := 2) (by omega)
  have i3 : ix (3 : Int32) = 3 := ix_nI (n := 3) (by omega)
  have i4 : ix (4 : Int32) = 4 := ix_nI (n := 4) (by omega)
  have i5 : ix (5 : Int32) = 5 := ix_nI (n := 5) (by omega)
  have i8 : ix (8 : Int32) = 8 := ix_nI (n := 8) (by omega)
  have i13 : ix (13 : Int32) = 13 := ix_nI (n := 13) (by omega)
  have i21 : ix (21 : Int32) = 21 := ix_nI (n := 21) (by omega)
  have i256 : ix (256 : Int32) = 256 := ix_nI (n := 256) (by omega)
  unfold wp_5_save
  rw [i0, i1, i2, i3, i4, i5, i8, i13, i21, i256]
  refine ⟨pk_in 0 277 (by omega), fun w2 e2 => ⟨pk_in 1 277 (by omega), fun w4 e4 => ⟨pk_in 2 277 (by omega), fun w6 e6 => ⟨pk_in 3 277 (by omega), fun w8 e8 => ⟨pk_in 4 277 (by omega), fun w10 e10 => ⟨by omega, fun w12 e12 => ⟨by omega, fun w14 e14 => ⟨by omega, fun w16 e16 => ?_⟩⟩⟩⟩⟩⟩⟩⟩
  have f10 : ∀ a, a ≠ b1 → w10 a = w a := by
    subst e10
    subst e8
    subst e6
    subst e4
    subst e2
    intro a ha
    rw [st_ne a ha, st_ne a ha, st_ne a ha, st_ne a ha, st_ne a ha]
  have r10 : w10 b1 0 = w 89 4 ∧ w10 b1 1 = w 89 5 ∧ w10 b1 2 = w 89 6 ∧ w10 b1 3 = w 89 7 ∧ w10 b1 4 = w 89 8 := by
    have g2 : w2 89 = w 89 := by subst e2; rw [st_ne 89 (by omega)]
    have g4 : w4 89 = w 89 := by subst e4; rw [st_ne 89 (by omega)]; exact g2
    have g6 : w6 89 = w 89 := by subst e6; rw [st_ne 89 (by omega)]; exact g4
    have g8 : w8 89 = w 89 := by subst e8; rw [st_ne 89 (by omega)]; exact g6
    rw [g8] at e10
    rw [g6] at e8
    rw [g4] at e6
    rw [g2] at e4
    subst e10
    subst e8
    subst e6
    subst e4
    subst e2
    simp [st]
  clear e10 e8 e6 e4 e2
  have f16 : ∀ a, a ≠ b1 → w16 a = w a := by
    intro a ha
    rw [e16, cpy_ne a ha, e14, cpy_ne a ha, e12, cpy_ne a ha]
    exact f10 a ha
  have lo : ∀ j, j < 5 → w16 b1 j = w10 b1 j := by
    intro j hj
    rw [e16, cpy_at, pk_cpy_out (by omega), e14, cpy_at, pk_cpy_out (by omega), e12, cpy_at, pk_cpy_out (by omega)]
  have r1 : ∀ j, j < 8 → w16 b1 (5 + j) = w 90 j := by
    intro j hj
    rw [e16, cpy_at, pk_cpy_out (by omega), e14, cpy_at, pk_cpy_out (by omega), e12, cpy_at, pk_cpy_in (by omega) (by omega), f10 _ (by omega)]
    congr 1
    omega
  have r2 : ∀ j, j < 8 → w16 b1 (13 + j) = w 91 j := by
    intro j hj
    rw [e16, cpy_at, pk_cpy_out (by omega), e14, cpy_at, pk_cpy_in (by omega) (by omega), e12, cpy_ne _ (by omega), f10 _ (by omega)]
    congr 1
    omega
  have r3 : ∀ j, j < 256 → w16 b1 (21 + j) = w 92 j := by
    intro j hj
    rw [e16, cpy_at, pk_cpy_in (by omega) (by omega), e14, cpy_ne _ (by omega), e12, cpy_ne _ (by omega), f10 _ (by omega)]
    congr 1
    omega
  refine K w16 f16 (pl_of hB h ⟨?_, ?_, ?_, ?_, ?_⟩ r1 r2 r3)
  · exact (lo 0 (by omega)).trans r10.1
  · exact (lo 1 (by omega)).trans r10.2.1
  · exact (lo 2 (by omega)).trans r10.2.2.1
  · exact (lo 3 (by omega)).trans r10.2.2.2.1
  · exact (lo 4 (by omega)).trans r10.2.2.2.2
theorem c_load {T : TX} {P : Nat → Int32} {b1 : Nat} {w : Mem} {Q : Mem → Prop} (hB : BT T) (hb : b1 < 89 ∨ 93 ≤ b1) (h : SR T P (w b1)) (K : ∀ w2, (∀ a, a < 89 ∨ 93 ≤ a → w2 a = w a) → PL T false P 89 w2 → Q w2) : wp_5_load 89 b1 277 w Q := by
  have i0 : ix (0 : Int32) = 0 := ix0
  have i1 : ix (1 : Int32) = 1 := ix_nI (n := 1) (by omega)
  have i2 : ix (2 : Int32) = 2 := ix_nI (n := 2) (by omega)
  have i3 : ix (3 : Int32) = 3 := ix_nI (n := 3) (by omega)
  have i4 : ix (4 : Int32) = 4 := ix_nI (n := 4) (by omega)
  have i5 : ix (5 : Int32) = 5 := ix_nI (n := 5) (by omega)
  have i8 : ix (8 : Int32) = 8 := ix_nI (n := 8) (by omega)
  have i13 : ix (13 : Int32) = 13 := ix_nI (n := 13) (by omega)
  have i21 : ix (21 : Int32) = 21 := ix_nI (n := 21) (by omega)
  have i256 : ix (256 : Int32) = 256 := ix_nI (n := 256) (by omega)
  unfold wp_5_load
  rw [i0, i1, i2, i3, i4, i5, i8, i13, i21, i256]
  refine ⟨pk_in 0 277 (by omega), fun w2 e2 => ⟨pk_in 1 277 (by omega), fun w4 e4 => ⟨pk_in 2 277 (by omega), fun w6 e6 => ⟨pk_in 3 277 (by omega), fun w8 e8 => ⟨pk_in 4 277 (by omega), fun w10 e10 => ⟨by omega, fun w12 e12 => ⟨by omega, fun w14 e14 => ⟨by omega, fun w16 e16 => ?_⟩⟩⟩⟩⟩⟩⟩⟩
  have g2 : w2 b1 = w b1 := by subst e2; rw [st_ne b1 (by omega)]
  have g4 : w4 b1 = w b1 := by subst e4; rw [st_ne b1 (by omega)]; exact g2
  have g6 : w6 b1 = w b1 := by subst e6; rw [st_ne b1 (by omega)]; exact g4
  have g8 : w8 b1 = w b1 := by subst e8; rw [st_ne b1 (by omega)]; exact g6
  rw [g8] at e10
  rw [g6] at e8
  rw [g4] at e6
  rw [g2] at e4
  have f10 : ∀ a, a ≠ 89 → w10 a = w a := by
    subst e10
    subst e8
    subst e6
    subst e4
    subst e2
    intro a ha
    rw [st_ne a ha, st_ne a ha, st_ne a ha, st_ne a ha, st_ne a ha]
  have r10 : w10 89 4 = w b1 0 ∧ w10 89 5 = w b1 1 ∧ w10 89 6 = w b1 2 ∧ w10 89 7 = w b1 3 ∧ w10 89 8 = w b1 4 := by
    subst e10
    subst e8
    subst e6
    subst e4
    subst e2
    simp [st]
  clear e10 e8 e6 e4 e2 g2 g4 g6 g8
  have f16 : ∀ a, a < 89 ∨ 93 ≤ a → w16 a = w a := by
    intro a ha
    rw [e16, cpy_ne a (by omega), e14, cpy_ne a (by omega), e12, cpy_ne a (by omega)]
    exact f10 a (by omega)
  have r89 : w16 89 = w10 89 := by rw [e16, cpy_ne _ (by omega), e14, cpy_ne _ (by omega), e12, cpy_ne _ (by omega)]
  have r1 : ∀ j, j < 8 → w16 90 j = w b1 (5 + j) := by
    intro j hj
    rw [e16, cpy_ne 90 (by omega), e14, cpy_ne 90 (by omega), e12]
    rw [show (90 : Nat) = 89 + 1 from rfl, cpy_at, pk_cpy_in (by omega) (by omega), f10 _ (by omega)]
    congr 1
  have r2 : ∀ j, j < 8 → w16 91 j = w b1 (13 + j) := by
    intro j hj
    rw [e16, cpy_ne 91 (by omega), e14]
    rw [show (91 : Nat) = 89 + 2 from rfl, cpy_at, pk_cpy_in (by omega) (by omega), e12, cpy_ne _ (by omega), f10 _ (by omega)]
    congr 1
  have r3 : ∀ j, j < 256 → w16 92 j = w b1 (21 + j) := by
    intro j hj
    rw [e16]
    rw [show (92 : Nat) = 89 + 3 from rfl, cpy_at, pk_cpy_in (by omega) (by omega), e14, cpy_ne _ (by omega), e12, cpy_ne _ (by omega), f10 _ (by omega)]
    congr 1
  refine K w16 f16 (pl_of hB h ?_ r1 r2 r3)
  rw [r89]
  exact r10
/-- what goes on after one is let go is still made of jumps -/
theorem cs_st {T : TX} {lf : Bool} {t : Int32} {P : Nat → Int32} (hB : BT T) (h : GW T lf P) (hc : CS T P) (hs : sn P < szP T P) : CS T (stP T (nI (tn T 15)) P (nxP T lf P) t) := by
  have h7 := hB.2.2.1.2.2.2.2
  have h8 := hB.2.2.1.2.2.2.1
  have ha := odP_lt (lf := lf) hB h.1.2.2.1 hs
  have hq : rd P < 3 := szP_q (T := T) (by omega)
  obtain ⟨g, gg, hg⟩ := h.1.2.2.2.2.2.2
  have hA : nxP T lf P < 8 := by unfold nxP; omega
  generalize nxP T lf P = a at hA
  have hu : 8 * qP P + a < 16 := by unfold qP; omega
  intro b q hq2 hb
  have cell : ∀ c, c < 9 → stP T (nI (tn T 15)) P a t (4 + 16 * c + (8 * q + b)) = if 8 * q + b = 8 * qP P + a then vP T (nI (tn T 15)) P a t c else P (4 + 16 * c + (8 * q + b)) := fun c hc => by rw [stP_hi (by omega)]; exact stM_c hc (by omega)
  have c0 := cell 0 (by omega)
  have c1 := cell 1 (by omega)
  have c4 := cell 4 (by omega)
  have c5 := cell 5 (by omega)
  have c6 := cell 6 (by omega)
  have c7 := cell 7 (by omega)
  have c8 := cell 8 (by omega)
  rw [show 4 + 16 * 0 + (8 * q + b) = 4 + (8 * q + b) by omega] at c0
  rw [show 4 + 16 * 1 + (8 * q + b) = 20 + (8 * q + b) by omega] at c1
  rw [show 4 + 16 * 4 + (8 * q + b) = 68 + (8 * q + b) by omega] at c4
  rw [show 4 + 16 * 5 + (8 * q + b) = 84 + (8 * q + b) by omega] at c5
  rw [show 4 + 16 * 6 + (8 * q + b) = 100 + (8 * q + b) by omega] at c6
  rw [show 4 + 16 * 7 + (8 * q + b) = 116 + (8 * q + b) by omega] at c7
  rw [show 4 + 16 * 8 + (8 * q + b) = 132 + (8 * q + b) by omega] at c8
  have cm : ∀ j, j < tj T → stP T (nI (tn T 15)) P a t (148 + 7 * (8 * q + b) + j) = if 8 * q + b = 8 * qP P + a then jM T (nI (tn T 15)) a t (slipT T (nI (tn T 15)) a t) (P 2) (P 3) j else P (148 + 7 * (8 * q + b) + j) := fun j hj => by rw [stP_hi (by omega)]; exact stM_m hu (by omega) hj h7
  rw [c0, c1, c4, c5, c6, c7, c8]
  by_cases z : 8 * q + b = 8 * qP P + a
  · have hba : b = a := by unfold qP at z; omega
    subst hba
    rw [if_pos z, if_pos z, if_pos z, if_pos z, if_pos z, if_pos z, if_pos z]
    intro _
    refine ⟨rfl, rfl, fun j hj => ?_, g, gg, hg⟩
    rw [cm j hj, if_pos z]
    rfl
  · rw [if_neg z, if_neg z, if_neg z, if_neg z, if_neg z, if_neg z, if_neg z]
    intro y
    obtain ⟨k1, k2, k3, k4⟩ := hc b q hq2 hb y
    refine ⟨k1, k2, fun j hj => ?_, k4⟩
    rw [cm j hj, if_neg z]
    exact k3 j hj
theorem cs_run {T : TX} {lf : Bool} (hB : BT T) : ∀ (n : Nat) (P : Nat → Int32), GW T lf P → CS T P → CS T (runP T (nI (tn T 15)) lf n P)
  | 0, _, _, h => h
  | n + 1, P, g, h => by
    simp only [runP]
    split
    · rename_i c
      exact cs_run hB n _ (gw_go hB g c) (cs_st hB g h c)
    · exact h
/-- the class's ring of kept rows, one more kept -/
theorem c_keep {T : TX} {P : Nat → Int32} {n x : Nat} {w : Mem} {Q : Mem → Prop} (hB : BT T) (h : PL T false P 89 w) (hn : n ≤ 40) (hx : x < 40) (h1 : w 97 1 = nI n) (h2 : w 97 2 = nI x)
    (K : ∀ w2, (∀ a, a ≠ 97 → a ≠ 99 + x → w2 a = w a) → w2 97 1 = nI (if n = 40 then 40 else n + 1) → w2 97 2 = nI ((x + 1) % 40) → SR T P (w2 (99 + x)) → Q w2) : wp_1_keep 89 w Q := by
  unfold wp_1_keep
  rw [h2]
  refine ⟨vp_in_nI hx (by decide), ?_⟩
  rw [ix_nI (by omega)]
  refine c_save hB h (by omega) (fun w2 f2 s2 w3 e3 w4 e4 => ?_)
  have g1 : w2 97 1 = nI n := by rw [f2 97 (by omega)]; exact h1
  have g2 : w2 97 2 = nI x := by rw [f2 97 (by omega)]; exact h2
  rw [g2, nI_1] at e3
  have er : irm (nI (x + 1)) 40 = nI ((x + 1) % 40) := pk_rem (a := x + 1) (d := 40) (by omega) (by omega) (by omega)
  rw [er] at e3
  have g3 : w3 97 1 = nI n := by subst e3; rw [st_nj (by decide)]; exact g1
  rw [g3, nI_1, show (40 : Int32) = nI 40 from rfl, pk_mn (by omega) (by omega)] at e4
  refine K w4 (fun a ha hb => ?_) ?_ ?_ ?_
  · subst e4; subst e3; rw [st_ne a ha, st_ne a ha]; exact f2 a hb
  · subst e4
    rw [st_eq]
    congr 1
    split <;> split <;> omega
  · subst e4
    subst e3
    rw [st_nj (by decide), st_eq]
  · subst e4; subst e3; rw [st_ne _ (by omega), st_ne _ (by omega)]; exact s2
theorem r_keepsRow {w : Mem} {wl : MemL} {Q : Mem → MemL → Prop} (hz : ∀ i, 260 ≤ i → w 180 i = 0 ∧ w 181 i = 0) (K : ∀ w2, (∀ a, a ≠ 180 → w2 a = w a) → w2 180 = w 181 → Q w2 wl) : wp_12_keepsRow w wl Q := by
  refine pk_loop (fun n i (z : Mem) => wp_12_keepsRow_b2 Q n (nI i) z wl) (fun i z => (∀ a, a ≠ 180 → z a = w a) ∧ (∀ j, j < i → z 180 j = w 181 j) ∧ ∀ j, 260 ≤ j → z 180 j = 0) 260 0 w (by omega) ⟨fun _ _ => rfl, fun j hj => absurd hj (by omega), fun j hj => (hz j hj).1⟩ (fun n z hz2 => ?_) (fun n i z hi hz2 L => ?_)
  · obtain ⟨f, e, e0⟩ := hz2
    refine pk_le 260 260 (fun _ => K z f (funext (fun j => ?_))) (fun q => absurd q (by omega))
    rcases Nat.lt_or_ge j 260 with c | c
    · exact e j c
    · rw [e0 j c, (hz j c).2]
  · obtain ⟨f, e, e0⟩ := hz2
    refine pk_le 260 i (fun q => absurd q (by omega)) (fun _ => ⟨vp_in_nI hi (by decide), vp_in_nI hi (by decide), fun w5 e5 x6 e6 => ?_⟩)
    rw [ix_nI (by omega), f 181 (by decide)] at e5
    rw [nI_1] at e6
    subst e6
    subst e5
    refine L _ ⟨fun a ha => (st_ne a ha).trans (f a ha), fun j hj => ?_, fun j hj => ?_⟩
    · rw [st_at]
      by_cases c : j = i
      · subst c; exact pk_us
      · rw [pk_un c]; exact e j (by omega)
    · rw [st_at, pk_un (by omega)]; exact e0 j hj
theorem cu_cg {f g : Nat → Int32} {b c : Nat} (h : ∀ j, j < 260 → f (b + j) = g (c + j)) : cu f b = cu g c := by
  funext j
  unfold cu
  split
  · exact h j ‹_›
  · rfl
theorem r_keeps {n : Nat} {w : Mem} {wl : MemL} {Q : Mem → MemL → Prop} (hn : n ≤ 40) (h64 : w 150 64 = nI n) (hz : ∀ i, 260 ≤ i → w 180 i = 0 ∧ w 181 i = 0)
    (K : ∀ w2, (∀ a j, a ≠ 183 → a ≠ 180 → ¬ (a = 150 ∧ j = 64) → w2 a j = w a j) → w2 180 = w 181 → w2 150 64 = nI (if n = 40 then 40 else n + 1) →
      (∀ i, i < (if n = 40 then 39 else n) → cu (w2 183) (260 * i) = cu (w 183) (260 * (if n = 40 then i + 1 else i))) → cu (w2 183) (260 * (if n = 40 then 39 else n)) = w 180 → Q w2 wl) : wp_12_keeps w wl Q := by
  -- the second half: one more behind m
  have half : ∀ (m : Nat) (w1 : Mem), m < 40 → w1 150 64 = nI m → (∀ a j, a ≠ 183 → ¬ (a = 150 ∧ j = 64) → w1 a j = w a j) →
      (∀ w2, (∀ a j, a ≠ 183 → a ≠ 180 → ¬ (a = 150 ∧ j = 64) → w2 a j = w a j) → w2 180 = w 181 → w2 150 64 = nI (m + 1) → (∀ j, j < 260 * m → w2 183 j = w1 183 j) → (∀ j, j < 260 → w2 183 (260 * m + j) = w 180 j) → Q w2 wl) → wp_12_keeps_b50 Q w1 wl := by
    intro m w1 hm e64 f1 KK
    refine pk_loop (fun n i (z : Mem) => wp_12_keeps_b52 Q n (nI i) z wl) (fun i z => (∀ a, a ≠ 183 → z a = w1 a) ∧ (∀ j, j < 260 * m → z 183 j = w1 183 j) ∧ ∀ j, j < i → z 183 (260 * m + j) = w 180 j) 260 0 w1 (by omega) ⟨fun _ _ => rfl, fun _ _ => rfl, fun j hj => absurd hj (by omega)⟩ (fun n z hz2 => ?_) (fun n i z hi hz2 L => ?_)
    · obtain ⟨f, e, e0⟩ := hz2
      refine pk_le 260 260 (fun _ w3 e3 => ?_) (fun q => absurd q (by omega))
      rw [f 150 (by decide), e64, nI_1] at e3
      have f3 : ∀ a j, a ≠ 183 → ¬ (a = 150 ∧ j = 64) → w3 a j = w a j := by
        intro a j h1 h2
        subst e3
        simp only [st]
        rw [if_neg h2, f a h1]
        exact f1 a j h1 h2
      have r180 : w3 180 = w 180 := funext (fun j => f3 180 j (by decide) (by omega))
      have r181 : w3 181 = w 181 := funext (fun j => f3 181 j (by decide) (by omega))
      have r183 : w3 183 = z 183 := by subst e3; exact st_ne 183 (by decide)
      refine r_keepsRow (by rw [r180, r181]; exact hz) (fun w4 f4 e4 => KK w4 (fun a j h1 h2 h3 => ?_) ?_ ?_ (fun j hj => ?_) (fun j hj => ?_))
      · rw [f4 a h2]; exact f3 a j h1 h3
      · rw [e4]; exact r181
      · rw [f4 150 (by decide)]; subst e3; exact st_eq
      · rw [f4 183 (by decide), r183]; exact e j hj
      · rw [f4 183 (by decide), r183]; exact e0 j hj
    · obtain ⟨f, e, e0⟩ := hz2
      refine pk_le 260 i (fun q => absurd q (by omega)) (fun _ => ?_)
      rw [f 150 (by decide), e64, show (260 : Int32) = nI 260 from rfl, pk_mul, nI_add]
      refine ⟨vp_in_nI hi (by decide), vp_in_nI (by omega) (by decide), fun w6 e6 x7 e7 => ?_⟩
      rw [ix_nI (by omega), ix_nI (by omega), f 180 (by decide), f1 180 i (by decide) (by omega)] at e6
      rw [nI_1] at e7
      subst e7
      subst e6
      refine L _ ⟨fun a ha => (st_ne a ha).trans (f a ha), fun j hj => ?_, fun j hj => ?_⟩
      · rw [st_at, pk_un (by omega)]; exact e j hj
      · rw [st_at]
        by_cases c : j = i
        · subst c; exact pk_us
        · rw [pk_un (by omega)]; exact e0 j (by omega)
  have z0 : ∀ j, 260 ≤ j → w 180 j = 0 := fun j hj => (hz j hj).1
  have cw : ∀ (f : Nat → Int32) (b : Nat), (∀ j, j < 260 → f (b + j) = w 180 j) → cu f b = w 180 := by
    intro f b hf
    funext j
    unfold cu
    split
    · exact hf j ‹_›
    · rw [z0 j (by omega)]
  unfold wp_12_keeps
  rw [h64]
  refine ⟨fun q => ?_, fun q => ?_⟩
  · have n40 : ¬ n = 40 := fun z => q (by rw [z]; rfl)
    rw [if_neg n40, if_neg n40] at K
    refine half n w (by omega) h64 (fun _ _ _ _ => rfl) (fun w2 k1 k2 k3 k4 k5 => K w2 k1 k2 k3 (fun i hi => ?_) (cw _ _ k5))
    rw [if_neg n40]
    exact cu_cg (fun j hj => k4 _ (by omega))
  · have n40 : n = 40 := (nI_eq (b := 40) (by omega) (by omega)).mp (Classical.not_not.mp q)
    rw [if_pos n40, if_pos n40] at K
    refine pk_loop (fun n i (z : Mem) => wp_12_keeps_b11 Q n (nI i) z wl) (fun i z => (∀ a, a ≠ 183 → z a = w a) ∧ (∀ j, j < i → z 183 j = w 183 (j + 260)) ∧ ∀ j, i ≤ j → z 183 j = w 183 j) 10140 0 w (by omega) ⟨fun _ _ => rfl, fun j hj => absurd hj (by omega), fun _ _ => rfl⟩ (fun n2 z hz2 => ?_) (fun n2 i z hi hz2 L => ?_)
    · obtain ⟨f, e, e0⟩ := hz2
      refine pk_le 10140 10140 (fun _ w1 e1 => ?_) (fun q => absurd q (by omega))
      rw [f 150 (by decide), h64, n40, show (1 : Int32) = nI 1 from rfl, pk_sub (by omega)] at e1
      have f1 : ∀ a j, a ≠ 183 → ¬ (a = 150 ∧ j = 64) → w1 a j = w a j := by
        intro a j h1 h2
        subst e1
        simp only [st]
        rw [if_neg h2, f a h1]
      have r183 : w1 183 = z 183 := by subst e1; exact st_ne 183 (by decide)
      refine half 39 w1 (by omega) (by subst e1; exact st_eq) f1 (fun w2 k1 k2 k3 k4 k5 => K w2 k1 k2 k3 (fun i hi => ?_) (cw _ _ k5))
      rw [if_pos n40]
      refine cu_cg (fun j hj => ?_)
      rw [k4 _ (by omega), r183, e _ (by omega)]
      congr 1
      omega
    · obtain ⟨f, e, e0⟩ := hz2
      refine pk_le 10140 i (fun q => absurd q (by omega)) (fun _ => ?_)
      rw [show (260 : Int32) = nI 260 from rfl, nI_add]
      refine ⟨vp_in_nI (by omega) (by decide), vp_in_nI (by omega) (by decide), fun w4 e4 x5 e5 => ?_⟩
      rw [ix_nI (by omega), ix_nI (by omega), e0 _ (by omega)] at e4
      rw [nI_1] at e5
      subst e5
      subst e4
      refine L _ ⟨fun a ha => (st_ne a ha).trans (f a ha), fun j hj => ?_, fun j hj => ?_⟩
      · rw [st_at]
        by_cases c : j = i
        · subst c; exact pk_us
        · rw [pk_un c]; exact e j (by omega)
      · rw [st_at, pk_un (by omega)]; exact e0 j (by omega)
