theorem by_and (x : Int32) : (vp_nar .byte x) &&& (255 : Int32) = x &&& (255 : Int32) := by
  rw [vp_nar_byte, pk_and (m := 255) _ 8 rfl, pk_and (m := 255) x 8 rfl]
  congr 1
  have h8 : (x.toBitVec.setWidth 8).toNat = x.toBitVec.toNat % 2 ^ 8 := BitVec.toNat_setWidth 8 _
  have h32 : ((x.toBitVec.setWidth 8).setWidth 32).toNat = x.toBitVec.toNat % 256 := by
    rw [BitVec.toNat_setWidth, h8]
    omega
  have e : (x.toInt8.toInt32).toBitVec = (x.toBitVec.signExtend 8).signExtend 32 := by
    rw [Int8.toBitVec_toInt32, Int32.toBitVec_toInt8]
  rw [e, show x.toBitVec.signExtend 8 = x.toBitVec.setWidth 8 from BitVec.signExtend_eq_setWidth_of_le _ (by decide), BitVec.toNat_signExtend, h32]
  split <;> omega
/-- what read may write in the reference, if there is a fault -/
def frRd (s : Nat) (w w2 : Mem) : Prop := ∀ a j, ¬ wrR (1 - s) a j → a ≠ 152 → ¬ (153 ≤ a ∧ a ≤ 155) → ¬ (a = 150 ∧ (j < 18 ∨ j = 19 ∨ j = 20)) → w2 a j = w a j
theorem r_end1 {w : Mem} {wl : MemL} {k p : Nat} {Q : Int32 → Mem → MemL → Prop} (hk : 0 < k ∧ k < 10) (h13 : w 150 13 = nI k) (h14 : w 150 14 = nI p) (K : ∀ w2, (∀ a j, ¬ (a = 150 ∧ j = 17) → w2 a j = w a j) → w2 150 17 = nI p → Q (nI k) w2 wl) : wp_12_read_b134 Q w wl := by
  unfold wp_12_read_b134
  rw [h13]
  refine pk_le k 0 (fun q => absurd q (by omega)) (fun _ => ?_)
  intro w1 e1
  rw [h14] at e1
  have f1 : ∀ a j, ¬ (a = 150 ∧ j = 17) → w1 a j = w a j := by
    subst e1
    intro a j q
    simp only [st]
    rw [if_neg q]
  have v1 : w1 150 17 = nI p := by subst e1; exact st_eq
  rw [f1 150 13 (by decide), h13]
  exact pk_le k 0 (fun q => absurd q (by omega)) (fun _ => K w1 f1 v1)
theorem r_end2 {w : Mem} {wl : MemL} {k p : Nat} {Q : Int32 → Mem → MemL → Prop} (hk : 0 < k ∧ k < 10) (h13 : w 150 13 = 0) (h15 : w 150 15 = nI k) (h16 : w 150 16 = nI p) (K : ∀ w2, (∀ a j, ¬ (a = 150 ∧ j = 17) → w2 a j = w a j) → w2 150 17 = nI p → Q (nI k) w2 wl) : wp_12_read_b134 Q w wl := by
  unfold wp_12_read_b134
  rw [h13, h15]
  refine ⟨fun _ => pk_le k 0 (fun q => absurd q (by omega)) (fun _ => ?_), fun q => absurd (by decide) q⟩
  intro w1 e1
  rw [h16] at e1
  have f1 : ∀ a j, ¬ (a = 150 ∧ j = 17) → w1 a j = w a j := by
    subst e1
    intro a j q
    simp only [st]
    rw [if_neg q]
  have v1 : w1 150 17 = nI p := by subst e1; exact st_eq
  rw [f1 150 13 (by decide), f1 150 15 (by decide), h13, h15]
  exact ⟨fun _ => pk_le k 0 (fun q => absurd q (by omega)) (fun _ => K w1 f1 v1), fun q => absurd (by decide) q⟩
theorem r_end3 {w : Mem} {wl : MemL} {Q : Int32 → Mem → MemL → Prop} (h13 : w 150 13 = 0) (h15 : w 150 15 = 0) (K : wp_12_read_b164 Q (-1) w wl) : wp_12_read_b134 Q w wl := by
  unfold wp_12_read_b134
  rw [h13, h15]
  exact ⟨fun _ => ⟨fun _ => K, fun q => absurd (by decide) q⟩, fun q => absurd (by decide) q⟩
/-- the reference's read -/
theorem r_read {s n : Nat} {B : Nat → Nat} {w : Mem} {wl : MemL} {Q : Int32 → Mem → MemL → Prop} (hs : s < 2) (h18 : w 150 18 = nI s) (hn : n ≤ 2000) (h2 : w 150 2 = nI n) (hb : ∀ i, i < n → (w 151 i) &&& (255 : Int32) = nI (B i) ∧ B i < 256) (hk : KEYS wl) (hz : ∀ i, 260 ≤ i → w 180 i = 0 ∧ w 181 i = 0)
    (KE : ∀ kd tok, parP (Kf B n) (Vf B n) (NMf B n) 401 0 S0 = .error (kd, tok) → ∀ w2 wl2, frRd s w w2 → KEYS wl2 → w2 150 2 = 0 → w2 150 17 = nI (psF B n tok) → Q (nI kd) w2 wl2)
    (KW : ∀ t2 S2 k0 t0, parP (Kf B n) (Vf B n) (NMf B n) 401 0 S0 = .ok (t2, S2) → sF S2 = some (k0, t0) → ∀ w2 wl2, frRd s w w2 → KEYS wl2 → w2 150 2 = 0 → w2 150 17 = nI (psF B n t0) → Q (nI k0) w2 wl2)
    (KO : ∀ t2 S2, parP (Kf B n) (Vf B n) (NMf B n) 401 0 S0 = .ok (t2, S2) → sF S2 = none → ∀ w2 wl2, KEYS wl2 → w2 150 2 = 0 → (w2 150 17 = -1 ∧ w2 150 18 = nI (1 - s) ∧ w2 150 64 = 0 ∧ w2 150 66 = 0) → w2 150 61 = w 150 61 → TR (1 - s) (TXs S2) w2 → w2 180 = begP (TXs S2) → w2 181 = begP (TXs S2) → (∀ i, i < 3 → w2 187 i = 0) → Q 0 w2 wl2) : wp_12_read w wl Q := by
  intro w1 e1
  rw [h2] at e1
  have f1 : ∀ a j, ¬ (a = 150 ∧ j = 4) → w1 a j = w a j := by
    subst e1
    intro a j q
    simp only [st]
    rw [if_neg q]
  have v1 : w1 150 4 = nI n := by subst e1; exact st_eq
  clear e1
  refine pk_loop (fun k i (z : Mem) => wp_12_read_b10 Q k (nI i) z wl) (fun i z => (∀ a j, a ≠ 152 → z a j = w1 a j) ∧ ∀ k, k < i → z 152 k = vp_nar .byte (w 151 k)) n 0 w1 (by omega) ⟨fun _ _ _ => rfl, fun j hj => absurd hj (by omega)⟩ (fun k z hz => ?_) (fun k i z hi hz L => ?_)
  rotate_left
  · obtain ⟨f, o⟩ := hz
    show wp_12_read_b10 Q (k + 1) (nI i) z wl
    unfold wp_12_read_b10
    rw [f 150 4 (by decide), v1]
    refine pk_le n i (fun q => absurd q (by omega)) (fun _ => ⟨vp_in_nI (by omega) (by decide), vp_in_nI (by omega) (by decide), fun w8 e8 x9 e9 => ?_⟩)
    rw [ix_nI (by omega), f 151 i (by decide), f1 151 i (by omega)] at e8
    rw [nI_1] at e9
    subst e9
    subst e8
    refine L _ ⟨fun a j q => ?_, fun j hj => ?_⟩
    · simp only [st]
      rw [if_neg (by omega)]
      exact f a j q
    · by_cases c : j = i
      · subst c
        exact st_eq
      · rw [st_nj c]
        exact o j (by omega)
  obtain ⟨f, o⟩ := hz
  show wp_12_read_b10 Q (k + 1) (nI n) z wl
  unfold wp_12_read_b10
  rw [f 150 4 (by decide), v1]
  refine pk_le n n (fun _ w2 e2 => ?_) (fun q => absurd q (by omega))
  have f2 : ∀ a j, a ≠ 152 → ¬ (a = 150 ∧ (j = 2 ∨ j = 4)) → w2 a j = w a j := by
    subst e2
    intro a j q1 q2
    simp only [st]
    rw [if_neg (by omega), f a j q1]
    exact f1 a j (by omega)
  have v2 : w2 150 2 = 0 ∧ w2 150 4 = nI n := by
    subst e2
    refine ⟨st_eq, ?_⟩
    rw [st_nj (by decide), f 150 4 (by decide)]
    exact v1
  have o2 : ∀ i, i < n → w2 152 i = vp_nar .byte (w 151 i) := by
    subst e2
    intro i hi
    rw [st_nk (by decide)]
    exact o i hi
  clear e2 f o
  have rb : RB2 B n w2 := ⟨hn, v2.2, fun i hi => by
    rw [o2 i hi, by_and]
    exact hb i hi⟩
  refine r_cut rb hk (fun w3 wl3 M0 f3 fl3 hM0 tk0 hend0 w4 e4 w5 e5 w6 e6 w7 e7 w8 e8 w9 e9 => ?_)
  obtain ⟨M, hM1, hM2, hmin⟩ := min_M (p := fun j => Kf B n j = 0) M0
  have hM : M ≤ 400 := by omega
  have hend : M = 400 ∨ knF B n (psF B n M) = 0 := by
    rcases hM2 with q | q
    · rw [q]; exact hend0
    · exact Or.inr q
  have tk : TKR B n (M + 1) w3 wl3 := fun j hj => tk0 j (by omega)
  have k3 : KEYS wl3 := by
    unfold KEYS
    rw [fl3 157 (by decide)]
    exact hk
  have s1 : 1 - s ≤ 1 := by omega
  -- the fields at the loop's beginning
  have f7 : ∀ a j, ¬ (a = 150 ∧ (j = 11 ∨ j = 12 ∨ j = 13 ∨ j = 15)) → w7 a j = w3 a j := by
    subst e7
    subst e6
    subst e5
    subst e4
    intro a j q
    simp only [st]
    rw [if_neg (by omega), if_neg (by omega), if_neg (by omega), if_neg (by omega)]
  have v7 : w7 150 11 = 0 ∧ w7 150 12 = 0 ∧ w7 150 13 = 0 ∧ w7 150 15 = 0 := by
    subst e7
    subst e6
    subst e5
    subst e4
    simp [st]
  clear e4 e5 e6 e7
  have h18' : w7 150 18 = nI s := by rw [f7 150 18 (by decide), f3 150 18 (by decide) (by decide), f2 150 18 (by decide) (by decide)]; exact h18
  rw [h18', show (1 : Int32) = nI 1 from rfl, pk_sub (by omega)] at e8
  have f9 : ∀ a j, ¬ (a = 150 ∧ (j = 11 ∨ j = 12 ∨ j = 13 ∨ j = 15 ∨ j = 19 ∨ j = 20)) → w9 a j = w3 a j := by
    subst e9
    subst e8
    intro a j q
    simp only [st]
    rw [if_neg (by omega), if_neg (by omega)]
    exact f7 a j (by omega)
  have v9 : w9 150 11 = 0 ∧ w9 150 12 = 0 ∧ w9 150 13 = 0 ∧ w9 150 15 = 0 ∧ w9 150 19 = nI (1 - s) ∧ w9 150 20 = 0 := by
    subst e9
    subst e8
    simp [st, v7]
  clear e8 e9
  rw [v9.2.2.2.2.1]
  refine r_plain s1 (fun w10 f10 n10 z10 l10 w12 e12 w13 e13 => ?_)
  have g10 : ∀ j, w10 150 j = w9 150 j := fun j => f10 150 j (by omega) (by omega) (by omega)
  have g19 : w10 150 19 = nI (1 - s) := (g10 19).trans v9.2.2.2.2.1
  rw [g19, show (130 : Int32) = nI 130 from rfl, pk_mul] at e12
  have g12 : w12 150 19 = nI (1 - s) := by subst e12; rw [st_nj (by decide)]; exact g19
  rw [g12, show (420 : Int32) = nI 420 from rfl, pk_mul] at e13
  have f13 : ∀ a j, ¬ (a = 150 ∧ (j = 33 ∨ j = 39)) → w13 a j = w10 a j := by
    subst e13
    subst e12
    intro a j q
    simp only [st]
    rw [if_neg (by omega), if_neg (by omega)]
  have v13 : w13 150 33 = nI (130 * (1 - s)) ∧ w13 150 39 = nI (420 * (1 - s)) := by
    subst e13
    subst e12
    simp [st]
  clear e12 e13
  have g13 : ∀ j, j ≠ 33 → j ≠ 39 → w13 150 j = w9 150 j := fun j q1 q2 => (f13 150 j (by omega)).trans (g10 j)
  have fx : ∀ a j, ¬ wrR (1 - s) a j → a ≠ 152 → ¬ (153 ≤ a ∧ a ≤ 155) → ¬ (a = 150 ∧ (j < 18 ∨ j = 19 ∨ j = 20)) → w13 a j = w a j := by
    intro a j q1 q2 q3 q4
    simp only [wrR] at q1
    rw [f13 a j (by omega), f10 a j (by omega) (by omega) (by omega), f9 a j (by omega), f3 a j q3 (by omega)]
    exact f2 a j q2 (by omega)
  have x2 : w13 150 2 = 0 := by
    rw [g13 2 (by decide) (by decide), f9 150 2 (by decide), f3 150 2 (by decide) (by decide)]
    exact v2.1
  have tkm : TKM (Kf B n) (psF B n) (Vf B n) M w13 := by
    refine tkm_i (tkm_of hM tk hend) (fun a q1 q2 => funext (fun j => ?_))
    rw [f13 a j (by omega), f10 a j (by omega) (by omega) (by omega), f9 a j (by omega)]
  have gr : GR (Kf B n) (psF B n) (Vf B n) (NMf B n) M (1 - s) w13 wl3 0 S0 w13 wl3 := by
    refine ⟨130 * (1 - s), 420 * (1 - s), ⟨tkm, Nat.zero_le _, s1⟩, ⟨⟨?_, ?_, ?_, v13.1, v13.2, ?_⟩, Nat.le_refl _, Nat.le_refl _, Nat.le_refl _, by omega⟩, ⟨fun a ha => ?_, fun k hk => ?_, ⟨?_, ?_⟩, fun r a hr ha => absurd ha (Nat.not_lt_zero _), fun j hj => absurd hj (Nat.not_lt_zero _)⟩, ⟨?_, fun k0 t0 q => by cases q⟩, ⟨?_, fun i x hx => ?_, fun x hx => absurd hx List.not_mem_nil, nm_of tk⟩, fun _ _ _ => rfl, fun _ _ => rfl⟩
    · rw [g13 11 (by decide) (by decide)]; exact v9.1
    · rw [g13 12 (by decide) (by decide)]; exact v9.2.1
    · rw [g13 13 (by decide) (by decide)]; exact v9.2.2.1
    · rw [g13 19 (by decide) (by decide)]; exact v9.2.2.2.2.1
    · show w13 168 _ = w13 169 _
      rw [f13 168 _ (by omega), f13 169 _ (by omega)]
      exact l10 a ha
    · rw [f13 159 _ (by omega)]
      exact n10 k hk
    · rw [f13 160 _ (by omega)]
      exact z10.1
    · rw [f13 165 _ (by omega)]
      exact z10.2
    · show w13 150 15 = 0
      rw [g13 15 (by decide) (by decide)]; exact v9.2.2.2.1
    · rw [g13 20 (by decide) (by decide)]; exact v9.2.2.2.2.2
    · have hx2 : ([] : List Nat)[i]? = some x := hx
      simp at hx2
  refine ⟨402, r_loop vf_b (ps_mo hmin) (fun i => by have := psF_b (B := B) (n := n) i; omega) 401 0 S0 w13 wl3 (by omega) gr si_0 bi_0 (fun kd tok er w2' wl2 e => ?_) (fun t2 S2 er w2' wl2 g => ?_)⟩
  · obtain ⟨e1, e2, e3, e4, e5, e6, e7⟩ := e
    refine r_end1 (by omega) e3 e4 (fun w5 f5 v5 => KE kd tok er w5 wl2 (fun a j q1 q2 q3 q4 => ?_) ?_ ?_ v5)
    · rw [f5 a j (by omega), e1 a j q1]
      exact fx a j q1 q2 q3 q4
    · unfold KEYS
      rw [e2 157 (by decide)]
      exact k3
    · rw [f5 150 2 (by decide), e1 150 2 (by simp only [wrR]; omega)]
      exact x2
  · obtain ⟨iB, c, ⟨a1, a2, a3⟩, ⟨⟨b1, b2, b3, b4, b5, b6⟩, d1, d2, d3, d4⟩, e, ⟨lf, lt⟩, gg, l1, l2⟩ := g
    have kk : KEYS wl2 := by
      unfold KEYS
      rw [l2 157 (by decide)]
      exact k3
    cases hs2 : sF S2 with
    | some y =>
      obtain ⟨k0, t0⟩ := y
      rw [hs2] at lf
      obtain ⟨y1, y2, y3⟩ := lf
      refine r_end2 y1 b3 y2 y3 (fun w5 f5 v5 => KW t2 S2 k0 t0 er hs2 w5 wl2 (fun a j q1 q2 q3 q4 => ?_) kk ?_ v5)
      · rw [f5 a j (by omega), l1 a j q1]
        exact fx a j q1 q2 q3 q4
      · rw [f5 150 2 (by decide), l1 150 2 (by simp only [wrR]; omega)]
        exact x2
    | none =>
      rw [hs2] at lf
      have hm := a1.1
      have tr := tr_of (S := S2) s1 (by omega) (by omega) e
      refine r_end3 b3 lf (r_new (by omega) b6 b3 lf tr (fun i hi => ?_) (fun w5 f5 p5 q5 v5 z5 => KO t2 S2 er hs2 w5 wl2 kk ?_ v5 ?_ ?_ p5 q5 z5))
      · rw [l1 180 i (by simp only [wrR]; omega), l1 181 i (by simp only [wrR]; omega), fx 180 i (by simp only [wrR]; omega) (by decide) (by decide) (by omega), fx 181 i (by simp only [wrR]; omega) (by decide) (by decide) (by omega)]
        exact hz i hi
      · rw [f5 150 2 (by decide) (by decide) (by decide) (by decide), l1 150 2 (by simp only [wrR]; omega)]
        exact x2
      · rw [f5 150 61 (by decide) (by decide) (by decide) (by decide), l1 150 61 (by simp only [wrR]; omega)]
        exact fx 150 61 (by simp only [wrR]; omega) (by decide) (by decide) (by decide)
      · exact tr_cg tr (fun b q1 q2 => funext (fun j => f5 b j (by omega) (by omega) (by omega) (by omega)))
