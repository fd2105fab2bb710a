/-! sums and counts over all jumps: man by man on the one side, round by round on the other -/
theorem sumN_cg {f g : Nat → Int32} : ∀ n, (∀ i, i < n → f i = g i) → sumN f n = sumN g n
  | 0, _ => rfl
  | n + 1, h => by
    simp only [sumN]
    rw [sumN_cg n (fun i hi => h i (by omega)), h n (by omega)]
theorem sumN_z {f : Nat → Int32} {m : Nat} : ∀ n, m ≤ n → (∀ i, m ≤ i → i < n → f i = 0) → sumN f n = sumN f m
  | 0, h, _ => by rw [show m = 0 by omega]
  | n + 1, h, z => by
    rcases Nat.lt_or_ge m (n + 1) with c | c
    · simp only [sumN]
      rw [sumN_z n (by omega) (fun i h1 h2 => z i h1 (by omega)), z n (by omega) (by omega), Int32.add_zero]
    · rw [show m = n + 1 by omega]
theorem sumN_a (f g : Nat → Int32) : ∀ n, sumN (fun i => f i + g i) n = sumN f n + sumN g n
  | 0 => rfl
  | n + 1 => by
    simp only [sumN]
    rw [sumN_a f g n, Int32.add_assoc, Int32.add_assoc, ← Int32.add_assoc (sumN g n), Int32.add_comm (sumN g n) (f n), Int32.add_assoc]
theorem sumN_8 (f : Nat → Int32) : ∀ n, sumN f (8 + n) = sumN f 8 + sumN (fun i => f (8 + i)) n
  | 0 => by rw [show (sumN (fun i => f (8 + i)) 0) = 0 from rfl, Int32.add_zero]
  | n + 1 => by
    show sumN f (8 + n) + f (8 + n) = _
    rw [sumN_8 f n]
    simp only [sumN]
    rw [Int32.add_assoc]
theorem sumN_16 {f : Nat → Int32} {m : Nat} (hm : m ≤ 8) (hz : ∀ a, m ≤ a → a < 8 → f a = 0 ∧ f (8 + a) = 0) : sumN f 16 = sumN (fun a => f a + f (8 + a)) m := by
  rw [sumN_a, show (16 : Nat) = 8 + 8 from rfl, sumN_8, sumN_z (m := m) 8 hm (fun i h1 h2 => (hz i h1 h2).1), sumN_z (f := fun i => f (8 + i)) (m := m) 8 hm (fun i h1 h2 => (hz i h1 h2).2)]
/-- what a judge gave for the jump u -/
def gvF (P : Nat → Int32) (j : Nat) (u : Nat) : Int32 := if P (4 + u) = 1 then P (148 + 7 * u + j) else 0
theorem not_hasJ {P : Nat → Int32} {a q : Nat} (h : ¬ hasJ P (nI a) (nI (q + 1))) (ha : a < 8) (hq : q < 2) : ¬ P (4 + (8 * q + a)) = 1 := fun z => h ⟨a, q, ha, hq, rfl, rfl, z⟩
theorem c_hasU {T : TX} {P : Nat → Int32} {k a q : Nat} {w : Mem} {Q : Int32 → Mem → Prop} (hB : BT T) (hP : PL T false P k w) (hG : GW T false P) (ha : a < tm T) (hq : q < 2) (K1 : P (4 + (8 * q + a)) = 1 → Q 1 w) (K0 : ¬ P (4 + (8 * q + a)) = 1 → Q 0 w) : wp_5_hasJump k (nI a) (nI (q + 1)) w Q := by
  have h8 := hB.2.2.1.2.2.2.1
  refine c_hasJump hB hP hG (fun a2 q2 h1 h2 h3 h4 h5 => K1 ?_) (fun z => K0 (not_hasJ z (by omega) hq))
  have e1 : a = a2 := (nI_eq (by omega) (by omega)).mp h3
  have e2 : q + 1 = q2 + 1 := (nI_eq (by omega) (by omega)).mp h4
  have e3 : q = q2 := by omega
  subst e1
  subst e3
  exact h5
theorem c_givenBy {T : TX} {P : Nat → Int32} {j : Nat} {w : Mem} {Q : Int32 → Mem → Prop} (hB : BT T) (hP : PL T false P 89 w) (hG : GW T false P) (h80 : w 80 6 = nI (tm T)) (hj : j < tj T) (K : Q (sumN (gvF P j) 16) w) : wp_5_givenBy 89 (nI j) w Q := by
  have h8 : tm T ≤ 8 := hB.2.2.1.2.2.2.1
  have h7 : tj T ≤ 7 := hB.2.2.1.2.2.2.2
  have e16 : sumN (gvF P j) 16 = sumN (fun a => gvF P j a + gvF P j (8 + a)) (tm T) := sumN_16 h8 (fun a h1 h2 => by
    obtain ⟨g1, g2⟩ := hG.2.2.2.2 a h1 h2
    unfold gvF
    rw [g1, show 4 + (8 + a) = 12 + a by omega, g2, if_neg (by decide), if_neg (by decide)]
    exact ⟨rfl, rfl⟩)
  rw [e16] at K
  refine pk_loop (fun n i (z : Int32) => wp_5_givenBy_b4 89 Q n (nI j) z (nI i) w) (fun i z => z = sumN (fun a => gvF P j a + gvF P j (8 + a)) i) (tm T) 0 0 (by omega) rfl (fun n z hz => ?_) (fun n i z hi hz L => ?_)
  · subst hz
    unfold wp_5_givenBy_b4
    rw [h80]
    exact pk_le (tm T) (tm T) (fun _ => K) (fun q => absurd q (by omega))
  · subst hz
    unfold wp_5_givenBy_b4
    rw [h80]
    refine pk_le (tm T) i (fun q => absurd q (by omega)) (fun _ => ?_)
    have L2 := L _ (show sumN (fun a => gvF P j a + gvF P j (8 + a)) i + (gvF P j i + gvF P j (8 + i)) = _ from rfl)
    rw [← Int32.add_assoc] at L2
    refine ⟨3, ?_⟩
    have one : ∀ (n2 q : Nat) (x : Int32), q < 2 → (∀ y, y = x + gvF P j (8 * q + i) → wp_5_givenBy_b21 89 Q (wp_5_givenBy_b4 89 Q n) n2 (nI j) y (nI i) (nI (q + 1 + 1)) w) → wp_5_givenBy_b21 89 Q (wp_5_givenBy_b4 89 Q n) (n2 + 1) (nI j) x (nI i) (nI (q + 1)) w := by
      intro n2 q x hq KK
      refine pk_lt 2 (q + 1) (fun z => absurd z (by omega)) (fun _ => ?_)
      have b53 : ∀ v, v = gvF P j (8 * q + i) → wp_5_givenBy_b53 89 Q (wp_5_givenBy_b4 89 Q n) (wp_5_givenBy_b21 89 Q (wp_5_givenBy_b4 89 Q n) n2) (nI j) (nI i) (nI (q + 1)) x v w := by
        intro v ev x1 e1 x2 e2
        rw [nI_1] at e2
        subst e2
        exact KK _ (by rw [e1, ev])
      refine c_hasU hB hP hG (by omega) hq (fun z => t1 ?_) (fun z => t0 (b53 _ ?_))
      · rw [show (9 : Int32) = nI 9 from rfl, nI_add]
        refine c_cell (by omega) hq (by omega) (b53 _ ?_)
        rw [show uc (8 * q + i) * 16 + (9 + j) = uc (8 * q + i) * 16 + 9 + j by omega, hP.2.2.2.2.2 _ j (by omega) hj]
        unfold gvF
        rw [if_pos z]
      · unfold gvF
        rw [if_neg z]
    refine one 2 0 _ (by omega) (fun y ey => one 1 1 y (by omega) (fun y2 ey2 => ?_))
    refine pk_lt 2 3 (fun _ x1 e1 => ?_) (fun z => absurd z (by omega))
    rw [nI_1] at e1
    subst e1
    rw [ey2, ey]
    rw [show 8 * 0 + i = i by omega, show 8 * 1 + i = 8 + i by omega]
    exact L2
theorem r_gave {j : Nat} {w : Mem} {wl : MemL} {Q : Int32 → Mem → MemL → Prop} (hj : j < 7) (K : Q (sumN (gvF (w 180) j) 16) w wl) : wp_12_gaveInAll (nI j) w wl Q := by
  refine pk_loop (fun n i (z : Int32) => wp_12_gaveInAll_b4 Q n (nI j) z (nI i) w wl) (fun i z => z = sumN (gvF (w 180) j) i) 16 0 0 (by omega) rfl (fun n z hz => ?_) (fun n i z hi hz L => ?_)
  · subst hz
    exact pk_le 16 16 (fun _ => K) (fun q => absurd q (by omega))
  · subst hz
    refine pk_le 16 i (fun q => absurd q (by omega)) (fun _ => ?_)
    have ei : (4 : Int32) + nI i = nI (4 + i) := nI_add 4 i
    have em : ((148 : Int32) + (7 : Int32) * nI i) + nI j = nI (148 + 7 * i + j) := by rw [show (7 : Int32) = nI 7 from rfl, pk_mul, show (148 : Int32) = nI 148 from rfl, nI_add, nI_add]
    rw [ei, em]
    refine ⟨vp_in_nI (by omega) (by decide), ?_⟩
    rw [ix_nI (by omega), ix_nI (by omega)]
    have e : sumN (gvF (w 180) j) (i + 1) = sumN (gvF (w 180) j) i + gvF (w 180) j i := rfl
    unfold gvF at e
    refine ⟨fun q x1 e1 => ?_, fun q => ⟨vp_in_nI (by omega) (by decide), fun x3 e3 x1 e1 => ?_⟩⟩
    · rw [nI_1] at e1
      subst e1
      rw [if_neg q, Int32.add_zero] at e
      exact L _ e.symm
    · rw [nI_1] at e1
      subst e1
      subst e3
      rw [if_pos (Classical.not_not.mp q)] at e
      exact L _ e.symm
/-- the first judge with the least (kind 0) or the most -/
def hbF (kd : Int32) (g : Nat → Int32) : Nat → Nat
  | 0 => 0
  | n + 1 => if kd = 0 then (if g (n + 1) < g (hbF kd g n) then n + 1 else hbF kd g n) else (if g (hbF kd g n) < g (n + 1) then n + 1 else hbF kd g n)
theorem hbF_s (kd : Int32) (g : Nat → Int32) {i : Nat} (h : 1 ≤ i) : hbF kd g (i + 1 - 1) = if kd = 0 then (if g i < g (hbF kd g (i - 1)) then i else hbF kd g (i - 1)) else (if g (hbF kd g (i - 1)) < g i then i else hbF kd g (i - 1)) := by
  rw [show i + 1 - 1 = i - 1 + 1 by omega]
  simp only [hbF]
  rw [show i - 1 + 1 = i by omega]
theorem hbF_le (kd : Int32) (g : Nat → Int32) : ∀ n, hbF kd g n ≤ n
  | 0 => Nat.le_refl _
  | n + 1 => by
    have := hbF_le kd g n
    simp only [hbF]
    split <;> split <;> omega
theorem sim_harsh (kd a2 : Int32) : SIM (wp_11_harsh kd a2) (wp_12_harsh kd a2) := by
  rintro w wm wl ⟨T, s, h⟩
  obtain ⟨hC, hR, hP, hS⟩ := h.1
  have h8 := m8 hR
  have hs := hR.1
  have h7 : tj T ≤ 7 := hR.2.2.2.1.2.2.1.2.2.2.2
  refine c_in (fun x2 => u1 ?_) (fun q => u0 (r_in (fun z => absurd z q) (fun _ => u0 ⟨rfl, T, s, h⟩)))
  have iv : vp_in (wm 150 18) 2 := by rw [hR.2.1]; exact pk_in s 2 hs
  have e165 : wm 165 (ix (wm 150 18)) = nI (tj T) := by rw [hR.2.1, ix_nI (by omega)]; exact hR.2.2.1.2.2.1.2
  have bg : ∀ {x y : Int32}, ¬ x ≤ y → y < x := fun {x y} => by rw [Int32.le_iff_toInt_le, Int32.lt_iff_toInt_lt]; omega
  have bl : ∀ {x y : Int32}, x ≤ y → ¬ y < x := fun {x y} => by rw [Int32.le_iff_toInt_le, Int32.lt_iff_toInt_lt]; omega
  have fin : ∀ v, (tj T = 0 → v = -2) → (0 < tj T → v = (if a2 = 0 then nI (hbF kd (fun j => sumN (gvF (wm 180) j) 16) (tj T - 1)) else sumN (gvF (wm 180) (hbF kd (fun j => sumN (gvF (wm 180) j) 16) (tj T - 1))) 16)) →
      wp_12_harsh kd a2 wm wl (fun y wm2 wl2 => v = y ∧ REL w wm2 wl2) := by
    intro v v0 v1
    refine r_in (fun _ => u1 ⟨iv, ?_⟩) (fun q => absurd x2 q)
    rw [e165]
    refine ⟨fun q => ?_, fun q => ⟨v0 ((nI_eq (b := 0) (by omega) (by omega)).mp (Classical.not_not.mp q)), T, s, h⟩⟩
    have j0 : 0 < tj T := by
      rcases Nat.eq_zero_or_pos (tj T) with z | z
      · exact absurd (by rw [z]; rfl) q
      · exact z
    refine pk_loop (fun n i (z : Int32) => wp_12_harsh_b31 (fun y wm2 wl2 => v = y ∧ REL w wm2 wl2) n kd a2 z (nI i) wm wl) (fun i z => 1 ≤ i ∧ z = nI (hbF kd (fun j => sumN (gvF (wm 180) j) 16) (i - 1))) (tj T) 1 0 (by omega) ⟨by omega, rfl⟩ (fun n z hz => ?_) (fun n i z hi hz L => ?_)
    · obtain ⟨_, rfl⟩ := hz
      have hl := hbF_le kd (fun j => sumN (gvF (wm 180) j) 16) (tj T - 1)
      refine ⟨iv, ?_⟩
      rw [e165]
      refine pk_le (tj T) (tj T) (fun _ => ⟨fun q => r_gave (by omega) ⟨?_, T, s, h⟩, fun q => ⟨?_, T, s, h⟩⟩) (fun q => absurd q (by omega))
      · rw [v1 j0, if_neg q]
      · rw [v1 j0, if_pos (Classical.not_not.mp q)]
    · obtain ⟨i1, rfl⟩ := hz
      have hl := hbF_le kd (fun j => sumN (gvF (wm 180) j) 16) (i - 1)
      refine ⟨iv, ?_⟩
      rw [e165]
      have ec := hbF_s kd (fun j => sumN (gvF (wm 180) j) 16) i1
      refine pk_le (tj T) i (fun q => absurd q (by omega)) (fun _ => ⟨fun q => ?_, fun q => ?_⟩)
      · rw [if_pos q] at ec
        refine r_gave (by omega) (r_gave (by omega) ⟨fun q2 x1 e1 => ?_, fun q2 x1 e1 => ?_⟩)
        · rw [nI_1] at e1
          subst e1
          rw [if_neg (bl q2)] at ec
          exact L _ ⟨by omega, by rw [ec]⟩
        · rw [nI_1] at e1
          subst e1
          rw [if_pos (bg q2)] at ec
          exact L _ ⟨by omega, by rw [ec]⟩
      · rw [if_neg q] at ec
        refine r_gave (by omega) (r_gave (by omega) ⟨fun q2 x1 e1 => ?_, fun q2 x1 e1 => ?_⟩)
        · rw [nI_1] at e1
          subst e1
          rw [if_neg (bl q2)] at ec
          exact L _ ⟨by omega, by rw [ec]⟩
        · rw [nI_1] at e1
          subst e1
          rw [if_pos (bg q2)] at ec
          exact L _ ⟨by omega, by rw [ec]⟩
  have h80 : w 80 6 = nI (tm T) := hC.1.2.2.2.2.1.1
  have h87 : w 80 7 = nI (tj T) := hC.1.2.2.2.2.1.2
  refine pk_loop (fun n i (z : Int32 × Int32) => wp_11_harsh_b21 (fun v w2 => wp_12_harsh kd a2 wm wl (fun y wm2 wl2 => v = y ∧ REL w2 wm2 wl2)) n kd a2 z.1 z.2 (nI i) w)
    (fun i z => (i = 0 → z = (-2, -2)) ∧ (1 ≤ i → z = (nI (hbF kd (fun j => sumN (gvF (wm 180) j) 16) (i - 1)), sumN (gvF (wm 180) (hbF kd (fun j => sumN (gvF (wm 180) j) 16) (i - 1))) 16))) (tj T) 0 (-2, -2) (by omega) ⟨fun _ => rfl, fun q => absurd q (by omega)⟩ (fun n z hz => ?_) (fun n i z hi hz L => ?_)
  · obtain ⟨e0, e1⟩ := hz
    unfold wp_11_harsh_b21
    rw [h87]
    refine pk_le (tj T) (tj T) (fun _ => ⟨fun q => fin _ (fun j0 => by rw [e0 j0]) (fun j1 => by rw [e1 j1, if_neg q]), fun q => fin _ (fun j0 => by rw [e0 j0]) (fun j1 => by rw [e1 j1, if_pos (Classical.not_not.mp q)])⟩) (fun q => absurd q (by omega))
  · obtain ⟨e0, e1⟩ := hz
    unfold wp_11_harsh_b21
    rw [h87]
    refine pk_le (tj T) i (fun q => absurd q (by omega)) (fun _ => ?_)
    refine c_givenBy hR.2.2.2.1 hP hR.2.2.2.2.2.2 h80 hi ?_
    have b81 : ∀ x y, (x, y) = (nI (hbF kd (fun j => sumN (gvF (wm 180) j) 16) (i + 1 - 1)), sumN (gvF (wm 180) (hbF kd (fun j => sumN (gvF (wm 180) j) 16) (i + 1 - 1))) 16) →
        wp_11_harsh_b81 (fun v w2 => wp_12_harsh kd a2 wm wl (fun y wm2 wl2 => v = y ∧ REL w2 wm2 wl2)) (wp_11_harsh_b21 (fun v w2 => wp_12_harsh kd a2 wm wl (fun y wm2 wl2 => v = y ∧ REL w2 wm2 wl2)) n) kd a2 x y (nI i) w := by
      intro x y exy x1 ee
      rw [nI_1] at ee
      subst ee
      exact L (x, y) ⟨fun q => absurd q (by omega), fun _ => exy⟩
    rcases Nat.eq_zero_or_pos i with i0 | i1
    · rw [e0 i0]
      subst i0
      exact ⟨fun _ => b81 _ _ rfl, fun q => absurd rfl q⟩
    · rw [e1 i1]
      have hl := hbF_le kd (fun j => sumN (gvF (wm 180) j) 16) (i - 1)
      have ec := hbF_s kd (fun j => sumN (gvF (wm 180) j) 16) i1
      refine ⟨fun q => ?_, fun _ => ⟨fun q => ⟨fun q2 => b81 _ _ ?_, fun q2 => b81 _ _ ?_⟩, fun q => ⟨fun q2 => b81 _ _ ?_, fun q2 => b81 _ _ ?_⟩⟩⟩
      · exfalso
        have := nI_pos (n := hbF kd (fun j => sumN (gvF (wm 180) j) 16) (i - 1)) (by omega)
        have q' : nI (hbF kd (fun j => sumN (gvF (wm 180) j) 16) (i - 1)) = -2 := q
        rw [q'] at this
        exact this (by decide)
      · rw [if_pos q, if_neg (bl q2)] at ec
        rw [ec]
      · rw [if_pos q, if_pos (bg q2)] at ec
        rw [ec]
      · rw [if_neg q, if_neg (bl q2)] at ec
        rw [ec]
      · rw [if_neg q, if_pos (bg q2)] at ec
        rw [ec]
