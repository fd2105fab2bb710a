/-! the reference: nothing is told; the loop over the TELLS -/
def plP (k : Nat) : Int32 := if k = 0 then 900 else if k = 1 then 1000 else if k = 2 then 20 else 0
def plQ (i k : Nat) : Int32 := if 3 ≤ k ∧ k < i then 1 else plP k
def plE (k : Nat) : Int32 := if k = 14 then 8 else if k = 13 then 50 else if k = 12 then 20 else if k = 11 then 60 else if k = 10 then 10 else plQ 8 k
theorem plE_N : ∀ k, k < 16 → plE k = nI (N0 0 k) := by decide +kernel
/-- nothing is told on the side s -/
theorem r_plain {s : Nat} {w : Mem} {wl : MemL} {Q : Mem → MemL → Prop} (hs : s ≤ 1) (K : ∀ w2, (∀ a j, ¬ (a = 159 ∧ 20 * s ≤ j ∧ j < 20 * s + 20) → ¬ ((a = 160 ∨ a = 165) ∧ j = s) → ¬ ((a = 168 ∨ a = 169) ∧ 5 * s ≤ j ∧ j < 5 * s + 5) → w2 a j = w a j) → (∀ k, k < 16 → w2 159 (20 * s + k) = nI (N0 0 k)) → (w2 160 s = 0 ∧ w2 165 s = 0) → (∀ a, a < 5 → w2 168 (5 * s + a) = w2 169 (5 * s + a)) → Q w2 wl) : wp_12_plain (nI s) w wl Q := by
  have cell : ∀ k, k < 20 → vp_in (nI (20 * s) + nI k) 40 ∧ ix (nI (20 * s) + nI k) = 20 * s + k := fun k hk => by
    rw [nI_add]
    exact ⟨vp_in_nI (by omega) (by decide), ix_nI (by omega)⟩
  have s0 : ix (nI s) = s := ix_nI (by omega)
  have sv : vp_in (nI s) 2 := vp_in_nI (by omega) (by decide)
  have i0 : ix (nI (20 * s)) = 20 * s := ix_nI (by omega)
  have v0 : vp_in (nI (20 * s)) 40 := vp_in_nI (by omega) (by decide)
  have c1 : vp_in (nI (20 * s) + 1) 40 ∧ ix (nI (20 * s) + 1) = 20 * s + 1 := cell 1 (by decide)
  have c2 : vp_in (nI (20 * s) + 2) 40 ∧ ix (nI (20 * s) + 2) = 20 * s + 2 := cell 2 (by decide)
  have c10 : vp_in (nI (20 * s) + 10) 40 ∧ ix (nI (20 * s) + 10) = 20 * s + 10 := cell 10 (by decide)
  have c11 : vp_in (nI (20 * s) + 11) 40 ∧ ix (nI (20 * s) + 11) = 20 * s + 11 := cell 11 (by decide)
  have c12 : vp_in (nI (20 * s) + 12) 40 ∧ ix (nI (20 * s) + 12) = 20 * s + 12 := cell 12 (by decide)
  have c13 : vp_in (nI (20 * s) + 13) 40 ∧ ix (nI (20 * s) + 13) = 20 * s + 13 := cell 13 (by decide)
  have c14 : vp_in (nI (20 * s) + 14) 40 ∧ ix (nI (20 * s) + 14) = 20 * s + 14 := cell 14 (by decide)
  intro x1 e1
  rw [show (20 : Int32) = nI 20 from rfl, pk_mul] at e1
  subst e1
  refine pk_loop (fun n i (z : Mem) => wp_12_plain_b7 Q n (nI s) (nI (20 * s)) (nI i) z wl) (fun i z => (∀ a j, ¬ (a = 159 ∧ 20 * s ≤ j ∧ j < 20 * s + 20) → z a j = w a j) ∧ ∀ k, k < i → z 159 (20 * s + k) = 0) 20 0 w (by omega) ⟨fun _ _ _ => rfl, fun j hj => absurd hj (by omega)⟩ (fun n z hz => ?_) (fun n i z hi hz L => ?_)
  rotate_left
  · obtain ⟨f, o⟩ := hz
    refine pk_le 20 i (fun q => absurd q (by omega)) (fun _ => ⟨(cell i hi).1, fun w8 e8 x9 e9 => ?_⟩)
    rw [(cell i hi).2] at e8
    rw [nI_1] at e9
    subst e9
    subst e8
    refine L _ ⟨fun a j q => ?_, fun k hk => ?_⟩
    · simp only [st]
      rw [if_neg (by omega)]
      exact f a j q
    · simp only [st, true_and]
      by_cases c : k = i
      · rw [if_pos (by omega)]
      · rw [if_neg (by omega)]
        exact o k (by omega)
  obtain ⟨f, o⟩ := hz
  refine pk_le 20 20 (fun _ => ?_) (fun q => absurd q (by omega))
  refine ⟨v0, fun w2 e2 => ⟨c1.1, fun w4 e4 => ⟨c2.1, fun w6 e6 => ?_⟩⟩⟩
  rw [i0] at e2
  rw [c1.2] at e4
  rw [c2.2] at e6
  have f6 : ∀ a j, ¬ (a = 159 ∧ 20 * s ≤ j ∧ j < 20 * s + 20) → w6 a j = w a j := by
    subst e6
    subst e4
    subst e2
    intro a j q
    simp only [st]
    rw [if_neg (by omega), if_neg (by omega), if_neg (by omega)]
    exact f a j q
  have o6 : ∀ k, k < 20 → w6 159 (20 * s + k) = plQ 3 k := by
    subst e6
    subst e4
    subst e2
    intro k hk
    unfold plQ plP
    rw [if_neg (by omega)]
    simp only [st, true_and]
    by_cases k2 : k = 2
    · subst k2
      rw [if_pos rfl]
      rfl
    · rw [if_neg (by omega)]
      by_cases k1 : k = 1
      · subst k1
        rw [if_pos rfl]
        rfl
      · rw [if_neg (by omega)]
        by_cases k0 : k = 0
        · subst k0
          rw [if_pos (by omega)]
          rfl
        · rw [if_neg (by omega), if_neg k0, if_neg k1, if_neg k2]
          exact o k hk
  clear e2 e4 e6
  refine pk_loop (fun n i (z : Mem) => wp_12_plain_b60 Q n (nI s) (nI (20 * s)) (nI i) z wl) (fun i z => 3 ≤ i ∧ (∀ a j, ¬ (a = 159 ∧ 20 * s ≤ j ∧ j < 20 * s + 20) → z a j = w a j) ∧ ∀ k, k < 20 → z 159 (20 * s + k) = plQ i k) 8 3 w6 (by omega) ⟨Nat.le_refl _, f6, o6⟩ (fun n z hz => ?_) (fun n i z hi hz L => ?_)
  rotate_left
  · obtain ⟨i3, f, o⟩ := hz
    refine pk_le 8 i (fun q => absurd q (by omega)) (fun _ => ⟨(cell i (by omega)).1, fun w8 e8 x9 e9 => ?_⟩)
    rw [(cell i (by omega)).2] at e8
    rw [nI_1] at e9
    subst e9
    subst e8
    refine L _ ⟨by omega, fun a j q => ?_, fun k hk => ?_⟩
    · simp only [st]
      rw [if_neg (by omega)]
      exact f a j q
    · simp only [st, true_and]
      unfold plQ
      by_cases c : k = i
      · rw [if_pos (by omega), if_pos (by omega)]
      · rw [if_neg (by omega), o k hk]
        unfold plQ
        by_cases d : 3 ≤ k ∧ k < i
        · rw [if_pos d, if_pos (by omega)]
        · rw [if_neg d, if_neg (by omega)]
  obtain ⟨_, f, o⟩ := hz
  refine pk_le 8 8 (fun _ => ?_) (fun q => absurd q (by omega))
  refine ⟨c10.1, fun w2 e2 => ⟨c11.1, fun w4 e4 => ⟨c12.1, fun w6 e6 => ⟨c13.1, fun w8 e8 => ⟨c14.1, fun w10 e10 => ⟨sv, fun w12 e12 => ⟨sv, fun w14 e14 => ?_⟩⟩⟩⟩⟩⟩⟩
  rw [c10.2] at e2
  rw [c11.2] at e4
  rw [c12.2] at e6
  rw [c13.2] at e8
  rw [c14.2] at e10
  rw [s0] at e12 e14
  have g10 : ∀ a j, ¬ (a = 159 ∧ 20 * s ≤ j ∧ j < 20 * s + 20) → w10 a j = w a j := by
    subst e10
    subst e8
    subst e6
    subst e4
    subst e2
    intro a j q
    simp only [st]
    rw [if_neg (by omega), if_neg (by omega), if_neg (by omega), if_neg (by omega), if_neg (by omega)]
    exact f a j q
  have h10 : ∀ k, k < 16 → w10 159 (20 * s + k) = plE k := by
    subst e10
    subst e8
    subst e6
    subst e4
    subst e2
    intro k hk
    unfold plE
    simp only [st, true_and]
    by_cases k14 : k = 14
    · rw [if_pos (by omega), if_pos k14]
    rw [if_neg (by omega), if_neg k14]
    by_cases k13 : k = 13
    · rw [if_pos (by omega), if_pos k13]
    rw [if_neg (by omega), if_neg k13]
    by_cases k12 : k = 12
    · rw [if_pos (by omega), if_pos k12]
    rw [if_neg (by omega), if_neg k12]
    by_cases k11 : k = 11
    · rw [if_pos (by omega), if_pos k11]
    rw [if_neg (by omega), if_neg k11]
    by_cases k10 : k = 10
    · rw [if_pos (by omega), if_pos k10]
    rw [if_neg (by omega), if_neg k10]
    exact o k (by omega)
  clear e2 e4 e6 e8 e10
  have g14 : ∀ a j, ¬ (a = 159 ∧ 20 * s ≤ j ∧ j < 20 * s + 20) → ¬ ((a = 160 ∨ a = 165) ∧ j = s) → w14 a j = w a j := by
    subst e14
    subst e12
    intro a j q q2
    simp only [st]
    rw [if_neg (by omega), if_neg (by omega)]
    exact g10 a j q
  have h14 : ∀ k, k < 16 → w14 159 (20 * s + k) = nI (N0 0 k) := by
    intro k hk
    rw [← plE_N k hk, ← h10 k hk]
    subst e14
    subst e12
    rw [st_nk (by decide), st_nk (by decide)]
  have j14 : w14 160 s = 0 ∧ w14 165 s = 0 := by
    subst e14
    subst e12
    refine ⟨?_, st_eq⟩
    rw [st_nk (by decide), st_eq]
  clear e12 e14
  have cel5 : ∀ k, k < 5 → vp_in ((5 : Int32) * nI s + nI k) 10 ∧ ix ((5 : Int32) * nI s + nI k) = 5 * s + k := fun k hk => by
    rw [show (5 : Int32) = nI 5 from rfl, pk_mul, nI_add]
    exact ⟨vp_in_nI (by omega) (by decide), ix_nI (by omega)⟩
  refine pk_loop (fun n i (z : Mem) => wp_12_plain_b152 Q n (nI s) (nI i) z wl) (fun i z => (∀ a j, ¬ ((a = 168 ∨ a = 169) ∧ 5 * s ≤ j ∧ j < 5 * s + 5) → z a j = w14 a j) ∧ ∀ k, k < i → z 168 (5 * s + k) = 0 ∧ z 169 (5 * s + k) = 0) 5 0 w14 (by omega) ⟨fun _ _ _ => rfl, fun j hj => absurd hj (by omega)⟩ (fun n z hz => ?_) (fun n i z hi hz L => ?_)
  · obtain ⟨f, o⟩ := hz
    refine pk_le 5 5 (fun _ => K z (fun a j q1 q2 q3 => ?_) (fun k hk => ?_) ⟨?_, ?_⟩ (fun a ha => ?_)) (fun q => absurd q (by omega))
    · rw [f a j q3]
      exact g14 a j q1 q2
    · rw [f 159 _ (by omega)]
      exact h14 k hk
    · rw [f 160 _ (by omega)]
      exact j14.1
    · rw [f 165 _ (by omega)]
      exact j14.2
    · rw [(o a ha).1, (o a ha).2]
  · obtain ⟨f, o⟩ := hz
    refine pk_le 5 i (fun q => absurd q (by omega)) (fun _ => ⟨(cel5 i hi).1, fun y2 u2 => ⟨(cel5 i hi).1, fun y4 u4 x5 e5 => ?_⟩⟩)
    rw [(cel5 i hi).2] at u2 u4
    rw [nI_1] at e5
    subst e5
    subst u4
    subst u2
    refine L _ ⟨fun a j q => ?_, fun k hk => ?_⟩
    · simp only [st]
      rw [if_neg (by omega), if_neg (by omega)]
      exact f a j q
    · by_cases c : k = i
      · subst c
        refine ⟨?_, st_eq⟩
        rw [st_nk (by decide), st_eq]
      · rw [st_nk (by decide), st_nj (by omega), st_nj (by omega), st_nk (by decide)]
        exact o k (by omega)
/-- the reference's loop over the TELLS -/
theorem r_loop {K P V NM : Nat → Nat} {M s : Nat} {w0 : Mem} {wl0 : MemL} {Q : Int32 → Mem → MemL → Prop} (hV : ∀ j, K j = 3 → V j < 2 ^ 20) (hP : ∀ i j, i < j → j ≤ M → P i < P j) (hP2 : ∀ i, P i < 2 ^ 20) : ∀ (n t : Nat) (S : PS) (w : Mem) (wl : MemL), 400 - t < n → GR K P V NM M s w0 wl0 t S w wl → SI S → BI S →
    (∀ kd tok, parP K V NM n t S = .error (kd, tok) → ∀ w2 wl2, ER P s w0 wl0 kd tok w2 wl2 → wp_12_read_b134 Q w2 wl2) → (∀ t2 S2, parP K V NM n t S = .ok (t2, S2) → ∀ w2 wl2, GR K P V NM M s w0 wl0 t2 S2 w2 wl2 → wp_12_read_b134 Q w2 wl2) → wp_12_read_b112 Q (n + 1) w wl
  | 0, t, S, w, wl, hn, g, hS, hB, h1, h2 => absurd hn (Nat.not_lt_zero _)
  | n + 1, t, S, w, wl, hn, g, hS, hB, h1, h2 => by
    have g0 := g
    obtain ⟨iB, c, ⟨a1, a2, a3⟩, ⟨⟨b1, b2, b3, b4, b5, b6⟩, d1, d2, d3, d4⟩, e, lf, gg, l1, l2⟩ := g
    unfold wp_12_read_b112
    rw [b3]
    refine ⟨fun q => absurd rfl q, fun _ => r_is (c := 0) a1 a2 b1 b3 (by decide) rfl (fun k0 => u1 ?_) (fun k0 => u0 ?_)⟩
    · exact h2 t S (by simp only [parP]; rw [if_pos k0]) w wl g0
    · simp only [parP, if_neg k0] at h1 h2
      refine r_one hV hP hP2 hS g0 ?_
      cases hr : telP K V NM t S with
      | error yy =>
        obtain ⟨kd, tok⟩ := yy
        rw [hr] at h1
        have h1' := h1 kd tok rfl
        intro w2 wl2 f2
        unfold wp_12_read_b112
        exact ⟨fun _ => h1' w2 wl2 f2, fun q => absurd (Classical.not_not.mp q) (er_13 f2)⟩
      | ok yy =>
        obtain ⟨t2, S2⟩ := yy
        obtain ⟨l1, l2⟩ := tel_lt hr
        obtain ⟨k1, k2⟩ := tel_k hS hB hr
        rw [hr] at h1 h2
        intro w2 wl2 g2
        exact r_loop hV hP hP2 n t2 S2 w2 wl2 (by omega) g2 k1 k2 h1 h2
