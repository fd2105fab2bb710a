/-! read on both sides -/
theorem tkn_r {K P V : Nat → Nat} {m : Nat} {w w2 : Mem} (h : TKN K P V m w) (f : ∀ a, 4 ≤ a → a ≤ 6 → w2 a = w a) : TKN K P V m w2 := by
  refine ⟨h.1, h.2.1, fun j hj => ?_⟩
  rw [f 4 (by decide) (by decide), f 5 (by decide) (by decide), f 6 (by decide) (by decide)]
  exact h.2.2 j hj
/-- the slots hold nothing -/
theorem c_slots {w : Mem} {Q : Mem → Prop} (K : ∀ w2, (∀ a j, a ≠ 144 → w2 a j = w a j) → (∀ i, i < 3 → w2 144 i = 0) → Q w2) : wp_6_clear w Q := by
  refine pk_loop (fun n i (z : Mem) => wp_6_clear_b2 Q n (nI i) z) (fun i z => (∀ a j, a ≠ 144 → z a j = w a j) ∧ ∀ k, k < i → z 144 k = 0) 3 0 w (by omega) ⟨fun _ _ _ => rfl, fun j hj => absurd hj (by omega)⟩ (fun n z hz => ?_) (fun n i z hi hz L => ?_)
  · obtain ⟨f, o⟩ := hz
    exact pk_le 3 3 (fun _ => K z f o) (fun q => absurd q (by omega))
  · obtain ⟨f, o⟩ := hz
    refine pk_le 3 i (fun q => absurd q (by omega)) (fun _ => ⟨vp_in_nI hi (by decide), fun y2 u2 x5 e5 => ?_⟩)
    rw [ix_nI (by omega), nb0] at u2
    rw [nI_1] at e5
    subst e5
    subst u2
    refine L _ ⟨fun a j q => (st_nk q).trans (f a j q), fun k hk => ?_⟩
    by_cases c : k = i
    · subst c
      exact st_eq
    · rw [st_nj c]
      exact o k (by omega)
/-- all that goes on begins anew -/
theorem c_anew {T : TX} {w : Mem} {Q : Mem → Prop} (hT : TC 48 T w) (hB : BT T) (K : ∀ w2, (∀ a j, a < 89 → ¬ (a = 87 ∧ j = 2) → w2 a j = w a j) → w2 87 2 = nI (tn T 15) → PL T false (begP T) 89 w2 → (w2 97 1 = 0 ∧ w2 97 2 = 0) → (∀ i, i < 3 → w2 144 i = 0) → w2 145 3 = 0 → Q w2) : wp_11_beginAnew w Q := by
  intro w1 e1
  rw [show w 48 17 = nI (tn T 15) from hT.2.2.2.1 15 (by decide) (by decide)] at e1
  have f1 : ∀ a j, ¬ (a = 87 ∧ j = 2) → w1 a j = w a j := by
    subst e1
    intro a j q
    simp only [st]
    rw [if_neg q]
  have v1 : w1 87 2 = nI (tn T 15) := by subst e1; exact st_eq
  clear e1
  refine c_begin (k := 89) (T := T) (Nat.le_refl _) ((f1 48 14 (by decide)).trans (hT.2.2.2.1 12 (by decide) (by decide))) ((f1 80 6 (by decide)).trans hT.2.2.2.2.1.1) hB (fun w2 f2 p2 => ?_)
  intro w3 e3 w4 e4
  have f4 : ∀ a, a ≠ 97 → w4 a = w2 a := by
    subst e4
    subst e3
    intro a q
    rw [st_ne a q, st_ne a q]
  have v4 : w4 97 1 = 0 ∧ w4 97 2 = 0 := by
    subst e4
    subst e3
    refine ⟨?_, st_eq⟩
    rw [st_nj (by decide), st_eq]
  clear e3 e4
  refine c_slots (fun w5 f5 z5 w6 e6 => ?_)
  have f6 : ∀ a j, ¬ (a = 145 ∧ j = 3) → w6 a j = w5 a j := by
    subst e6
    intro a j q
    simp only [st]
    rw [if_neg q]
  have v6 : w6 145 3 = 0 := by subst e6; exact st_eq
  clear e6
  have r6 : ∀ a, a < 97 → w6 a = w2 a := fun a q => by
    rw [← f4 a (by omega)]
    exact funext (fun j => (f6 a j (by omega)).trans (f5 a j (by omega)))
  refine K w6 (fun a j q1 q2 => ?_) ?_ (pl_fr p2 (fun a h1 h2 => r6 a (by omega))) ⟨?_, ?_⟩ (fun i hi => ?_) v6
  · rw [r6 a (by omega), f2 a (by omega)]
    exact f1 a j q2
  · rw [r6 87 (by decide), f2 87 (by decide)]
    exact v1
  · rw [f6 97 1 (by decide), f5 97 1 (by decide)]
    exact v4.1
  · rw [f6 97 2 (by decide), f5 97 2 (by decide)]
    exact v4.2
  · rw [f6 144 i (by omega)]
    exact z5 i hi
/-- the class's read -/
theorem c_read {n : Nat} {B : Nat → Nat} {w : Mem} {Q : Int32 → Mem → Prop} (tb : TB B n w)
    (KE : ∀ kd tok, parP (Kf B n) (Vf B n) (NMf B n) 401 0 S0 = .error (kd, tok) → ∀ w2, (∀ a j, (a = 0 ∧ j ≠ 12) ∨ 48 ≤ a → w2 a j = w a j) → w2 1 1 = 0 → w2 0 12 = nI (psF B n tok) → Q (nI kd) w2)
    (KW : ∀ t2 S2 k0 t0, parP (Kf B n) (Vf B n) (NMf B n) 401 0 S0 = .ok (t2, S2) → sF S2 = some (k0, t0) → ∀ w2, (∀ a j, (a = 0 ∧ j ≠ 12) ∨ 48 ≤ a → w2 a j = w a j) → w2 1 1 = 0 → w2 0 12 = nI (psF B n t0) → Q (nI k0) w2)
    (KO : ∀ t2 S2, parP (Kf B n) (Vf B n) (NMf B n) 401 0 S0 = .ok (t2, S2) → sF S2 = none → BT (TXs S2) → ∀ w2, (∀ a j, a < 5 → w2 (53 + 6 * a) j = w (53 + 6 * a) j) → w2 1 1 = 0 → w2 0 12 = -1 → TC 48 (TXs S2) w2 → w2 87 2 = nI (tn (TXs S2) 15) → PL (TXs S2) false (begP (TXs S2)) 89 w2 → (w2 97 1 = 0 ∧ w2 97 2 = 0) → (∀ i, i < 3 → w2 144 i = 0) → w2 145 3 = 0 → Q 0 w2) : wp_11_read w Q := by
  unfold wp_11_read
  refine c_scan tb (fun w1 m f1 hm tk hend _ => ?_)
  have tkn := tkn_of hm tk hend
  have smn := smn_of hm (tb_r tb f1) tk
  refine c_parse (c := 9) (NM := NMf B n) (Nat.le_refl 9) vf_b tkn smn ?_
  -- behind a fault
  have fin : ∀ k p w2, FT 9 w1 w2 → w2 7 6 = nI p → (∀ w4, (∀ a j, (a = 0 ∧ j ≠ 12) ∨ 48 ≤ a → w4 a j = w a j) → w4 1 1 = 0 → w4 0 12 = nI p → Q (nI k) w4) → ∀ w4, w4 = st w2 0 12 (w2 7 6) → wp_11_read_b50 Q (nI k) w4 := by
    intro k p w2 f2 h6 K w4 e4 w5 e5
    rw [h6] at e4
    refine K w5 (fun a j q => ?_) ?_ ?_
    · subst e5
      subst e4
      simp only [st]
      rw [if_neg (by omega), if_neg (by omega), f2 a j (by simp only [wrC]; omega), f1 a (by omega)]
    · subst e5
      exact st_eq
    · subst e5
      rw [st_nk (by decide)]
      subst e4
      exact st_eq
  cases hr : parP (Kf B n) (Vf B n) (NMf B n) 401 0 S0 with
  | error yy =>
    obtain ⟨kd, tok⟩ := yy
    intro w2 f2 h6 w4 e4
    have hk := par_er _ _ _ hr
    exact ⟨fun _ => fin kd (psF B n tok) w2 f2 h6 (KE kd tok hr) w4 e4, fun q => absurd (Classical.not_not.mp q) (nI_ne0 (by omega) (by omega))⟩
  | ok yy =>
    obtain ⟨t2, S2⟩ := yy
    have bi := (par_k _ _ _ si_0 bi_0 hr).2
    cases hs : S2.2.2.2.2 with
    | some y =>
      obtain ⟨k0, t0⟩ := y
      simp only [PX, sF, hs]
      intro hk w2 f2 h6 w4 e4
      exact ⟨fun _ => fin k0 (psF B n t0) w2 f2 h6 (KW t2 S2 k0 t0 hr hs) w4 e4, fun q => absurd (Classical.not_not.mp q) (nI_ne0 (by omega) (by omega))⟩
    | none =>
      have hB : BT (TXs S2) := bi hs
      simp only [PX, sF, hs]
      intro w2 f2 h6 _ w4 e4
      rw [h6] at e4
      have f4 : ∀ a j, ¬ wrC 9 a j → ¬ (a = 0 ∧ j = 12) → w4 a j = w1 a j := by
        subst e4
        intro a j q1 q2
        simp only [st]
        rw [if_neg q2]
        exact f2 a j q1
      have v4 : w4 0 12 = -1 := by subst e4; exact st_eq
      clear e4
      refine ⟨fun q => absurd trivial q, fun _ => ?_⟩
      refine c_parse (c := 48) (NM := NMf B n) (by decide) vf_b (tkn_r tkn (fun a q1 q2 => funext (fun j => f4 a j (by simp only [wrC]; omega) (by omega)))) (smn_fr smn (fun a j q1 q2 => f4 a j (by simp only [wrC]; omega) (by omega))) ?_
      rw [hr]
      simp only [PX, sF, hs]
      intro w5 f5 h65 tc5
      refine c_anew tc5 hB (fun w6 f6 s6 p6 k6 z6 t6 w7 e7 => ?_)
      have f7 : ∀ a, a ≠ 1 → w7 a = w6 a := by
        subst e7
        exact fun a q => st_ne a q
      have v7 : w7 1 1 = 0 := by subst e7; exact st_eq
      clear e7
      refine KO t2 S2 hr hs hB w7 (fun a j ha => ?_) v7 ?_ ?_ ?_ (pl_fr p6 (fun a h1 h2 => f7 a (by omega))) ⟨?_, ?_⟩ (fun i hi => ?_) ?_
      · rw [f7 _ (by omega), f6 _ j (by omega) (by omega), f5 _ j (by simp only [wrC]; omega), f4 _ j (by simp only [wrC]; omega) (by omega), f1 _ (by omega)]
      · rw [f7 0 (by decide), f6 0 12 (by decide) (by decide), f5 0 12 (by simp only [wrC]; omega)]
        exact v4
      · have r7 : ∀ a, 48 ≤ a → a < 87 → w7 a = w5 a := fun a q1 q2 => by
          rw [f7 a (by omega)]
          exact funext (fun j => f6 a j (by omega) (by omega))
        exact tc_fr tc5 (fun a ha => ⟨r7 _ (by omega) (by omega), r7 _ (by omega) (by omega), r7 _ (by omega) (by omega), congrFun (r7 _ (by omega) (by omega)) 6⟩) (r7 _ (by omega) (by omega)) (fun a h1 h2 => r7 _ (by omega) (by omega))
      · rw [f7 87 (by decide)]
        exact s6
      · rw [f7 97 (by decide)]; exact k6.1
      · rw [f7 97 (by decide)]; exact k6.2
      · rw [f7 144 (by decide)]; exact z6 i hi
      · rw [f7 145 (by decide)]; exact t6
