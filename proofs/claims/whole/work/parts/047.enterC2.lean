theorem n2_8 {T : TX} (hB : BT T) : n2 T ≤ 8 ∧ n2 T ≤ tm T := by
  have := hB.2.2.1
  unfold n2
  split <;> omega
theorem c_bnr {T : TX} {k r : Nat} {g : Nat → Int32} {w : Mem} {Q : Mem → Prop} (hk : 89 ≤ k) (hB : BT T) (hr : 1 ≤ r ∧ r ≤ 2) (h5 : w k 5 = nI r) (h48 : w 48 16 = nI (tn T 14)) (h80 : w 80 6 = nI (tm T)) (hg : ∀ b, b < 8 → w (k + 2) b = g b)
    (K : ∀ w2, (∀ b, b ≠ k → b ≠ k + 1 → w2 b = w b) → (w2 k 4 = w k 4 ∧ w2 k 6 = w k 6 ∧ w2 k 5 = nI (r + 1) ∧ w2 k 7 = 0 ∧ w2 k 8 = nI (if r = 1 then n2 T else 0)) → (∀ i, i < (if r = 1 then n2 T else 0) → w2 (k + 1) i = nI (manS g (tm T) (n2 T - 1 - i) (tm T))) → Q w2) : wp_5_beginNextRound k w Q := by
  have h8 : tm T ≤ 8 := hB.2.2.1.2.2.2.1
  have nb := n2_8 hB
  intro w1 e1 w2 e2
  rw [h5, nI_1] at e1
  have q5 : w2 k 5 = nI (r + 1) := by subst e2; subst e1; rw [st_nj (by decide), st_eq]
  have fw2 : ∀ b, b ≠ k → w2 b = w b := by subst e2; subst e1; exact fun b hb => (st_ne b hb).trans (st_ne b hb)
  have rw2 : w2 k 4 = w k 4 ∧ w2 k 6 = w k 6 ∧ w2 k 7 = 0 := by
    subst e2
    subst e1
    refine ⟨?_, ?_, st_eq⟩
    · rw [st_nj (by decide), st_nj (by decide)]
    · rw [st_nj (by decide), st_nj (by decide)]
  have b48 : ∀ m, m = (if r = 1 then n2 T else 0) → wp_5_beginNextRound_b48 k Q (nI m) w2 := by
    intro m em w3 e3
    have m8 : m ≤ n2 T := by rw [em]; split <;> omega
    have f3 : ∀ b, b ≠ k → w3 b = w b := by subst e3; exact fun b hb => (st_ne b hb).trans (fw2 b hb)
    have r3 : w3 k 4 = w k 4 ∧ w3 k 6 = w k 6 ∧ w3 k 5 = nI (r + 1) ∧ w3 k 7 = 0 ∧ w3 k 8 = nI m := by
      subst e3
      refine ⟨?_, ?_, ?_, ?_, st_eq⟩
      · rw [st_nj (by decide)]; exact rw2.1
      · rw [st_nj (by decide)]; exact rw2.2.1
      · rw [st_nj (by decide)]; exact q5
      · rw [st_nj (by decide)]; exact rw2.2.2
    clear e3 rw2 q5 e1 e2
    refine pk_loop (fun n i (z : Mem) => wp_5_beginNextRound_b53 k Q n (nI i) z) (fun i z => (∀ b, b ≠ k + 1 → z b = w3 b) ∧ ∀ j, j < i → z (k + 1) j = nI (manS g (tm T) (n2 T - 1 - j) (tm T))) m 0 w3 (by omega) ⟨fun _ _ => rfl, fun j hj => absurd hj (by omega)⟩ (fun n z hz => ?_) (fun n i z hi hz L => ?_)
    · obtain ⟨f, o⟩ := hz
      unfold wp_5_beginNextRound_b53
      rw [f k (by omega), r3.2.2.2.2]
      refine pk_le m m (fun _ => ?_) (fun q => absurd q (by omega))
      refine K z (fun b h1 h2 => (f b h2).trans (f3 b h1)) ?_ (by rw [← em]; exact o)
      rw [f k (by omega), ← em]
      exact r3
    · obtain ⟨f, o⟩ := hz
      have r1 : r = 1 := by
        rcases (show r = 1 ∨ r = 2 by omega) with z | z
        · exact z
        · rw [z] at em; simp at em; omega
      rw [if_pos r1] at em
      unfold wp_5_beginNextRound_b53
      rw [f k (by omega), r3.2.2.2.2]
      refine pk_le m i (fun q => absurd q (by omega)) (fun _ => ?_)
      refine pk_le 8 i (fun q => absurd q (by omega)) (fun _ => ?_)
      rw [show (1 : Int32) = nI 1 from rfl, pk_sub (by omega), pk_sub (by omega)]
      refine c_manOf (f := g) h8 (by rw [f 80 (by omega), f3 80 (by omega)]; exact h80) (fun o ho => ?_) (by omega) ⟨pk_in i 8 (by omega), fun w4 e4 x5 e5 => ?_⟩
      · rw [f (k + 2) (by omega), f3 (k + 2) (by omega)]
        exact hg o ho
      · rw [ix_nI (by omega)] at e4
        rw [nI_add] at e5
        subst e5
        subst e4
        refine L _ ⟨fun b hb => (st_ne b hb).trans (f b hb), fun j hj => ?_⟩
        rw [st_at]
        by_cases c : j = i
        · subst c
          rw [pk_us, em]
        · rw [pk_un c]
          exact o j (by omega)
  rw [q5]
  refine ⟨fun q => b48 0 ?_, fun q => ?_⟩
  · rw [if_neg (fun z => q (by rw [z]; rfl))]
  · have r1' : r + 1 = 2 := (nI_eq (b := 2) (by omega) (by omega)).mp (Classical.not_not.mp q)
    rw [fw2 48 (by omega), fw2 80 (by omega), h48, h80]
    have b14 := hB.2.2.1
    rw [pk_mn (by omega) (by omega)]
    exact b48 _ (by rw [if_pos (show r = 1 by omega)]; rfl)
theorem f2_st {T : TX} {sd t : Int32} {P : Nat → Int32} {a b : Nat} (h1 : 1 ≤ rd P) (h3 : rd P < 3) (ha : a < 8) (hb : b < 8) (h0 : P (36 + (8 * qP P + a)) = 0) :
    f2 (stP T sd P a t) b = if b = a then f2 P b + jP T sd a t (slipT T sd a t) (P 2) (P 3) else f2 P b := by
  have k1 : stP T sd P a t (4 + 16 * 2 + b) = _ := (stP_hi (by omega)).trans (stM_c (by omega) (by omega))
  have k2 : stP T sd P a t (4 + 16 * 2 + (8 + b)) = _ := (stP_hi (by omega)).trans (stM_c (by omega) (by omega))
  rw [show 4 + 16 * 2 + b = 36 + b by omega] at k1
  rw [show 4 + 16 * 2 + (8 + b) = 44 + b by omega] at k2
  unfold f2
  rw [k1, k2]
  have ev : vP T sd P a t 2 = jP T sd a t (slipT T sd a t) (P 2) (P 3) := rfl
  rw [ev]
  unfold qP at h0 ⊢
  by_cases c : b = a
  · subst c
    rw [if_pos rfl]
    rcases (show rd P = 1 ∨ rd P = 2 by omega) with z | z
    · rw [z] at h0 ⊢
      rw [if_pos (by omega), if_neg (by omega)]
      rw [show 36 + (8 * (1 - 1) + b) = 36 + b by omega] at h0
      rw [h0, Int32.zero_add, Int32.add_comm]
    · rw [z] at h0 ⊢
      rw [if_neg (by omega), if_pos (by omega)]
      rw [show 36 + (8 * (2 - 1) + b) = 44 + b by omega] at h0
      rw [h0, Int32.add_zero]
  · rw [if_neg c, if_neg (by omega), if_neg (by omega)]
