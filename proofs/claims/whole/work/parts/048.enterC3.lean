theorem en_v {T : TX} {sd t : Int32} {P : Nat → Int32} {k a c : Nat} {w : Mem} (hc : c < 8) (h6 : w k 6 = P 2) (h7 : w k 7 = P 3)
    (hf : w 87 5 = jL T sd a t (slipT T sd a t) (P 2) (P 3) ∧ w 87 7 = jP T sd a t (slipT T sd a t) (P 2) (P 3) ∧ w 87 6 = jS T sd a t (slipT T sd a t) (P 2) (P 3) ∧ w 87 4 = meanT T sd t) : enV k (slipT T sd a t) t w c = vP T sd P a t (c + 1) := by
  unfold enV vP
  rw [hf.1, hf.2.1, hf.2.2.1, hf.2.2.2, h6, h7]
  generalize jL T sd a t (slipT T sd a t) (P 2) (P 3) = x1
  generalize jP T sd a t (slipT T sd a t) (P 2) (P 3) = x2
  generalize jS T sd a t (slipT T sd a t) (P 2) (P 3) = x3
  generalize meanT T sd t = x4
  generalize slipT T sd a t = x5
  clear hf h6 h7
  rcases (show c = 0 ∨ c = 1 ∨ c = 2 ∨ c = 3 ∨ c = 4 ∨ c = 5 ∨ c = 6 ∨ c = 7 by omega) with rfl | rfl | rfl | rfl | rfl | rfl | rfl | rfl <;> simp
theorem en_8 {k : Nat} {a2 a3 : Int32} {w : Mem} : enV k a2 a3 w 8 = 1 := rfl
theorem vP_0 {T : TX} {sd t : Int32} {P : Nat → Int32} {a : Nat} : vP T sd P a t 0 = 1 := rfl
theorem c_cells {T : TX} {sd t : Int32} {lf : Bool} {P : Nat → Int32} {k a u : Nat} {w w2 : Mem} (hB : BT T) (h : PL T lf P k w) (hu : u < 16) (hU : 8 * qP P + a = u)
    (hf : w 87 5 = jL T sd a t (slipT T sd a t) (P 2) (P 3) ∧ w 87 7 = jP T sd a t (slipT T sd a t) (P 2) (P 3) ∧ w 87 6 = jS T sd a t (slipT T sd a t) (P 2) (P 3) ∧ w 87 4 = meanT T sd t) (hm : ∀ j, j < tj T → w 88 j = jM T sd a t (slipT T sd a t) (P 2) (P 3) j)
    (e : ∀ i, w2 (k + 3) i = if uc u * 16 + 9 ≤ i ∧ i < uc u * 16 + 16 then w 88 (i - (uc u * 16 + 9)) else mkP (w (k + 3)) (enV k (slipT T sd a t) t w) (uc u * 16) 9 i) :
    (∀ u c, u < 16 → c < 8 → w2 (k + 3) (uc u * 16 + c) = stP T sd P a t (4 + 16 * (c + 1) + u)) ∧ (∀ u, u < 16 → w2 (k + 3) (uc u * 16 + 8) = stP T sd P a t (4 + u)) ∧ (∀ u j, u < 16 → j < tj T → w2 (k + 3) (uc u * 16 + 9 + j) = stP T sd P a t (148 + 7 * u + j)) := by
  have h7 : tj T ≤ 7 := hB.2.2.1.2.2.2.2
  obtain ⟨⟨e4, e5, e6, e7, e8⟩, ho, ht, hc, hw, hj⟩ := h
  have c9 : ∀ u2 c, u2 < 16 → c < 9 → w2 (k + 3) (uc u2 * 16 + c) = if u2 = u then enV k (slipT T sd a t) t w c else w (k + 3) (uc u2 * 16 + c) := by
    intro u2 c hu2 hc
    rw [e, if_neg (by unfold uc; omega)]
    unfold mkP
    by_cases z : u2 = u
    · rw [if_pos z, z, if_pos (by omega)]
      congr 1
      omega
    · rw [if_neg z, if_neg (by unfold uc; omega)]
  refine ⟨fun u2 c hu2 hc2 => ?_, fun u2 hu2 => ?_, fun u2 j hu2 hj2 => ?_⟩
  · rw [c9 u2 c hu2 (by omega), stP_hi (by omega), stM_c (by omega) hu2, hU, hc u2 c hu2 hc2, en_v hc2 e6 e7 hf]
  · have := (stP_hi (T := T) (sd := sd) (P := P) (a := a) (t := t) (show 4 ≤ 4 + 16 * 0 + u2 by omega)).trans (stM_c (by omega) hu2)
    rw [show 4 + 16 * 0 + u2 = 4 + u2 by omega, hU] at this
    rw [c9 u2 8 hu2 (by omega), this, hw u2 hu2, en_8, vP_0]
  · rw [stP_hi (by omega), stM_m (by omega) hu2 hj2 h7, hU, e]
    by_cases z : u2 = u
    · rw [if_pos z, z, if_pos (by omega), show uc u * 16 + 9 + j - (uc u * 16 + 9) = j by omega]
      exact hm j hj2
    · rw [if_neg z, if_neg (by unfold uc; omega)]
      unfold mkP
      rw [if_neg (by unfold uc; omega)]
      exact hj u2 j hu2 hj2
