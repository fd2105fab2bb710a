theorem r_wind {s : Nat} {T : TX} {sd a1 a2 : Int32} {w : Mem} {wl : MemL} {Q : Int32 → Mem → MemL → Prop} (h : RT s T sd w) (K : ∀ w2, frW w w2 → Q (windT T sd a1 a2) w2 wl) : wp_12_windOf a1 a2 w wl Q := by
  refine r_clears (fun w1 f1 z1 w3 e3 w4 e4 => ?_)
  subst e3
  subst e4
  have f4 : frW w (st (st w1 178 (ix 0) a2) 178 (ix 1) a1) := fw_st (fw_st (fw_fo (fw_re w) f1))
  have hV : ∀ j, j < 11 → (st (st w1 178 (ix 0) a2) 178 (ix 1) a1) 178 j = wiV a1 a2 j := by
    intro j hj
    rw [st_at, st_at]
    exact up_c (fun _ => up_c (fun _ => z1 j hj))
  generalize (st (st w1 178 (ix 0) a2) 178 (ix 1) a1) = w4 at f4 hV
  have h4 := rt_fw h f4
  refine r_tell (a := 9) h4 (by omega) ?_
  refine r_law 0 h4 (by omega) (by decide) hV rfl (fun w8 f8 => ?_)
  have h8 := rt_fw h4 f8
  refine s_lotR ?_ ?_
  · have g : tn T 9 ≤ 30 := h.2.2.2.1.2.1.2.1
    rw [show (2 : Int32) = nI 2 from rfl, pk_mul, show nI (2 * tn T 9) + (1 : Int32) = nI (2 * tn T 9 + 1) from nI_add _ 1]
    exact fun q => absurd ((nI_eq (b := 0) (by omega) (by omega)).mp q) (by omega)
  · rw [h8.2.2.2.2]
    exact K w8 (fw_tr f4 f8)
theorem r_mean {s : Nat} {T : TX} {sd t : Int32} {w : Mem} {wl : MemL} {Q : Int32 → Mem → MemL → Prop} (h : RT s T sd w) (K : ∀ w2, frW w w2 → Q (meanT T sd t) w2 wl) : wp_12_meanOf t w wl Q := by
  refine pk_loop (fun n i (z : Int32 × Mem) => wp_12_meanOf_b4 Q n t z.1 (nI i) z.2 wl) (fun i z => z.1 = sumN (fun i => windT T sd (nI i) (t + nI i)) i ∧ frW w z.2) 5 0 (0, w) (by omega) ⟨rfl, fw_re w⟩ (fun n z hz => ?_) (fun n i z hi hz L => ?_)
  · obtain ⟨a, w1⟩ := z
    obtain ⟨rfl, f⟩ := hz
    exact pk_le 5 5 (fun _ => K w1 f) (fun q => absurd q (by omega))
  · obtain ⟨a, w1⟩ := z
    obtain ⟨rfl, f⟩ := hz
    refine pk_le 5 i (fun q => absurd q (by omega)) (fun _ => ?_)
    refine r_wind (rt_fw h f) (fun w2 f2 x4 e4 x5 e5 => ?_)
    rw [nI_1] at e5
    subst e4
    subst e5
    exact L (_, w2) ⟨rfl, fw_tr f f2⟩
theorem r_true {s : Nat} {T : TX} {sd t : Int32} {w : Mem} {wl : MemL} {Q : Int32 → Mem → MemL → Prop} (h : RT s T sd w) (K : ∀ w2, frW w w2 → Q (trueT T sd t) w2 wl) : wp_12_trueOf t w wl Q := by
  refine pk_loop (fun n i (z : Int32 × Int32 × Mem) => wp_12_trueOf_b7 Q n t z.1 z.2.1 (nI i) z.2.2 wl)
    (fun i z => z.1 = sumN (fun i => nI (tn T (3 + i)) * windT T sd (nI i) (t + nI i)) i ∧ z.2.1 = sumN (fun i => nI (tn T (3 + i))) i ∧ frW w z.2.2) 5 0 (0, 0, w) (by omega) ⟨rfl, rfl, fw_re w⟩ (fun n z hz => ?_) (fun n i z hi hz L => ?_)
  · obtain ⟨a, b, w1⟩ := z
    obtain ⟨rfl, rfl, f⟩ := hz
    refine pk_le 5 5 (fun _ => ?_) (fun q => absurd q (by omega))
    have := K w1 f
    unfold trueT partsT at this
    refine ⟨fun q => ⟨q, ?_⟩, fun q => ?_⟩
    · rw [if_neg q] at this
      exact this
    · rw [if_pos (Classical.not_not.mp q)] at this
      exact this
  · obtain ⟨a, b, w1⟩ := z
    obtain ⟨rfl, rfl, f⟩ := hz
    refine pk_le 5 i (fun q => absurd q (by omega)) (fun _ => ?_)
    have h1 := rt_fw h f
    simp only [show (3 : Int32) + nI i = nI (3 + i) from nI_add 3 i]
    refine r_tell h1 (by omega) (r_wind h1 (fun w2 f2 x8 e8 => r_tell (rt_fw h1 f2) (by omega) (fun x12 e12 x13 e13 => ?_)))
    rw [nI_1] at e13
    subst e8
    subst e12
    subst e13
    exact L (_, _, w2) ⟨rfl, rfl, fw_tr f f2⟩
