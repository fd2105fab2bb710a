/-- what enter does behind the cells -/
def enT (k : Nat) (a1 a3 : Int32) (w25 : Mem) (Q : Mem → Prop) : Prop := (vp_in a1 8 ∧ (vp_in a1 8 ∧ (∀ w28 : Mem, w28 = st w25 (k + 2) (ix a1) ((w25 (k + 2) (ix a1)) + (w25 87 7)) → (∀ w29 : Mem, w29 = st w28 k 4 (a3 + (w28 48 13)) → (∀ w30 : Mem, w30 = st w29 k 7 ((w29 k 7) + (1 : Int32)) → (((w30 k 7) < (w30 k 8) → (Q w30)) ∧ (¬ ((w30 k 7) < (w30 k 8)) → (wp_5_beginNextRound k w30 (fun (w31 : Mem) => (Q w31))))))))))
def enV (k : Nat) (a2 a3 : Int32) (w : Mem) (c : Nat) : Int32 := if c = 0 then w 87 5 else if c = 1 then w 87 7 else if c = 2 then w 87 6 else if c = 3 then a2 else if c = 4 then a3 else if c = 5 then w k 6 else if c = 6 then w 87 4 else if c = 7 then w k 7 else 1
theorem en_step {k r c : Nat} {a2 a3 x : Int32} {w w1 : Mem} {K : Mem → Prop} (hr : r + 16 ≤ 256) (hc : c < 9) (f : (∀ b, b ≠ k + 3 → w1 b = w b) ∧ w1 (k + 3) = mkP (w (k + 3)) (enV k a2 a3 w) r c) (ex : x = enV k a2 a3 w c)
    (KK : ∀ w2, ((∀ b, b ≠ k + 3 → w2 b = w b) ∧ w2 (k + 3) = mkP (w (k + 3)) (enV k a2 a3 w) r (c + 1)) → K w2) : (vp_in (nI r + nI c) 256 ∧ ∀ w2, w2 = st w1 (k + 3) (ix (nI r + nI c)) x → K w2) := by
  rw [nI_add]
  refine ⟨vp_in_nI (by omega) (by decide), fun w2 e2 => KK w2 ?_⟩
  rw [ix_nI (by omega)] at e2
  subst e2
  refine ⟨fun b hb => (st_ne b hb).trans (f.1 b hb), ?_⟩
  rw [st_at, f.2, ex]
  exact mkP_s
theorem c_enter1 {k r : Nat} {a1 a2 a3 : Int32} {w : Mem} {Q : Mem → Prop} (hk : 89 ≤ k) (hr : r + 16 ≤ 256) (er : (((a1 * (2 : Int32)) + w k 5) - (1 : Int32)) * (16 : Int32) = nI r)
    (K : ∀ w25, (∀ b, b ≠ k + 3 → w25 b = w b) → (∀ i, w25 (k + 3) i = if r + 9 ≤ i ∧ i < r + 16 then w 88 (i - (r + 9)) else mkP (w (k + 3)) (enV k a2 a3 w) r 9 i) → enT k a1 a3 w25 Q) : wp_5_enter k a1 a2 a3 w Q := by
  unfold wp_5_enter wp_5_cellsOf
  rw [er]
  have wi : ∀ (Q : Int32 → Mem → Prop), Q 1 w → wp_11_within (nI r) 0 240 w Q := by
    intro Q q
    refine pk_lt r 0 (fun q => absurd q (by omega)) (fun _ => ?_)
    exact pk_lt 240 r (fun q => absurd q (by omega)) (fun _ => q)
  refine wi _ ⟨fun _ => ?_, fun q => absurd (by decide) q⟩
  refine en_step (a2 := a2) (a3 := a3) (c := 0) hr (by decide) ⟨fun _ _ => rfl, ?_⟩ rfl (fun w6 i6 => ?_)
  · funext i
    unfold mkP
    rw [if_neg (by omega)]
  refine en_step (a2 := a2) (a3 := a3) (c := 1) hr (by decide) i6 (by rw [i6.1 87 (by omega)]; rfl) (fun w8 i8 => ?_)
  refine en_step (a2 := a2) (a3 := a3) (c := 2) hr (by decide) i8 (by rw [i8.1 87 (by omega)]; rfl) (fun w10 i10 => ?_)
  refine en_step (a2 := a2) (a3 := a3) (c := 3) hr (by decide) i10 rfl (fun w12 i12 => ?_)
  refine en_step (a2 := a2) (a3 := a3) (c := 4) hr (by decide) i12 rfl (fun w14 i14 => ?_)
  refine en_step (a2 := a2) (a3 := a3) (c := 5) hr (by decide) i14 (by rw [i14.1 k (by omega)]; rfl) (fun w16 i16 => ?_)
  refine en_step (a2 := a2) (a3 := a3) (c := 6) hr (by decide) i16 (by rw [i16.1 87 (by omega)]; rfl) (fun w18 i18 => ?_)
  refine en_step (a2 := a2) (a3 := a3) (c := 7) hr (by decide) i18 (by rw [i18.1 k (by omega)]; rfl) (fun w20 i20 => ?_)
  refine en_step (a2 := a2) (a3 := a3) (c := 8) hr (by decide) i20 rfl (fun w22 i22 => ?_)
  have i9 : ix (nI r + (9 : Int32)) = r + 9 := by rw [show (9 : Int32) = nI 9 from rfl, nI_add, ix_nI (by omega)]
  refine ⟨by rw [show (9 : Int32) = nI 9 from rfl, nI_add]; exact nI_pos (by omega), by rw [i9, show ix (7 : Int32) = 7 from ix_nI (n := 7) (by omega)]; omega, fun w25 e25 => ?_⟩
  rw [i9, show ix (7 : Int32) = 7 from ix_nI (n := 7) (by omega), show ix (0 : Int32) = 0 from ix_nI (n := 0) (by omega)] at e25
  subst e25
  refine K _ (fun b hb => (cpy_ne b hb).trans (i22.1 b hb)) (fun i => ?_)
  rw [cpy_at]
  by_cases c : r + 9 ≤ i ∧ i < r + 16
  · rw [if_pos c, pk_cpy_in (by omega) (by omega), i22.1 88 (by omega), Nat.zero_add]
  · rw [if_neg c, pk_cpy_out (by omega), i22.2]
