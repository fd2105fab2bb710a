/-- a law in the reference, from the = on -/
theorem r_lawIn {K P V : Nat → Nat} {M s t i c a : Nat} {w : Mem} {wl : MemL} {Q : Mem → MemL → Prop} (tk : TKM K P V M w) (hs : s ≤ 1) (ha : a < 5) (ht1 : 0 < t) (ht : t ≤ M) (h : (w 150 11 = nI t ∧ w 150 12 = 0 ∧ w 150 13 = 0 ∧ w 150 33 = nI i ∧ w 150 39 = nI c ∧ w 150 19 = nI s)) (b1 : 420 * s ≤ c) (b2 : c ≤ 420 * s + t) (b3 : 130 * s ≤ i) (b4 : 4 * i + 1 ≤ 520 * s + t) (hX : XR P M s i c a (nI i) w wl Q (lzP K V (lawP K V t))) : wp_12_tellLaw (nI a) w wl Q := by
  have hm := tk.1
  obtain ⟨h11, h12, h13, h33, h39, h19⟩ := h
  unfold lawP at hX
  unfold wp_12_tellLaw
  refine r_must (c := 61) tk ht h11 h13 (by decide) (by decide) (by decide) (fun kd hk e => ?_) (fun e c4 m1 => ?_)
  · rw [e] at hX
    simp only [lzP, bnd] at hX
    have l := fl_new (P := P) (kd := kd) (r := 1) (i := i) (s := s) (c := c) (w0 := w) (w := w) (x := i) (fun _ _ _ _ _ _ => rfl) (Nat.le_refl c) (by omega) h39 h33 (by omega) (by omega) (by omega : t ≤ 400) h11
    exact fun x3 e3 => ⟨1, fl_12 hs l hk (hX hk)⟩
  · rw [e] at hX
    have hX2 : XR P M s i c a (nI i) w wl Q (lzP K V (lwP K V 4 (t + 1))) := hX
    have f1 : frL s i c w (st w 150 11 (nI (t + 1))) := fl_sb (by omega)
    intro x3 e3
    rw [st_nj (by decide), h33] at e3
    subst e3
    refine ⟨5, r_lw hs ha 4 (t + 1) i c _ (tkm_fl tk f1) (by omega) (by omega) m1 ⟨⟨st_eq, ?_, ?_, ?_, ?_, ?_⟩, b1, by omega, b3, by omega⟩ ?_⟩
    · rw [st_nj (by decide)]; exact h12
    · rw [st_nj (by decide)]; exact h13
    · rw [st_nj (by decide)]; exact h33
    · rw [st_nj (by decide)]; exact h39
    · rw [st_nj (by decide)]; exact h19
    · cases hr : lzP K V (lwP K V 4 (t + 1)) with
      | error yy =>
        obtain ⟨kd, tok⟩ := yy
        rw [hr] at hX2
        exact fun hk w9 l9 => hX2 hk w9 (fl_lift f1 (Nat.le_refl _) (Nat.le_refl _) l9)
      | ok yy =>
        obtain ⟨t9, Z, R⟩ := yy
        rw [hr] at hX2
        exact fun m9 w9 N c9 st9 bd9 f9 l9 => hX2 m9 w9 N c9 st9 bd9 (fl_tr f1 f9) l9
