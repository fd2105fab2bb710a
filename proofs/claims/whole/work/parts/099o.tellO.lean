theorem wr_fl {s i c a b j : Nat} (d1 : 420 * s ≤ c) (d3 : 130 * s ≤ i) (ha : a < 5) (q : ¬ wrR s b j) : b ≠ 177 ∧ ¬ (b = 150 ∧ (j = 11 ∨ j = 12 ∨ j = 13 ∨ j = 33 ∨ j = 39 ∨ j = 43)) ∧ ¬ ((b = 175 ∨ b = 176) ∧ c ≤ j ∧ j < 420 * s + 420) ∧ ¬ ((170 ≤ b ∧ b ≤ 174) ∧ i ≤ j ∧ j < 130 * s + 130) ∧ ¬ ((b = 168 ∨ b = 169) ∧ j = 5 * s + a) ∧ ¬ (b = 150 ∧ j = 11) ∧ ¬ (b = 150 ∧ j = 14) := by
  refine ⟨fun z => q (Or.inl z), fun z => q (Or.inr (Or.inl ⟨z.1, by omega⟩)), fun z => q (Or.inr (Or.inr (Or.inr (Or.inr (Or.inr (Or.inr (Or.inr (Or.inr ⟨z.1, by omega, z.2.2⟩)))))))), fun z => q (Or.inr (Or.inr (Or.inr (Or.inr (Or.inr (Or.inr (Or.inr (Or.inl ⟨z.1, by omega, z.2.2⟩)))))))), fun z => q (Or.inr (Or.inr (Or.inr (Or.inr (Or.inr (Or.inr (Or.inl ⟨z.1, by omega, by omega⟩))))))), fun z => q (Or.inr (Or.inl ⟨z.1, Or.inl z.2⟩)), fun z => q (Or.inr (Or.inl ⟨z.1, Or.inr (Or.inr (Or.inr (Or.inl z.2)))⟩))⟩
/-- a LAW in the reference, its word read -/
theorem r_lawT {K P V NM : Nat → Nat} {M s t a : Nat} {S : PS} {w0 w : Mem} {wl0 wl : MemL} {Q : Mem → MemL → Prop} (ha : a < 5) (hk : ¬ K t = 0) (g : GR K P V NM M s w0 wl0 t S w wl)
    (hX : RGX K P V NM M s w0 wl0 Q (bnd (tkP K (K t) t) fun t1 => bnd (bnd (lawP K V t1) (fun x => .ok (x.1, upL (sL S) a x.2, sN S, sE S, sM S, sF S))) fun x => bnd (tkP K 59 x.1) fun t2 => .ok (t2, x.2))) : wp_12_goesOn w wl (fun w1 v2 => wp_12_tellLaw (nI a) w1 v2 Q) := by
  have g0 := g
  obtain ⟨iB, c, ⟨a1, a2, a3⟩, ⟨⟨b1, b2, b3, b4, b5, b6⟩, d1, d2, d3, d4⟩, e, ⟨lf, lt⟩, ⟨g1, g2, g3, g4⟩, l1, l2⟩ := g
  have hm := a1.1
  refine r_goes (by omega) b1 (fun c4 => ?_) (fun c4 => ?_)
  rotate_left
  · refine r_fail (by omega) b1 b3 ?_
    rw [(a1.2.2 t a2).2.2.1]
    rw [show tkP K (K t) t = .error (2, t) by unfold tkP; rw [if_pos rfl, if_neg (by omega)]] at hX
    -- behind the fault
    have hh : ER P s w0 wl0 2 t (st (st w 150 13 (nI 2)) 150 14 (nI (P t))) wl := by
      refine er_new g0 (Or.inr rfl) (fun a j q => ?_) ?_ (by omega) ?_ st_eq
      · simp only [st]
        rw [if_neg (by omega), if_neg (by omega)]
      · rw [st_nj (by decide), st_nj (by decide)]; exact b1
      · rw [st_nj (by decide), st_eq]
    have z33 : st (st w 150 13 (nI 2)) 150 14 (nI (P t)) 150 33 = nI iB := by rw [st_nj (by decide), st_nj (by decide)]; exact b4
    have z39 : st (st w 150 13 (nI 2)) 150 14 (nI (P t)) 150 39 = nI c := by rw [st_nj (by decide), st_nj (by decide)]; exact b5
    revert hh z33 z39
    generalize st (st w 150 13 (nI 2)) 150 14 (nI (P t)) = w3
    intro hh z33 z39
    obtain ⟨e1, e2, e3, e4, e5, e6, t9, e7, e8⟩ := hh
    have l : FL P s iB c w3 2 t 1 w3 := by
      refine ⟨fun a j q1 q2 q3 q4 => ?_, e3, ⟨t9, e7, e8⟩, ⟨iB, Nat.le_refl _, by omega, z33⟩, c, Nat.le_refl _, by omega, z39⟩
      simp only [st]
      split
      · rename_i y
        rw [y.1, y.2, e4]
      · rfl
    unfold wp_12_tellLaw
    refine fl_must l (Or.inr rfl) (fun x3 e3 => ⟨1, fl_12 a3 l (Or.inr rfl) (fun w9 l9 => ?_)⟩)
    have l90 := l9.1
    refine hX w9 wl ⟨fun b j q => ?_, e2, l9.2.1, ?_, ?_, Or.inr rfl, l9.2.2.1⟩
    · obtain ⟨p1, p2, p3, p4, p5, p6, p7⟩ := wr_fl d1 d3 ha q
      rw [l90 b j p1 p2 p3 p4]
      simp only [st]
      rw [if_neg p7]
      exact e1 b j q
    · rw [l90 150 14 (by omega) (by omega) (by omega) (by omega)]
      exact st_eq
    · rw [l90 150 19 (by omega) (by omega) (by omega) (by omega), st_nj (by decide)]
      exact e5
  rw [show tkP K (K t) t = .ok (t + 1) by unfold tkP; rw [if_pos rfl, if_pos c4]] at hX
  have hX1 : RGX K P V NM M s w0 wl0 Q (bnd (bnd (lawP K V (t + 1)) (fun x => .ok (x.1, upL (sL S) a x.2, sN S, sE S, sM S, sF S))) fun x => bnd (tkP K 59 x.1) fun t2 => .ok (t2, x.2)) := hX
  have m1 := tkm_lt a1 a2 c4 hk
  have fs : ∀ b j, ¬ (b = 150 ∧ j = 11) → st w 150 11 (nI (t + 1)) b j = w b j := fun b j q => by simp only [st]; rw [if_neg q]
  have tk1 : TKM K P V M (st w 150 11 (nI (t + 1))) := tkm_i a1 (fun b q1 q2 => st_ne b (by omega))
  refine r_lawIn (t := t + 1) (i := iB) (c := c) tk1 a3 ha (by omega) m1 ⟨st_eq, (fs 150 12 (by omega)).trans b2, (fs 150 13 (by omega)).trans b3, (fs 150 33 (by omega)).trans b4, (fs 150 39 (by omega)).trans b5, (fs 150 19 (by omega)).trans b6⟩ d1 (by omega) d3 (by omega) ?_
  have errs : ∀ kd tok, (∀ w2 wl2, ER P s w0 wl0 kd tok w2 wl2 → Q w2 wl2) → (kd = 1 ∨ kd = 2) → ∀ w2, FL P s iB c (st w 150 11 (nI (t + 1))) kd tok 0 w2 → Q w2 wl := by
    intro kd tok h hk2 w2 l9
    have l90 := l9.1
    refine h w2 wl ⟨fun b j q => ?_, l2, l9.2.1, ?_, ?_, hk2, l9.2.2.1⟩
    · obtain ⟨p1, p2, p3, p4, p5, p6, p7⟩ := wr_fl d1 d3 ha q
      rw [l90 b j p1 p2 p3 p4, show st (st w 150 11 (nI (t + 1))) 150 14 (nI (P tok)) b j = w b j by simp only [st]; rw [if_neg p7, if_neg p6]]
      exact l1 b j q
    · rw [l90 150 14 (by omega) (by omega) (by omega) (by omega)]
      exact st_eq
    · rw [l90 150 19 (by omega) (by omega) (by omega) (by omega), st_nj (by decide), st_nj (by decide)]
      exact b6
  cases hr : lawP K V (t + 1) with
  | error yy =>
    obtain ⟨kd, tok⟩ := yy
    rw [hr] at hX1
    exact fun hk2 w2 l9 => errs kd tok hX1 hk2 w2 l9
  | ok yy =>
    obtain ⟨t3, Z, R⟩ := yy
    rw [hr] at hX1
    have hX3 : RGX K P V NM M s w0 wl0 Q (bnd (tkP K 59 t3) fun t2 => .ok (t2, upL (sL S) a (Z, R), sN S, sE S, sM S, sF S)) := hX1
    show XR P M s iB c a (nI iB) _ wl Q (bnd (tkP K 59 t3) fun t => .ok (t, Z, R))
    cases hr2 : tkP K 59 t3 with
    | error yy =>
      obtain ⟨kd, tok⟩ := yy
      rw [hr2] at hX3
      exact fun hk2 w2 l9 => errs kd tok hX3 hk2 w2 l9
    | ok t4 =>
      rw [hr2] at hX3
      have hX4 : ∀ w2 wl2, GR K P V NM M s w0 wl0 t4 (upL (sL S) a (Z, R), sN S, sE S, sM S, sF S) w2 wl2 → Q w2 wl2 := hX3
      clear hX hX1 hX3
      have t4t : t < t4 := by
        have q1 := law_lt (by omega) hr
        have q2 := tk_ok hr2
        omega
      clear errs hr hr2
      intro m9 w9 N c9 st9 bd9 f9 l9
      obtain ⟨s1, s2, s3, s4, s5, s6⟩ := st9
      obtain ⟨y1, y2, y3, y4⟩ := bd9
      have z : ∀ b j, ¬ ((b = 168 ∨ b = 169) ∧ j = 5 * s + a) → st (st w9 168 (5 * s + a) (nI iB)) 169 (5 * s + a) (nI N) b j = w9 b j := by
        intro b j q
        simp only [st]
        rw [if_neg (by omega), if_neg (by omega)]
      have zw : ∀ b j, b ≠ 150 → ¬ ((b = 168 ∨ b = 169) ∧ j = 5 * s + a) → b ≠ 177 → ¬ ((b = 175 ∨ b = 176) ∧ c ≤ j ∧ j < 420 * s + 420) → ¬ ((170 ≤ b ∧ b ≤ 174) ∧ iB ≤ j ∧ j < 130 * s + 130) → st (st w9 168 (5 * s + a) (nI iB)) 169 (5 * s + a) (nI N) b j = w b j := by
        intro b j q1 q2 q3 q4 q5
        rw [z b j q2, f9 b j q3 (by omega) q4 q5, fs b j (by omega)]
      have z150 : ∀ j, st (st w9 168 (5 * s + a) (nI iB)) 169 (5 * s + a) (nI N) 150 j = w9 150 j := fun j => z 150 j (by omega)
      have k150 : ∀ j, j ≠ 11 → j ≠ 12 → j ≠ 13 → j ≠ 33 → j ≠ 39 → j ≠ 43 → w9 150 j = w 150 j := fun j q1 q2 q3 q4 q5 q6 => (f9 150 j (by omega) (by omega) (by omega) (by omega)).trans (fs 150 j (by omega))
      obtain ⟨h1, h2, h3, h4, h5⟩ := e
      refine hX4 _ wl ⟨N, c9, ⟨tkm_i tk1 (fun b q1 q2 => funext (fun j => (z b j (by omega)).trans (f9 b j (by omega) (by omega) (by omega) (by omega)))), m9, a3⟩, ⟨⟨(z150 _).trans s1, (z150 _).trans s2, (z150 _).trans s3, (z150 _).trans s4, (z150 _).trans s5, (z150 _).trans s6⟩, by omega, y2, by omega, y4⟩, ⟨fun b hb => ?_, fun k hk => ?_, ⟨?_, ?_⟩, fun r x hr hx => ?_, fun j hj => ⟨?_, ?_⟩⟩, ⟨?_, fun k0 t0 q => ?_⟩, ⟨?_, g2, g3, g4⟩, fun b j q => ?_, l2⟩
      · show OLr s N c9 b _ (upL (sL S) a (Z, R) b)
        by_cases q : b = a
        · subst q
          rw [show upL (sL S) b (Z, R) b = some (Z, R) from if_pos rfl]
          exact ⟨iB, N, by rw [st_nk (by decide), st_eq], st_eq, d3, Nat.le_refl _, lwR_rw (fun x q1 q2 => by rw [st_ne x (by omega), st_ne x (by omega)]) R iB N l9⟩
        · rw [show upL (sL S) a (Z, R) b = sL S b from if_neg q]
          exact ol_r (by omega) y1 (by omega) (zw 168 _ (by decide) (by omega) (by decide) (by omega) (by omega)) (zw 169 _ (by decide) (by omega) (by decide) (by omega) (by omega)) (fun x j q1 q2 q3 => zw x j (by omega) (by omega) (by omega) (by omega) (by omega)) (fun x j q1 q2 => zw x j (by omega) (by omega) (by omega) (by omega) (by omega)) (h1 b hb)
      · exact (zw 159 _ (by decide) (by omega) (by decide) (by omega) (by omega)).trans (h2 k hk)
      · exact (zw 160 _ (by decide) (by omega) (by decide) (by omega) (by omega)).trans h3.1
      · exact (zw 165 _ (by decide) (by omega) (by decide) (by omega) (by omega)).trans h3.2
      · exact (zw _ _ (by omega) (by omega) (by omega) (by omega) (by omega)).trans (h4 r x hr hx)
      · exact (zw 166 _ (by decide) (by omega) (by decide) (by omega) (by omega)).trans (h5 j hj).1
      · exact (zw 167 _ (by decide) (by omega) (by decide) (by omega) (by omega)).trans (h5 j hj).2
      · unfold LFr
        rw [z150, z150, k150 15 (by decide) (by decide) (by decide) (by decide) (by decide) (by decide), k150 16 (by decide) (by decide) (by decide) (by decide) (by decide) (by decide)]
        exact lf
      · have q0 := lt k0 t0 q
        exact Nat.lt_trans q0 t4t
      · rw [z150, k150 20 (by decide) (by decide) (by decide) (by decide) (by decide) (by decide)]
        exact g1
      · obtain ⟨p1, p2, p3, p4, p5, p6, p7⟩ := wr_fl d1 d3 ha q
        rw [z b j p5, f9 b j p1 p2 p3 p4, fs b j p6]
        exact l1 b j q
