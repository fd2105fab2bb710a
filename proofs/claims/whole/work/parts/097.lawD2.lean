/-- the reference at the branch i of a law -/
def RPt (s t i c : Nat) (w : Mem) : Prop := (w 150 11 = nI t ∧ w 150 12 = 0 ∧ w 150 13 = 0 ∧ w 150 33 = nI i ∧ w 150 39 = nI c ∧ w 150 19 = nI s) ∧ 420 * s ≤ c ∧ c ≤ 420 * s + t ∧ 130 * s ≤ i ∧ 4 * i + 2 ≤ 520 * s + t
def lastP (K V : Nat → Nat) (t : Nat) : Except (Nat × Nat) (Nat × LE × LB) := bnd (exP K V 8 0 t) (fun x => .ok (x.1, x.2, []))
/-- a law's branches and the ; behind them -/
def lzP (K V : Nat → Nat) (r : Except (Nat × Nat) (Nat × LE × LB)) : Except (Nat × Nat) (Nat × LE × LB) := bnd r (fun x => bnd (tkP K 59 x.1) (fun t => .ok (t, x.2)))
/-- how the reference goes on behind a law's branches from i on -/
def XR (P : Nat → Nat) (M s i c a : Nat) (l2 : Int32) (w : Mem) (wl : MemL) (Q : Mem → MemL → Prop) (r : Except (Nat × Nat) (Nat × LE × LB)) : Prop := match r with
  | .error (kd, tok) => (kd = 1 ∨ kd = 2) → ∀ w2, FL P s i c w kd tok 0 w2 → Q w2 wl
  | .ok (t2, Z, R) => t2 ≤ M → ∀ w2 N c2, (w2 150 11 = nI t2 ∧ w2 150 12 = 0 ∧ w2 150 13 = 0 ∧ w2 150 33 = nI N ∧ w2 150 39 = nI c2 ∧ w2 150 19 = nI s) → (c ≤ c2 ∧ c2 ≤ 420 * s + t2 ∧ i < N ∧ 4 * N ≤ 520 * s + t2) → frL s i c w w2 → lwR (420 * s) c2 w2 Z i N R → Q (st (st w2 168 (5 * s + a) l2) 169 (5 * s + a) (nI N)) wl
theorem r_lastR {K P V : Nat → Nat} {M s t i c a : Nat} {l2 : Int32} {w : Mem} {wl : MemL} {Q : Mem → MemL → Prop} (tk : TKM K P V M w) (hs : s ≤ 1) (ha : a < 5) (ht1 : 0 < t) (ht : t ≤ M) (h : RPt s t i c w) (hE : ∀ kd tok t, exP K V 8 0 t = .error (kd, tok) → kd = 1 ∨ kd = 2) (hX : XR P M s i c a l2 w wl Q (lzP K V (lastP K V t))) : wp_12_tellLaw_b129 Q (nI a) l2 w wl := by
  have hm := tk.1
  obtain ⟨⟨h11, h12, h13, h33, h39, h19⟩, b1, b2, b3, b4⟩ := h
  have iv : vp_in (nI i) 260 := vp_in_nI (by omega) (by decide)
  unfold wp_12_tellLaw_b129
  rw [h33, ix_nI (by omega)]
  refine ⟨iv, fun w2 e2 => ?_⟩
  have g2 : ∀ j, w2 150 j = w 150 j := fun j => by subst e2; exact st_nk (by decide)
  have f2 : frL s i c w w2 := by subst e2; exact fl_sr (by omega) (by omega)
  have z2 : w2 170 i = 0 := by subst e2; rw [st_eq]; rfl
  clear e2
  unfold wp_12_term
  rw [(g2 33).trans h33, (g2 39).trans h39, ix_nI (by omega)]
  refine ⟨iv, fun w3 e3 => ?_⟩
  have g3 : ∀ j, w3 150 j = w 150 j := fun j => by subst e3; rw [st_nk (by decide)]; exact g2 j
  have f3 : frL s i c w w3 := by subst e3; exact fl_tr f2 (fl_sr (by omega) (by omega))
  have z3 : w3 170 i = 0 := by subst e3; rw [st_nk (by decide)]; exact z2
  have y3 : w3 173 i = nI c := by subst e3; exact st_eq
  clear e3
  have tk3 := tkm_fl tk f3
  have n3 : w3 150 13 = 0 := (g3 13).trans h13
  refine ⟨fun q => absurd n3 q, fun _ => ?_⟩
  unfold lzP lastP at hX
  refine r_expr tk3 hs b1 ((g3 11).trans h11) ht1 (by omega) ht ((g3 12).trans h12) n3 ((g3 39).trans h39) (by omega) (fun kd tok e w4 f4 => ?_) (fun t2 U e q1 q2 q3 q4 q5 w4 s4 => ?_)
  · have hk := hE kd tok t e
    rw [e] at hX
    simp only [bnd] at hX
    have l4 : FL P s i c w kd tok 1 w4 := fl_fx f3 (Nat.le_refl _) ((g3 33).trans h33) (Nat.le_refl _) (by omega) f4
    obtain ⟨x, x1, x2, x3, x4⟩ := fl_at hs l4
    unfold wp_12_term_b24
    rw [x1, ix_nI (by omega)]
    refine ⟨vp_in_nI x2 (by decide), fun w5 e5 w6 e6 => ?_⟩
    have l5 : FL P s i c w kd tok 1 w5 := by subst e5; exact x3 174 _ (by omega) (by omega)
    obtain ⟨u, u1, u2, u3, u4⟩ := fl_at hs l5
    rw [u1, nI_1] at e6
    subst e6
    refine fl_must u4 hk ⟨fun q => absurd q ?_, fun _ => hX hk _ u4⟩
    rw [u4.2.1]
    intro q
    exact absurd ((nI_leI (b := 0) (by omega) (by omega)).mp q) (by omega)
  · rw [e] at hX
    simp only [bnd] at hX
    obtain ⟨⟨a11, a12, a13, a39, a43⟩, a6, _, a8, a9⟩ := s4
    simp only [List.length_nil] at a9
    have g4 : w4 150 33 = nI i := (a8 150 33 (by omega) (by omega) (by omega)).trans ((g3 33).trans h33)
    have g419 : w4 150 19 = nI s := (a8 150 19 (by omega) (by omega) (by omega)).trans ((g3 19).trans h19)
    have f4 : frL s i c w w4 := fl_tr f3 (fl_fe a8 (Nat.le_refl _))
    have z4 : w4 170 i = 0 := (a8 170 i (by omega) (by omega) (by omega)).trans z3
    have y4 : w4 173 i = nI c := (a8 173 i (by omega) (by omega) (by omega)).trans y3
    unfold wp_12_term_b24
    rw [g4, a39, ix_nI (by omega)]
    refine ⟨iv, fun w5 e5 w6 e6 => ?_⟩
    have k5 : w5 150 33 = nI i := by subst e5; rw [st_nk (by decide)]; exact g4
    rw [k5, nI_1] at e6
    have g6 : ∀ j, j ≠ 33 → w6 150 j = w4 150 j := fun j hj => by subst e6; subst e5; rw [st_nj hj, st_nk (by decide)]
    have g633 : w6 150 33 = nI (i + 1) := by subst e6; exact st_eq
    have f6 : frL s i c w w6 := by
      subst e6
      subst e5
      exact fl_tr f4 (fl_tr (fl_sr (by omega) (by omega)) (fl_sb (by omega)))
    have r6 : ∀ x y, x ≠ 150 → ¬ (x = 174 ∧ y = i) → w6 x y = w4 x y := by
      subst e6
      subst e5
      intro x y q1 q2
      simp only [st]
      rw [if_neg (by omega), if_neg q2]
    have y6 : w6 174 i = nI (c + U.length) := by subst e6; subst e5; rw [st_nk (by decide), st_eq]
    clear e5 e6
    have tk6 := tkm_fl tk f6
    have n6 : w6 150 13 = 0 := (g6 13 (by decide)).trans a13
    refine r_must (c := 59) tk6 q3 ((g6 11 (by decide)).trans a11) n6 (by decide) (by decide) (by decide) (fun kd hk e2 => ?_) (fun e2 c4 m2 => ?_)
    · rw [e2] at hX
      have l7 := fl_new (P := P) (kd := kd) (r := 0) f6 (by omega : c ≤ c + U.length) (by omega) ((g6 39 (by decide)).trans a39) g633 (by omega) (by omega) q2 ((g6 11 (by decide)).trans a11)
      refine ⟨fun q => absurd q ?_, fun _ => hX hk _ l7⟩
      rw [l7.2.1]
      intro q
      exact absurd ((nI_leI (b := 0) (by omega) (by omega)).mp q) (by omega)
    · rw [e2] at hX
      have g7 : ∀ j, j ≠ 11 → st w6 150 11 (nI (t2 + 1)) 150 j = w6 150 j := fun j hj => st_nj hj
      have i19 : st w6 150 11 (nI (t2 + 1)) 150 19 = nI s := (g7 19 (by decide)).trans ((g6 19 (by decide)).trans g419)
      have jv : vp_in (nI (5 * s + a)) 10 := vp_in_nI (by omega) (by decide)
      refine ⟨fun _ => ?_, fun q => absurd ?_ q⟩
      · rw [i19, show (5 : Int32) = nI 5 from rfl, pk_mul, nI_add, ix_nI (by omega)]
        refine ⟨jv, fun w8 e8 => ?_⟩
        have i8 : w8 150 19 = nI s := by subst e8; rw [st_nk (by decide)]; exact i19
        have i33 : w8 150 33 = nI (i + 1) := by subst e8; rw [st_nk (by decide), g7 33 (by decide)]; exact g633
        rw [i8, i33, pk_mul, nI_add, ix_nI (by omega)]
        refine ⟨jv, fun w10 e10 => ?_⟩
        subst e10
        subst e8
        refine hX m2 _ (i + 1) (c + U.length) ⟨st_eq, ?_, ?_, ?_, ?_, i19⟩ ⟨by omega, by omega, by omega, by omega⟩ (fl_tr f6 (fl_sb (by omega))) ⟨?_, ⟨c, ?_, ?_, by omega, by omega, by omega, ?_, q5⟩, rfl, by omega⟩
        · rw [g7 12 (by decide), g6 12 (by decide)]; exact a12
        · rw [g7 13 (by decide)]; exact n6
        · rw [g7 33 (by decide)]; exact g633
        · rw [g7 39 (by decide), g6 39 (by decide)]; exact a39
        · rw [st_nk (by decide), r6 170 i (by decide) (by omega)]; exact z4
        · rw [st_nk (by decide), r6 173 i (by decide) (by omega)]; exact y4
        · rw [st_nk (by decide)]; exact y6
        · rw [st_ne 175 (by decide), st_ne 176 (by decide), show w6 175 = w4 175 from funext (fun j => r6 175 j (by decide) (by omega)), show w6 176 = w4 176 from funext (fun j => r6 176 j (by decide) (by omega))]
          exact a6
      · rw [g7 13 (by decide), n6]; decide
