/-- a LAW in the class's text -/
theorem c_lawT {K P V NM : Nat → Nat} {m c t a : Nat} {S : PS} {w0 w : Mem} {Q : Int32 → Mem → Prop} (ha : a < 5) (hc : 9 ≤ c) (ht1 : 0 < t) (g : GC K P V NM m c w0 t S w) (hX : GX K P V NM m c w0 Q (bnd (lawP K V t) (fun x => .ok (x.1, upL (sL S) a x.2, sN S, sE S, sM S, sF S)))) : wp_3_readLaw (c + 1 + 6 * a) w Q := by
  obtain ⟨⟨tk, sm, ht, h3⟩, b, ⟨d1, d2, d3⟩, e, f⟩ := g
  have fw : ∀ w2, frK (c + 1 + 6 * a) 0 0 w w2 → FT c w w2 := by
    intro w2 f2 x j q
    simp only [wrC] at q
    exact f2 x j (by omega) (by omega) (by omega) (by omega)
  refine c_law tk (by omega) ht1 ht h3 ?_
  cases hr : lawP K V t with
  | error yy =>
    obtain ⟨kd, tok⟩ := yy
    rw [hr] at hX
    exact fun w2 f2 => hX w2 ⟨ftx_tr f (fw w2 f2.1), f2.2.1, f2.2.2.1⟩
  | ok yy =>
    obtain ⟨t2, Z, R⟩ := yy
    rw [hr] at hX
    have hX2 : ∀ w2, GC K P V NM m c w0 t2 (upL (sL S) a (Z, R), sN S, sE S, sM S, sF S) w2 → Q 1 w2 := hX
    intro m2 w2 l2 h32 f2
    have r : ∀ x, c ≤ x → x < c + 39 → ¬ (c + 1 + 6 * a ≤ x ∧ x ≤ c + 1 + 6 * a + 3) → w2 x = w x := fun x q1 q2 q3 => funext (fun j => f2 x j (by omega) (by omega) (by omega) (by omega))
    have z7 : ∀ j, j ≠ 3 → j ≠ 5 → j ≠ 6 → w2 7 j = w 7 j := fun j q1 q2 q3 => f2 7 j (by omega) (by omega) (by omega) (by omega)
    obtain ⟨h1, h2, h3', h4, h5, h6, h7⟩ := b
    refine hX2 w2 ⟨⟨tkn_ft hc tk (fw w2 f2), smn_fr sm (fun x j p q => f2 x j (by omega) (by omega) (by omega) (by omega)), m2, h32⟩, ⟨fun b hb => ?_, ?_, ?_, ?_, ?_, fun q x hq hx => ?_, ?_⟩, ⟨(z7 2 (by decide) (by decide) (by decide)).trans d1, fun i x hx => (f2 8 i (by omega) (by omega) (by omega) (by omega)).trans (d2 i x hx), d3⟩, ?_, ftx_tr f (fw w2 f2)⟩
    · show OLc (c + 1 + 6 * b) w2 (upL (sL S) a (Z, R) b)
      by_cases q : b = a
      · subst q
        rw [show upL (sL S) b (Z, R) b = some (Z, R) from if_pos rfl]
        exact l2
      · rw [show upL (sL S) a (Z, R) b = sL S b from if_neg q]
        exact ol_cg (r _ (by omega) (by omega) (by omega)) (r _ (by omega) (by omega) (by omega)) (r _ (by omega) (by omega) (by omega)) (congrFun (r _ (by omega) (by omega) (by omega)) _) (congrFun (r _ (by omega) (by omega) (by omega)) _) (h1 b hb)
    · rw [r c (by omega) (by omega) (by omega)]; exact h2
    · rw [r (c + 31) (by omega) (by omega) (by omega)]; exact h3'
    · rw [r c (by omega) (by omega) (by omega)]; exact h4
    · rw [r (c + 32) (by omega) (by omega) (by omega)]; exact h5
    · rw [r (c + 33 + q) (by omega) (by omega) (by omega)]; exact h6 q x hq hx
    · rw [r (c + 37) (by omega) (by omega) (by omega), r (c + 38) (by omega) (by omega) (by omega)]; exact h7
    · unfold LFc
      rw [z7 7 (by decide) (by decide) (by decide), z7 8 (by decide) (by decide) (by decide)]
      exact e
theorem c_full {c k a b : Nat} {w : Mem} {Q : Int32 → Mem → Prop} (hk : k < 2 ^ 20) (ha : w c 6 = nI a) (hb : w c 7 = nI b) (ha2 : a ≤ 8) (hb2 : b ≤ 7) (K1 : (k = 135 ∧ a = 8) ∨ (k = 136 ∧ b = 7) → Q 1 w) (K0 : ¬ ((k = 135 ∧ a = 8) ∨ (k = 136 ∧ b = 7)) → Q 0 w) : wp_4_isFull c (nI k) w Q := by
  have e135 : nI k = 135 ↔ k = 135 := nI_eq (b := 135) (by omega) (by omega)
  have e136 : nI k = 136 ↔ k = 136 := nI_eq (b := 136) (by omega) (by omega)
  have j : ¬ (k = 135 ∧ a = 8) → wp_4_isFull_b16 c Q (nI k) w := by
    intro nn
    refine ⟨fun q => K0 (fun z => z.elim nn (fun y => q (e136.mpr y.1))), fun q => ?_⟩
    rw [hb]
    exact pk_lt b 7 (fun q2 => K0 (fun z => z.elim nn (fun y => by omega))) (fun q2 => K1 (Or.inr ⟨e136.mp (Classical.not_not.mp q), by omega⟩))
  unfold wp_4_isFull
  refine ⟨fun q => j (fun z => q (e135.mpr z.1)), fun q => ?_⟩
  rw [ha]
  exact pk_le 8 a (fun q2 => K1 (Or.inl ⟨e135.mp (Classical.not_not.mp q), by omega⟩)) (fun q2 => j (fun z => by omega))
/-- how many men, judges and names there may be -/
def SI (S : PS) : Prop := sN S 1 0 ≤ 8 ∧ sN S 1 1 ≤ 7 ∧ (sM S).length = sN S 1 0 + sN S 1 1
/-- a TELL in the class -/
theorem c_tell {K P V NM : Nat → Nat} {m c t : Nat} {S : PS} {w0 w : Mem} {Q : Int32 → Mem → Prop} (hc : 9 ≤ c) (hV : ∀ j, K j = 3 → V j < 2 ^ 20) (hS : SI S) (g : GC K P V NM m c w0 t S w) (hX : GX K P V NM m c w0 Q (telP K V NM t S)) : wp_3_readTell c w Q := by
  have g0 := g
  obtain ⟨⟨tk, sm, ht, h3⟩, b, d, e, f⟩ := g
  obtain ⟨s1, s2, s3⟩ := hS
  have hm := tk.1
  obtain ⟨kd0, q4, _, _⟩ := tk.2.2 t ht
  have kl := kd_lt kd0
  have iv : vp_in (nI t) 401 := vp_in_nI (by omega) (by decide)
  have feq : ∀ kd, FE P c w0 kd t (st (st w 7 5 (nI kd)) 7 6 (nI (P t))) := by
    intro kd
    refine ⟨ftx_7 f (f7_tr (f7_st (by omega)) (f7_st (by omega))), ?_, st_eq⟩
    rw [st_nj (by decide), st_eq]
  have d2 : ∀ z, z < 2 ^ 20 → (nI (K t) = nI z ↔ K t = z) := fun z hz => nI_eq (by omega) (by omega)
  unfold telP at hX
  unfold wp_3_readTell
  rw [h3, ix_nI (by omega)]
  refine ⟨iv, fun x2 e2 => ?_⟩
  rw [q4] at e2
  subst e2
  have b27 : ¬ (128 ≤ K t ∧ K t ≤ 142) → wp_3_readTell_b27 c Q w := by
    intro nn
    rw [if_neg nn] at hX
    exact c_fails (a := 1) tk ht h3 ⟨Or.inl rfl, hX _ (feq 1)⟩
  refine pk_lt (K t) 128 (fun q => b27 (by omega)) (fun q => pk_le (K t) 142 (fun q2 => ?_) (fun q2 => b27 (by omega)))
  rw [if_pos ⟨by omega, q2⟩] at hX
  refine c_full (by omega) b.2.2.2.2.1.1 b.2.2.2.2.1.2 s1 s2 (fun z => t1 ?_) (fun z => t0 ?_)
  · rw [if_pos z] at hX
    exact c_fails (a := 2) tk ht h3 ⟨Or.inl rfl, hX _ (feq 2)⟩
  rw [if_neg z] at hX
  refine c_takes (c := K t) tk ht h3 (by omega) (fun _ c4 => u1 ?_) (fun _ c4 => u0 ?_) (fun y => absurd rfl y)
  rotate_left
  · rw [show tkP K (K t) t = .error (2, t) by unfold tkP; rw [if_pos rfl, if_neg c4]] at hX
    exact hX _ (feq 2)
  rw [show tkP K (K t) t = .ok (t + 1) by unfold tkP; rw [if_pos rfl, if_pos c4]] at hX
  have hX1 : GX K P V NM m c w0 Q (bnd (bodP K V NM (K t) (t + 1) S) fun x => bnd (tkP K 59 x.1) fun t2 => .ok (t2, x.2)) := hX
  have m1 := tkn_lt tk ht c4 (by omega)
  have g1 : GC K P V NM m c w0 (t + 1) S (st w 7 3 (nI (t + 1))) := gc_7 hc g0 (f7_st (by omega)) st_eq m1 e
  -- behind the body
  have hB : GX K P V NM m c w0 (wp_3_readTell_b224 c Q) (bodP K V NM (K t) (t + 1) S) := by
    cases hr : bodP K V NM (K t) (t + 1) S with
    | error yy =>
      obtain ⟨kd, tok⟩ := yy
      rw [hr] at hX1
      exact fun w2 f2 => t0 (hX1 w2 f2)
    | ok yy =>
      obtain ⟨t2, S2⟩ := yy
      rw [hr] at hX1
      have hX2 : GX K P V NM m c w0 Q (bnd (tkP K 59 t2) fun t3 => .ok (t3, S2)) := hX1
      intro w2 g2
      have g20 := g2
      obtain ⟨⟨tk2, sm2, ht2, h32⟩, _, _, e2, f2⟩ := g2
      have feq2 : ∀ kd, FE P c w0 kd t2 (st (st w2 7 5 (nI kd)) 7 6 (nI (P t2))) := by
        intro kd
        refine ⟨ftx_7 f2 (f7_tr (f7_st (by omega)) (f7_st (by omega))), ?_, st_eq⟩
        rw [st_nj (by decide), st_eq]
      refine t1 (c_takes (c := 59) tk2 ht2 h32 (by decide) (fun y c4 => t1 ?_) (fun y c4 => t0 ?_) (fun y => t0 ?_))
      · rw [show tkP K 59 t2 = .ok (t2 + 1) by unfold tkP; rw [if_pos y, if_pos c4]] at hX2
        have hX3 : ∀ w2, GC K P V NM m c w0 (t2 + 1) S2 w2 → Q 1 w2 := hX2
        exact hX3 _ (gc_7 hc g20 (f7_st (by omega)) st_eq (tkn_lt tk2 ht2 c4 (by omega)) e2)
      · rw [show tkP K 59 t2 = .error (2, t2) by unfold tkP; rw [if_pos y, if_neg c4]] at hX2
        exact hX2 _ (feq2 2)
      · rw [show tkP K 59 t2 = .error (1, t2) by unfold tkP; rw [if_neg y]] at hX2
        exact hX2 _ (feq2 1)
  clear hX hX1 feq
  have law : ∀ a, a < 5 → K t = 129 + a → wp_3_readLaw (c + 1 + 6 * a) (st w 7 3 (nI (t + 1))) (wp_3_readTell_b224 c Q) := by
    intro a ha hk
    refine c_lawT ha hc (by omega) g1 ?_
    unfold bodP at hB
    rw [if_pos (by omega), show K t - 129 = a by omega] at hB
    exact hB
  refine ⟨fun q => ?_, fun n0 => ⟨fun q => ?_, fun n1 => ⟨fun q => ?_, fun n2 => ⟨fun q => ?_, fun n3 => ⟨fun q => ?_, fun n4 => ⟨fun q => ?_, fun n5 => ⟨fun q => ?_, fun n6 => ⟨fun q => ?_, fun n7 => ⟨fun q => ?_, fun n8 => ?_⟩⟩⟩⟩⟩⟩⟩⟩⟩
  · have k := (d2 128 (by decide)).mp q
    rw [k] at hB
    exact c_hill hc hV g1 hB
  · exact law 0 (by decide) ((d2 129 (by decide)).mp q)
  · exact law 1 (by decide) ((d2 130 (by decide)).mp q)
  · exact law 2 (by decide) ((d2 131 (by decide)).mp q)
  · exact law 3 (by decide) ((d2 132 (by decide)).mp q)
  · exact law 4 (by decide) ((d2 133 (by decide)).mp q)
  · have k := (d2 134 (by decide)).mp q
    rw [k] at hB
    exact ⟨7, c_parts hc hV 5 0 (t + 1) S _ (by omega) g1 hB⟩
  · have k := (d2 135 (by decide)).mp q
    have a8 : ¬ sN S 1 0 = 8 := fun y => z (Or.inl ⟨k, y⟩)
    rw [k] at hB
    exact c_man hc hV (by omega) (by omega) g1 hB
  · have k := (d2 136 (by decide)).mp q
    have a8 : ¬ sN S 1 1 = 7 := fun y => z (Or.inr ⟨k, y⟩)
    rw [k] at hB
    exact c_jud hc hV (by omega) (by omega) g1 hB
  · have kk : 137 ≤ K t := by
      have y0 : ¬ K t = 128 := fun y => n0 ((d2 128 (by decide)).mpr y)
      have y1 : ¬ K t = 129 := fun y => n1 ((d2 129 (by decide)).mpr y)
      have y2 : ¬ K t = 130 := fun y => n2 ((d2 130 (by decide)).mpr y)
      have y3 : ¬ K t = 131 := fun y => n3 ((d2 131 (by decide)).mpr y)
      have y4 : ¬ K t = 132 := fun y => n4 ((d2 132 (by decide)).mpr y)
      have y5 : ¬ K t = 133 := fun y => n5 ((d2 133 (by decide)).mpr y)
      have y6 : ¬ K t = 134 := fun y => n6 ((d2 134 (by decide)).mpr y)
      have y7 : ¬ K t = 135 := fun y => n7 ((d2 135 (by decide)).mpr y)
      have y8 : ¬ K t = 136 := fun y => n8 ((d2 136 (by decide)).mpr y)
      omega
    unfold bodP at hB
    rw [if_neg (by omega), if_neg (by omega), if_neg (by omega)] at hB
    exact c_numbers hc hV ⟨kk, q2⟩ g1 hB
