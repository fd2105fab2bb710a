theorem gc_x {K P V NM : Nat → Nat} {m c t : Nat} {S S2 : PS} {w0 w w2 : Mem} (hc : 9 ≤ c) (h : GC K P V NM m c w0 t S w) (f : ∀ a j, ¬ (c ≤ a ∧ wrC c a j) → w2 a j = w a j) (hx : CX c S2 w2) (hm : sM S2 = sM S) (hf : sF S2 = sF S) : GC K P V NM m c w0 t S2 w2 := by
  obtain ⟨⟨a1, a2, a3, a4⟩, b, ⟨d1, d2, d3⟩, e, g⟩ := h
  have lo : ∀ a j, a < c → w2 a j = w a j := fun a j q => f a j (fun z => by have := z.1; omega)
  have fw : FT c w w2 := fun a j p => f a j (fun z => p z.2)
  refine ⟨⟨tkn_ft hc a1 fw, smn_fr a2 (fun a j p q => lo a j (by omega)), a3, (lo 7 3 (by omega)).trans a4⟩, hx, ⟨?_, ?_, ?_⟩, ?_, ftx_tr g fw⟩
  · rw [hm, lo 7 2 (by omega)]; exact d1
  · rw [hm]; exact fun i x hx => (lo 8 i (by omega)).trans (d2 i x hx)
  · rw [hm]; exact d3
  · rw [hf]
    unfold LFc
    rw [lo 7 7 (by omega), lo 7 8 (by omega)]
    exact e
/-- where the class holds the k-th number -/
def cellN (c k a j : Nat) : Prop := (k < 3 ∧ a = c ∧ j = 7 + k) ∨ (3 ≤ k ∧ k < 8 ∧ a = c + 31 ∧ j = k - 3) ∨ (8 ≤ k ∧ k < 16 ∧ a = c ∧ j = 2 + k)
theorem cell_w {c k a j : Nat} (h : cellN c k a j) : c ≤ a ∧ wrC c a j := by
  simp only [wrC]
  unfold cellN at h
  omega
theorem cx_num {c k a j v : Nat} {S : PS} {lf : LFt} {w : Mem} (hc : 9 ≤ c) (h : CX c S w) (hcell : cellN c k a j) : CX c (sL S, up2 (sN S) 0 k v, sE S, sM S, lf) (st w a j (nI v)) := by
  obtain ⟨h1, h2, h3, h4, h5, h6, h7⟩ := h
  have ha : a = c ∨ a = c + 31 := by unfold cellN at hcell; omega
  have hj : a = c → (7 ≤ j ∧ j < 18) := by intro q; unfold cellN at hcell; omega
  have r : ∀ b, b ≠ c → b ≠ c + 31 → st w a j (nI v) b = w b := fun b p q => st_ne b (by omega)
  have n1 : ∀ q x, q ≠ 0 → up2 (sN S) 0 k v q x = sN S q x := fun q x hq => if_neg (by omega)
  have n2 : ∀ x, x ≠ k → up2 (sN S) 0 k v 0 x = sN S 0 x := fun x hq => if_neg (by omega)
  have n3 : up2 (sN S) 0 k v 0 k = v := if_pos ⟨rfl, rfl⟩
  refine ⟨fun b hb => ol_cg (r _ (by omega) (by omega)) (r _ (by omega) (by omega)) (r _ (by omega) (by omega)) (congrFun (r _ (by omega) (by omega)) _) (congrFun (r _ (by omega) (by omega)) _) (h1 b hb), fun x hx => ?_, fun x hx => ?_, fun x hx hx2 => ?_, ⟨?_, ?_⟩, fun q x hq hx => ?_, fun x hx => ?_⟩
  · show st w a j (nI v) c (7 + x) = nI (up2 (sN S) 0 k v 0 x)
    by_cases e : x = k
    · subst e
      rw [n3]
      have q : a = c ∧ j = 7 + x := by unfold cellN at hcell; omega
      rw [q.1, q.2]
      exact st_eq
    · rw [n2 x e, show st w a j (nI v) c (7 + x) = w c (7 + x) from if_neg (by unfold cellN at hcell; omega)]
      exact h2 x hx
  · show st w a j (nI v) (c + 31) x = nI (up2 (sN S) 0 k v 0 (3 + x))
    by_cases e : 3 + x = k
    · subst e
      rw [n3]
      have q : a = c + 31 ∧ j = x := by unfold cellN at hcell; omega
      rw [q.1, q.2]
      exact st_eq
    · rw [n2 _ e, show st w a j (nI v) (c + 31) x = w (c + 31) x from if_neg (by unfold cellN at hcell; omega)]
      exact h3 x hx
  · show st w a j (nI v) c (2 + x) = nI (up2 (sN S) 0 k v 0 x)
    by_cases e : x = k
    · subst e
      rw [n3]
      have q : a = c ∧ j = 2 + x := by unfold cellN at hcell; omega
      rw [q.1, q.2]
      exact st_eq
    · rw [n2 x e, show st w a j (nI v) c (2 + x) = w c (2 + x) from if_neg (by unfold cellN at hcell; omega)]
      exact h4 x hx hx2
  · rw [r (c + 32) (by omega) (by omega)]
    exact h5.1.trans (congrArg nI (n1 1 0 (by decide)).symm)
  · rw [r (c + 32) (by omega) (by omega)]
    exact h5.2.trans (congrArg nI (n1 1 1 (by decide)).symm)
  · have hx2 : x < sN S 1 0 := by have := n1 1 0 (by decide); simp only [sN] at hx this ⊢; omega
    rw [r (c + 33 + q) (by omega) (by omega)]
    exact (h6 q x hq hx2).trans (congrArg nI (n1 (2 + q) x (by omega)).symm)
  · have hx2 : x < sN S 1 1 := by have := n1 1 1 (by decide); simp only [sN] at hx this ⊢; omega
    rw [r (c + 37) (by omega) (by omega), r (c + 38) (by omega) (by omega)]
    refine ⟨(h7 x hx2).1, (h7 x hx2).2.trans (congrArg nI (n1 6 x (by decide)).symm)⟩
/-- one number of a TELL -/
theorem c_num {K P V NM : Nat → Nat} {m c t k lo hi a j : Nat} {S : PS} {w0 w : Mem} {A Q : Int32 → Mem → Prop} (hc : 9 ≤ c) (hV : ∀ j, K j = 3 → V j < 2 ^ 20) (hlo : lo < 2 ^ 20) (hhi : hi < 2 ^ 20) (hcell : cellN c k a j) (g : GC K P V NM m c w0 t S w)
    (hQ0 : ∀ w1, (∀ w3, w3 = st w1 a j (w1 7 4) → A 0 w3) → Q 0 w1) (hQ1 : ∀ w1, (∀ w3, w3 = st w1 a j (w1 7 4) → A 1 w3) → Q 1 w1)
    (KE : ∀ kd, inP K V lo hi t (sF S) = .error (kd, t) → ∀ w2, FE P c w0 kd t w2 → A 0 w2)
    (KO : ∀ lf2, inP K V lo hi t (sF S) = .ok (t + 1, lf2) → ∀ w2, GC K P V NM m c w0 (t + 1) (sL S, up2 (sN S) 0 k (V t), sE S, sM S, lf2) w2 → A 1 w2) : wp_3_readInt (nI lo) (nI hi) w Q := by
  obtain ⟨hcw, hw⟩ := cell_w hcell
  have g0 := g
  obtain ⟨⟨a1, a2, a3, a4⟩, b, d, e, f⟩ := g
  refine c_int a1 hV a3 a4 hlo hhi e (fun kd hk er w2 f2 e5 e6 => hQ0 w2 (fun w3 e3 => ?_)) (fun lf2 er m1 w2 f2 e3' e4 l2 => hQ1 w2 (fun w3 e3 => ?_))
  · subst e3
    exact KE kd er _ (fe_st ⟨ftx_7 f f2, e5, e6⟩ hw (by omega))
  · subst e3
    rw [e4]
    have g2 := gc_7 hc g0 f2 e3' m1 l2
    refine KO lf2 er _ (gc_x hc g2 (fun x y q => ?_) (cx_num hc g2.2.1 hcell) rfl rfl)
    simp only [st]
    rw [if_neg (fun z => q (by rw [z.1, z.2]; exact ⟨hcw, hw⟩))]
theorem c_hill {K P V NM : Nat → Nat} {m c t : Nat} {S : PS} {w0 w : Mem} {Q : Int32 → Mem → Prop} (hc : 9 ≤ c) (hV : ∀ j, K j = 3 → V j < 2 ^ 20) (g : GC K P V NM m c w0 t S w) (hX : GX K P V NM m c w0 Q (numP K V [(0, 100, 2500), (1, 100, 2500), (2, 0, 99)] t S)) : wp_3_readHill c w Q := by
  simp only [numP] at hX
  refine c_num (k := 0) (lo := 100) (hi := 2500) (A := fun s0 w1 => (s0 = 0 → wp_3_readHill_b38 c Q w1) ∧ (¬ s0 = 0 → wp_3_readInt 100 2500 w1 (fun r5 w4 => (r5 = 0 → wp_3_readHill_b38 c Q w4) ∧ (¬ r5 = 0 → wp_3_readHill_b39 c Q 1 w4)))) hc hV (by decide) (by decide) (Or.inl ⟨by decide, rfl, rfl⟩) g (fun _ h => h) (fun _ h => h) (fun kd e w2 f => ?_) (fun lf2 e w2 g2 => ?_)
  · rw [e] at hX
    have hX2 : ∀ w2, FE P c w0 kd t w2 → Q 0 w2 := hX
    exact t0 (fun w3 e3 => t0 (fun w4 e4 => ⟨Or.inl rfl, hX2 _ (by subst e4; subst e3; exact fe_st (fe_st f (by simp only [wrC]; omega) hc) (by simp only [wrC]; omega) hc)⟩))
  rw [e] at hX
  refine t1 (c_num (k := 1) (lo := 100) (hi := 2500) (A := fun s0 w1 => (s0 = 0 → wp_3_readHill_b66 c Q w1) ∧ (¬ s0 = 0 → wp_3_readInt 0 99 w1 (fun r5 w4 => (r5 = 0 → wp_3_readHill_b66 c Q w4) ∧ (¬ r5 = 0 → wp_3_readHill_b67 c Q 1 w4)))) hc hV (by decide) (by decide) (Or.inl ⟨by decide, rfl, rfl⟩) g2 (fun _ h => t0 h) (fun _ h => t1 h) (fun kd e2 w3 f => ?_) (fun lf3 e2 w3 g3 => ?_))
  · simp only [bnd] at hX
    rw [e2] at hX
    have hX2 : ∀ w2, FE P c w0 kd (t + 1) w2 → Q 0 w2 := hX
    exact t0 (fun w4 e4 => ⟨Or.inl rfl, hX2 _ (by subst e4; exact fe_st f (by simp only [wrC]; omega) hc)⟩)
  simp only [bnd] at hX
  rw [e2] at hX
  refine t1 (c_num (k := 2) (lo := 0) (hi := 99) (A := fun s0 w1 => (s0 = 0 ∨ s0 = 1) ∧ Q s0 w1) hc hV (by decide) (by decide) (Or.inl ⟨by decide, rfl, rfl⟩) g3 (fun _ h => t0 h) (fun _ h => t1 h) (fun kd e3 w4 f => ⟨Or.inl rfl, ?_⟩) (fun lf4 e3 w4 g4 => ⟨Or.inr rfl, ?_⟩))
  · simp only [bnd] at hX
    rw [e3] at hX
    exact hX w4 f
  · simp only [bnd] at hX
    rw [e3] at hX
    exact hX w4 g4
/-- a TELL of one number -/
theorem c_one {K P V NM : Nat → Nat} {m c t k lo hi a j : Nat} {S : PS} {w0 w : Mem} {Q : Int32 → Mem → Prop} (hc : 9 ≤ c) (hV : ∀ j, K j = 3 → V j < 2 ^ 20) (hlo : lo < 2 ^ 20) (hhi : hi < 2 ^ 20) (hcell : cellN c k a j) (g : GC K P V NM m c w0 t S w) (hX : GX K P V NM m c w0 Q (numP K V [(k, lo, hi)] t S)) : wp_3_readInt (nI lo) (nI hi) w (fun r w1 => ∀ w3, w3 = st w1 a j (w1 7 4) → (r = 0 ∨ r = 1) ∧ Q r w3) := by
  simp only [numP] at hX
  refine c_num (A := fun s0 w1 => (s0 = 0 ∨ s0 = 1) ∧ Q s0 w1) hc hV hlo hhi hcell g (fun _ h => h) (fun _ h => h) (fun kd e w2 f => ⟨Or.inl rfl, ?_⟩) (fun lf2 e w2 g2 => ⟨Or.inr rfl, ?_⟩)
  · rw [e] at hX
    exact hX w2 f
  · rw [e] at hX
    exact hX w2 g2
theorem c_two {K P V NM : Nat → Nat} {m c t k lo hi a j k2 lo2 hi2 j2 : Nat} {S : PS} {w0 w : Mem} {Q : Int32 → Mem → Prop} (hc : 9 ≤ c) (hV : ∀ j, K j = 3 → V j < 2 ^ 20) (hlo : lo < 2 ^ 20) (hhi : hi < 2 ^ 20) (hcell : cellN c k a j) (hlo2 : lo2 < 2 ^ 20) (hhi2 : hi2 < 2 ^ 20) (hcell2 : cellN c k2 a j2) (g : GC K P V NM m c w0 t S w) (hX : GX K P V NM m c w0 Q (numP K V [(k, lo, hi), (k2, lo2, hi2)] t S)) :
    wp_3_readInt (nI lo) (nI hi) w (fun r w1 => ∀ w3, w3 = st w1 a j (w1 7 4) → (r = 0 → ∀ w4, w4 = st w3 a j2 (w3 7 4) → ((0 : Int32) = 0 ∨ (0 : Int32) = 1) ∧ Q 0 w4) ∧ (¬ r = 0 → wp_3_readInt (nI lo2) (nI hi2) w3 (fun r5 w5 => (r5 = 0 → ∀ w4, w4 = st w5 a j2 (w5 7 4) → ((0 : Int32) = 0 ∨ (0 : Int32) = 1) ∧ Q 0 w4) ∧ (¬ r5 = 0 → ∀ w4, w4 = st w5 a j2 (w5 7 4) → ((1 : Int32) = 0 ∨ (1 : Int32) = 1) ∧ Q 1 w4)))) := by
  simp only [numP] at hX
  obtain ⟨hcw, hw⟩ := cell_w hcell2
  refine c_num (A := fun r w3 => (r = 0 → ∀ w4, w4 = st w3 a j2 (w3 7 4) → ((0 : Int32) = 0 ∨ (0 : Int32) = 1) ∧ Q 0 w4) ∧ (¬ r = 0 → wp_3_readInt (nI lo2) (nI hi2) w3 (fun r5 w5 => (r5 = 0 → ∀ w4, w4 = st w5 a j2 (w5 7 4) → ((0 : Int32) = 0 ∨ (0 : Int32) = 1) ∧ Q 0 w4) ∧ (¬ r5 = 0 → ∀ w4, w4 = st w5 a j2 (w5 7 4) → ((1 : Int32) = 0 ∨ (1 : Int32) = 1) ∧ Q 1 w4)))) hc hV hlo hhi hcell g (fun _ h => h) (fun _ h => h) (fun kd e w2 f => t0 (fun w4 e4 => ⟨Or.inl rfl, ?_⟩)) (fun lf2 e w2 g2 => t1 ?_)
  · rw [e] at hX
    have hX2 : ∀ w2, FE P c w0 kd t w2 → Q 0 w2 := hX
    exact hX2 _ (by subst e4; exact fe_st f hw (by omega))
  rw [e] at hX
  refine c_num (A := fun s0 w1 => (s0 = 0 ∨ s0 = 1) ∧ Q s0 w1) hc hV hlo2 hhi2 hcell2 g2 (fun _ h => t0 h) (fun _ h => t1 h) (fun kd e2 w3 f => ⟨Or.inl rfl, ?_⟩) (fun lf3 e2 w3 g3 => ⟨Or.inr rfl, ?_⟩)
  · simp only [bnd] at hX
    rw [e2] at hX
    exact hX w3 f
  · simp only [bnd] at hX
    rw [e2] at hX
    exact hX w3 g3
theorem c_numbers {K P V NM : Nat → Nat} {m c t k : Nat} {S : PS} {w0 w : Mem} {Q : Int32 → Mem → Prop} (hc : 9 ≤ c) (hV : ∀ j, K j = 3 → V j < 2 ^ 20) (hk : 137 ≤ k ∧ k ≤ 142) (g : GC K P V NM m c w0 t S w) (hX : GX K P V NM m c w0 Q (numP K V (nsL k) t S)) : wp_3_readNumbers (nI k) c w Q := by
  have d : ∀ z, z < 2 ^ 20 → (nI k = nI z ↔ k = z) := fun z hz => nI_eq (by omega) (by omega)
  have e137 : nI k = 137 ↔ k = 137 := d 137 (by decide)
  have e138 : nI k = 138 ↔ k = 138 := d 138 (by decide)
  have e139 : nI k = 139 ↔ k = 139 := d 139 (by decide)
  have e140 : nI k = 140 ↔ k = 140 := d 140 (by decide)
  have e141 : nI k = 141 ↔ k = 141 := d 141 (by decide)
  unfold wp_3_readNumbers
  refine ⟨fun q => ?_, fun n1 => ⟨fun q => ?_, fun n2 => ⟨fun q => ?_, fun n3 => ⟨fun q => ?_, fun n4 => ⟨fun q => ?_, fun n5 => ?_⟩⟩⟩⟩⟩
  · rw [e137.mp q] at hX
    exact c_one (k := 8) (lo := 0) (hi := 99) hc hV (by decide) (by decide) (Or.inr (Or.inr ⟨by decide, by decide, rfl, rfl⟩)) g hX
  · rw [e138.mp q] at hX
    exact c_one (k := 9) (lo := 0) (hi := 30) hc hV (by decide) (by decide) (Or.inr (Or.inr ⟨by decide, by decide, rfl, rfl⟩)) g hX
  · rw [e139.mp q] at hX
    exact c_two (k := 10) (lo := 0) (hi := 30) (k2 := 11) (lo2 := 1) (hi2 := 300) hc hV (by decide) (by decide) (Or.inr (Or.inr ⟨by decide, by decide, rfl, rfl⟩)) (by decide) (by decide) (Or.inr (Or.inr ⟨by decide, by decide, rfl, rfl⟩)) g hX
  · rw [e140.mp q] at hX
    exact c_two (k := 12) (lo := 0) (hi := 40) (k2 := 13) (lo2 := 0) (hi2 := 99) hc hV (by decide) (by decide) (Or.inr (Or.inr ⟨by decide, by decide, rfl, rfl⟩)) (by decide) (by decide) (Or.inr (Or.inr ⟨by decide, by decide, rfl, rfl⟩)) g hX
  · rw [e141.mp q] at hX
    exact c_one (k := 14) (lo := 1) (hi := 8) hc hV (by decide) (by decide) (Or.inr (Or.inr ⟨by decide, by decide, rfl, rfl⟩)) g hX
  · have k2 : k = 142 := by
      rw [e137] at n1
      rw [e138] at n2
      rw [e139] at n3
      rw [e140] at n4
      rw [e141] at n5
      omega
    rw [k2] at hX
    exact c_one (k := 15) (lo := 0) (hi := 9999) hc hV (by decide) (by decide) (Or.inr (Or.inr ⟨by decide, by decide, rfl, rfl⟩)) g hX
/-- PARTS -/
theorem c_parts {K P V NM : Nat → Nat} {m c : Nat} {w0 : Mem} {Q : Int32 → Mem → Prop} (hc : 9 ≤ c) (hV : ∀ j, K j = 3 → V j < 2 ^ 20) : ∀ (n i t : Nat) (S : PS) (w : Mem), n + i = 5 → GC K P V NM m c w0 t S w → GX K P V NM m c w0 Q (numP K V ([(3, 0, 9), (4, 0, 9), (5, 0, 9), (6, 0, 9), (7, 0, 9)].drop i) t S) → wp_3_readParts_b4 (c + 31) 5 Q (n + 2) 1 (nI i) w
  | 0, i, t, S, w, hi, g, hX => by
    have i5 : i = 5 := by omega
    subst i5
    unfold wp_3_readParts_b4
    exact ⟨fun _ => ⟨Or.inr rfl, hX w g⟩, fun q => absurd (by decide) q⟩
  | n + 1, i, t, S, w, hi, g, hX => by
    have hX2 : GX K P V NM m c w0 Q (numP K V ((3 + i, 0, 9) :: [(3, 0, 9), (4, 0, 9), (5, 0, 9), (6, 0, 9), (7, 0, 9)].drop (i + 1)) t S) := by
      rcases (by omega : i = 0 ∨ i = 1 ∨ i = 2 ∨ i = 3 ∨ i = 4) with z | z | z | z | z <;> (subst z; exact hX)
    simp only [numP] at hX2
    unfold wp_3_readParts_b4
    have ii : ix (nI i) = i := ix_nI (by omega)
    refine ⟨fun q => absurd ((nI_leI (a := 5) (by omega) (by omega)).mp q) (by omega), fun _ => t1 ?_⟩
    rw [ii]
    refine c_num (k := 3 + i) (lo := 0) (hi := 9) (a := c + 31) (j := i) (A := fun r w4 => ∀ x5 : Int32, x5 = nI i + 1 → wp_3_readParts_b4 (c + 31) 5 Q (n + 2) r x5 w4) hc hV (by decide) (by decide) (Or.inr (Or.inl ⟨by omega, by omega, rfl, by omega⟩)) g (fun _ h => ⟨vp_in_nI (by omega) (by decide), h⟩) (fun _ h => ⟨vp_in_nI (by omega) (by decide), h⟩) (fun kd e w2 f x5 e5 => ?_) (fun lf2 e w2 g2 x5 e5 => ?_)
    · rw [e] at hX2
      unfold wp_3_readParts_b4
      exact ⟨fun _ => ⟨Or.inl rfl, hX2 w2 f⟩, fun _ => t0 ⟨Or.inl rfl, hX2 w2 f⟩⟩
    · rw [e] at hX2
      rw [nI_1] at e5
      subst e5
      exact c_parts hc hV n (i + 1) _ _ w2 (by omega) g2 hX2
