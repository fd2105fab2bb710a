theorem cx_man {c n v1 v2 v3 v4 : Nat} {S : PS} {M : List Nat} {lf : LFt} {w w2 : Mem} (hn : sN S 1 0 = n) (h : CX c S w) (f : ∀ a j, ¬ ((c + 32 + 1 ≤ a ∧ a ≤ c + 32 + 4) ∧ j = n) → ¬ (a = c + 32 ∧ j = 6) → w2 a j = w a j) (k1 : w2 (c + 32 + 1) n = nI v1) (k2 : w2 (c + 32 + 2) n = nI v2) (k3 : w2 (c + 32 + 3) n = nI v3) (k4 : w2 (c + 32 + 4) n = nI v4) (k6 : w2 (c + 32) 6 = nI (n + 1)) :
    CX c (sL S, up2 (up2 (up2 (up2 (up2 (sN S) 2 n v1) 3 n v2) 4 n v3) 5 n v4) 1 0 (n + 1), sE S, M, lf) w2 := by
  obtain ⟨h1, h2, h3, h4, h5, h6, h7⟩ := h
  have r : ∀ b, b < c + 32 ∨ c + 37 ≤ b → w2 b = w b := fun b p => funext (fun j => f b j (by omega) (by omega))
  have n0 : ∀ q x, q = 0 ∨ q = 6 ∨ (q = 1 ∧ x = 1) → up2 (up2 (up2 (up2 (up2 (sN S) 2 n v1) 3 n v2) 4 n v3) 5 n v4) 1 0 (n + 1) q x = sN S q x := by
    intro q x hq
    simp only [up2]
    rw [if_neg (by omega), if_neg (by omega), if_neg (by omega), if_neg (by omega), if_neg (by omega)]
  refine ⟨fun b hb => ol_cg (r _ (by omega)) (r _ (by omega)) (r _ (by omega)) (congrFun (r _ (by omega)) _) (congrFun (r _ (by omega)) _) (h1 b hb), fun x hx => ?_, fun x hx => ?_, fun x hx hx2 => ?_, ⟨?_, ?_⟩, fun q x hq hx => ?_, fun x hx => ?_⟩
  · rw [r c (by omega)]
    exact (h2 x hx).trans (congrArg nI (n0 0 x (by omega)).symm)
  · rw [r (c + 31) (by omega)]
    exact (h3 x hx).trans (congrArg nI (n0 0 (3 + x) (by omega)).symm)
  · rw [r c (by omega)]
    exact (h4 x hx hx2).trans (congrArg nI (n0 0 x (by omega)).symm)
  · exact k6
  · exact (f _ 7 (by omega) (by omega)).trans (h5.2.trans (congrArg nI (n0 1 1 (by omega)).symm))
  · have hx2 : x < n + 1 := hx
    show w2 (c + 33 + q) x = nI (up2 (up2 (up2 (up2 (up2 (sN S) 2 n v1) 3 n v2) 4 n v3) 5 n v4) 1 0 (n + 1) (2 + q) x)
    by_cases e : x = n
    · subst e
      rcases (by omega : q = 0 ∨ q = 1 ∨ q = 2 ∨ q = 3) with z | z | z | z <;> subst z
      · rw [show c + 33 + 0 = c + 32 + 1 by omega, k1]
        simp [up2]
      · rw [show c + 33 + 1 = c + 32 + 2 by omega, k2]
        simp [up2]
      · rw [show c + 33 + 2 = c + 32 + 3 by omega, k3]
        simp [up2]
      · rw [show c + 33 + 3 = c + 32 + 4 by omega, k4]
        simp [up2]
    · rw [f _ x (by omega) (by omega), h6 q x hq (by omega)]
      simp only [up2]
      rw [if_neg (by omega), if_neg (by omega), if_neg (by omega), if_neg (by omega), if_neg (by omega)]
  · have hx2 : x < sN S 1 1 := by have q := n0 1 1 (by omega); have p : x < up2 (up2 (up2 (up2 (up2 (sN S) 2 n v1) 3 n v2) 4 n v3) 5 n v4) 1 0 (n + 1) 1 1 := hx; omega
    rw [r (c + 37) (by omega), r (c + 38) (by omega)]
    exact ⟨(h7 x hx2).1, (h7 x hx2).2.trans (congrArg nI (n0 6 x (by omega)).symm)⟩
theorem cx_jud {c n v : Nat} {e : Int32} {S : PS} {M : List Nat} {lf : LFt} {w w2 : Mem} (hn : sN S 1 1 = n) (h : CX c S w) (f : ∀ a j, ¬ ((a = c + 32 + 5 ∨ a = c + 32 + 6) ∧ j = n) → ¬ (a = c + 32 ∧ j = 7) → w2 a j = w a j) (k5 : w2 (c + 32 + 5) n = e) (k6 : w2 (c + 32 + 6) n = nI v) (k7 : w2 (c + 32) 7 = nI (n + 1)) :
    CX c (sL S, up2 (up2 (sN S) 6 n v) 1 1 (n + 1), upE (sE S) n e, M, lf) w2 := by
  obtain ⟨h1, h2, h3, h4, h5, h6, h7⟩ := h
  have r : ∀ b, b < c + 32 ∨ (c + 32 < b ∧ b < c + 37) → w2 b = w b := fun b p => funext (fun j => f b j (by omega) (by omega))
  have n0 : ∀ q x, q = 0 ∨ (2 ≤ q ∧ q < 6) ∨ (q = 1 ∧ x = 0) → up2 (up2 (sN S) 6 n v) 1 1 (n + 1) q x = sN S q x := by
    intro q x hq
    simp only [up2]
    rw [if_neg (by omega), if_neg (by omega)]
  refine ⟨fun b hb => ol_cg (r _ (by omega)) (r _ (by omega)) (r _ (by omega)) (congrFun (r _ (by omega)) _) (congrFun (r _ (by omega)) _) (h1 b hb), fun x hx => ?_, fun x hx => ?_, fun x hx hx2 => ?_, ⟨?_, ?_⟩, fun q x hq hx => ?_, fun x hx => ?_⟩
  · rw [r c (by omega)]
    exact (h2 x hx).trans (congrArg nI (n0 0 x (by omega)).symm)
  · rw [r (c + 31) (by omega)]
    exact (h3 x hx).trans (congrArg nI (n0 0 (3 + x) (by omega)).symm)
  · rw [r c (by omega)]
    exact (h4 x hx hx2).trans (congrArg nI (n0 0 x (by omega)).symm)
  · exact (f _ 6 (by omega) (by omega)).trans (h5.1.trans (congrArg nI (n0 1 0 (by omega)).symm))
  · exact k7
  · have hx2 : x < sN S 1 0 := by have p := n0 1 0 (by omega); have p2 : x < up2 (up2 (sN S) 6 n v) 1 1 (n + 1) 1 0 := hx; omega
    rw [r (c + 33 + q) (by omega)]
    exact (h6 q x hq hx2).trans (congrArg nI (n0 (2 + q) x (by omega)).symm)
  · have hx2 : x < n + 1 := hx
    show w2 (c + 37) x = upE (sE S) n e x ∧ w2 (c + 38) x = nI (up2 (up2 (sN S) 6 n v) 1 1 (n + 1) 6 x)
    by_cases q : x = n
    · subst q
      refine ⟨k5.trans ?_, k6.trans ?_⟩
      · exact (if_pos rfl).symm
      · simp [up2]
    · rw [f _ x (by omega) (by omega), f _ x (by omega) (by omega), (h7 x (by omega)).1, (h7 x (by omega)).2]
      refine ⟨(if_neg q).symm, congrArg nI ?_⟩
      simp only [up2]
      rw [if_neg (by omega), if_neg (by omega)]
theorem man_F {P : Nat → Nat} {c n kd tok : Nat} {w0 w : Mem} {Q : Int32 → Mem → Prop} (hc : 9 ≤ c) (hn : n < 8) (h : FE P c w0 kd tok w) (h6 : w (c + 32) 6 = nI n) (hX : ∀ w2, FE P c w0 kd tok w2 → Q 0 w2) (l3 l4 l5 : Int32) : wp_3_readMan_b102 (c + 32) Q l3 l4 l5 0 w := by
  unfold wp_3_readMan_b102
  exact c_addMan h6 hn (fun w2 f _ _ _ _ _ => ⟨Or.inl rfl, hX w2 (fe_c hc h (fun a j q => f a j (by simp only [wrC] at q; omega) (by simp only [wrC] at q; omega)))⟩)
/-- MAN -/
theorem c_man {K P V NM : Nat → Nat} {m c t : Nat} {S : PS} {w0 w : Mem} {Q : Int32 → Mem → Prop} (hc : 9 ≤ c) (hV : ∀ j, K j = 3 → V j < 2 ^ 20) (h15 : (sM S).length < 15) (hn : sN S 1 0 < 8) (g : GC K P V NM m c w0 t S w) (hX : GX K P V NM m c w0 Q (manP K V NM t S)) : wp_3_readMan (c + 32) w Q := by
  have men : ∀ {t2 : Nat} {M : List Nat} {lf : LFt} {w2 : Mem}, GC K P V NM m c w0 t2 (sL S, sN S, sE S, M, lf) w2 → w2 (c + 32) 6 = nI (sN S 1 0) := fun g2 => g2.2.1.2.2.2.2.1.1
  unfold manP at hX
  unfold wp_3_readMan
  refine c_name hc g h15 (fun kd e w2 f f32 => t0 ?_) (fun e w2 g2 => t1 ?_)
  · rw [e] at hX
    have h6 : w2 (c + 32) 6 = nI (sN S 1 0) := by rw [f32]; exact g.2.1.2.2.2.2.1.1
    exact fun x1 _ => t0 (fun x2 _ => t0 (fun x3 _ => t0 (man_F hc hn f h6 hX x1 x2 x3)))
  rw [e] at hX
  simp only [bnd] at hX
  refine c_gi (lo := 30) (hi := 120) hc hV (by decide) (by decide) g2 (fun kd e2 w3 f f32 => t0 ?_) (fun lf3 e2 w3 g3 v3 => t1 ?_)
  · have e2' : inP K V 30 120 (t + 1) (nmF NM t S) = .error (kd, t + 1) := e2
    rw [e2'] at hX
    have h6 : w3 (c + 32) 6 = nI (sN S 1 0) := by rw [f32]; exact men g2
    exact fun x1 _ => t0 (fun x2 _ => t0 (fun x3 _ => t0 (man_F hc hn f h6 hX x1 x2 x3)))
  have e2' : inP K V 30 120 (t + 1) (nmF NM t S) = .ok (t + 1 + 1, lf3) := e2
  rw [e2'] at hX
  simp only [bnd] at hX
  intro x3 ex3
  rw [v3] at ex3
  subst ex3
  refine t1 (c_gi (lo := 100) (hi := 300) hc hV (by decide) (by decide) g3 (fun kd e3 w4 f f32 => t0 ?_) (fun lf4 e3 w4 g4 v4 => t1 ?_))
  · have e3' : inP K V 100 300 (t + 1 + 1) lf3 = .error (kd, t + 1 + 1) := e3
    rw [e3'] at hX
    have h6 : w4 (c + 32) 6 = nI (sN S 1 0) := by rw [f32]; exact men g3
    exact fun x2 _ => t0 (fun x3 _ => t0 (man_F hc hn f h6 hX _ x2 x3))
  have e3' : inP K V 100 300 (t + 1 + 1) lf3 = .ok (t + 1 + 1 + 1, lf4) := e3
  rw [e3'] at hX
  simp only [bnd] at hX
  intro x4 ex4
  rw [v4] at ex4
  subst ex4
  refine t1 (c_gi (lo := 0) (hi := 9) hc hV (by decide) (by decide) g4 (fun kd e4 w5 f f32 => t0 ?_) (fun lf5 e4 w5 g5 v5 => t1 ?_))
  · have e4' : inP K V 0 9 (t + 1 + 1 + 1) lf4 = .error (kd, t + 1 + 1 + 1) := e4
    rw [e4'] at hX
    have h6 : w5 (c + 32) 6 = nI (sN S 1 0) := by rw [f32]; exact men g4
    exact fun x3 _ => t0 (man_F hc hn f h6 hX _ _ x3)
  have e4' : inP K V 0 9 (t + 1 + 1 + 1) lf4 = .ok (t + 1 + 1 + 1 + 1, lf5) := e4
  rw [e4'] at hX
  simp only [bnd] at hX
  intro x5 ex5
  rw [v5] at ex5
  subst ex5
  refine t1 (c_gi (lo := 0) (hi := 9) hc hV (by decide) (by decide) g5 (fun kd e5 w6 f f32 => t0 ?_) (fun lf6 e5 w6 g6 v6 => t1 ?_))
  · have e5' : inP K V 0 9 (t + 1 + 1 + 1 + 1) lf5 = .error (kd, t + 1 + 1 + 1 + 1) := e5
    rw [e5'] at hX
    have h6 : w6 (c + 32) 6 = nI (sN S 1 0) := by rw [f32]; exact men g5
    exact man_F hc hn f h6 hX _ _ _
  have e5' : inP K V 0 9 (t + 1 + 1 + 1 + 1) lf5 = .ok (t + 1 + 1 + 1 + 1 + 1, lf6) := e5
  rw [e5'] at hX
  simp only [bnd] at hX
  have hX2 : ∀ w2, GC K P V NM m c w0 _ _ w2 → Q 1 w2 := hX
  unfold wp_3_readMan_b102
  rw [v6]
  refine c_addMan (men g6) hn (fun w7 f7 k1 k2 k3 k4 k6 => ⟨Or.inr rfl, hX2 w7 (gc_x hc g6 (fun a j q => f7 a j (by simp only [wrC] at q; omega) (by simp only [wrC] at q; omega)) (cx_man rfl g6.2.1 f7 k1 k2 k3 k4 k6) rfl rfl)⟩)
theorem jud_F {P : Nat → Nat} {c n kd tok : Nat} {w0 w : Mem} {Q : Int32 → Mem → Prop} (hc : 9 ≤ c) (hn : n < 7) (h : FE P c w0 kd tok w) (h7 : w (c + 32) 7 = nI n) (hX : ∀ w2, FE P c w0 kd tok w2 → Q 0 w2) (l3 : Int32) : wp_3_readJudge_b102 (c + 32) Q l3 0 w := by
  unfold wp_3_readJudge_b102
  exact c_addJudge h7 hn (fun w2 f _ _ _ => ⟨Or.inl rfl, hX w2 (fe_c hc h (fun a j q => f a j (by simp only [wrC] at q; omega) (by simp only [wrC] at q; omega)))⟩)
theorem jud_F63 {P : Nat → Nat} {c n kd tok : Nat} {w0 w : Mem} {Q : Int32 → Mem → Prop} (hc : 9 ≤ c) (hn : n < 7) (h : FE P c w0 kd tok w) (h7 : w (c + 32) 7 = nI n) (hX : ∀ w2, FE P c w0 kd tok w2 → Q 0 w2) (l3 : Int32) : wp_3_readJudge_b63 (c + 32) Q l3 w :=
  ⟨fun _ => t0 (jud_F hc hn h h7 hX _), fun _ => t0 (jud_F hc hn h h7 hX _)⟩
/-- JUDGE -/
theorem c_jud {K P V NM : Nat → Nat} {m c t : Nat} {S : PS} {w0 w : Mem} {Q : Int32 → Mem → Prop} (hc : 9 ≤ c) (hV : ∀ j, K j = 3 → V j < 2 ^ 20) (h15 : (sM S).length < 15) (hn : sN S 1 1 < 7) (g : GC K P V NM m c w0 t S w) (hX : GX K P V NM m c w0 Q (judP K V NM t S)) : wp_3_readJudge (c + 32) w Q := by
  have jud : ∀ {t2 : Nat} {M : List Nat} {lf : LFt} {w2 : Mem}, GC K P V NM m c w0 t2 (sL S, sN S, sE S, M, lf) w2 → w2 (c + 32) 7 = nI (sN S 1 1) := fun g2 => g2.2.1.2.2.2.2.1.2
  unfold judP at hX
  unfold wp_3_readJudge
  refine c_name hc g h15 (fun kd e w2 f f32 => t0 ?_) (fun e w2 g2 => t1 ?_)
  · rw [e] at hX
    have h7 : w2 (c + 32) 7 = nI (sN S 1 1) := by rw [f32]; exact g.2.1.2.2.2.2.1.2
    exact t0 (jud_F63 hc hn f h7 hX _)
  rw [e] at hX
  simp only [bnd] at hX
  obtain ⟨tk, sm, ht, h3⟩ := g2.1
  have hm := tk.1
  obtain ⟨kd0, q4, _, _⟩ := tk.2.2 (t + 1) ht
  have kl := kd_lt kd0
  have e45 : nI (K (t + 1)) = 45 ↔ K (t + 1) = 45 := nI_eq (b := 45) (by omega) (by omega)
  -- behind the sign
  have go : ∀ (ng : Bool) (t2 : Nat) (l3 : Int32) (w3 : Mem), l3 = (if ng = true then 1 else 0) → GC K P V NM m c w0 t2 (sL S, sN S, sE S, sM S ++ [t], nmF NM t S) w3 →
      GX K P V NM m c w0 Q (bnd (inP K V 0 9 t2 (nmF NM t S)) fun b => bnd (inP K V 0 9 b.1 b.2) fun cc => .ok (cc.1, sL S, up2 (up2 (sN S) 6 (sN S 1 1) (V b.1)) 1 1 (sN S 1 1 + 1), upE (sE S) (sN S 1 1) (if ng = true then -(nI (V t2)) else nI (V t2)), sM S ++ [t], cc.2)) → wp_3_readJudge_b49 (c + 32) Q l3 w3 := by
    intro ng t2 l3 w3 hl g3 hX
    unfold wp_3_readJudge_b49
    refine c_gi (lo := 0) (hi := 9) hc hV (by decide) (by decide) g3 (fun kd e2 w4 f f32 => t0 ?_) (fun lf3 e2 w4 g4 v4 => t1 ?_)
    · have e2' : inP K V 0 9 t2 (nmF NM t S) = .error (kd, t2) := e2
      rw [e2'] at hX
      have h7 : w4 (c + 32) 7 = nI (sN S 1 1) := by rw [f32]; exact jud g3
      exact jud_F63 hc hn f h7 hX _
    have e2' : inP K V 0 9 t2 (nmF NM t S) = .ok (t2 + 1, lf3) := e2
    rw [e2'] at hX
    simp only [bnd] at hX
    -- the lean is known
    have on : wp_3_readJudge_b81 (c + 32) Q 1 (if ng = true then -(nI (V t2)) else nI (V t2)) w4 := by
      unfold wp_3_readJudge_b81
      refine t1 (c_gi (lo := 0) (hi := 9) hc hV (by decide) (by decide) g4 (fun kd e3 w5 f f32 => t0 ?_) (fun lf4 e3 w5 g5 v5 => t1 ?_))
      · have e3' : inP K V 0 9 (t2 + 1) lf3 = .error (kd, t2 + 1) := e3
        rw [e3'] at hX
        have h7 : w5 (c + 32) 7 = nI (sN S 1 1) := by rw [f32]; exact jud g4
        exact jud_F hc hn f h7 hX _
      have e3' : inP K V 0 9 (t2 + 1) lf3 = .ok (t2 + 1 + 1, lf4) := e3
      rw [e3'] at hX
      simp only [bnd] at hX
      have hX2 : ∀ w2, GC K P V NM m c w0 _ _ w2 → Q 1 w2 := hX
      unfold wp_3_readJudge_b102
      rw [v5]
      exact c_addJudge (jud g5) hn (fun w7 f7 k5 k6 k7 => ⟨Or.inr rfl, hX2 w7 (gc_x hc g5 (fun a j q => f7 a j (by simp only [wrC] at q; omega) (by simp only [wrC] at q; omega)) (cx_jud rfl g5.2.1 f7 k5 k6 k7) rfl rfl)⟩)
    subst hl
    unfold wp_3_readJudge_b64
    rw [v4]
    cases ng with
    | true => exact ⟨fun q => absurd q (by decide), fun _ => on⟩
    | false => exact ⟨fun _ => on, fun q => absurd rfl q⟩
  rw [h3, ix_nI (by omega), q4]
  refine ⟨vp_in_nI (by omega) (by decide), fun n45 => ?_, fun q => ?_⟩
  · have n2 : ¬ K (t + 1) = 45 := fun z => n45 (e45.mpr z)
    simp only [if_neg n2] at hX
    exact t1 (t0 (go false (t + 1) 0 w2 rfl g2 hX))
  · have y : K (t + 1) = 45 := e45.mp (Classical.not_not.mp q)
    simp only [if_pos y] at hX
    refine t1 (t1 (c_takes (c := 45) tk ht h3 (by decide) (fun _ c4 => t1 ?_) (fun _ c4 => t0 ?_) (fun y2 => absurd y y2)))
    · rw [show tkP K 45 (t + 1) = .ok (t + 1 + 1) by unfold tkP; rw [if_pos y, if_pos c4]] at hX
      simp only [bnd] at hX
      exact go true (t + 1 + 1) 1 _ rfl (gc_7 hc g2 (f7_st (by omega)) st_eq (tkn_lt tk ht c4 (by omega)) g2.2.2.2.1) hX
    · rw [show tkP K 45 (t + 1) = .error (2, t + 1) by unfold tkP; rw [if_pos y, if_neg c4]] at hX
      have hX2 : ∀ w2, FE P c w0 2 (t + 1) w2 → Q 0 w2 := hX
      have fe : FE P c w0 2 (t + 1) (st (st w2 7 5 (nI 2)) 7 6 (nI (P (t + 1)))) := by
        refine ⟨ftx_7 g2.2.2.2.2 (f7_tr (f7_st (by omega)) (f7_st (by omega))), ?_, st_eq⟩
        rw [st_nj (by decide), st_eq]
      have h7 : (st (st w2 7 5 (nI 2)) 7 6 (nI (P (t + 1)))) (c + 32) 7 = nI (sN S 1 1) := by rw [st_nk (by omega), st_nk (by omega)]; exact jud g2
      exact jud_F63 hc hn fe h7 hX2 _
