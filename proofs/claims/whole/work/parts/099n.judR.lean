theorem rx_jud {s iB c n v : Nat} {x e : Int32} {S : PS} {M : List Nat} {lf : LFt} {w : Mem} (hc : c ≤ 840) (hn : sN S 1 1 = n) (h : RX s iB c S w) (k1 : w 166 (7 * s + n) = e) (k2 : w 167 (7 * s + n) = nI v) :
    RX s iB c (sL S, up2 (up2 (sN S) 6 n v) 1 1 (n + 1), upE (sE S) n e, M, lf) (st (st w 150 20 x) 165 s (nI (n + 1))) := by
  obtain ⟨h1, h2, h3, h4, h5⟩ := h
  have r : ∀ a, a ≠ 150 → a ≠ 165 → st (st w 150 20 x) 165 s (nI (n + 1)) a = w a := fun a p q => by rw [st_ne a q, st_ne a p]
  have n0 : ∀ q x, q = 0 ∨ (2 ≤ q ∧ q < 6) ∨ (q = 1 ∧ x = 0) → up2 (up2 (sN S) 6 n v) 1 1 (n + 1) q x = sN S q x := by
    intro q x hq
    simp only [up2]
    rw [if_neg (by omega), if_neg (by omega)]
  refine ⟨fun b hb => ol_r (Nat.le_refl _) (Nat.le_refl _) hc (congrFun (r 168 (by decide) (by decide)) _) (congrFun (r 169 (by decide) (by decide)) _) (fun b j q1 q2 _ => congrFun (r b (by omega) (by omega)) j) (fun b j q1 _ => congrFun (r b (by omega) (by omega)) j) (h1 b hb), fun y hy => ?_, ⟨?_, st_eq⟩, fun q y hq hy => ?_, fun y hy => ?_⟩
  · rw [r 159 (by decide) (by decide)]
    exact (h2 y hy).trans (congrArg nI (n0 0 y (by omega)).symm)
  · rw [r 160 (by decide) (by decide)]
    exact h3.1.trans (congrArg nI (n0 1 0 (by omega)).symm)
  · have hx2 : y < sN S 1 0 := by have q := n0 1 0 (by omega); have p : y < up2 (up2 (sN S) 6 n v) 1 1 (n + 1) 1 0 := hy; omega
    rw [r (161 + q) (by omega) (by omega)]
    exact (h4 q y hq hx2).trans (congrArg nI (n0 (2 + q) y (by omega)).symm)
  · have hx2 : y < n + 1 := hy
    rw [r 166 (by decide) (by decide), r 167 (by decide) (by decide)]
    show w 166 (7 * s + y) = upE (sE S) n e y ∧ w 167 (7 * s + y) = nI (up2 (up2 (sN S) 6 n v) 1 1 (n + 1) 6 y)
    by_cases q : y = n
    · subst q
      rw [k1, k2]
      refine ⟨(if_pos rfl).symm, ?_⟩
      simp [up2]
    · rw [(h5 y (by omega)).1, (h5 y (by omega)).2]
      refine ⟨(if_neg q).symm, congrArg nI ?_⟩
      simp only [up2]
      rw [if_neg (by omega), if_neg (by omega)]
theorem er_j64 {P : Nat → Nat} {s kd tok : Nat} {x l2 v : Int32} {w0 w : Mem} {wl0 wl : MemL} {Q : Mem → MemL → Prop} (h : ER P s w0 wl0 kd tok w wl) (iv : vp_in x 14) (w166 : wrR s 166 (ix x)) (w167 : wrR s 167 (ix x)) (hX : ∀ w2 wl2, ER P s w0 wl0 kd tok w2 wl2 → Q w2 wl2) : wp_12_tellJudge_b64 Q x l2 x v w wl :=
  er_bst h iv w166 (by decide) (fun w2 h2 => er_bounded h2 (er_bst h2 iv w167 (by decide) (fun w7 h7 => er_must h7 (er_end h7 (hX _ _ h7)))))
theorem er_j38 {P : Nat → Nat} {s kd tok : Nat} {x l2 l3 : Int32} {w0 w : Mem} {wl0 wl : MemL} {Q : Mem → MemL → Prop} (h : ER P s w0 wl0 kd tok w wl) (iv : vp_in x 14) (w166 : wrR s 166 (ix x)) (w167 : wrR s 167 (ix x)) (hX : ∀ w2 wl2, ER P s w0 wl0 kd tok w2 wl2 → Q w2 wl2) : wp_12_tellJudge_b38 Q x l2 l3 w wl :=
  er_bounded h ⟨fun _ => er_j64 h iv w166 w167 hX, fun _ => er_j64 h iv w166 w167 hX⟩
/-- JUDGE in the reference -/
theorem r_jud {K P V NM : Nat → Nat} {M s t : Nat} {S : PS} {w0 w : Mem} {wl0 wl : MemL} {Q : Mem → MemL → Prop} (hV : ∀ j, K j = 3 → V j < 2 ^ 20) (hP : ∀ i j, i < j → j ≤ M → P i < P j) (hP2 : ∀ i, P i < 2 ^ 20) (h15 : (sM S).length < 15) (hn : sN S 1 1 < 7) (hk : ¬ K t = 0) (g : GR K P V NM M s w0 wl0 t S w wl)
    (hX : RGX K P V NM M s w0 wl0 Q (bnd (tkP K (K t) t) fun t1 => bnd (judP K V NM t1 S) fun x => bnd (tkP K 59 x.1) fun t2 => .ok (t2, x.2))) : wp_12_tellJudge w wl Q := by
  have hs : s ≤ 1 := by obtain ⟨_, _, ⟨_, _, a3⟩, _⟩ := g; exact a3
  have h19 : w 150 19 = nI s := by obtain ⟨_, _, _, ⟨⟨_, _, _, _, _, b6⟩, _⟩, _⟩ := g; exact b6
  have h165 : w 165 s = nI (sN S 1 1) := by obtain ⟨_, _, _, _, ⟨_, _, h3, _⟩, _⟩ := g; exact h3.2
  have iv : vp_in (nI (7 * s + sN S 1 1)) 14 := vp_in_nI (by omega) (by decide)
  have ii : ix (nI (7 * s + sN S 1 1)) = 7 * s + sN S 1 1 := ix_nI (by omega)
  have wr : ∀ a, a = 166 ∨ a = 167 → wrR s a (7 * s + sN S 1 1) := fun a p => by simp only [wrR]; omega
  have w166 : wrR s 166 (ix (nI (7 * s + sN S 1 1))) := by rw [ii]; exact wr 166 (by decide)
  have w167 : wrR s 167 (ix (nI (7 * s + sN S 1 1))) := by rw [ii]; exact wr 167 (by decide)
  have gst : ∀ (r : Nat) (x : Int32) (t2 : Nat) (lf : LFt) (w2 : Mem), r < 2 → GR K P V NM M s w0 wl0 t2 (sL S, sN S, sE S, sM S, lf) w2 wl → GR K P V NM M s w0 wl0 t2 (sL S, sN S, sE S, sM S, lf) (st w2 (166 + r) (7 * s + sN S 1 1) x) wl := by
    intro r x t2 lf w2 hr g2
    refine gr_x g2 (fun a j q => ?_) (fun iB c hc hx => rx_sj hc hr x hx) rfl rfl
    simp only [st]
    rw [if_neg (fun z => q ⟨by rw [z.1, z.2]; exact wr _ (by omega), by omega, by omega⟩)]
  unfold wp_12_tellJudge
  rw [h19, ix_nI (by omega), h165, show (7 : Int32) = nI 7 from rfl, pk_mul, nI_add]
  refine ⟨vp_in_nI (by omega) (by decide), fun x2 e2 => ?_⟩
  subst e2
  refine r_named hP hP2 (by omega) g hk (fun kd tok e x w3 h3 => ?_) (fun et e2 y m1 w3 f3 g3 => ?_)
  · unfold judP at hX
    rw [bnd_e2 e] at hX
    exact r_isF (er_13 h3) (t0 (er_j38 h3 iv w166 w167 hX))
  rw [et] at hX
  unfold judP at hX
  simp only [bnd] at hX
  rw [e2] at hX
  simp only [bnd] at hX
  -- behind the sign
  have go : ∀ (ng : Bool) (t2 : Nat) (l3 : Int32) (w6 : Mem), l3 = (if ng = true then 1 else 0) → GR K P V NM M s w0 wl0 t2 (sL S, sN S, sE S, sM S, nmF NM (t + 1) S) w6 wl →
      RGX K P V NM M s w0 wl0 Q (bnd (bnd (inP K V 0 9 t2 (nmF NM (t + 1) S)) fun b => bnd (inP K V 0 9 b.1 b.2) fun cc => .ok (cc.1, sL S, up2 (up2 (sN S) 6 (sN S 1 1) (V b.1)) 1 1 (sN S 1 1 + 1), upE (sE S) (sN S 1 1) (if ng = true then -(nI (V t2)) else nI (V t2)), sM S ++ [t + 1], cc.2)) fun x => bnd (tkP K 59 x.1) fun t2 => .ok (t2, x.2)) → wp_12_tellJudge_b38 Q (nI (7 * s + sN S 1 1)) (nI (t + 1)) l3 w6 wl := by
    intro ng t2 l3 w6 hl g6 hX
    unfold wp_12_tellJudge_b38
    refine r_gi (lo := 0) (hi := 9) hV hP hP2 (by decide) (by decide) g6 (fun kd e x w4 h4 => ?_) (fun lf4 e w4 f4 g4 => ?_)
    · have e' : inP K V 0 9 t2 (nmF NM (t + 1) S) = .error (kd, t2) := e
      rw [e'] at hX
      exact ⟨fun _ => er_j64 h4 iv w166 w167 hX, fun _ => er_j64 h4 iv w166 w167 hX⟩
    have e' : inP K V 0 9 t2 (nmF NM (t + 1) S) = .ok (t2 + 1, lf4) := e
    rw [e'] at hX
    simp only [bnd] at hX
    clear e
    -- the lean is known
    have on : wp_12_tellJudge_b64 Q (nI (7 * s + sN S 1 1)) (nI (t + 1)) (nI (7 * s + sN S 1 1)) (if ng = true then -(nI (V t2)) else nI (V t2)) w4 wl := by
      unfold wp_12_tellJudge_b64
      refine ⟨iv, fun w10 e10 => ?_⟩
      rw [ii] at e10
      have g10 := gst 0 (if ng = true then -(nI (V t2)) else nI (V t2)) _ _ w4 (by decide) g4
      have z10 : w10 166 (7 * s + sN S 1 1) = (if ng = true then -(nI (V t2)) else nI (V t2)) := by subst e10; exact st_eq
      have g10' : GR K P V NM M s w0 wl0 (t2 + 1) (sL S, sN S, sE S, sM S, lf4) w10 wl := by subst e10; exact g10
      clear g10 e10
      refine r_gi (lo := 0) (hi := 9) hV hP hP2 (by decide) (by decide) g10' (fun kd e x w5 h5 => ?_) (fun lf7 e w7 f7 g7 => ⟨iv, fun w25 e25 => ?_⟩)
      · have e' : inP K V 0 9 (t2 + 1) lf4 = .error (kd, t2 + 1) := e
        rw [e'] at hX
        exact er_bst h5 iv w167 (by decide) (fun w25 h25 => er_must h25 (er_end h25 (hX _ _ h25)))
      have e7' : inP K V 0 9 (t2 + 1) lf4 = .ok (t2 + 1 + 1, lf7) := e
      rw [e7'] at hX
      simp only [bnd] at hX
      rw [ii] at e25
      have g25 := gst 1 (nI (V (t2 + 1))) _ _ w7 (by decide) g7
      have z25 : w25 166 (7 * s + sN S 1 1) = (if ng = true then -(nI (V t2)) else nI (V t2)) ∧ w25 167 (7 * s + sN S 1 1) = nI (V (t2 + 1)) := by
        subst e25
        refine ⟨?_, st_eq⟩
        rw [st_nk (by decide), f7 166 (by decide)]
        exact z10
      have g25' : GR K P V NM M s w0 wl0 (t2 + 1 + 1) (sL S, sN S, sE S, sM S, lf7) w25 wl := by subst e25; exact g25
      clear g25 e25 e
      refine gr_must g25' (c := 59) (by decide) (by decide) (by decide) (fun e w26 f26 g26 => ?_) (fun kd e w26 h26 => ?_)
      rotate_left
      · rw [e] at hX
        exact er_end h26 (hX _ _ h26)
      rw [e] at hX
      have hX2 : ∀ w2 wl2, GR K P V NM M s w0 wl0 (t2 + 1 + 1 + 1) _ w2 wl2 → Q w2 wl2 := hX
      have b13 : w26 150 13 = 0 := by obtain ⟨_, _, _, ⟨⟨_, _, b3, _⟩, _⟩, _⟩ := g26; exact b3
      have b19 : w26 150 19 = nI s := by obtain ⟨_, _, _, ⟨⟨_, _, _, _, _, b6⟩, _⟩, _⟩ := g26; exact b6
      have b20 : w26 150 20 = nI (sM S).length := by obtain ⟨_, _, _, _, _, _, ⟨q, _⟩, _⟩ := g26; exact q
      have b165 : w26 165 s = nI (sN S 1 1) := by obtain ⟨_, _, _, _, ⟨_, _, h3, _⟩, _⟩ := g26; exact h3.2
      have m0 : t + 1 < 403 := by obtain ⟨_, _, ⟨q, _⟩, _⟩ := g26; have := q.1; omega
      refine ⟨fun _ => ⟨vp_in_nI (by omega) (by decide), ?_⟩, fun q => absurd (by rw [b13]; decide) q⟩
      rw [b20, ix_nI (by omega), ix_nI (by omega)]
      refine ⟨vp_in_nI (by omega) (by decide), fun v30 e30 w31 e31 => ?_⟩
      rw [nI_1] at e31
      have c19 : w31 150 19 = nI s := by subst e31; rw [st_nj (by decide)]; exact b19
      have c165 : w31 165 s = nI (sN S 1 1) := by subst e31; rw [st_nk (by decide)]; exact b165
      rw [c19, ix_nI (by omega), c165, nI_1]
      refine ⟨vp_in_nI (by omega) (by decide), vp_in_nI (by omega) (by decide), fun w34 e34 => ?_⟩
      subst e34
      subst e31
      subst e30
      refine hX2 _ _ (gr_name (S := (sL S, sN S, sE S, sM S, lf7)) (n0 := t + 1) g26 (fun a j q1 q2 => ?_) ?_ (fun iB c hc hx => rx_jud hc rfl hx ?_ ?_) rfl rfl y m1)
      · simp only [st]
        rw [if_neg (by omega), if_neg (by omega)]
      · rw [st_nk (by decide), st_eq]
      · rw [f26 166 (by decide)]; exact z25.1
      · rw [f26 167 (by decide)]; exact z25.2
    subst hl
    cases ng with
    | true => exact ⟨fun q => absurd q (by decide), fun _ => on⟩
    | false => exact ⟨fun _ => on, fun q => absurd rfl q⟩
  have g30 := g3
  obtain ⟨_, _, ⟨tk, ht, _⟩, ⟨⟨b11, _, b13, _⟩, _⟩, _⟩ := g3
  refine r_is tk ht b11 b13 (c := 45) (by decide) (by decide) (fun y45 => t1 ?_) (fun n45 => t0 ?_)
  · simp only [if_pos y45] at hX
    refine gr_goes g30 (by rw [y45]; decide) (fun c4 w4 f4 g4 => ?_) (fun c4 w4 h4 => ?_)
    · rw [show tkP K 45 (t + 2) = .ok (t + 2 + 1) by unfold tkP; rw [if_pos y45, if_pos c4]] at hX
      simp only [bnd] at hX
      exact go true (t + 2 + 1) 1 w4 rfl g4 hX
    · rw [show tkP K 45 (t + 2) = .error (2, t + 2) by unfold tkP; rw [if_pos y45, if_neg c4]] at hX
      exact er_j38 h4 iv w166 w167 hX
  · simp only [if_neg n45] at hX
    exact go false (t + 2) 0 w3 rfl g30 hX
