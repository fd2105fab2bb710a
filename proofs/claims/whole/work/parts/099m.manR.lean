theorem er_end {P : Nat → Nat} {s kd tok : Nat} {w0 w : Mem} {wl0 wl : MemL} {A B : Prop} (h : ER P s w0 wl0 kd tok w wl) (K : B) : (w 150 13 ≤ 0 → A) ∧ (¬ w 150 13 ≤ 0 → B) := by
  have hk := h.2.2.2.2.2.1
  rw [h.2.2.1]
  exact ⟨fun q => absurd ((nI_leI (b := 0) (by omega) (by omega)).mp q) (by omega), fun _ => K⟩
theorem rx_st {s iB c r v : Nat} {S : PS} {w : Mem} (hs : s ≤ 1) (hc : c ≤ 840) (hr : r < 4) (hn : sN S 1 0 < 8) (x : Int32) (h : RX s iB c S w) : RX s iB c S (st w (161 + r) (8 * s + sN S 1 0) x) := by
  obtain ⟨h1, h2, h3, h4, h5⟩ := h
  have rr : ∀ a, ¬ (161 ≤ a ∧ a ≤ 164) → st w (161 + r) (8 * s + sN S 1 0) x a = w a := fun a q => st_ne a (by omega)
  refine ⟨fun a ha => ol_r (Nat.le_refl _) (Nat.le_refl _) hc (congrFun (rr 168 (by decide)) _) (congrFun (rr 169 (by decide)) _) (fun b j q1 q2 _ => congrFun (rr b (by omega)) j) (fun b j q1 _ => congrFun (rr b (by omega)) j) (h1 a ha), ?_, ?_, fun q a hq ha => ?_, ?_⟩
  · rw [rr 159 (by decide)]; exact h2
  · rw [rr 160 (by decide), rr 165 (by decide)]; exact h3
  · rw [show st w (161 + r) (8 * s + sN S 1 0) x (161 + q) (8 * s + a) = w (161 + q) (8 * s + a) from st_nj (by omega)]
    exact h4 q a hq ha
  · rw [rr 166 (by decide), rr 167 (by decide)]; exact h5
theorem rx_sj {s iB c r : Nat} {S : PS} {w : Mem} (hc : c ≤ 840) (hr : r < 2) (x : Int32) (h : RX s iB c S w) : RX s iB c S (st w (166 + r) (7 * s + sN S 1 1) x) := by
  obtain ⟨h1, h2, h3, h4, h5⟩ := h
  have rr : ∀ a, ¬ (166 ≤ a ∧ a ≤ 167) → st w (166 + r) (7 * s + sN S 1 1) x a = w a := fun a q => st_ne a (by omega)
  refine ⟨fun a ha => ol_r (Nat.le_refl _) (Nat.le_refl _) hc (congrFun (rr 168 (by decide)) _) (congrFun (rr 169 (by decide)) _) (fun b j q1 q2 _ => congrFun (rr b (by omega)) j) (fun b j q1 _ => congrFun (rr b (by omega)) j) (h1 a ha), ?_, ?_, fun q a hq ha => ?_, fun j hj => ?_⟩
  · rw [rr 159 (by decide)]; exact h2
  · rw [rr 160 (by decide), rr 165 (by decide)]; exact h3
  · rw [rr (161 + q) (by omega)]
    exact h4 q a hq ha
  · rw [show st w (166 + r) (7 * s + sN S 1 1) x 166 (7 * s + j) = w 166 (7 * s + j) from st_nj (by omega), show st w (166 + r) (7 * s + sN S 1 1) x 167 (7 * s + j) = w 167 (7 * s + j) from st_nj (by omega)]
    exact h5 j hj
/-- a name is kept behind its TELL -/
theorem gr_name {K P V NM : Nat → Nat} {M s t n0 : Nat} {S S2 : PS} {w0 w w2 : Mem} {wl0 wl : MemL} (h : GR K P V NM M s w0 wl0 t S w wl) (f : ∀ a j, ¬ (a = 150 ∧ j = 20) → ¬ ((a = 160 ∨ a = 165) ∧ j = s) → w2 a j = w a j) (h20 : w2 150 20 = nI ((sM S).length + 1)) (hx : ∀ iB c, c ≤ 840 → RX s iB c S w → RX s iB c S2 w2) (hm : sM S2 = sM S ++ [n0]) (hf : sF S2 = sF S) (hk : K n0 = 2) (hn : n0 ≤ M) : GR K P V NM M s w0 wl0 t S2 w2 (stL wl 158 (sM S).length (wl 156 n0)) := by
  obtain ⟨iB, c, ⟨a1, a2, a3⟩, ⟨⟨b1, b2, b3, b4, b5, b6⟩, d1, d2, d3, d4⟩, e, ⟨lf, lt⟩, ⟨g1, g2, g3, g4⟩, l1, l2⟩ := h
  have h400 := a1.1
  have r : ∀ j, j ≠ 20 → w2 150 j = w 150 j := fun j q => f 150 j (by omega) (by omega)
  refine ⟨iB, c, ⟨tkm_i a1 (fun a q1 q2 => funext (fun j => f a j (by omega) (by omega))), a2, a3⟩, ⟨⟨(r 11 (by omega)).trans b1, (r 12 (by omega)).trans b2, (r 13 (by omega)).trans b3, (r 33 (by omega)).trans b4, (r 39 (by omega)).trans b5, (r 19 (by omega)).trans b6⟩, d1, d2, d3, d4⟩, hx iB c (by omega) e, ⟨?_, ?_⟩, ⟨?_, ?_, ?_, fun j hj hk2 => ?_⟩, frx_tr l1 (fun a j q => f a j (by simp only [wrR] at q; omega) (by simp only [wrR] at q; omega)), fun a ha => ?_⟩
  · rw [hf]
    unfold LFr
    rw [r 15 (by omega), r 16 (by omega)]
    exact lf
  · rw [hf]; exact lt
  · rw [hm, List.length_append]; exact h20
  · rw [hm]
    intro i x hx2
    rcases Nat.lt_or_ge i (sM S).length with q | q
    · rw [List.getElem?_append_left q] at hx2
      rw [show stL wl 158 (sM S).length (wl 156 n0) 158 i = wl 158 i by simp [stL]; intro z; omega]
      exact g2 i x hx2
    · rw [List.getElem?_append_right q] at hx2
      have i0 : i - (sM S).length = 0 := by
        rcases hh : i - (sM S).length with _ | z
        · rfl
        · rw [hh] at hx2
          simp at hx2
      rw [i0] at hx2
      have nx : n0 = x := by simpa using hx2
      rw [show i = (sM S).length by omega, show stL wl 158 (sM S).length (wl 156 n0) 158 (sM S).length = wl 156 n0 by simp [stL], ← nx]
      exact (g4 n0 hn hk).1
  · rw [hm]
    intro x hx2
    rcases List.mem_append.mp hx2 with q | q
    · exact g3 x q
    · rw [List.mem_singleton.mp q]
      exact ⟨hn, hk⟩
  · rw [show stL wl 158 (sM S).length (wl 156 n0) 156 j = wl 156 j by simp [stL]]
    exact g4 j hj hk2
  · rw [show stL wl 158 (sM S).length (wl 156 n0) a = wl a from funext (fun j => by simp [stL, ha])]
    exact l2 a ha
theorem bnd_e2 {α β : Type} {A : Except (Nat × Nat) Nat} {B : Nat → Except (Nat × Nat) Nat} {e : Nat × Nat} (h : (bnd A fun t1 => B t1) = .error e) (F : Nat → Nat → Except (Nat × Nat) α) (G : α → Except (Nat × Nat) β) : (bnd A fun t1 => bnd (bnd (B t1) (F t1)) G) = .error e := by
  cases A with
  | error y => exact congrArg _ (Except.error.inj h)
  | ok t1 =>
    have h2 : B t1 = .error e := h
    show bnd (bnd (B t1) (F t1)) G = .error e
    rw [h2]
    rfl
theorem rx_man {s iB c n v1 v2 v3 v4 : Nat} {x : Int32} {S : PS} {M : List Nat} {lf : LFt} {w : Mem} (hs : s ≤ 1) (hc : c ≤ 840) (hn : sN S 1 0 = n) (hn8 : n < 8) (h : RX s iB c S w) (k1 : w 161 (8 * s + n) = nI v1) (k2 : w 162 (8 * s + n) = nI v2) (k3 : w 163 (8 * s + n) = nI v3) (k4 : w 164 (8 * s + n) = nI v4) :
    RX s iB c (sL S, up2 (up2 (up2 (up2 (up2 (sN S) 2 n v1) 3 n v2) 4 n v3) 5 n v4) 1 0 (n + 1), sE S, M, lf) (st (st w 150 20 x) 160 s (nI (n + 1))) := by
  obtain ⟨h1, h2, h3, h4, h5⟩ := h
  have r : ∀ a, a ≠ 150 → a ≠ 160 → st (st w 150 20 x) 160 s (nI (n + 1)) a = w a := fun a p q => by rw [st_ne a q, st_ne a p]
  have n0 : ∀ q x, q = 0 ∨ q = 6 ∨ (q = 1 ∧ x = 1) → up2 (up2 (up2 (up2 (up2 (sN S) 2 n v1) 3 n v2) 4 n v3) 5 n v4) 1 0 (n + 1) q x = sN S q x := by
    intro q x hq
    simp only [up2]
    rw [if_neg (by omega), if_neg (by omega), if_neg (by omega), if_neg (by omega), if_neg (by omega)]
  refine ⟨fun b hb => ol_r (Nat.le_refl _) (Nat.le_refl _) hc (congrFun (r 168 (by decide) (by decide)) _) (congrFun (r 169 (by decide) (by decide)) _) (fun b j q1 q2 _ => congrFun (r b (by omega) (by omega)) j) (fun b j q1 _ => congrFun (r b (by omega) (by omega)) j) (h1 b hb), fun y hy => ?_, ⟨st_eq, ?_⟩, fun q y hq hy => ?_, fun y hy => ?_⟩
  · rw [r 159 (by decide) (by decide)]
    exact (h2 y hy).trans (congrArg nI (n0 0 y (by omega)).symm)
  · rw [r 165 (by decide) (by decide)]
    exact h3.2.trans (congrArg nI (n0 1 1 (by omega)).symm)
  · have hx2 : y < n + 1 := hy
    rw [r (161 + q) (by omega) (by omega)]
    show w (161 + q) (8 * s + y) = nI (up2 (up2 (up2 (up2 (up2 (sN S) 2 n v1) 3 n v2) 4 n v3) 5 n v4) 1 0 (n + 1) (2 + q) y)
    by_cases e : y = n
    · subst e
      rcases (by omega : q = 0 ∨ q = 1 ∨ q = 2 ∨ q = 3) with z | z | z | z <;> subst z
      · rw [show 161 + 0 = 161 from rfl, k1]; simp [up2]
      · rw [show 161 + 1 = 162 from rfl, k2]; simp [up2]
      · rw [show 161 + 2 = 163 from rfl, k3]; simp [up2]
      · rw [show 161 + 3 = 164 from rfl, k4]; simp [up2]
    · rw [h4 q y hq (by omega)]
      simp only [up2]
      rw [if_neg (by omega), if_neg (by omega), if_neg (by omega), if_neg (by omega), if_neg (by omega)]
  · have hx2 : y < sN S 1 1 := by have q := n0 1 1 (by omega); have p : y < up2 (up2 (up2 (up2 (up2 (sN S) 2 n v1) 3 n v2) 4 n v3) 5 n v4) 1 0 (n + 1) 1 1 := hy; omega
    rw [r 166 (by decide) (by decide), r 167 (by decide) (by decide)]
    exact ⟨(h5 y hx2).1, (h5 y hx2).2.trans (congrArg nI (n0 6 y (by omega)).symm)⟩
theorem er_bst {P : Nat → Nat} {s kd tok a n : Nat} {x v : Int32} {w0 w : Mem} {wl0 wl : MemL} {R : Mem → Prop} (h : ER P s w0 wl0 kd tok w wl) (iv : vp_in x n) (hw : wrR s a (ix x)) (ha : a ≠ 150) (K : ∀ w2, ER P s w0 wl0 kd tok w2 wl → R w2) : vp_in x n ∧ ∀ w2 : Mem, w2 = st w a (ix x) v → R w2 := ⟨iv, fun w2 e => K w2 (by subst e; exact er_st h hw ha)⟩
/-- MAN in the reference -/
theorem r_man {K P V NM : Nat → Nat} {M s t : Nat} {S : PS} {w0 w : Mem} {wl0 wl : MemL} {Q : Mem → MemL → Prop} (hV : ∀ j, K j = 3 → V j < 2 ^ 20) (hP : ∀ i j, i < j → j ≤ M → P i < P j) (hP2 : ∀ i, P i < 2 ^ 20) (h15 : (sM S).length < 15) (hn : sN S 1 0 < 8) (hk : ¬ K t = 0) (g : GR K P V NM M s w0 wl0 t S w wl)
    (hX : RGX K P V NM M s w0 wl0 Q (bnd (tkP K (K t) t) fun t1 => bnd (manP K V NM t1 S) fun x => bnd (tkP K 59 x.1) fun t2 => .ok (t2, x.2))) : wp_12_tellMan w wl Q := by
  have hs : s ≤ 1 := by obtain ⟨_, _, ⟨_, _, a3⟩, _⟩ := g; exact a3
  have h19 : w 150 19 = nI s := by obtain ⟨_, _, _, ⟨⟨_, _, _, _, _, b6⟩, _⟩, _⟩ := g; exact b6
  have h160 : w 160 s = nI (sN S 1 0) := by obtain ⟨_, _, _, _, ⟨_, _, h3, _⟩, _⟩ := g; exact h3.1
  have iv : vp_in (nI (8 * s + sN S 1 0)) 16 := vp_in_nI (by omega) (by decide)
  have ii : ix (nI (8 * s + sN S 1 0)) = 8 * s + sN S 1 0 := ix_nI (by omega)
  have wr : ∀ a, 161 ≤ a → a ≤ 164 → wrR s a (8 * s + sN S 1 0) := fun a p q => by simp only [wrR]; omega
  have w161 : wrR s 161 (ix (nI (8 * s + sN S 1 0))) := by rw [ii]; exact wr 161 (by decide) (by decide)
  have w162 : wrR s 162 (ix (nI (8 * s + sN S 1 0))) := by rw [ii]; exact wr 162 (by decide) (by decide)
  have w163 : wrR s 163 (ix (nI (8 * s + sN S 1 0))) := by rw [ii]; exact wr 163 (by decide) (by decide)
  have w164 : wrR s 164 (ix (nI (8 * s + sN S 1 0))) := by rw [ii]; exact wr 164 (by decide) (by decide)
  unfold wp_12_tellMan
  rw [h19, ix_nI (by omega), h160, show (8 : Int32) = nI 8 from rfl, pk_mul, nI_add]
  refine ⟨vp_in_nI (by omega) (by decide), fun x2 e2 => ?_⟩
  subst e2
  have gst : ∀ (r : Nat) (x : Int32) (t2 : Nat) (lf : LFt) (w2 : Mem), r < 4 → GR K P V NM M s w0 wl0 t2 (sL S, sN S, sE S, sM S, lf) w2 wl → GR K P V NM M s w0 wl0 t2 (sL S, sN S, sE S, sM S, lf) (st w2 (161 + r) (8 * s + sN S 1 0) x) wl := by
    intro r x t2 lf w2 hr g2
    refine gr_x g2 (fun a j q => ?_) (fun iB c hc hx => rx_st (v := 0) hs hc hr hn x hx) rfl rfl
    simp only [st]
    rw [if_neg (fun z => q ⟨by rw [z.1, z.2]; exact wr _ (by omega) (by omega), by omega, by omega⟩)]
  refine r_named hP hP2 (by omega) g hk (fun kd tok e x w3 h3 => ?_) (fun et e2 y m1 w3 f3 g3 => ?_)
  · unfold manP at hX
    rw [bnd_e2 e] at hX
    exact er_bounded h3 (er_bst h3 iv w161 (by decide) (fun w10 h10 => er_bounded h10 (er_bst h10 iv w162 (by decide) (fun w15 h15 => er_bounded h15 (er_bst h15 iv w163 (by decide) (fun w20 h20 => er_bounded h20 (er_bst h20 iv w164 (by decide) (fun w25 h25 => er_must h25 (er_end h25 (hX _ _ h25))))))))))
  rw [et] at hX
  unfold manP at hX
  simp only [bnd] at hX
  rw [e2] at hX
  simp only [bnd] at hX
  -- the four numbers
  refine r_gi (lo := 30) (hi := 120) hV hP hP2 (by decide) (by decide) g3 (fun kd e x w4 h4 => ?_) (fun lf4 e w4 f4 g4 => ⟨iv, fun w10 e10 => ?_⟩)
  · have e' : inP K V 30 120 (t + 2) (nmF NM (t + 1) S) = .error (kd, t + 2) := e
    rw [e'] at hX
    exact (er_bst h4 iv w161 (by decide) (fun w10 h10 => er_bounded h10 (er_bst h10 iv w162 (by decide) (fun w15 h15 => er_bounded h15 (er_bst h15 iv w163 (by decide) (fun w20 h20 => er_bounded h20 (er_bst h20 iv w164 (by decide) (fun w25 h25 => er_must h25 (er_end h25 (hX _ _ h25))))))))))
  have e4' : inP K V 30 120 (t + 2) (nmF NM (t + 1) S) = .ok (t + 2 + 1, lf4) := e
  rw [e4'] at hX
  simp only [bnd] at hX
  rw [ii] at e10
  have g10 := gst 0 (nI (V (t + 2))) _ _ w4 (by decide) g4
  have z10 : w10 161 (8 * s + sN S 1 0) = nI (V (t + 2)) := by subst e10; exact st_eq
  have g10' : GR K P V NM M s w0 wl0 (t + 2 + 1) (sL S, sN S, sE S, sM S, lf4) w10 wl := by subst e10; exact g10
  clear g10 e10 e
  refine r_gi (lo := 100) (hi := 300) hV hP hP2 (by decide) (by decide) g10' (fun kd e x w4 h4 => ?_) (fun lf5 e w5 f5 g5 => ⟨iv, fun w15 e15 => ?_⟩)
  · have e' : inP K V 100 300 (t + 2 + 1) lf4 = .error (kd, t + 2 + 1) := e
    rw [e'] at hX
    exact (er_bst h4 iv w162 (by decide) (fun w15 h15 => er_bounded h15 (er_bst h15 iv w163 (by decide) (fun w20 h20 => er_bounded h20 (er_bst h20 iv w164 (by decide) (fun w25 h25 => er_must h25 (er_end h25 (hX _ _ h25))))))))
  have e5' : inP K V 100 300 (t + 2 + 1) lf4 = .ok (t + 2 + 1 + 1, lf5) := e
  rw [e5'] at hX
  simp only [bnd] at hX
  rw [ii] at e15
  have g15 := gst 1 (nI (V (t + 2 + 1))) _ _ w5 (by decide) g5
  have z15 : w15 161 (8 * s + sN S 1 0) = nI (V (t + 2)) ∧ w15 162 (8 * s + sN S 1 0) = nI (V (t + 2 + 1)) := by
    subst e15
    refine ⟨?_, st_eq⟩
    rw [st_nk (by decide), f5 161 (by decide)]
    exact z10
  have g15' : GR K P V NM M s w0 wl0 (t + 2 + 1 + 1) (sL S, sN S, sE S, sM S, lf5) w15 wl := by subst e15; exact g15
  clear g15 e15 e
  refine r_gi (lo := 0) (hi := 9) hV hP hP2 (by decide) (by decide) g15' (fun kd e x w4 h4 => ?_) (fun lf6 e w6 f6 g6 => ⟨iv, fun w20 e20 => ?_⟩)
  · have e' : inP K V 0 9 (t + 2 + 1 + 1) lf5 = .error (kd, t + 2 + 1 + 1) := e
    rw [e'] at hX
    exact (er_bst h4 iv w163 (by decide) (fun w20 h20 => er_bounded h20 (er_bst h20 iv w164 (by decide) (fun w25 h25 => er_must h25 (er_end h25 (hX _ _ h25))))))
  have e6' : inP K V 0 9 (t + 2 + 1 + 1) lf5 = .ok (t + 2 + 1 + 1 + 1, lf6) := e
  rw [e6'] at hX
  simp only [bnd] at hX
  rw [ii] at e20
  have g20 := gst 2 (nI (V (t + 2 + 1 + 1))) _ _ w6 (by decide) g6
  have z20 : w20 161 (8 * s + sN S 1 0) = nI (V (t + 2)) ∧ w20 162 (8 * s + sN S 1 0) = nI (V (t + 2 + 1)) ∧ w20 163 (8 * s + sN S 1 0) = nI (V (t + 2 + 1 + 1)) := by
    subst e20
    refine ⟨?_, ?_, st_eq⟩
    · rw [st_nk (by decide), f6 161 (by decide)]
      exact z15.1
    · rw [st_nk (by decide), f6 162 (by decide)]
      exact z15.2
  have g20' : GR K P V NM M s w0 wl0 (t + 2 + 1 + 1 + 1) (sL S, sN S, sE S, sM S, lf6) w20 wl := by subst e20; exact g20
  clear g20 e20 e
  refine r_gi (lo := 0) (hi := 9) hV hP hP2 (by decide) (by decide) g20' (fun kd e x w4 h4 => ?_) (fun lf7 e w7 f7 g7 => ⟨iv, fun w25 e25 => ?_⟩)
  · have e' : inP K V 0 9 (t + 2 + 1 + 1 + 1) lf6 = .error (kd, t + 2 + 1 + 1 + 1) := e
    rw [e'] at hX
    exact (er_bst h4 iv w164 (by decide) (fun w25 h25 => er_must h25 (er_end h25 (hX _ _ h25))))
  have e7' : inP K V 0 9 (t + 2 + 1 + 1 + 1) lf6 = .ok (t + 2 + 1 + 1 + 1 + 1, lf7) := e
  rw [e7'] at hX
  simp only [bnd] at hX
  rw [ii] at e25
  have g25 := gst 3 (nI (V (t + 2 + 1 + 1 + 1))) _ _ w7 (by decide) g7
  have z25 : w25 161 (8 * s + sN S 1 0) = nI (V (t + 2)) ∧ w25 162 (8 * s + sN S 1 0) = nI (V (t + 2 + 1)) ∧ w25 163 (8 * s + sN S 1 0) = nI (V (t + 2 + 1 + 1)) ∧ w25 164 (8 * s + sN S 1 0) = nI (V (t + 2 + 1 + 1 + 1)) := by
    subst e25
    refine ⟨?_, ?_, ?_, st_eq⟩
    · rw [st_nk (by decide), f7 161 (by decide)]
      exact z20.1
    · rw [st_nk (by decide), f7 162 (by decide)]
      exact z20.2.1
    · rw [st_nk (by decide), f7 163 (by decide)]
      exact z20.2.2
  have g25' : GR K P V NM M s w0 wl0 (t + 2 + 1 + 1 + 1 + 1) (sL S, sN S, sE S, sM S, lf7) w25 wl := by subst e25; exact g25
  clear g25 e25 e
  refine gr_must g25' (c := 59) (by decide) (by decide) (by decide) (fun e w26 f26 g26 => ?_) (fun kd e w26 h26 => ?_)
  rotate_left
  · rw [e] at hX
    exact er_end h26 (hX _ _ h26)
  rw [e] at hX
  have hX2 : ∀ w2 wl2, GR K P V NM M s w0 wl0 (t + 2 + 1 + 1 + 1 + 1 + 1) _ w2 wl2 → Q w2 wl2 := hX
  have b13 : w26 150 13 = 0 := by obtain ⟨_, _, _, ⟨⟨_, _, b3, _⟩, _⟩, _⟩ := g26; exact b3
  have b19 : w26 150 19 = nI s := by obtain ⟨_, _, _, ⟨⟨_, _, _, _, _, b6⟩, _⟩, _⟩ := g26; exact b6
  have b20 : w26 150 20 = nI (sM S).length := by obtain ⟨_, _, _, _, _, _, ⟨q, _⟩, _⟩ := g26; exact q
  have b160 : w26 160 s = nI (sN S 1 0) := by obtain ⟨_, _, _, _, ⟨_, _, h3, _⟩, _⟩ := g26; exact h3.1
  have m0 : t + 1 < 403 := by obtain ⟨_, _, ⟨q, _⟩, _⟩ := g26; have := q.1; omega
  refine ⟨fun _ => ⟨vp_in_nI (by omega) (by decide), ?_⟩, fun q => absurd (by rw [b13]; decide) q⟩
  rw [b20, ix_nI (by omega), ix_nI (by omega)]
  refine ⟨vp_in_nI (by omega) (by decide), fun v30 e30 w31 e31 => ?_⟩
  rw [nI_1] at e31
  have c19 : w31 150 19 = nI s := by subst e31; rw [st_nj (by decide)]; exact b19
  have c160 : w31 160 s = nI (sN S 1 0) := by subst e31; rw [st_nk (by decide)]; exact b160
  rw [c19, ix_nI (by omega), c160, nI_1]
  refine ⟨vp_in_nI (by omega) (by decide), vp_in_nI (by omega) (by decide), fun w34 e34 => ?_⟩
  subst e34
  subst e31
  subst e30
  refine hX2 _ _ (gr_name (S := (sL S, sN S, sE S, sM S, lf7)) (n0 := t + 1) g26 (fun a j q1 q2 => ?_) ?_ (fun iB c hc hx => rx_man hs hc rfl hn hx ?_ ?_ ?_ ?_) rfl rfl y m1)
  · simp only [st]
    rw [if_neg (by omega), if_neg (by omega)]
  · rw [st_nk (by decide), st_eq]
  · rw [f26 161 (by decide)]; exact z25.1
  · rw [f26 162 (by decide)]; exact z25.2.1
  · rw [f26 163 (by decide)]; exact z25.2.2.1
  · rw [f26 164 (by decide)]; exact z25.2.2.2
