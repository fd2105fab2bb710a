theorem gr_goes {K P V NM : Nat → Nat} {M s t : Nat} {S : PS} {w0 w : Mem} {wl0 wl : MemL} {Q : Mem → MemL → Prop} (g : GR K P V NM M s w0 wl0 t S w wl) (hk : ¬ K t = 0) (KO : t < 400 → ∀ w2, (∀ a, a ≠ 150 → w2 a = w a) → GR K P V NM M s w0 wl0 (t + 1) S w2 wl → Q w2 wl) (KE : ¬ t < 400 → ∀ w2, ER P s w0 wl0 2 t w2 wl → Q w2 wl) : wp_12_goesOn w wl Q := by
  have g0 := g
  obtain ⟨iB, c, ⟨a1, a2, a3⟩, ⟨⟨b1, b2, b3, b4, b5, b6⟩, d1, d2, d3, d4⟩, e, ⟨lf, lt⟩, _, _, _⟩ := g
  have hm := a1.1
  refine r_goes (by omega) b1 (fun c4 => ?_) (fun c4 => ?_)
  · refine KO c4 _ (fun a q => st_ne a q) (gr_11 g0 (fun a j q => ?_) st_eq (by omega) (tkm_lt a1 a2 c4 hk) ?_ (fun k0 t0 q => by have := lt k0 t0 q; omega))
    · simp only [st]
      rw [if_neg (by omega)]
    · unfold LFr
      rw [st_nj (by decide), st_nj (by decide)]
      exact lf
  · refine r_fail (by omega) b1 b3 ?_
    rw [(a1.2.2 t a2).2.2.1]
    refine KE (by omega) _ (er_new g0 (Or.inr rfl) (fun a j q => ?_) ?_ (by omega) ?_ st_eq)
    · simp only [st]
      rw [if_neg (by omega), if_neg (by omega)]
    · rw [st_nj (by decide), st_nj (by decide)]; exact b1
    · rw [st_nj (by decide), st_eq]
theorem gr_must {K P V NM : Nat → Nat} {M s t c : Nat} {r : Int32} {S : PS} {w0 w : Mem} {wl0 wl : MemL} {Q : Mem → MemL → Prop} (g : GR K P V NM M s w0 wl0 t S w wl) (hc : kdB c = true) (hc0 : 0 < c) (hr : r = nI (rcF c)) (KO : tkP K c t = .ok (t + 1) → ∀ w2, (∀ a, a ≠ 150 → w2 a = w a) → GR K P V NM M s w0 wl0 (t + 1) S w2 wl → Q w2 wl) (KE : ∀ kd, tkP K c t = .error (kd, t) → ∀ w2, ER P s w0 wl0 kd t w2 wl → Q w2 wl) : wp_12_must r w wl Q := by
  have g0 := g
  obtain ⟨iB, cc, ⟨a1, a2, a3⟩, ⟨⟨b1, b2, b3, b4, b5, b6⟩, d1, d2, d3, d4⟩, e, ⟨lf, lt⟩, _, _, _⟩ := g
  have hm := a1.1
  refine r_must a1 a2 b1 b3 hc hc0 hr (fun kd hk er => ?_) (fun er c4 m1 => ?_)
  · refine KE kd er _ (er_new g0 hk (fun a j q => ?_) ?_ (by omega) ?_ st_eq)
    · simp only [st]
      rw [if_neg (by omega), if_neg (by omega)]
    · rw [st_nj (by decide), st_nj (by decide)]; exact b1
    · rw [st_nj (by decide), st_eq]
  · refine KO er _ (fun a q => st_ne a q) (gr_11 g0 (fun a j q => ?_) st_eq (by omega) m1 ?_ (fun k0 t0 q => by have := lt k0 t0 q; omega))
    · simp only [st]
      rw [if_neg (by omega)]
    · unfold LFr
      rw [st_nj (by decide), st_nj (by decide)]
      exact lf
/-- a cell of the side is written -/
theorem gr_x {K P V NM : Nat → Nat} {M s t : Nat} {S S2 : PS} {w0 w w2 : Mem} {wl0 wl : MemL} (h : GR K P V NM M s w0 wl0 t S w wl) (f : ∀ a j, ¬ (wrR s a j ∧ 159 ≤ a ∧ a ≤ 169) → w2 a j = w a j) (hx : ∀ iB c, c ≤ 840 → RX s iB c S w → RX s iB c S2 w2) (hm : sM S2 = sM S) (hf : sF S2 = sF S) : GR K P V NM M s w0 wl0 t S2 w2 wl := by
  obtain ⟨iB, c, ⟨a1, a2, a3⟩, ⟨⟨b1, b2, b3, b4, b5, b6⟩, d1, d2, d3, d4⟩, e, ⟨lf, lt⟩, ⟨g1, g2, g3, g4⟩, l1, l2⟩ := h
  have h400 := a1.1
  have r : ∀ a j, a < 159 → w2 a j = w a j := fun a j q => f a j (fun z => by omega)
  refine ⟨iB, c, ⟨tkm_i a1 (fun a q1 q2 => funext (fun j => r a j (by omega))), a2, a3⟩, ⟨⟨(r 150 11 (by omega)).trans b1, (r 150 12 (by omega)).trans b2, (r 150 13 (by omega)).trans b3, (r 150 33 (by omega)).trans b4, (r 150 39 (by omega)).trans b5, (r 150 19 (by omega)).trans b6⟩, d1, d2, d3, d4⟩, hx iB c (by omega) e, ⟨?_, ?_⟩, ⟨?_, ?_, ?_, g4⟩, frx_tr l1 (fun a j q => f a j (fun z => q z.1)), l2⟩
  · rw [hf]
    unfold LFr
    rw [r 150 15 (by omega), r 150 16 (by omega)]
    exact lf
  · rw [hf]; exact lt
  · rw [hm, r 150 20 (by omega)]; exact g1
  · rw [hm]; exact g2
  · rw [hm]; exact g3
theorem rx_num {s iB c k v : Nat} {S : PS} {w : Mem} (hk : k < 16) (hc : c ≤ 840) (h : RX s iB c S w) : RX s iB c (sL S, up2 (sN S) 0 k v, sE S, sM S, sF S) (st w 159 (20 * s + k) (nI v)) := by
  obtain ⟨h1, h2, h3, h4, h5⟩ := h
  have r : ∀ a, a ≠ 159 → st w 159 (20 * s + k) (nI v) a = w a := fun a q => st_ne a q
  have n1 : ∀ q x, q ≠ 0 → up2 (sN S) 0 k v q x = sN S q x := fun q x hq => if_neg (by omega)
  refine ⟨fun a ha => ol_r (Nat.le_refl _) (Nat.le_refl _) hc (congrFun (r 168 (by decide)) _) (congrFun (r 169 (by decide)) _) (fun b j q1 q2 _ => congrFun (r b (by omega)) j) (fun b j q1 _ => congrFun (r b (by omega)) j) (h1 a ha), fun x hx => ?_, ⟨?_, ?_⟩, fun q x hq hx => ?_, fun x hx => ?_⟩
  · show st w 159 (20 * s + k) (nI v) 159 (20 * s + x) = nI (up2 (sN S) 0 k v 0 x)
    by_cases e : x = k
    · subst e
      rw [st_eq]
      exact congrArg nI (if_pos ⟨rfl, rfl⟩).symm
    · rw [st_nj (by omega), h2 x hx]
      exact congrArg nI (if_neg (by omega)).symm
  · rw [r 160 (by decide)]
    exact h3.1.trans (congrArg nI (n1 1 0 (by decide)).symm)
  · rw [r 165 (by decide)]
    exact h3.2.trans (congrArg nI (n1 1 1 (by decide)).symm)
  · have hx2 : x < sN S 1 0 := by have := n1 1 0 (by decide); have p : x < up2 (sN S) 0 k v 1 0 := hx; omega
    rw [r (161 + q) (by omega)]
    exact (h4 q x hq hx2).trans (congrArg nI (n1 (2 + q) x (by omega)).symm)
  · have hx2 : x < sN S 1 1 := by have := n1 1 1 (by decide); have p : x < up2 (sN S) 0 k v 1 1 := hx; omega
    rw [r 166 (by decide), r 167 (by decide)]
    exact ⟨(h5 x hx2).1, (h5 x hx2).2.trans (congrArg nI (n1 6 x (by decide)).symm)⟩
theorem r_num {K P V NM : Nat → Nat} {M s t k lo hi : Nat} {S : PS} {w0 w : Mem} {wl0 wl : MemL} {Q : Mem → MemL → Prop} (hV : ∀ j, K j = 3 → V j < 2 ^ 20) (hP : ∀ i j, i < j → j ≤ M → P i < P j) (hP2 : ∀ i, P i < 2 ^ 20) (hk : k < 16) (hlo : lo < 2 ^ 20) (hhi : hi < 2 ^ 20) (g : GR K P V NM M s w0 wl0 t S w wl)
    (KE : ∀ kd, inP K V lo hi t (sF S) = .error (kd, t) → ∀ w2, ER P s w0 wl0 kd t w2 wl → Q w2 wl)
    (KO : ∀ lf2, inP K V lo hi t (sF S) = .ok (t + 1, lf2) → ∀ w2, GR K P V NM M s w0 wl0 (t + 1) (sL S, up2 (sN S) 0 k (V t), sE S, sM S, lf2) w2 wl → Q w2 wl) : wp_12_tellNumber (nI k) (nI lo) (nI hi) w wl Q := by
  unfold wp_12_tellNumber
  refine r_gi hV hP hP2 hlo hhi g (fun kd e x w2 h2 => ⟨fun _ => KE kd e w2 h2, fun q => absurd (Classical.not_not.mp q) (er_13 h2)⟩) (fun lf2 e w2 f2 g2 => ?_)
  have g20 := g2
  obtain ⟨iB, c, ⟨a1, a2, a3⟩, ⟨⟨b1, b2, b3, b4, b5, b6⟩, _⟩, _⟩ := g2
  refine ⟨fun q => absurd b3 q, fun _ => ?_⟩
  rw [b6, show (20 : Int32) = nI 20 from rfl, pk_mul, nI_add, ix_nI (by omega)]
  refine ⟨vp_in_nI (by omega) (by decide), fun w5 e5 => ?_⟩
  subst e5
  refine KO lf2 e _ (gr_x g20 (fun a j q => ?_) (fun iB c hc hx => rx_num hk hc hx) rfl rfl)
  simp only [st]
  rw [if_neg (fun z => q ⟨by simp only [wrR]; omega, by omega, by omega⟩)]
/-- numbers and the ; behind them -/
def chW : List (Nat × Nat × Nat) → (Mem → MemL → Prop) → Mem → MemL → Prop
  | [], Q, w, wl => wp_12_must 4 w wl Q
  | (k, lo, hi) :: r, Q, w, wl => wp_12_tellNumber (nI k) (nI lo) (nI hi) w wl (chW r Q)
def okL (L : List (Nat × Nat × Nat)) : Prop := ∀ x, x ∈ L → x.1 < 16 ∧ x.2.1 < 2 ^ 20 ∧ x.2.2 < 2 ^ 20
theorem er_ch {P : Nat → Nat} {s kd tok : Nat} {w0 w : Mem} {wl0 wl : MemL} {Q : Mem → MemL → Prop} (h : ER P s w0 wl0 kd tok w wl) (K : Q w wl) : ∀ L, chW L Q w wl
  | [] => er_must h K
  | (k, lo, hi) :: r => er_number h (er_ch h K r)
theorem r_ch {K P V NM : Nat → Nat} {M s : Nat} {w0 : Mem} {wl0 : MemL} {Q : Mem → MemL → Prop} (hV : ∀ j, K j = 3 → V j < 2 ^ 20) (hP : ∀ i j, i < j → j ≤ M → P i < P j) (hP2 : ∀ i, P i < 2 ^ 20) : ∀ (L : List (Nat × Nat × Nat)) (t : Nat) (S : PS) (w : Mem) (wl : MemL), okL L → GR K P V NM M s w0 wl0 t S w wl → RGX K P V NM M s w0 wl0 Q (bnd (numP K V L t S) fun x => bnd (tkP K 59 x.1) fun t2 => .ok (t2, x.2)) → chW L Q w wl
  | [], t, S, w, wl, hL, g, hX => by
    have hX1 : RGX K P V NM M s w0 wl0 Q (bnd (tkP K 59 t) fun t2 => .ok (t2, S)) := hX
    refine gr_must g (c := 59) (by decide) (by decide) (by decide) (fun e w2 _ g2 => ?_) (fun kd e w2 h2 => ?_)
    · rw [e] at hX1
      exact hX1 w2 wl g2
    · rw [e] at hX1
      exact hX1 w2 wl h2
  | (k, lo, hi) :: r, t, S, w, wl, hL, g, hX => by
    obtain ⟨y1, y2, y3⟩ := hL (k, lo, hi) (List.mem_cons_self ..)
    simp only [numP] at hX
    refine r_num hV hP hP2 y1 y2 y3 g (fun kd e w2 h2 => ?_) (fun lf2 e w2 g2 => ?_)
    · rw [e] at hX
      exact er_ch h2 (hX w2 wl h2) r
    · rw [e] at hX
      exact r_ch hV hP hP2 r (t + 1) _ w2 wl (fun x hx => hL x (List.mem_cons_of_mem _ hx)) g2 hX
/-- PARTS -/
theorem er_parts {P : Nat → Nat} {s kd tok : Nat} {w0 w : Mem} {wl0 wl : MemL} {Q : Mem → MemL → Prop} (h : ER P s w0 wl0 kd tok w wl) (K : Q w wl) : ∀ (n i : Nat), n + i = 5 → wp_12_tellOne_b130 Q (n + 1) (nI (3 + i)) w wl
  | 0, i, hi => by
    unfold wp_12_tellOne_b130
    exact ⟨fun _ => er_must h K, fun q => absurd ((nI_leI (a := 8) (by omega) (by omega)).mpr (by omega)) q⟩
  | n + 1, i, hi => by
    unfold wp_12_tellOne_b130
    refine ⟨fun _ => er_must h K, fun _ => er_number h (fun x5 e5 => ?_)⟩
    rw [nI_1] at e5
    subst e5
    exact er_parts h K n (i + 1) (by omega)
theorem r_parts {K P V NM : Nat → Nat} {M s : Nat} {w0 : Mem} {wl0 : MemL} {Q : Mem → MemL → Prop} (hV : ∀ j, K j = 3 → V j < 2 ^ 20) (hP : ∀ i j, i < j → j ≤ M → P i < P j) (hP2 : ∀ i, P i < 2 ^ 20) : ∀ (n i t : Nat) (S : PS) (w : Mem) (wl : MemL), n + i = 5 → GR K P V NM M s w0 wl0 t S w wl → RGX K P V NM M s w0 wl0 Q (bnd (numP K V ([(3, 0, 9), (4, 0, 9), (5, 0, 9), (6, 0, 9), (7, 0, 9)].drop i) t S) fun x => bnd (tkP K 59 x.1) fun t2 => .ok (t2, x.2)) → wp_12_tellOne_b130 Q (n + 1) (nI (3 + i)) w wl
  | 0, i, t, S, w, wl, hi, g, hX => by
    have i5 : i = 5 := by omega
    subst i5
    unfold wp_12_tellOne_b130
    exact ⟨fun _ => r_ch hV hP hP2 [] t S w wl (fun x hx => absurd hx (List.not_mem_nil)) g hX, fun q => absurd (by decide) q⟩
  | n + 1, i, t, S, w, wl, hi, g, hX => by
    have hX2 : RGX K P V NM M s w0 wl0 Q (bnd (numP K V ((3 + i, 0, 9) :: [(3, 0, 9), (4, 0, 9), (5, 0, 9), (6, 0, 9), (7, 0, 9)].drop (i + 1)) t S) fun x => bnd (tkP K 59 x.1) fun t2 => .ok (t2, x.2)) := by
      rcases (by omega : i = 0 ∨ i = 1 ∨ i = 2 ∨ i = 3 ∨ i = 4) with z | z | z | z | z <;> (subst z; exact hX)
    simp only [numP] at hX2
    unfold wp_12_tellOne_b130
    refine ⟨fun q => absurd ((nI_leI (a := 8) (by omega) (by omega)).mp q) (by omega), fun _ => ?_⟩
    refine r_num (k := 3 + i) (lo := 0) (hi := 9) hV hP hP2 (by omega) (by decide) (by decide) g (fun kd e w2 h2 x5 e5 => ?_) (fun lf2 e w2 g2 x5 e5 => ?_)
    · rw [e] at hX2
      rw [nI_1] at e5
      subst e5
      exact er_parts h2 (hX2 w2 wl h2) n (i + 1) (by omega)
    · rw [e] at hX2
      rw [nI_1] at e5
      subst e5
      exact r_parts hV hP hP2 n (i + 1) _ _ w2 wl (by omega) g2 hX2
