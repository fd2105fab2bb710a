/-- a byte of four -/
def bbF (a sh : Int32) : Int32 := vp_nar .byte ((a >>> (sh &&& 31)).toInt8.toInt32)
def ptF (f : Nat → Int32) (n : Nat) (a : Int32) : Nat → Int32 := upd (upd (upd (upd f n (bbF a 24)) (n + 1) (bbF a 16)) (n + 2) (bbF a 8)) (n + 3) (bbF a 0)
theorem ptF_cg {f g : Nat → Int32} {n : Nat} {a : Int32} (h : ∀ i, i < n → f i = g i) (i : Nat) (hi : i < n + 4) : ptF f n a i = ptF g n a i :=
  up_c (fun _ => up_c (fun _ => up_c (fun _ => up_c (fun _ => h i (by omega)))))
theorem c_put1 {a sh sh2 : Int32} {n m : Nat} {w : Mem} {Q : Mem → Prop} (h0 : ¬ sh < 0) (e : sh + -8 = sh2) (hn : n < 2000) (h1 : w 1 1 = nI n) (K : wp_7_put_b3 Q m a sh2 (st (st w 2 n (bbF a sh)) 1 1 (nI (n + 1)))) : wp_7_put_b3 Q (m + 1) a sh w := by
  refine ⟨fun q => absurd q h0, fun _ => ?_⟩
  unfold wp_7_hasRoom
  rw [h1, nI_1]
  refine pk_lt 2000 (n + 1) (fun q => absurd q (by omega)) (fun _ => t1 ?_)
  rw [h1]
  refine ⟨vp_in_nI hn (by decide), fun w4 e4 w5 e5 x1 ex => ?_⟩
  rw [ix_nI (by omega)] at e4
  have g4 : w4 1 1 = nI n := by subst e4; rw [st_nk (by decide)]; exact h1
  rw [g4, nI_1] at e5
  rw [e] at ex
  subst ex
  subst e5
  subst e4
  exact K
theorem c_put {a : Int32} {n : Nat} {w : Mem} {Q : Mem → Prop} (hn : n + 4 ≤ 2000) (h1 : w 1 1 = nI n) (K : ∀ w2, (∀ b, b ≠ 1 → b ≠ 2 → w2 b = w b) → w2 1 1 = nI (n + 4) → w2 2 = ptF (w 2) n a → Q w2) : wp_7_put a w Q := by
  refine ⟨5, c_put1 (sh := 24) (sh2 := 16) (n := n) (by decide) (by decide) (by omega) h1 (c_put1 (sh := 16) (sh2 := 8) (n := n + 1) (by decide) (by decide) (by omega) st_eq (c_put1 (sh := 8) (sh2 := 0) (n := n + 2) (by decide) (by decide) (by omega) st_eq (c_put1 (sh := 0) (sh2 := -8) (n := n + 3) (by decide) (by decide) (by omega) st_eq ⟨fun _ => ?_, fun q => absurd (by decide) q⟩)))⟩
  refine K _ (fun b h1 h2 => ?_) st_eq ?_
  · rw [st_ne b h1, st_ne b h2, st_ne b h1, st_ne b h2, st_ne b h1, st_ne b h2, st_ne b h1, st_ne b h2]
  · rw [st_ne 2 (by decide), st_at, st_ne 2 (by decide), st_at, st_ne 2 (by decide), st_at, st_ne 2 (by decide), st_at]
    rfl
theorem r_put1 {a sh sh2 : Int32} {n m : Nat} {w : Mem} {wl : MemL} {Q : Mem → MemL → Prop} (h0 : ¬ sh < 0) (e : sh + -8 = sh2) (hn : n < 2000) (h1 : w 150 2 = nI n) (K : wp_12_put_b3 Q m a sh2 (st (st w 151 n (bbF a sh)) 150 2 (nI (n + 1))) wl) : wp_12_put_b3 Q (m + 1) a sh w wl := by
  refine ⟨fun q => absurd q h0, fun _ => ?_⟩
  rw [h1]
  refine ⟨vp_in_nI hn (by decide), fun w4 e4 w5 e5 x1 ex => ?_⟩
  rw [ix_nI (by omega)] at e4
  have g4 : w4 150 2 = nI n := by subst e4; rw [st_nk (by decide)]; exact h1
  rw [g4, nI_1] at e5
  rw [e] at ex
  subst ex
  subst e5
  subst e4
  exact K
theorem r_put {a : Int32} {n : Nat} {w : Mem} {wl : MemL} {Q : Mem → MemL → Prop} (hn : n + 4 ≤ 2000) (h1 : w 150 2 = nI n) (K : ∀ w2, (∀ b j, b ≠ 151 → ¬ (b = 150 ∧ j = 2) → w2 b j = w b j) → w2 150 2 = nI (n + 4) → w2 151 = ptF (w 151) n a → Q w2 wl) : wp_12_put a w wl Q := by
  refine ⟨5, r_put1 (sh := 24) (sh2 := 16) (n := n) (by decide) (by decide) (by omega) h1 (r_put1 (sh := 16) (sh2 := 8) (n := n + 1) (by decide) (by decide) (by omega) st_eq (r_put1 (sh := 8) (sh2 := 0) (n := n + 2) (by decide) (by decide) (by omega) st_eq (r_put1 (sh := 0) (sh2 := -8) (n := n + 3) (by decide) (by decide) (by omega) st_eq ⟨fun _ => ?_, fun q => absurd (by decide) q⟩)))⟩
  refine K _ (fun b j h1 h2 => ?_) st_eq ?_
  · simp only [st]
    rw [if_neg h2, if_neg (by omega), if_neg h2, if_neg (by omega), if_neg h2, if_neg (by omega), if_neg h2, if_neg (by omega)]
  · rw [st_ne 151 (by decide), st_at, st_ne 151 (by decide), st_at, st_ne 151 (by decide), st_at, st_ne 151 (by decide), st_at]
    rfl
theorem sl_cg {T : TX} {w w2 wm wm2 : Mem} (h : SL T w wm) (c : ∀ a, 141 ≤ a → a ≤ 144 → w2 a = w a) (r : ∀ a, 187 ≤ a → a ≤ 188 → wm2 a = wm a) : SL T w2 wm2 := by
  intro i hi
  rw [c 144 (by decide) (by decide), c (141 + i) (by omega) (by omega), r 187 (by decide) (by decide), r 188 (by decide) (by decide)]
  exact h i hi
theorem to_cg {w w2 wm wm2 : Mem} (h : TO w wm) (c : ∀ a, 145 ≤ a → a ≤ 148 → w2 a = w a) (r : ∀ a, 184 ≤ a → a ≤ 186 → wm2 a = wm a) (r6 : wm2 150 66 = wm 150 66) : TO w2 wm2 := by
  unfold TO
  rw [c 145 (by decide) (by decide), c 146 (by decide) (by decide), c 147 (by decide) (by decide), c 148 (by decide) (by decide), r 184 (by decide) (by decide), r 185 (by decide) (by decide), r 186 (by decide) (by decide), r6]
  exact h
theorem sim_feed (a1 a2 a3 a4 a5 : Int32) : SIM (wp_11_feed a1 a2 a3 a4 a5) (wp_12_feed a1 a2 a3 a4 a5) := by
  rintro w wm wl ⟨T, s, h⟩
  obtain ⟨n, n1, n2, n3, n4⟩ := h.2.1.2.2.2
  unfold wp_11_feed wp_7_hasRoom
  rw [n2, show (20 : Int32) = nI 20 from rfl, nI_add]
  refine pk_lt 2000 (n + 20) (fun c => u0 ?_) (fun c => u1 ?_)
  · unfold wp_12_feed
    rw [n3, show (20 : Int32) = nI 20 from rfl, nI_add]
    exact pk_le (n + 20) 2000 (fun q => absurd q (by omega)) (fun _ => ⟨rfl, T, s, h⟩)
  · refine c_put (n := n) (by omega) n2 (fun w3 f3 l3 b3 => c_put (by omega) l3 (fun w4 f4 l4 b4 => c_put (by omega) l4 (fun w5 f5 l5 b5 => c_put (by omega) l5 (fun w6 f6 l6 b6 => c_put (by omega) l6 (fun w7 f7 l7 b7 => ?_)))))
    unfold wp_12_feed
    rw [n3, show (20 : Int32) = nI 20 from rfl, nI_add]
    refine pk_le (n + 20) 2000 (fun _ => ?_) (fun q => absurd q (by omega))
    refine r_put (n := n) (by omega) n3 (fun m3 g3 k3 d3 => r_put (by omega) k3 (fun m4 g4 k4 d4 => r_put (by omega) k4 (fun m5 g5 k5 d5 => r_put (by omega) k5 (fun m6 g6 k6 d6 => r_put (by omega) k6 (fun m7 g7 k7 d7 => ⟨by rw [l7, k7], ?_⟩)))))
    have cf : ∀ b, b ≠ 1 → b ≠ 2 → w7 b = w b := fun b h1 h2 => by rw [f7 b h1 h2, f6 b h1 h2, f5 b h1 h2, f4 b h1 h2, f3 b h1 h2]
    have rf : ∀ b j, b ≠ 151 → ¬ (b = 150 ∧ j = 2) → m7 b j = wm b j := fun b j h1 h2 => by rw [g7 b j h1 h2, g6 b j h1 h2, g5 b j h1 h2, g4 b j h1 h2, g3 b j h1 h2]
    have rr : ∀ b, b ≠ 150 → b ≠ 151 → m7 b = wm b := fun b h1 h2 => funext (fun j => rf b j h2 (by omega))
    refine rel_oth h (fun a h1 h2 h3 => cf a h2 h3) (fun a j h1 h2 h3 => rf a j h1 (by omega)) (sl_cg h.2.1.2.1 (fun a h1 h2 => cf a (by omega) (by omega)) (fun a h1 h2 => rr a (by omega) (by omega))) (to_cg h.2.1.2.2.1 (fun a h1 h2 => cf a (by omega) (by omega)) (fun a h1 h2 => rr a (by omega) (by omega)) (rf 150 66 (by decide) (by decide))) ⟨n + 4 + 4 + 4 + 4 + 4, by omega, l7, k7, fun i hi => ?_⟩
    rw [b7, b6, b5, b4, b3, d7, d6, d5, d4, d3]
    exact ptF_cg (ptF_cg (ptF_cg (ptF_cg (ptF_cg n4)))) i hi
theorem sim_back (a1 : Int32) : SIM (wp_11_back a1) (wp_12_back a1) := by
  rintro w wm wl ⟨T, s, h⟩
  obtain ⟨n, n1, n2, n3, n4⟩ := h.2.1.2.2.2
  unfold wp_11_back
  rw [n2]
  refine c_in (fun x1 => u1 (fun w3 e3 => ?_)) (fun q => u0 ?_)
  · obtain ⟨k, hk, rfl⟩ := inR_nI (n := n) (by omega) x1
    rw [n2, pk_sub hk] at e3
    have l3 : w3 1 1 = nI (n - k) := by subst e3; exact st_eq
    rw [l3]
    unfold wp_12_back
    rw [n3]
    refine ⟨fun z => absurd z (nI_pos (by omega)), fun _ => pk_le k n (fun _ m3 g3 => ?_) (fun z => absurd z (by omega))⟩
    rw [pk_sub hk] at g3
    have k3 : m3 150 2 = nI (n - k) := by subst g3; exact st_eq
    rw [k3]
    refine ⟨rfl, rel_oth h (fun a h1 h2 h3 => by subst e3; exact st_ne a h2) (fun a j h1 h2 h3 => by subst g3; simp only [st]; rw [if_neg (by omega)]) (sl_cg h.2.1.2.1 (fun a h1 h2 => by subst e3; exact st_ne a (by omega)) (fun a h1 h2 => by subst g3; exact st_ne a (by omega))) (to_cg h.2.1.2.2.1 (fun a h1 h2 => by subst e3; exact st_ne a (by omega)) (fun a h1 h2 => by subst g3; exact st_ne a (by omega)) (by subst g3; exact st_nj (by decide))) ⟨n - k, by omega, l3, k3, fun i hi => ?_⟩⟩
    subst e3
    subst g3
    rw [st_nk (by decide), st_nk (by decide)]
    exact n4 i (by omega)
  · unfold wp_12_back
    rw [n3]
    refine ⟨fun _ => ⟨rfl, T, s, h⟩, fun z => ⟨fun z2 => absurd ⟨nlt.mp z, z2⟩ q, fun _ => ⟨rfl, T, s, h⟩⟩⟩
