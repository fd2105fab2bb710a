-- printed by wip/whole/gen13.py
/-! the start of both sides -/
def wyF (x c : Nat) : Nat := if c = 0 then x else 27 * x + (c - 96)
def okc (c : Nat) : Bool := decide (c = 0 ∨ (97 ≤ c ∧ c ≤ 122))
theorem r_ap {x c : Nat} {w : Mem} {wl : MemL} {Q : Int64 → Mem → MemL → Prop} (hc : okc c = true) (K : Q (lN (wyF x c)) w wl) : wp_12_appends (lN x) (nI c) w wl Q := by
  have h := of_decide_eq_true hc
  by_cases z : c = 0
  · subst z
    exact ⟨fun q => absurd rfl q, fun _ => K⟩
  · unfold wyF at K
    rw [if_neg z] at K
    exact r_app (by omega) K
theorem r_word {a b c d e f g : Nat} {w : Mem} {wl : MemL} {Q : Int64 → Mem → MemL → Prop} (ha : (okc a && okc b && okc c && okc d && okc e && okc f && okc g) = true) (K : Q (lN (wyF (wyF (wyF (wyF (wyF (wyF (wyF 0 a) b) c) d) e) f) g)) w wl) : wp_12_word (nI a) (nI b) (nI c) (nI d) (nI e) (nI f) (nI g) w wl Q := by
  simp only [Bool.and_eq_true] at ha
  obtain ⟨⟨⟨⟨⟨⟨h1, h2⟩, h3⟩, h4⟩, h5⟩, h6⟩, h7⟩ := ha
  unfold wp_12_word
  rw [show (0 : Int64) = lN 0 from rfl]
  exact r_ap h1 (r_ap h2 (r_ap h3 (r_ap h4 (r_ap h5 (r_ap h6 (r_ap h7 K))))))
def KW (m : Nat) (wl : MemL) : Prop := ∀ k, k < m → wl 157 k = lN (nvF 0 (wdL.getD k []))
theorem r_key {m a b c d e f g : Nat} {w : Mem} {wl : MemL} {Q : Mem → MemL → Prop} (ha : (okc a && okc b && okc c && okc d && okc e && okc f && okc g && decide (m < 29)) = true) (hv : wyF (wyF (wyF (wyF (wyF (wyF (wyF 0 a) b) c) d) e) f) g = nvF 0 (wdL.getD m [])) (kw : KW m wl) (K : ∀ v, KW (m + 1) v → Q w v) : wp_12_word (nI a) (nI b) (nI c) (nI d) (nI e) (nI f) (nI g) w wl (fun r w2 v2 => ∀ v6 : MemL, v6 = stL v2 157 (ix (nI m)) r → Q w2 v6) := by
  rw [Bool.and_eq_true] at ha
  have hm := of_decide_eq_true ha.2
  refine r_word ha.1 (fun v6 e6 => K v6 (fun k hk => ?_))
  rw [ix_nI (by omega)] at e6
  subst e6
  by_cases z : k = m
  · subst z
    rw [← hv]
    simp [stL]
  · simp only [stL]
    rw [if_neg (fun q => z q.2)]
    exact kw k (by omega)
/-- the class's start -/
theorem c_start {Q : Mem → Prop} (K : ∀ w, ZV w → w 1 1 = 0 → w 0 12 = -1 → TC 48 (TXs S0) w → w 87 2 = nI (tn (TXs S0) 15) → PL (TXs S0) false (begP (TXs S0)) 89 w → (w 97 1 = 0 ∧ w 97 2 = 0) → (∀ i, i < 3 → w 144 i = 0) → w 145 3 = 0 → Q w) : wp_11_initT (st wZ 0 12 (-1 : Int32)) Q := by
  unfold wp_11_initT
  refine c_clear (by decide) (fun w1 f1 x1 => c_untold (by decide) x1 (fun w2 f2 t2 => c_anew t2 (bi_0 rfl) (fun w3 f3 s3 p3 k3 z3 o3 => ?_)))
  have z : ∀ a j, a < 87 → ¬ (48 ≤ a ∧ wrC 48 a j) → w3 a j = st wZ 0 12 (-1 : Int32) a j := fun a j q1 q2 => by
    rw [f3 a j (by omega) (by omega), f2 a j q2, f1 a j q2]
  refine K w3 (fun a j ha hj hs => ?_) ?_ ?_ ?_ s3 p3 k3 z3 o3
  · rw [z _ j (by omega) (by simp only [wrC]; omega), st_nk (by omega)]
    rfl
  · rw [z 1 1 (by decide) (by omega), st_nk (by decide)]
    rfl
  · rw [z 0 12 (by decide) (by omega)]
    exact st_eq
  · have r7 : ∀ a, 48 ≤ a → a < 87 → w3 a = w2 a := fun a q1 q2 => funext (fun j => f3 a j (by omega) (by omega))
    exact tc_fr t2 (fun a ha => ⟨r7 _ (by omega) (by omega), r7 _ (by omega) (by omega), r7 _ (by omega) (by omega), congrFun (r7 _ (by omega) (by omega)) 6⟩) (r7 _ (by omega) (by omega)) (fun a h1 h2 => r7 _ (by omega) (by omega))
set_option maxHeartbeats 4000000 in
set_option maxRecDepth 4000 in
/-- the reference's start -/
theorem r_start {wl : MemL} {Q : Mem → MemL → Prop} (K : ∀ wm wl2, KEYS wl2 → wm 150 2 = 0 → (wm 150 17 = -1 ∧ wm 150 18 = nI 0 ∧ wm 150 64 = 0 ∧ wm 150 66 = 0) → wm 150 61 = -1 → TR 0 (TXs S0) wm → wm 180 = begP (TXs S0) → wm 181 = begP (TXs S0) → (∀ i, i < 3 → wm 187 i = 0) → Q wm wl2) : wp_12_initT (st (st wZ 150 17 (-1 : Int32)) 150 61 (-1 : Int32)) wl Q := by
  unfold wp_12_initT
  rw [show wp_12_plain (0 : Int32) = wp_12_plain (nI 0) from rfl]
  refine r_plain (by decide) (fun w1 f1 n1 z1 l1 => ?_)
  have f : ∀ a j, ¬ (159 ≤ a ∧ a ≤ 169) → ¬ (a = 150 ∧ (j = 17 ∨ j = 61)) → w1 a j = 0 := by
    intro a j q1 q2
    rw [f1 a j (by omega) (by omega) (by omega)]
    simp only [st]
    rw [if_neg (by omega), if_neg (by omega)]
    rfl
  have v : w1 150 17 = -1 ∧ w1 150 61 = -1 := by
    rw [f1 150 17 (by omega) (by omega) (by omega), f1 150 61 (by omega) (by omega) (by omega)]
    simp [st]
  have rx : RX 0 0 0 S0 w1 := by
    refine ⟨fun a ha => l1 a ha, fun k hk => n1 k hk, z1, fun r a hr ha => absurd ha (Nat.not_lt_zero _), fun j hj => absurd hj (Nat.not_lt_zero _)⟩
  have tr := tr_of (S := S0) (s := 0) (by omega) (by omega) (by omega) rx
  clear f1 n1 z1 l1 rx
  have k0 : KW 0 wl := fun k hk => absurd hk (Nat.not_lt_zero _)
  refine r_key (m := 0) (a := 104) (b := 105) (c := 108) (d := 108) (e := 0) (f := 0) (g := 0) (by decide) (by decide +kernel) k0 (fun v1 k1 => ?_)
  refine r_key (m := 1) (a := 119) (b := 105) (c := 110) (d := 100) (e := 0) (f := 0) (g := 0) (by decide) (by decide +kernel) k1 (fun v2 k2 => ?_)
  refine r_key (m := 2) (a := 102) (b := 97) (c := 114) (d := 0) (e := 0) (f := 0) (g := 0) (by decide) (by decide +kernel) k2 (fun v3 k3 => ?_)
  refine r_key (m := 3) (a := 103) (b := 105) (c := 118) (d := 101) (e := 115) (f := 0) (g := 0) (by decide) (by decide +kernel) k3 (fun v4 k4 => ?_)
  refine r_key (m := 4) (a := 115) (b := 116) (c := 121) (d := 108) (e := 101) (f := 0) (g := 0) (by decide) (by decide +kernel) k4 (fun v5 k5 => ?_)
  refine r_key (m := 5) (a := 103) (b := 111) (c := 101) (d := 115) (e := 0) (f := 0) (g := 0) (by decide) (by decide +kernel) k5 (fun v6 k6 => ?_)
  refine r_key (m := 6) (a := 112) (b := 97) (c := 114) (d := 116) (e := 115) (f := 0) (g := 0) (by decide) (by decide +kernel) k6 (fun v7 k7 => ?_)
  refine r_key (m := 7) (a := 109) (b := 97) (c := 110) (d := 0) (e := 0) (f := 0) (g := 0) (by decide) (by decide +kernel) k7 (fun v8 k8 => ?_)
  refine r_key (m := 8) (a := 106) (b := 117) (c := 100) (d := 103) (e := 101) (f := 0) (g := 0) (by decide) (by decide +kernel) k8 (fun v9 k9 => ?_)
  refine r_key (m := 9) (a := 115) (b := 110) (c := 111) (d := 119) (e := 0) (f := 0) (g := 0) (by decide) (by decide +kernel) k9 (fun v10 k10 => ?_)
  refine r_key (m := 10) (a := 103) (b := 117) (c := 115) (d := 116) (e := 115) (f := 0) (g := 0) (by decide) (by decide +kernel) k10 (fun v11 k11 => ?_)
  refine r_key (m := 11) (a := 119) (b := 97) (c := 105) (d := 116) (e := 115) (f := 0) (g := 0) (by decide) (by decide +kernel) k11 (fun v12 k12 => ?_)
  refine r_key (m := 12) (a := 103) (b := 97) (c := 116) (d := 101) (e := 0) (f := 0) (g := 0) (by decide) (by decide +kernel) k12 (fun v13 k13 => ?_)
  refine r_key (m := 13) (a := 115) (b := 101) (c := 99) (d := 111) (e := 110) (f := 100) (g := 0) (by decide) (by decide +kernel) k13 (fun v14 k14 => ?_)
  refine r_key (m := 14) (a := 115) (b := 101) (c := 101) (d := 100) (e := 0) (f := 0) (g := 0) (by decide) (by decide +kernel) k14 (fun v15 k15 => ?_)
  refine r_key (m := 15) (a := 105) (b := 102) (c := 0) (d := 0) (e := 0) (f := 0) (g := 0) (by decide) (by decide +kernel) k15 (fun v16 k16 => ?_)
  refine r_key (m := 16) (a := 116) (b := 104) (c := 101) (d := 110) (e := 0) (f := 0) (g := 0) (by decide) (by decide +kernel) k16 (fun v17 k17 => ?_)
  refine r_key (m := 17) (a := 101) (b := 108) (c := 115) (d := 101) (e := 0) (f := 0) (g := 0) (by decide) (by decide +kernel) k17 (fun v18 k18 => ?_)
  refine r_key (m := 18) (a := 97) (b := 116) (c := 0) (d := 0) (e := 0) (f := 0) (g := 0) (by decide) (by decide +kernel) k18 (fun v19 k19 => ?_)
  refine r_key (m := 19) (a := 115) (b := 101) (c := 99) (d := 116) (e := 105) (f := 111) (g := 110) (by decide) (by decide +kernel) k19 (fun v20 k20 => ?_)
  refine r_key (m := 20) (a := 103) (b := 117) (c := 115) (d := 116) (e := 0) (f := 0) (g := 0) (by decide) (by decide +kernel) k20 (fun v21 k21 => ?_)
  refine r_key (m := 21) (a := 119) (b := 101) (c := 105) (d := 103) (e := 104) (f := 116) (g := 0) (by decide) (by decide +kernel) k21 (fun v22 k22 => ?_)
  refine r_key (m := 22) (a := 115) (b := 107) (c := 105) (d := 0) (e := 0) (f := 0) (g := 0) (by decide) (by decide +kernel) k22 (fun v23 k23 => ?_)
  refine r_key (m := 23) (a := 108) (b := 97) (c := 116) (d := 101) (e := 0) (f := 0) (g := 0) (by decide) (by decide +kernel) k23 (fun v24 k24 => ?_)
  refine r_key (m := 24) (a := 119) (b := 104) (c := 105) (d := 116) (e := 101) (f := 0) (g := 0) (by decide) (by decide +kernel) k24 (fun v25 k25 => ?_)
  refine r_key (m := 25) (a := 98) (b := 97) (c := 114) (d := 0) (e := 0) (f := 0) (g := 0) (by decide) (by decide +kernel) k25 (fun v26 k26 => ?_)
  refine r_key (m := 26) (a := 108) (b := 101) (c := 110) (d := 103) (e := 116) (f := 104) (g := 0) (by decide) (by decide +kernel) k26 (fun v27 k27 => ?_)
  refine r_key (m := 27) (a := 108) (b := 101) (c := 97) (d := 110) (e := 0) (f := 0) (g := 0) (by decide) (by decide +kernel) k27 (fun v28 k28 => ?_)
  refine r_key (m := 28) (a := 104) (b := 111) (c := 109) (d := 101) (e := 0) (f := 0) (g := 0) (by decide) (by decide +kernel) k28 (fun v29 k29 => ?_)
  have kk : KEYS v29 := k29
  refine r_begins (s := 0) (by decide) (f 150 18 (by omega) (by omega)) tr (fun i hi => f 181 i (by omega) (by omega)) (fun w2 f2 b2 p2 d2 => ?_)
  refine r_keepsRow (fun i hi => ⟨?_, by rw [b2]; exact begP_0 _ (by omega)⟩) (fun w5 f5 b5 => ?_)
  · rw [f2 180 i (by decide) (by omega)]
    exact f 180 i (by omega) (by omega)
  have g : ∀ a j, a ≠ 180 → a ≠ 181 → ¬ (a = 150 ∧ (j = 49 ∨ j = 50)) → w5 a j = w1 a j := fun a j q1 q2 q3 => (congrFun (f5 a q1) j).trans (f2 a j q2 q3)
  refine K w5 v29 kk ?_ ⟨?_, ?_, ?_, ?_⟩ ?_ ?_ (b5.trans b2) ((f5 181 (by decide)).trans b2) (fun i hi => ?_)
  · rw [g 150 2 (by decide) (by decide) (by decide)]; exact f 150 2 (by omega) (by omega)
  · rw [g 150 17 (by decide) (by decide) (by decide)]; exact v.1
  · rw [g 150 18 (by decide) (by decide) (by decide)]; exact f 150 18 (by omega) (by omega)
  · rw [g 150 64 (by decide) (by decide) (by decide)]; exact f 150 64 (by omega) (by omega)
  · rw [g 150 66 (by decide) (by decide) (by decide)]; exact f 150 66 (by omega) (by omega)
  · rw [g 150 61 (by decide) (by decide) (by decide)]; exact v.2
  · exact tr_cg tr (fun b q1 q2 => funext (fun j => g b j (by omega) (by omega) (by omega)))
  · rw [g 187 i (by decide) (by decide) (by omega)]; exact f 187 i (by omega) (by omega)
/-- the plain statement that all stands on -/
theorem law_okP (L : Nat) (xs : Nat → Int32) (hL : L ≤ 3072) (wl : MemL) : wp_11_initT (st wZ 0 12 (-1 : Int32)) (fun w => wp_12_initT (st (st wZ 150 17 (-1 : Int32)) 150 61 (-1 : Int32)) wl (fun wm wl => ∃ n, wp_law_b18 L xs n (0 : Int32) w wm wl)) := by
  refine c_start (fun w hz h1 h12 c2 s2 p2 k2 z2 o2 => r_start (fun wm wl2 hk m2 mv m61 tr e180 e181 m187 => ?_))
  exact ⟨L + 1, law_loop hL (L + 1) 0 w wm wl2 (by omega) (by omega) (rel_fresh (T := TXs S0) (s := 0) (by decide) (bi_0 rfl) c2 hz s2 p2 k2 z2 o2 h1 h12 hk m2 mv m61 tr e180 e181 m187)⟩
