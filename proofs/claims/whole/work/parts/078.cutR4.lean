theorem ms_d {i n p q k : Nat} (hm : (401 - i) * 2002 + (n - p) ≤ k + 1) (hi : i ≤ 400) (hn : n ≤ 2000) : (401 - (i + 1)) * 2002 + (n - q) ≤ k := by
  obtain ⟨d, hd⟩ : ∃ d, 401 - i = d + 1 := ⟨400 - i, by omega⟩
  have e : 401 - (i + 1) = d := by omega
  rw [hd, Nat.add_mul, Nat.one_mul] at hm
  rw [e]
  generalize d * 2002 = x at hm ⊢
  clear hd e
  have h1 : x + 2002 ≤ k + 1 := Nat.le_trans (Nat.le_add_right _ _) hm
  have h2 : n - q ≤ 2000 := Nat.le_trans (Nat.sub_le _ _) hn
  clear hm hn hi
  generalize n - q = y at h2 ⊢
  have h3 : x + 2001 ≤ k := Nat.le_of_succ_le_succ h1
  exact Nat.le_trans (Nat.add_le_add_left (Nat.le_trans h2 (by decide)) x) h3
theorem kw_n3 (l : List Nat) : ∀ (z : kwF wdL 128 l = 3), False := by
  have : ∀ (ws : List (List Nat)) (k : Nat), 128 ≤ k → kwF ws k l = 2 ∨ 128 ≤ kwF ws k l := by
    intro ws
    induction ws with
    | nil => intro k _; exact Or.inl rfl
    | cons u r ih =>
      intro k hk
      simp only [kwF]
      split
      · exact Or.inr hk
      · exact ih (k + 1) (by omega)
  intro z
  have := this wdL 128 (by omega)
  omega
theorem vlF_a (B : Nat → Nat) : ∀ (k p v : Nat), vlF B (k + 1) p v = vlF B k p v * 10 + B (p + k) - 48
  | 0, p, v => rfl
  | k + 1, p, v => by
    show vlF B (k + 1) (p + 1) (v * 10 + B p - 48) = vlF B k (p + 1) (v * 10 + B p - 48) * 10 + B (p + (k + 1)) - 48
    rw [vlF_a B k (p + 1), show p + 1 + k = p + (k + 1) by omega]
theorem r_cutI {B : Nat → Nat} {n p i : Nat} {w : Mem} {wl : MemL} {L7 : Int32 → Mem → MemL → Prop} {Q : Mem → MemL → Prop} (h : RB2 B n w) (hp : p < n) (hl : ¬ isL (B p) = true) (hd : isD (B p) = true) (hi : i < 403) (h10 : w 150 10 = nI i) (K : ∀ w2 wl2, TO1 i (nI (rcF (knF B n p))) (nI p) (nI (vlF B (min (spN isD B n p - p) 4) p 0)) 0 w w2 wl wl2 → L7 (nI (enF B n p)) w2 wl2) : ∃ nn, wp_12_cut_b208 Q L7 nn (nI p) 0 (nI 0) w wl := by
  have h20 := h.1
  have eb := spN_b (pr := isD) (B := B) (n := n) (p := p) (by omega)
  have ek : knF B n p = if 4 < spN isD B n p - p then 1 else 3 := by
    unfold knF
    rw [if_neg (by omega), if_neg hl, if_pos hd]
  have ee : enF B n p = spN isD B n p := by
    unfold enF
    rw [if_neg (by omega), if_neg hl, if_pos hd]
  obtain ⟨z, hz⟩ : ∃ z, z = spN isD B n p - p := ⟨_, rfl⟩
  have fin : ∀ kd, kd = rcF (knF B n p) → wp_12_cut_b261 Q L7 (nI p) (nI z) (nI (vlF B (min z 4) p 0)) (nI kd) w wl := by
    intro kd e
    subst e
    refine r_token hi h10 (fun w2 wl2 o x3 e3 => ?_)
    rw [nI_add, show p + z = enF B n p by omega] at e3
    subst e3
    refine K w2 wl2 ?_
    rw [← hz]
    exact o
  refine pk_loop (fun m j (x : Nat) => wp_12_cut_b208 Q L7 m (nI p) (nI j) (nI x) w wl) (fun j x => x = vlF B (min j 4) p 0) z 0 0 (by omega) rfl (fun m x hx => ?_) (fun m j x hj hx L => ?_)
  · subst hx
    unfold wp_12_cut_b208
    rw [nI_add]
    refine r_byte h (by omega) (r_digit ?_ (fun c => ?_) (fun _ => t0 ?_))
    · split
      · rename_i c; have := (h.2.2 _ c).2; omega
      · omega
    · exfalso
      split at c
      · rename_i y
        refine spN_s (pr := isD) (B := B) (n := n) (p := p) (by omega) (by omega) ?_
        rw [show spN isD B n p = p + z by omega]
        exact c
      · exact absurd c (by decide)
    · refine pk_le z 4 (fun q => fin 2 ?_) (fun q => fin 3 ?_)
      · rw [ek, if_neg (by omega)]; rfl
      · rw [ek, if_pos (by omega)]; rfl
  · subst hx
    have hlj : isD (B (p + j)) = true := spN_a (n := n) (p := p) (by omega) (by omega)
    have hj2 : p + j < n := by omega
    have hb := (h.2.2 _ hj2).2
    unfold wp_12_cut_b208
    rw [nI_add]
    refine r_byte h (by omega) ?_
    rw [if_pos hj2]
    refine r_digit (by omega) (fun _ => t1 ?_) (fun c => absurd hlj c)
    refine pk_le 4 j (fun q x1 e1 => ?_) (fun q => ?_)
    · rw [nI_1] at e1
      subst e1
      refine L _ ?_
      rw [show min j 4 = 4 by omega, show min (j + 1) 4 = 4 by omega]
    · refine r_byte h (by omega) ?_
      rw [if_pos hj2]
      intro x10 e10 x1 e1
      have cd := isD_d.mp hlj
      rw [nI_1] at e1
      rw [show (10 : Int32) = nI 10 from rfl, pk_mul, nI_add, show (48 : Int32) = nI 48 from rfl, pk_sub (by omega)] at e10
      subst e1
      subst e10
      refine L _ ?_
      rw [show min j 4 = j by omega, show min (j + 1) 4 = j + 1 by omega, vlF_a, Nat.mul_comm]
theorem r_cut {B : Nat → Nat} {n : Nat} {w : Mem} {wl : MemL} {Q : Mem → MemL → Prop} (h : RB2 B n w) (hk : KEYS wl) (K : ∀ w2 wl2 M, (∀ a j, ¬ (153 ≤ a ∧ a ≤ 155) → ¬ (a = 150 ∧ j = 10) → w2 a j = w a j) → (∀ a, a ≠ 156 → wl2 a = wl a) → M ≤ 400 → TKR B n (M + 1) w2 wl2 → (M = 400 ∨ knF B n (psF B n M) = 0) → Q w2 wl2) : wp_12_cut w wl Q := by
  have h20 := h.1
  intro w1 e1
  have go : ∀ (k i p : Nat) (w2 : Mem) (wl2 : MemL), (401 - i) * 2002 + (n - p) ≤ k → i ≤ 401 → p ≤ n → spN isB B n p = psF B n i → (∀ a j, ¬ (153 ≤ a ∧ a ≤ 155) → ¬ (a = 150 ∧ j = 10) → w2 a j = w a j) → (∀ a, a ≠ 156 → wl2 a = wl a) → w2 150 10 = nI i → TKR B n i w2 wl2 → (i = 401 → 0 < i) → wp_12_cut_b7 Q (k + 1) (nI p) w2 wl2 := by
    intro k
    induction k with
    | zero =>
      intro i p w2 wl2 hm hi hp ep f2 fl2 h10 tk _
      unfold wp_12_cut_b7
      rw [h10]
      refine pk_lt 400 i (fun q => K w2 wl2 400 f2 fl2 (by omega) (by rw [show 400 + 1 = i by omega]; exact tk) (Or.inl rfl)) (fun q => absurd q (by omega))
    | succ k ih =>
      intro i p w2 wl2 hm hi hp ep f2 fl2 h10 tk _
      have t2 : RB2 B n w2 := by
        refine ⟨h20, (f2 150 4 (by omega) (by omega)).trans h.2.1, fun j hj => ?_⟩
        rw [f2 152 j (by omega) (by omega)]
        exact h.2.2 j hj
      have k2 : KEYS wl2 := by
        unfold KEYS
        rw [fl2 157 (by decide)]
        exact hk
      unfold wp_12_cut_b7
      rw [h10]
      refine pk_lt 400 i (fun q => K w2 wl2 400 f2 fl2 (by omega) (by rw [show 400 + 1 = i by omega]; exact tk) (Or.inl rfl)) (fun q => r_byte t2 (by omega) ?_)
      rw [t2.2.1]
      refine pk_lt p n (fun c => ?_) (fun c => ?_)
      · rw [if_pos c]
        have hb := (h.2.2 p c).2
        have nxt : ∀ w3 wl3 v nm, ¬ isB (B p) = true → TO1 i (nI (rcF (knF B n p))) (nI p) v nm w2 w3 wl2 wl3 → (knF B n p = 3 → v = nI (vlF B (spN isD B n p - p) p 0)) → (knF B n p = 2 → nm = lN (nvF 0 (ltF B (spN isL B n p - p) p))) → wp_12_cut_b7 Q (k + 1) (nI (enF B n p)) w3 wl3 := by
          intro w3 wl3 v nm nb o hv hn
          have ps : psF B n i = p := by rw [← ep, spN_n c nb]
          have en := enF_b (B := B) (n := n) (p := p) hp
          refine ih (i + 1) (enF B n p) w3 wl3 (ms_d hm q h20) (by omega) en.2.1 ?_ ?_ ?_ o.2.1 (tkr_s tk ps o hv hn) (fun _ => by omega)
          · show _ = spN isB B n (enF B n (psF B n i))
            rw [ps]
          · intro a j ha hj
            rw [o.1 a j ha hj]
            exact f2 a j ha hj
          · intro a ha
            rw [o.2.2.2.2.2.1 a ha]
            exact fl2 a ha
        refine r_isB hb (fun y x1 e1 => ?_) (fun y => ?_)
        · rw [nI_1] at e1
          subst e1
          refine ih i (p + 1) w2 wl2 (by omega) hi (by omega) ?_ f2 fl2 h10 tk (fun _ => by omega)
          rw [← ep, spN_y c y]
        · refine r_letter (by omega) (fun l => t1 ?_) (fun l => t0 (r_digit (by omega) (fun d => t1 ?_) (fun d => t0 ?_)))
          · intro x17 e17
            subst e17
            refine r_cutL t2 k2 c l (by omega) h10 (fun w3 wl3 o => nxt w3 wl3 _ _ y o (fun z => ?_) (fun z => ?_))
            · exfalso
              unfold knF at z
              rw [if_neg (by omega), if_pos l] at z
              split at z
              · omega
              · have := (kwF_ge wdL 128 (ltF B (spN isL B n p - p) p) (by omega)).1
                revert z
                exact kw_n3 _
            · unfold knF at z
              rw [if_neg (by omega), if_pos l] at z
              split at z
              · omega
              · rw [show min (spN isL B n p - p) 8 = spN isL B n p - p by omega]
          · refine r_cutI t2 c l d (by omega) h10 (fun w3 wl3 o => nxt w3 wl3 _ _ y o (fun z => ?_) (fun z => ?_))
            · unfold knF at z
              rw [if_neg (by omega), if_neg l, if_pos d] at z
              split at z
              · omega
              · rw [show min (spN isD B n p - p) 4 = spN isD B n p - p by omega]
            · exfalso
              unfold knF at z
              rw [if_neg (by omega), if_neg l, if_pos d] at z
              split at z <;> omega
          · have ek : knF B n p = if isS (B p) = true then B p else 1 := by
              unfold knF
              rw [if_neg (by omega), if_neg l, if_neg d]
            have sb : isS (B p) = true → 4 ≤ B p := by
              intro z
              have dd : isS (B p) = true ↔ (B p = 59 ∨ B p = 61 ∨ B p = 43 ∨ B p = 45 ∨ B p = 42 ∨ B p = 47 ∨ B p = 60 ∨ B p = 40 ∨ B p = 41) := by unfold isS; exact decide_eq_true_iff
              have := dd.mp z
              omega
            rw [nI_1]
            refine r_byte t2 (by omega) (r_sign hb (by omega) h10 (fun w3 wl3 o x16 e16 => ?_))
            rw [nI_1] at e16
            have en : enF B n p = p + 1 := by
              unfold enF
              rw [if_neg (by omega), if_neg l, if_neg d]
            rw [← en] at e16
            subst e16
            rw [rc_sg _ hb, ← ek] at o
            refine nxt w3 wl3 _ _ y o (fun z => ?_) (fun z => ?_)
            · exfalso
              rw [ek] at z
              split at z
              · rename_i q; have := sb q; omega
              · omega
            · exfalso
              rw [ek] at z
              split at z
              · rename_i q; have := sb q; omega
              · omega
      · have epn : p = n := by omega
        have ps : psF B n i = n := by rw [← ep, spN_e (by omega), epn]
        have ek : knF B n n = 0 := by unfold knF; rw [if_pos (Nat.le_refl n)]
        refine r_token (by omega) h10 (fun w3 wl3 o => K w3 wl3 i ?_ ?_ (by omega) ?_ (Or.inr (by rw [ps, ek])))
        · intro a j ha hj
          rw [o.1 a j ha hj]
          exact f2 a j ha hj
        · intro a ha
          rw [o.2.2.2.2.2.1 a ha]
          exact fl2 a ha
        · refine tkr_s tk ps (v := 0) (nm := 0) ?_ (fun z => by omega) (fun z => by omega)
          rw [ek]
          exact o
  refine ⟨401 * 2002 + n + 1, go (401 * 2002 + n) 0 0 w1 wl (by omega) (by omega) (Nat.zero_le _) rfl ?_ (fun _ _ => rfl) ?_ (fun j hj => absurd hj (by omega)) (fun z => by omega)⟩
  · subst e1
    intro a j ha hj
    simp only [st]
    rw [if_neg hj]
  · subst e1
    exact st_eq
