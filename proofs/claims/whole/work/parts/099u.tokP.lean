/-! the tokens of both sides as one -/
abbrev Kf (B : Nat → Nat) (n : Nat) : Nat → Nat := fun j => knF B n (psF B n j)
abbrev Vf (B : Nat → Nat) (n : Nat) : Nat → Nat := fun j => vlF B (spN isD B n (psF B n j) - psF B n j) (psF B n j) 0
abbrev NMf (B : Nat → Nat) (n : Nat) : Nat → Nat := fun j => nvF 0 (ltF B (spN isL B n (psF B n j) - psF B n j) (psF B n j))
theorem kd_3 {k : Nat} (h : k ≤ 3) : kdB k = true := by
  unfold kdB
  rw [Bool.or_eq_true, Bool.or_eq_true]
  exact Or.inl (Or.inl (decide_eq_true h))
theorem kwF_r : ∀ (ws : List (List Nat)) (k : Nat) (l : List Nat), kwF ws k l = 2 ∨ (k ≤ kwF ws k l ∧ kwF ws k l < k + ws.length)
  | [], k, l => Or.inl rfl
  | u :: r, k, l => by
    simp only [kwF, List.length_cons]
    split
    · exact Or.inr ⟨Nat.le_refl _, by omega⟩
    · rcases kwF_r r (k + 1) l with h | h
      · exact Or.inl h
      · exact Or.inr ⟨by omega, by omega⟩
theorem kd_kn {B : Nat → Nat} {n p : Nat} : kdB (knF B n p) = true := by
  unfold knF
  split
  · exact kd_3 (by omega)
  · split
    · split
      · exact kd_3 (by omega)
      · have hw : wdL.length = 29 := rfl
        rcases kwF_r wdL 128 (ltF B (spN isL B n p - p) p) with h | h
        · rw [h]; exact kd_3 (by omega)
        · unfold kdB
          rw [Bool.or_eq_true]
          exact Or.inr (decide_eq_true ⟨h.1, by omega⟩)
    · split
      · split
        · exact kd_3 (by omega)
        · exact kd_3 (by omega)
      · split
        · rename_i h
          unfold kdB
          rw [Bool.or_eq_true, Bool.or_eq_true]
          exact Or.inl (Or.inr h)
        · exact kd_3 (by omega)
theorem isS_d {c : Nat} : isS c = true ↔ (c = 59 ∨ c = 61 ∨ c = 43 ∨ c = 45 ∨ c = 42 ∨ c = 47 ∨ c = 60 ∨ c = 40 ∨ c = 41) := by
  unfold isS
  exact decide_eq_true_iff
theorem kn_0 {B : Nat → Nat} {n p : Nat} (h : n ≤ p) : knF B n p = 0 := by
  unfold knF
  rw [if_pos h]
theorem kn_2 {B : Nat → Nat} {n p : Nat} (h : knF B n p = 2) : p < n ∧ isL (B p) = true ∧ spN isL B n p - p ≤ 8 := by
  unfold knF at h
  split at h
  · omega
  · split at h
    · rename_i a b
      split at h
      · omega
      · exact ⟨by omega, b, by omega⟩
    · split at h
      · split at h <;> omega
      · split at h
        · rename_i b
          have := isS_d.mp b
          omega
        · omega
theorem kn_3 {B : Nat → Nat} {n p : Nat} (h : knF B n p = 3) : p < n ∧ ¬ isL (B p) = true ∧ isD (B p) = true ∧ spN isD B n p - p ≤ 4 := by
  unfold knF at h
  split at h
  · omega
  · split at h
    · split at h
      · omega
      · exact (kw_n3 _ h).elim
    · rename_i a b
      split at h
      · rename_i c
        split at h
        · omega
        · exact ⟨by omega, b, c, by omega⟩
      · split at h
        · rename_i b
          have := isS_d.mp b
          omega
        · omega
theorem ps_1 {B : Nat → Nat} {n i : Nat} (h : psF B n i < n) : psF B n i < psF B n (i + 1) := by
  have e := enF_b (B := B) (n := n) (p := psF B n i) (psF_b i)
  have s := spN_b (pr := isB) (B := B) (n := n) (p := enF B n (psF B n i)) e.2.1
  have e3 := e.2.2 h
  show psF B n i < spN isB B n (enF B n (psF B n i))
  omega
theorem ps_lt {B : Nat → Nat} {n M : Nat} (h : ∀ j, j < M → ¬ Kf B n j = 0) : ∀ (d i : Nat), i + d + 1 ≤ M → psF B n i < psF B n (i + d + 1) := by
  have h2 : ∀ j, j < M → psF B n j < n := fun j hj => by
    rcases Nat.lt_or_ge (psF B n j) n with q | q
    · exact q
    · exact absurd (kn_0 q) (h j hj)
  intro d
  induction d with
  | zero => exact fun i hi => ps_1 (h2 i (by omega))
  | succ d ih =>
    intro i hi
    have a := ih i (by omega)
    have b := ps_1 (h2 (i + d + 1) (by omega))
    rw [show i + (d + 1) + 1 = i + d + 1 + 1 by omega]
    omega
theorem ps_mo {B : Nat → Nat} {n M : Nat} (h : ∀ j, j < M → ¬ Kf B n j = 0) : ∀ i j, i < j → j ≤ M → psF B n i < psF B n j := by
  intro i j hij hj
  have := ps_lt h (j - i - 1) i (by omega)
  rw [show i + (j - i - 1) + 1 = j by omega] at this
  exact this
theorem vl_b {B : Nat → Nat} : ∀ (k p v : Nat), (∀ i, p ≤ i → i < p + k → isD (B i) = true) → vlF B k p v < (v + 1) * 10 ^ k
  | 0, p, v, h => by simp only [vlF, Nat.pow_zero, Nat.mul_one]; omega
  | k + 1, p, v, h => by
    have d := isD_d.mp (h p (Nat.le_refl _) (by omega))
    have ih := vl_b k (p + 1) (v * 10 + B p - 48) (fun i h1 h2 => h i (by omega) (by omega))
    have m : (v * 10 + B p - 48 + 1) * 10 ^ k ≤ ((v + 1) * 10) * 10 ^ k := Nat.mul_le_mul_right _ (by omega)
    have e : (v + 1) * 10 ^ (k + 1) = ((v + 1) * 10) * 10 ^ k := by rw [Nat.pow_succ, Nat.mul_comm (10 ^ k) 10, Nat.mul_assoc]
    rw [e]
    exact Nat.lt_of_lt_of_le ih m
theorem vf_b {B : Nat → Nat} {n : Nat} : ∀ j, Kf B n j = 3 → Vf B n j < 2 ^ 20 := by
  intro j hj
  obtain ⟨h1, h2, h3, h4⟩ := kn_3 hj
  have b := vl_b (B := B) (spN isD B n (psF B n j) - psF B n j) (psF B n j) 0 (fun i q1 q2 => spN_a (n := n) q1 (by omega))
  have e : 10 ^ (spN isD B n (psF B n j) - psF B n j) ≤ 10 ^ 4 := Nat.pow_le_pow_right (by decide) h4
  show vlF B _ _ 0 < 2 ^ 20
  have e4 : (10 : Nat) ^ 4 = 10000 := by decide
  omega
theorem min_M {p : Nat → Prop} : ∀ M : Nat, ∃ M', M' ≤ M ∧ (M' = M ∨ p M') ∧ ∀ j, j < M' → ¬ p j
  | 0 => ⟨0, Nat.le_refl _, Or.inl rfl, fun j hj => absurd hj (Nat.not_lt_zero _)⟩
  | M + 1 => by
    obtain ⟨a, h1, h2, h3⟩ := min_M (p := p) M
    by_cases q : p a
    · exact ⟨a, by omega, Or.inr q, h3⟩
    · have e := h2.resolve_right q
      refine ⟨M + 1, Nat.le_refl _, Or.inl rfl, fun j hj => ?_⟩
      rcases Nat.lt_or_ge j M with c | c
      · exact h3 j (by omega)
      · rw [show j = a by omega]; exact q
theorem tkn_of {B : Nat → Nat} {n m : Nat} {w : Mem} (hm : m ≤ 400) (tk : TKC B n (m + 1) w) (h : m = 400 ∨ knF B n (psF B n m) ≤ 1) : TKN (Kf B n) (psF B n) (Vf B n) m w :=
  ⟨hm, h, fun j hj => by
    obtain ⟨t1, t2, t3, t4⟩ := tk j (by omega)
    refine ⟨kd_kn, t1, t2, fun k3 => ?_⟩
    obtain ⟨q1, q2, q3, _⟩ := kn_3 k3
    exact t4 q1 q2 q3⟩
theorem tkm_of {B : Nat → Nat} {n M : Nat} {w : Mem} {wl : MemL} (hm : M ≤ 400) (tk : TKR B n (M + 1) w wl) (h : M = 400 ∨ knF B n (psF B n M) = 0) : TKM (Kf B n) (psF B n) (Vf B n) M w :=
  ⟨hm, h, fun j hj => by
    obtain ⟨t1, t2, t3, t4⟩ := tk j (by omega)
    exact ⟨kd_kn, t1, t2, t3⟩⟩
theorem nm_of {B : Nat → Nat} {n M : Nat} {w : Mem} {wl : MemL} (tk : TKR B n (M + 1) w wl) : ∀ j, j ≤ M → Kf B n j = 2 → wl 156 j = lN (NMf B n j) ∧ NMf B n j < 2 ^ 63 := by
  intro j hj h2
  obtain ⟨t1, t2, t3, t4⟩ := tk j (by omega)
  obtain ⟨q1, q2, q3⟩ := kn_2 h2
  have b := spN_b (pr := isL) (B := B) (n := n) (p := psF B n j) (by omega)
  exact ⟨t4 h2, nvF_63 (ltF_in (n := n) _ (by omega)) (by rw [ltF_len]; exact q3)⟩
/-- the class compares two names letter by letter -/
theorem c_sameL {B : Nat → Nat} {n x y k : Nat} {w : Mem} {Q : Int32 → Mem → Prop} (tb : TB B n w) (hx : x ≤ 400) (hy : y ≤ 400) (h6 : w 6 x = nI k) (h5x : w 5 x = nI (psF B n x)) (h5y : w 5 y = nI (psF B n y)) (bx : psF B n x + k ≤ n) (by' : psF B n y + k ≤ n)
    (Q1 : (∀ i, i < k → B (psF B n x + i) = B (psF B n y + i)) → Q 1 w) (Q0 : (∃ i, i < k ∧ ¬ B (psF B n x + i) = B (psF B n y + i)) → Q 0 w) : ∀ (d i : Nat), d + i = k → (∀ j, j < i → B (psF B n x + j) = B (psF B n y + j)) → wp_9_isSameName_b19 Q (d + 1) (nI x) (nI y) (nI i) w := by
  have hn := tb.1
  intro d
  induction d with
  | zero =>
    intro i hi hq
    unfold wp_9_isSameName_b19
    rw [ix_nI (n := x) (by omega), h6]
    refine ⟨vp_in_nI (by omega) (by decide), fun _ => Q1 (fun j hj => hq j (by omega)), fun q => absurd ((nI_leI (by omega) (by omega)).mpr (by omega)) q⟩
  | succ d ih =>
    intro i hi hq
    unfold wp_9_isSameName_b19
    rw [ix_nI (n := x) (by omega), h6, h5x, nI_add]
    refine ⟨vp_in_nI (by omega) (by decide), fun q => absurd ((nI_leI (by omega) (by omega)).mp q) (by omega), fun _ => ⟨vp_in_nI (by omega) (by decide), ?_⟩⟩
    refine c_byte tb (by omega) (fun c1 => ?_) (fun c1 => absurd c1 (by omega))
    rw [ix_nI (n := y) (by omega), h5y, nI_add]
    refine ⟨vp_in_nI (by omega) (by decide), ?_⟩
    refine c_byte tb (by omega) (fun c2 => ?_) (fun c2 => absurd c2 (by omega))
    have b1 := (tb.2.2 _ c1).2
    have b2 := (tb.2.2 _ c2).2
    have e := nI_eq (a := B (psF B n x + i)) (b := B (psF B n y + i)) (by omega) (by omega)
    refine ⟨fun q x8 e8 => ?_, fun q => Q0 ⟨i, by omega, fun z => q (e.mpr z)⟩⟩
    rw [nI_1] at e8
    subst e8
    refine ih (i + 1) (by omega) (fun j hj => ?_)
    rcases Nat.lt_or_ge j i with c | c
    · exact hq j c
    · rw [show j = i by omega]; exact e.mp q
theorem smn_of {B : Nat → Nat} {n m : Nat} {w : Mem} (hm : m ≤ 400) (tb : TB B n w) (tk : TKC B n (m + 1) w) : SMN (Kf B n) (NMf B n) m w := by
  intro w2 f x y hx hy kx ky Q Q1 Q0
  have hn := tb.1
  have r : ∀ a, 1 ≤ a → a ≤ 6 → w2 a = w a := fun a p q => funext (fun j => f a j p q)
  have tb2 : TB B n w2 := by
    unfold TB
    rw [r 1 (by decide) (by decide), r 2 (by decide) (by decide)]
    exact tb
  obtain ⟨x1, x2, x3⟩ := kn_2 kx
  obtain ⟨y1, y2, y3⟩ := kn_2 ky
  obtain ⟨_, s2, s3, _⟩ := tk x (by omega)
  obtain ⟨_, u2, u3, _⟩ := tk y (by omega)
  have s4 := s3 x1 x2
  have u4 := u3 y1 y2
  have bx := spN_b (pr := isL) (B := B) (n := n) (p := psF B n x) (by omega)
  have by' := spN_b (pr := isL) (B := B) (n := n) (p := psF B n y) (by omega)
  have inj : NMf B n x = NMf B n y → ltF B (spN isL B n (psF B n x) - psF B n x) (psF B n x) = ltF B (spN isL B n (psF B n y) - psF B n y) (psF B n y) := fun q => nvF_inj (ltF_in (n := n) _ (by omega)) (ltF_in (n := n) _ (by omega)) q
  unfold wp_9_isSameName
  rw [ix_nI (n := x) (by omega), ix_nI (n := y) (by omega), r 6 (by decide) (by decide), s4, u4]
  refine ⟨vp_in_nI (by omega) (by decide), vp_in_nI (by omega) (by decide), fun q => ?_, fun q => Q0 (fun z => q ?_)⟩
  · have e := (nI_eq (by omega) (by omega)).mp q
    refine ⟨_, c_sameL (k := spN isL B n (psF B n x) - psF B n x) tb2 (by omega) (by omega) (by rw [r 6 (by decide) (by decide)]; exact s4) (by rw [r 5 (by decide) (by decide)]; exact s2) (by rw [r 5 (by decide) (by decide)]; exact u2) (by omega) (by omega) (fun h => Q1 ?_) (fun h => Q0 (fun z => ?_)) _ 0 rfl (fun j hj => absurd hj (Nat.not_lt_zero _))⟩
    · show nvF 0 _ = nvF 0 _
      congr 1
      rw [← e]
      refine List.ext_getElem? (fun i => ?_)
      rcases Nat.lt_or_ge i (spN isL B n (psF B n x) - psF B n x) with c | c
      · rw [ltF_get _ _ _ i c, ltF_get _ _ _ i c, h i c]
      · rw [List.getElem?_eq_none (by rw [ltF_len]; exact c), List.getElem?_eq_none (by rw [ltF_len]; exact c)]
    · obtain ⟨i, hi, hne⟩ := h
      have z2 := congrArg (fun l => l[i]?) (inj z)
      rw [ltF_get _ _ _ i hi, ltF_get _ _ _ i (by omega)] at z2
      exact hne (Option.some.inj z2)
  · have z2 := congrArg List.length (inj z)
    rw [ltF_len, ltF_len] at z2
    rw [z2]
