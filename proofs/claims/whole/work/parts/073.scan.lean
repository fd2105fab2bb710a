def sgL : List Nat := [59, 61, 43, 45, 42, 47, 60, 40, 41]
theorem sg_eq : ∀ c, c < 256 → ∀ i, i < 9 → ((bytS.getD 1 []).getD i 0 = (nI c).toInt8.toInt32 ↔ sgL.getD i 0 = c) := by decide +kernel
theorem sg_in : ∀ c, c < 256 → (isS c = true ↔ ∃ i, i < 9 ∧ sgL.getD i 0 = c) := by
  intro c hc
  have d : isS c = true ↔ (c = 59 ∨ c = 61 ∨ c = 43 ∨ c = 45 ∨ c = 42 ∨ c = 47 ∨ c = 60 ∨ c = 40 ∨ c = 41) := by unfold isS; exact decide_eq_true_iff
  rw [d]
  constructor
  · rintro (z | z | z | z | z | z | z | z | z)
    · exact ⟨0, by omega, z.symm⟩
    · exact ⟨1, by omega, z.symm⟩
    · exact ⟨2, by omega, z.symm⟩
    · exact ⟨3, by omega, z.symm⟩
    · exact ⟨4, by omega, z.symm⟩
    · exact ⟨5, by omega, z.symm⟩
    · exact ⟨6, by omega, z.symm⟩
    · exact ⟨7, by omega, z.symm⟩
    · exact ⟨8, by omega, z.symm⟩
  · rintro ⟨i, hi, e⟩
    rcases (show i = 0 ∨ i = 1 ∨ i = 2 ∨ i = 3 ∨ i = 4 ∨ i = 5 ∨ i = 6 ∨ i = 7 ∨ i = 8 by omega) with rfl | rfl | rfl | rfl | rfl | rfl | rfl | rfl | rfl <;> (rw [← e]; decide)
theorem s_sign {c : Nat} {w : Mem} {Q : Int32 → Mem → Prop} (hc : c < 256) (K1 : isS c = true → ∀ r, r < 9 → Q (nI r) w) (K0 : ¬ isS c = true → Q (-1) w) : wp_J0_indexOf_0f7a4 1 (((nI c).toUInt32 % 65536).toInt32) w Q := by
  have ec : ((nI c).toUInt32 % 65536).toInt32 = nI c := by rw [pk_char, pk_tn (by omega), Nat.mod_eq_of_lt (by omega)]
  rw [ec]
  refine ⟨fun q => absurd q (by decide), fun _ => ⟨fun q => absurd rfl q, fun _ => ⟨fun q => absurd q (by decide), fun _ => ?_⟩⟩⟩
  refine ⟨fun q => absurd q (by decide), fun _ => ?_⟩
  refine ⟨fun q => absurd q (nI_pos (by omega)), fun _ => pk_lt 255 c (fun q => absurd q (by omega)) (fun _ => ?_)⟩
  refine u1 (fun x3 e3 x4 e4 => ?_)
  have e3' : x3 = nI 0 := e3.trans (by decide)
  have e4' : x4 = nI 9 := e4.trans (by decide)
  subst e3'
  subst e4'
  refine ⟨fun _ x1 e1 => ?_, fun q => absurd (by decide) q⟩
  subst e1
  refine pk_loop (fun n i (_ : Unit) => wp_J1_indexOfChar_4cfef_b7 1 Q n (nI 9) ((nI c).toInt8.toInt32) (nI i) w) (fun i _ => ∀ j, j < i → ¬ sgL.getD j 0 = c) 9 0 () (by omega) (fun j hj => absurd hj (by omega)) (fun n z hz => ?_) (fun n i z hi hz L => ?_)
  · refine pk_le 9 9 (fun _ => K0 (fun y => ?_)) (fun q => absurd q (by omega))
    obtain ⟨i, hi, e⟩ := (sg_in c hc).mp y
    exact hz i hi e
  · refine pk_le 9 i (fun q => absurd q (by omega)) (fun _ => ⟨vp_in_nI (show i < lenS.getD 1 0 from by show i < 9; omega) (by decide), ?_⟩)
    rw [ix_nI (by omega)]
    refine ⟨fun q x2 e2 => ?_, fun q => K1 ((sg_in c hc).mpr ⟨i, hi, (sg_eq c hc i hi).mp (Classical.not_not.mp q)⟩) i hi⟩
    rw [nI_1] at e2
    subst e2
    refine L () (fun j hj => ?_)
    rcases Nat.lt_or_ge j i with d | d
    · exact hz j d
    · rw [show j = i by omega]
      exact fun z => q ((sg_eq c hc i hi).mpr z)
/-- what one token of the class leaves -/
def SO (B : Nat → Nat) (n i p : Nat) (w w2 : Mem) : Prop :=
  (∀ a, ¬ (3 ≤ a ∧ a ≤ 6) → w2 a = w a) ∧ w2 5 = w 5 ∧ w2 4 = upd (w 4) i (nI (knF B n p)) ∧ (∀ j, j ≠ i → w2 6 j = w 6 j) ∧
  (p < n → isL (B p) = true → w2 6 i = nI (spN isL B n p - p)) ∧ (p < n → ¬ isL (B p) = true → isD (B p) = true → w2 6 i = nI (vlF B (spN isD B n p - p) p 0)) ∧ (2 ≤ knF B n p → w2 3 4 = nI (enF B n p))
theorem tb_r {B : Nat → Nat} {n : Nat} {w w2 : Mem} (h : TB B n w) (f : ∀ a, ¬ (3 ≤ a ∧ a ≤ 6) → w2 a = w a) : TB B n w2 := by
  unfold TB
  rw [f 1 (by omega), f 2 (by omega)]
  exact h
theorem kwF_ge : ∀ (ws : List (List Nat)) (k : Nat) (l : List Nat), 2 ≤ k → 2 ≤ kwF ws k l ∧ kwF ws k l < k + ws.length + 3
  | [], k, l, h => ⟨Nat.le_refl _, by simp only [kwF]; omega⟩
  | u :: r, k, l, h => by
    have := kwF_ge r (k + 1) l (by omega)
    simp only [kwF, List.length_cons]
    split <;> omega
theorem c_scanName {B : Nat → Nat} {n i p : Nat} {w : Mem} {Q : Mem → Prop} (h : TB B n w) (hi : i ≤ 400) (hp : p < n) (h5 : w 5 i = nI p) (h4 : w 3 4 = nI p) (hl : isL (B p) = true) (K : ∀ w2, SO B n i p w w2 → Q w2) : wp_9_scanName (nI i) w Q := by
  have h20 := h.1
  have iv : vp_in (nI i) 401 := vp_in_nI (by omega) (by decide)
  have eb := spN_b (pr := isL) (B := B) (n := n) (p := p) (by omega)
  have ek : knF B n p = if 8 < spN isL B n p - p then 1 else kwF wdL 128 (ltF B (spN isL B n p - p) p) := by
    unfold knF
    rw [if_neg (by omega), if_pos hl]
  have ee : enF B n p = spN isL B n p := by
    unfold enF
    rw [if_neg (by omega), if_pos hl]
  have b44 : ∀ w3, (∀ a j, ¬ (a = 3 ∧ j = 4) → w3 a j = w a j) → w3 3 4 = nI (spN isL B n p) → wp_9_scanName_b44 Q (nI i) w3 := by
    intro w3 f3 e3
    have r3 : ∀ a, a ≠ 3 → w3 a = w a := fun a ha => funext (fun j => f3 a j (by omega))
    unfold wp_9_scanName_b44
    rw [ix_nI (by omega), e3, r3 5 (by decide), h5, pk_sub eb.1]
    refine ⟨iv, fun x2 e2 => ⟨iv, fun w4 e4 => ?_⟩⟩
    subst e2
    have f4 : ∀ a, a ≠ 3 → a ≠ 6 → w4 a = w a := by subst e4; exact fun a h1 h2 => (st_ne a h2).trans (r3 a h1)
    have g4 : w4 3 4 = nI (spN isL B n p) := by subst e4; rw [st_nk (by decide)]; exact e3
    have s4 : w4 6 i = nI (spN isL B n p - p) ∧ ∀ j, j ≠ i → w4 6 j = w 6 j := by
      subst e4
      exact ⟨st_eq, fun j hj => (st_nj hj).trans (congrFun (r3 6 (by decide)) j)⟩
    have b89 : ∀ kd w6, kd = nI (knF B n p) → w6 = w4 → wp_9_scanName_b89 Q (nI i) kd w6 := by
      intro kd w6 ekd ew
      subst ew
      subst ekd
      refine ⟨iv, fun w2 e2 => K w2 ?_⟩
      rw [ix_nI (by omega)] at e2
      subst e2
      refine ⟨fun a ha => ?_, ?_, ?_, fun j hj => ?_, fun _ _ => ?_, fun _ z => absurd hl z, fun _ => ?_⟩
      · rw [st_ne a (by omega)]; exact f4 a (by omega) (by omega)
      · rw [st_ne 5 (by decide)]; exact f4 5 (by decide) (by decide)
      · rw [st_at, f4 4 (by decide) (by decide)]
      · rw [st_nk (by decide)]; exact s4.2 j hj
      · rw [st_nk (by decide)]; exact s4.1
      · rw [st_nk (by decide), ee]; exact g4
    refine pk_le (spN isL B n p - p) 8 (fun q => ⟨iv, ?_⟩) (fun q => b89 _ _ ?_ rfl)
    · rw [f4 5 (by decide) (by decide), h5]
      have t4 : TB B n w4 := tb_r h (fun a ha => f4 a (by omega) (by omega))
      refine c_kindOf t4 (by omega) (b89 _ _ ?_ rfl)
      rw [ek, if_neg (by omega)]
    · rw [ek, if_pos q]
      rfl
  have go : ∀ (k q : Nat) (w3 : Mem), n - q = k → p ≤ q → q ≤ n → spN isL B n q = spN isL B n p → (∀ a j, ¬ (a = 3 ∧ j = 4) → w3 a j = w a j) → w3 3 4 = nI q → wp_9_scanName_b0 Q (k + 1) (nI i) w3 := by
    intro k
    induction k with
    | zero =>
      intro q w3 hk hq hq2 es f3 e3
      unfold wp_9_scanName_b0
      rw [e3, show w3 1 1 = nI n from (f3 1 1 (by omega)).trans h.2.1]
      refine pk_le n q (fun _ => b44 w3 f3 ?_) (fun z => absurd z (by omega))
      rw [e3, ← es, spN_e (by omega)]
    | succ k ih =>
      intro q w3 hk hq hq2 es f3 e3
      have t3 : TB B n w3 := tb_r h (fun a ha => funext (fun j => f3 a j (by omega)))
      unfold wp_9_scanName_b0
      rw [e3, t3.2.1]
      refine pk_le n q (fun z => absurd z (by omega)) (fun z => ?_)
      have hb := (h.2.2 q z).2
      refine c_byte t3 (by omega) (fun _ => c_letter (by omega) (fun c => t1 (fun w5 e5 => ?_)) (fun c => t0 (b44 w3 f3 ?_))) (fun y => absurd z (by omega))
      · rw [e3, nI_1] at e5
        subst e5
        refine ih (q + 1) _ (by omega) (by omega) (by omega) ?_ (fun a j ha => ?_) st_eq
        · rw [← es, spN_y z c]
        · simp only [st]
          rw [if_neg ha]
          exact f3 a j ha
      · rw [e3, ← es, spN_n z c]
  exact ⟨n - p + 1, go (n - p) p w rfl (Nat.le_refl _) (by omega) rfl (fun _ _ _ => rfl) h4⟩
theorem c_scanInt {B : Nat → Nat} {n i p : Nat} {w : Mem} {Q : Mem → Prop} (h : TB B n w) (hi : i ≤ 400) (hp : p < n) (h5 : w 5 i = nI p) (h4 : w 3 4 = nI p) (hn : ¬ isL (B p) = true) (hl : isD (B p) = true) (K : ∀ w2, SO B n i p w w2 → Q w2) : wp_9_scanInt (nI i) w Q := by
  have h20 := h.1
  have iv : vp_in (nI i) 401 := vp_in_nI (by omega) (by decide)
  have eb := spN_b (pr := isD) (B := B) (n := n) (p := p) (by omega)
  have ek : knF B n p = if 4 < spN isD B n p - p then 1 else 3 := by
    unfold knF
    rw [if_neg (by omega), if_neg hn, if_pos hl]
  have ee : enF B n p = spN isD B n p := by
    unfold enF
    rw [if_neg (by omega), if_neg hn, if_pos hl]
  have b66 : ∀ w3 v, (∀ a j, ¬ (a = 3 ∧ j = 4) → w3 a j = w a j) → w3 3 4 = nI (spN isD B n p) → v = vlF B (spN isD B n p - p) p 0 → wp_9_scanInt_b66 Q (nI i) (nI v) w3 := by
    intro w3 v f3 e3 ev
    subst ev
    have r3 : ∀ a, a ≠ 3 → w3 a = w a := fun a ha => funext (fun j => f3 a j (by omega))
    refine ⟨iv, fun w4 e4 => ⟨iv, ?_⟩⟩
    rw [ix_nI (by omega)] at e4 ⊢
    have f4 : ∀ a, a ≠ 3 → a ≠ 6 → w4 a = w a := by subst e4; exact fun a h1 h2 => (st_ne a h2).trans (r3 a h1)
    have g4 : w4 3 4 = nI (spN isD B n p) := by subst e4; rw [st_nk (by decide)]; exact e3
    have s4 : w4 6 i = nI (vlF B (spN isD B n p - p) p 0) ∧ ∀ j, j ≠ i → w4 6 j = w 6 j := by
      subst e4
      exact ⟨st_eq, fun j hj => (st_nj hj).trans (congrFun (r3 6 (by decide)) j)⟩
    rw [g4, f4 5 (by decide) (by decide), h5, pk_sub eb.1]
    have b98 : ∀ kd, kd = nI (knF B n p) → wp_9_scanInt_b98 Q (nI i) kd w4 := by
      intro kd ekd
      subst ekd
      refine ⟨iv, fun w2 e2 => K w2 ?_⟩
      rw [ix_nI (by omega)] at e2
      subst e2
      refine ⟨fun a ha => ?_, ?_, ?_, fun j hj => ?_, fun _ z => absurd z hn, fun _ _ _ => ?_, fun _ => ?_⟩
      · rw [st_ne a (by omega)]; exact f4 a (by omega) (by omega)
      · rw [st_ne 5 (by decide)]; exact f4 5 (by decide) (by decide)
      · rw [st_at, f4 4 (by decide) (by decide)]
      · rw [st_nk (by decide)]; exact s4.2 j hj
      · rw [st_nk (by decide)]; exact s4.1
      · rw [st_nk (by decide), ee]; exact g4
    refine pk_le (spN isD B n p - p) 4 (fun q => b98 _ ?_) (fun q => b98 _ ?_)
    · rw [ek, if_neg (by omega)]; rfl
    · rw [ek, if_pos q]; rfl
  have go : ∀ (k q v : Nat) (w3 : Mem), n - q = k → p ≤ q → q ≤ n → spN isD B n q = spN isD B n p → vlF B (spN isD B n p - q) q v = vlF B (spN isD B n p - p) p 0 → (∀ a j, ¬ (a = 3 ∧ j = 4) → w3 a j = w a j) → w3 3 4 = nI q → wp_9_scanInt_b2 Q (k + 1) (nI i) (nI v) w3 := by
    intro k
    induction k with
    | zero =>
      intro q v w3 hk hq hq2 es evl f3 e3
      unfold wp_9_scanInt_b2
      rw [e3, show w3 1 1 = nI n from (f3 1 1 (by omega)).trans h.2.1]
      have eq : spN isD B n p = q := by rw [← es, spN_e (by omega)]
      refine pk_le n q (fun _ => b66 w3 v f3 (by rw [e3, eq]) ?_) (fun z => absurd z (by omega))
      rw [← evl, eq, Nat.sub_self]
      rfl
    | succ k ih =>
      intro q v w3 hk hq hq2 es evl f3 e3
      have t3 : TB B n w3 := tb_r h (fun a ha => funext (fun j => f3 a j (by omega)))
      unfold wp_9_scanInt_b2
      rw [e3, t3.2.1]
      refine pk_le n q (fun z => absurd z (by omega)) (fun z => ?_)
      have hb := (h.2.2 q z).2
      refine c_byte t3 (by omega) (fun _ => c_digit (by omega) (fun c => t1 ?_) (fun c => t0 (b66 w3 v f3 ?_ ?_))) (fun y => absurd z (by omega))
      · rw [e3]
        refine c_byte t3 (by omega) (fun _ x7 e7 w8 e8 => ?_) (fun y => absurd z (by omega))
        have cd := isD_d.mp c
        rw [e3, nI_1] at e8
        rw [show (10 : Int32) = nI 10 from rfl, pk_mul, nI_add, show (48 : Int32) = nI 48 from rfl, pk_sub (by omega)] at e7
        subst e7
        subst e8
        have es2 : spN isD B n (q + 1) = spN isD B n p := by rw [← es, spN_y z c]
        have := (spN_b (pr := isD) (B := B) (n := n) (p := q + 1) (by omega)).1
        refine ih (q + 1) _ _ (by omega) (by omega) (by omega) es2 ?_ (fun a j ha => ?_) st_eq
        · rw [← evl, show spN isD B n p - q = (spN isD B n p - (q + 1)) + 1 by omega]
          rfl
        · simp only [st]
          rw [if_neg ha]
          exact f3 a j ha
      · rw [e3, ← es, spN_n z c]
      · have eq : spN isD B n p = q := by rw [← es, spN_n z c]
        rw [← evl, eq, Nat.sub_self]
        rfl
  exact ⟨n - p + 1, go (n - p) p 0 w rfl (Nat.le_refl _) (by omega) rfl rfl (fun _ _ _ => rfl) h4⟩
