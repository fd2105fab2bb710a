theorem c_scanOne {B : Nat → Nat} {n i p : Nat} {w : Mem} {Q : Mem → Prop} (h : TB B n w) (hi : i ≤ 400) (hp : p ≤ n) (h5 : w 5 i = nI p) (h4 : w 3 4 = nI p) (K : ∀ w2, SO B n i p w w2 → Q w2) : wp_9_scanOne (nI i) w Q := by
  have h20 := h.1
  have iv : vp_in (nI i) 401 := vp_in_nI (by omega) (by decide)
  unfold wp_9_scanOne
  rw [h4]
  refine c_byte h (by omega) (fun c => ?_) (fun c => ?_)
  · have hb := (h.2.2 p c).2
    refine c_letter (by omega) (fun l => ⟨fun z => absurd z (by decide), fun _ => c_scanName h hi c h5 h4 l K⟩) (fun l => ⟨fun _ => c_digit (by omega) (fun d => ⟨fun z => absurd z (by decide), fun _ => c_scanInt h hi c h5 h4 l d K⟩) (fun d => ⟨fun _ => ?_, fun z => absurd rfl z⟩), fun z => absurd rfl z⟩)
    have nm : ¬ nI (B p) = -1 := fun z => by
      have := nI_pos (n := B p) (by omega)
      rw [z] at this
      exact this (by decide)
    refine ⟨fun z => absurd z nm, fun _ => s_sign hb (fun sg r hr => ?_) (fun sg => ?_)⟩
    · refine ⟨fun z => absurd z (nI_pos (by omega)), fun _ => ⟨iv, fun w10 e10 w11 e11 => ?_⟩⟩
      rw [ix_nI (by omega)] at e10
      have g10 : w10 3 4 = nI p := by subst e10; rw [st_nk (by decide)]; exact h4
      rw [g10, nI_1] at e11
      have ek : knF B n p = B p := by unfold knF; rw [if_neg (by omega), if_neg l, if_neg d, if_pos sg]
      have ee : enF B n p = p + 1 := by unfold enF; rw [if_neg (by omega), if_neg l, if_neg d]
      subst e11
      subst e10
      refine K _ ⟨fun a ha => ?_, ?_, ?_, fun j hj => ?_, fun _ z => absurd z l, fun _ _ z => absurd z d, fun _ => ?_⟩
      · rw [st_ne a (by omega), st_ne a (by omega)]
      · rw [st_ne 5 (by decide), st_ne 5 (by decide)]
      · rw [st_ne 4 (by decide), st_at, ek]
      · rw [st_nk (by decide), st_nk (by decide)]
      · rw [st_eq, ee]
    · have ek : knF B n p = 1 := by unfold knF; rw [if_neg (by omega), if_neg l, if_neg d, if_neg sg]
      refine ⟨fun _ => ?_, fun z => absurd z (by decide)⟩
      refine ⟨fun _ => ⟨iv, fun w2 e2 => K w2 ?_⟩, fun z => absurd (Classical.not_not.mp z) nm⟩
      rw [ix_nI (by omega)] at e2
      subst e2
      refine ⟨fun a ha => st_ne a (by omega), st_ne 5 (by decide), ?_, fun j hj => st_nk (by decide), fun _ z => absurd z l, fun _ _ z => absurd z d, fun z => ?_⟩
      · rw [st_at, ek]; rfl
      · rw [ek] at z; omega
  · have ek : knF B n p = 0 := by unfold knF; rw [if_pos c]
    refine ⟨fun _ => ⟨fun _ => ⟨fun _ => ⟨fun _ => ?_, fun z => absurd rfl z⟩, fun z => absurd rfl z⟩, fun z => absurd (by decide) z⟩, fun z => absurd (by decide) z⟩
    refine ⟨fun _ => ⟨fun z => absurd rfl z, fun _ => ⟨iv, fun w2 e2 => K w2 ?_⟩⟩, fun z => absurd rfl z⟩
    rw [ix_nI (by omega)] at e2
    subst e2
    refine ⟨fun a ha => st_ne a (by omega), st_ne 5 (by decide), ?_, fun j hj => st_nk (by decide), fun z => absurd z (by omega), fun z => absurd z (by omega), fun z => ?_⟩
    · rw [st_at, ek]; rfl
    · rw [ek] at z; omega
/-- the class holds the first m + 1 tokens -/
def TKC (B : Nat → Nat) (n m : Nat) (w : Mem) : Prop := ∀ j, j < m → w 4 j = nI (knF B n (psF B n j)) ∧ w 5 j = nI (psF B n j) ∧
  (psF B n j < n → isL (B (psF B n j)) = true → w 6 j = nI (spN isL B n (psF B n j) - psF B n j)) ∧ (psF B n j < n → ¬ isL (B (psF B n j)) = true → isD (B (psF B n j)) = true → w 6 j = nI (vlF B (spN isD B n (psF B n j) - psF B n j) (psF B n j) 0))
/-- where the i-th token's blanks begin -/
def bgF (B : Nat → Nat) (n : Nat) : Nat → Nat
  | 0 => 0
  | i + 1 => enF B n (psF B n i)
theorem psF_bg (B : Nat → Nat) (n : Nat) : ∀ i, psF B n i = spN isB B n (bgF B n i)
  | 0 => rfl
  | i + 1 => rfl
theorem bgF_b (B : Nat → Nat) (n : Nat) : ∀ i, bgF B n i ≤ n
  | 0 => Nat.zero_le _
  | i + 1 => (enF_b (psF_b i)).2.1
theorem c_scan {B : Nat → Nat} {n : Nat} {w : Mem} {Q : Mem → Prop} (h : TB B n w) (K : ∀ w2 m, (∀ a, ¬ (3 ≤ a ∧ a ≤ 6) → w2 a = w a) → m ≤ 400 → TKC B n (m + 1) w2 → (m = 400 ∨ knF B n (psF B n m) ≤ 1) → (∀ j, j < m → 2 ≤ knF B n (psF B n j)) → Q w2) : wp_9_scan w Q := by
  have h20 := h.1
  intro w1 e1
  have f1 : ∀ a, ¬ (3 ≤ a ∧ a ≤ 6) → w1 a = w a := by subst e1; exact fun a ha => st_ne a (by omega)
  have s1 : w1 3 4 = nI 0 := by subst e1; exact st_eq
  clear e1
  have go : ∀ (k i : Nat) (w2 : Mem), i + k = 401 → (∀ a, ¬ (3 ≤ a ∧ a ≤ 6) → w2 a = w a) → w2 3 4 = nI (bgF B n i) → TKC B n i w2 → (∀ j, j < i → 2 ≤ knF B n (psF B n j)) → wp_9_scan_b9 Q (k + 1) 1 (nI i) w2 := by
    intro k
    induction k with
    | zero =>
      intro i w2 hi f2 s2 t2 g2
      refine pk_lt 400 i (fun _ => K w2 400 f2 (by omega) (by rw [show 400 + 1 = i by omega]; exact t2) (Or.inl rfl) (fun j hj => g2 j (by omega))) (fun q => absurd q (by omega))
    | succ k ih =>
      intro i w2 hi f2 s2 t2 g2
      have hb := bgF_b B n i
      have tb2 := tb_r h f2
      refine pk_lt 400 i (fun q => absurd q (by omega)) (fun _ => ⟨fun q => absurd q (by decide), fun _ => ?_⟩)
      refine ⟨_, c_skip (n - bgF B n i) (bgF B n i) w2 rfl hb tb2 s2 ⟨vp_in_nI (by omega) (by decide), fun w3 e3 => ?_⟩⟩
      rw [st_eq, ix_nI (by omega), ← psF_bg] at e3
      have f3 : ∀ a, ¬ (3 ≤ a ∧ a ≤ 6) → w3 a = w a := by subst e3; exact fun a ha => by rw [st_ne a (by omega), st_ne a (by omega)]; exact f2 a ha
      have g5 : w3 5 = upd (w2 5) i (nI (psF B n i)) := by subst e3; rw [st_at, st_ne 5 (by decide)]
      have g4 : w3 4 = w2 4 := by subst e3; rw [st_ne 4 (by decide), st_ne 4 (by decide)]
      have g6 : w3 6 = w2 6 := by subst e3; rw [st_ne 6 (by decide), st_ne 6 (by decide)]
      have g3 : w3 3 4 = nI (psF B n i) := by subst e3; rw [st_nk (by decide), st_eq]
      clear e3
      refine c_scanOne (tb_r h f3) (by omega) (psF_b i) (by rw [g5]; exact pk_us) g3 (fun w4 so => ?_)
      obtain ⟨k1, k2, k3, k4, k5, k6, k7⟩ := so
      have f4 : ∀ a, ¬ (3 ≤ a ∧ a ≤ 6) → w4 a = w a := fun a ha => (k1 a ha).trans (f3 a ha)
      have t4 : TKC B n (i + 1) w4 := by
        intro j hj
        by_cases c : j = i
        · subst c
          refine ⟨by rw [k3]; exact pk_us, by rw [k2, g5]; exact pk_us, k5, k6⟩
        · obtain ⟨y1, y2, y3, y4⟩ := t2 j (by omega)
          refine ⟨by rw [k3, pk_un c, g4]; exact y1, by rw [k2, g5, pk_un c]; exact y2, ?_, ?_⟩
          · rw [k4 j c, g6]; exact y3
          · rw [k4 j c, g6]; exact y4
      have e4 : w4 4 i = nI (knF B n (psF B n i)) := (t4 i (by omega)).1
      have iv : vp_in (nI i) 401 := vp_in_nI (by omega) (by decide)
      have kb : knF B n (psF B n i) < 2 ^ 20 := by
        unfold knF
        split
        · omega
        · split
          · split
            · omega
            · have := (kwF_ge wdL 128 (ltF B (spN isL B n (psF B n i) - psF B n i) (psF B n i)) (by omega)).2
              have : wdL.length = 29 := by decide
              omega
          · split
            · split <;> omega
            · split
              · rename_i c _ _ _
                have := (h.2.2 (psF B n i) (by omega)).2
                omega
              · omega
      have stop : knF B n (psF B n i) ≤ 1 → wp_9_scan_b63 Q (wp_9_scan_b9 Q (k + 1)) (nI i) 0 w4 := by
        intro c x1 ex
        rw [nI_1] at ex
        subst ex
        have fin : Q w4 := K w4 i f4 (by omega) t4 (Or.inr c) g2
        refine pk_lt 400 (i + 1) (fun _ => fin) (fun _ => ⟨fun _ => fin, fun z => absurd rfl z⟩)
      refine ⟨iv, ?_⟩
      rw [ix_nI (by omega), e4]
      refine ⟨fun q => stop (by have := (nI_eq (b := 0) (by omega) (by omega)).mp q; omega), fun q0 => ⟨iv, fun q => stop (by have := (nI_eq (b := 1) (by omega) (by omega)).mp q; omega), fun q1 x1 ex => ?_⟩⟩
      rw [nI_1] at ex
      subst ex
      have k2' : 2 ≤ knF B n (psF B n i) := by
        rcases (show knF B n (psF B n i) = 0 ∨ knF B n (psF B n i) = 1 ∨ 2 ≤ knF B n (psF B n i) by omega) with z | z | z
        · exact absurd (by rw [z]; rfl) q0
        · exact absurd (by rw [z]; rfl) q1
        · exact z
      refine ih (i + 1) w4 (by omega) f4 (k7 k2') t4 (fun j hj => ?_)
      rcases Nat.lt_or_ge j i with c | c
      · exact g2 j c
      · rw [show j = i by omega]; exact k2'
  exact ⟨402, go 401 0 w1 rfl f1 s1 (fun j hj => absurd hj (by omega)) (fun j hj => absurd hj (by omega))⟩
