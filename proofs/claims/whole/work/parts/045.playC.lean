def fcS (w w2 : Mem) : Prop := ∀ a j, ¬ scC a j → w2 a j = w a j
theorem cf_of {w0 w : Mem} (h : fcS w0 w) : CF w0 (w 87 3) (w 87 4) (w 87 5) (w 87 6) (w 87 7) (w 88) w := ⟨h, ⟨rfl, rfl, rfl, rfl, rfl⟩, fun _ _ => rfl⟩
theorem cf_re (w : Mem) : CF w (w 87 3) (w 87 4) (w 87 5) (w 87 6) (w 87 7) (w 88) w := cf_of (fun _ _ _ => rfl)
theorem tc_fr {t : Nat} {T : TX} {w w2 : Mem} (h : TC t T w) (f : ∀ a, a < 5 → w2 (t + 1 + 6 * a + 1) = w (t + 1 + 6 * a + 1) ∧ w2 (t + 1 + 6 * a + 2) = w (t + 1 + 6 * a + 2) ∧ w2 (t + 1 + 6 * a + 3) = w (t + 1 + 6 * a + 3) ∧ w2 (t + 1 + 6 * a) 6 = w (t + 1 + 6 * a) 6)
    (f0 : w2 t = w t) (f1 : ∀ a, 31 ≤ a → a < 39 → w2 (t + a) = w (t + a)) : TC t T w2 := by
  obtain ⟨h1, h2, h3, h4, h5, h6, h7⟩ := h
  refine ⟨fun a ha => ?_, ?_, ?_, ?_, ?_, fun r a hr ha => ?_, ?_⟩
  · obtain ⟨Z, R, k1, k2⟩ := h1 a ha
    obtain ⟨e1, e2, e3, e4⟩ := f a ha
    exact ⟨Z, R, lwC_cg e1 e2 e3 e4 R 0 0 k1, k2⟩
  · rw [f0]; exact h2
  · rw [f1 31 (by decide) (by decide)]; exact h3
  · rw [f0]; exact h4
  · rw [f1 32 (by decide) (by decide)]; exact h5
  · rw [show t + 33 + r = t + (33 + r) by omega, f1 (33 + r) (by omega) (by omega), show t + (33 + r) = t + 33 + r by omega]; exact h6 r a hr ha
  · rw [f1 37 (by decide) (by decide), f1 38 (by decide) (by decide)]; exact h7
theorem ct_fr {T : TX} {sd : Int32} {w w2 : Mem} (h : CT T sd w) (f : ∀ a j, ¬ scC a j → a < 88 → w2 a j = w a j) : CT T sd w2 := by
  have row : ∀ a, a < 88 → (∀ j, ¬ scC a j) → w2 a = w a := fun a ha h => funext (fun j => f a j (h j) ha)
  refine ⟨tc_fr h.1 (fun a ha => ⟨row _ (by omega) (fun j => by simp only [scC]; omega), row _ (by omega) (fun j => by simp only [scC]; omega), row _ (by omega) (fun j => by simp only [scC]; omega), f _ 6 (by simp only [scC]; omega) (by omega)⟩) (row _ (by omega) (fun j => by simp only [scC]; omega)) (fun a h1 h2 => row _ (by omega) (fun j => by simp only [scC]; omega)), h.2.1, fun a j ha hj hs => ?_, (f 87 2 (by decide) (by omega)).trans h.2.2.2⟩
  rw [f (53 + 6 * a) j hs (by omega)]
  exact h.2.2.1 a j ha hj hs
def uc (u : Nat) : Nat := (u % 8) * 2 + u / 8
/-- the play at the cell k is P -/
def PL (T : TX) (lf : Bool) (P : Nat → Int32) (k : Nat) (w : Mem) : Prop :=
  (w k 4 = P 0 ∧ w k 5 = P 1 ∧ w k 6 = P 2 ∧ w k 7 = P 3 ∧ w k 8 = nI (szP T P)) ∧ (∀ i, i < szP T P → w (k + 1) i = nI (odP T lf P i)) ∧ (∀ a, a < 8 → w (k + 2) a = f2 P a) ∧
  (∀ u c, u < 16 → c < 8 → w (k + 3) (uc u * 16 + c) = P (4 + 16 * (c + 1) + u)) ∧ (∀ u, u < 16 → w (k + 3) (uc u * 16 + 8) = P (4 + u)) ∧ (∀ u j, u < 16 → j < tj T → w (k + 3) (uc u * 16 + 9 + j) = P (148 + 7 * u + j))
theorem pl_fr {T : TX} {lf : Bool} {P : Nat → Int32} {k : Nat} {w w2 : Mem} (h : PL T lf P k w) (f : ∀ a, k ≤ a → a < k + 4 → w2 a = w a) : PL T lf P k w2 := by
  unfold PL at h ⊢
  rw [f k (by omega) (by omega), f (k + 1) (by omega) (by omega), f (k + 2) (by omega) (by omega), f (k + 3) (by omega) (by omega)]
  exact h
theorem c_next {T : TX} {lf : Bool} {P : Nat → Int32} {k : Nat} {w : Mem} {Q : Int32 → Mem → Prop} (hB : BT T) (h : PL T lf P k w) (hP : GW T lf P) (K0 : szP T P = 0 → Q (-2) w) (K1 : sn P < szP T P → Q (nI (nxP T lf P)) w) : wp_5_nextMan k w Q := by
  obtain ⟨⟨e4, e5, e6, e7, e8⟩, ho, _⟩ := h
  obtain ⟨g1, g3, r1, r3, s8, gs, gg⟩ := hP.1
  have z8 := szP_8 (P := P) hB
  unfold wp_5_nextMan
  rw [e7, e8, g3]
  refine pk_le (szP T P) (sn P) (fun q => K0 (by omega)) (fun q => ?_)
  refine pk_le 8 (sn P) (fun q => absurd q (by omega)) (fun _ => ⟨pk_in (sn P) 8 (by omega), ?_⟩)
  rw [ix_nI (by omega), ho _ q]
  exact K1 q
theorem manS_cg {f g : Nat → Int32} {m r : Nat} (h : ∀ o, o < m → f o = g o) : ∀ n, n ≤ m → manS f m r n = manS g m r n
  | 0, _ => rfl
  | n + 1, hn => by
    simp only [manS]
    rw [manS_cg h n (by omega), rkN_cg m h (h n (by omega))]
theorem pk_mn {a b : Nat} (ha : a < 2 ^ 31) (hb : b < 2 ^ 31) : mn (nI a) (nI b) = nI (if b ≤ a then b else a) := by
  simp only [mn]
  split
  · rename_i q
    rw [nI_ltI hb ha] at q
    rw [if_pos (by omega)]
  · rename_i q
    rw [nI_ltI hb ha] at q
    split
    · rw [show b = a by omega]
    · rfl
