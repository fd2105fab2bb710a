/-! TELLS without a machine: where they end, what stays in bounds -/
theorem bnd_ok {α β : Type} {A : Except (Nat × Nat) α} {F : α → Except (Nat × Nat) β} {b : β} (h : bnd A F = .ok b) : ∃ a, A = .ok a ∧ F a = .ok b := by
  cases A with
  | error e => cases h
  | ok a => exact ⟨a, rfl, h⟩
theorem bnd_er {α β : Type} {A : Except (Nat × Nat) α} {F : α → Except (Nat × Nat) β} {e : Nat × Nat} (h : bnd A F = .error e) : A = .error e ∨ ∃ a, A = .ok a ∧ F a = .error e := by
  cases A with
  | error e' =>
    have h2 : (Except.error e' : Except (Nat × Nat) β) = .error e := h
    exact Or.inl (congrArg Except.error (Except.error.inj h2))
  | ok a => exact Or.inr ⟨a, rfl, h⟩
theorem tk_ok {K : Nat → Nat} {c t t2 : Nat} (h : tkP K c t = .ok t2) : t2 = t + 1 ∧ K t = c ∧ t < 400 := by
  unfold tkP at h
  split at h
  · rename_i y
    split at h
    · rename_i z
      exact ⟨(Except.ok.inj h).symm, y, z⟩
    · cases h
  · cases h
theorem tk_er {K : Nat → Nat} {c t kd tok : Nat} (h : tkP K c t = .error (kd, tok)) : kd = 1 ∨ kd = 2 := by
  unfold tkP at h
  split at h
  · split at h
    · cases h
    · cases h; exact Or.inr rfl
  · cases h; exact Or.inl rfl
theorem in_ok {K V : Nat → Nat} {lo hi t t2 : Nat} {lf lf2 : LFt} (h : inP K V lo hi t lf = .ok (t2, lf2)) : t2 = t + 1 ∧ t < 400 ∧ K t = 3 ∧ (lf2 = none → lf = none ∧ lo ≤ V t ∧ V t ≤ hi) := by
  unfold inP at h
  split at h
  · rename_i y
    split at h
    · rename_i z
      have h2 := Except.ok.inj h
      have e1 := (Prod.mk.inj h2).1
      have e2 := (Prod.mk.inj h2).2
      refine ⟨e1.symm, z, y, fun q => ?_⟩
      split at e2
      · rename_i r
        exact ⟨e2.trans q, r⟩
      · rw [q] at e2
        cases lf <;> cases e2
    · cases h
  · cases h
theorem in_er {K V : Nat → Nat} {lo hi t kd tok : Nat} {lf : LFt} (h : inP K V lo hi t lf = .error (kd, tok)) : kd = 1 ∨ kd = 2 := by
  unfold inP at h
  split at h
  · split at h
    · cases h
    · cases h; exact Or.inr rfl
  · cases h; exact Or.inl rfl
theorem lw_lt {K V : Nat → Nat} : ∀ (n t t2 : Nat) (x : LE × LB), 0 < t → t ≤ 400 → lwP K V n t = .ok (t2, x) → t < t2 ∧ t2 ≤ 400
  | 0, t, t2, x, h1, h2, h => by
    simp only [lwP] at h
    split at h
    · cases h
    · obtain ⟨a, e1, e2⟩ := bnd_ok h
      have e := (ex_top (K := K) (V := V) h1 h2).2 a.1 a.2 e1
      have := (Prod.mk.inj (Except.ok.inj e2)).1
      omega
  | n + 1, t, t2, x, h1, h2, h => by
    simp only [lwP] at h
    split at h
    · obtain ⟨t0, e1, h⟩ := bnd_ok h
      obtain ⟨a, e2, h⟩ := bnd_ok h
      obtain ⟨t1, e3, h⟩ := bnd_ok h
      obtain ⟨b, e4, h⟩ := bnd_ok h
      obtain ⟨t2', e5, h⟩ := bnd_ok h
      obtain ⟨c, e6, h⟩ := bnd_ok h
      obtain ⟨t3, e7, h⟩ := bnd_ok h
      obtain ⟨r, e8, h⟩ := bnd_ok h
      have f1 := tk_ok e1
      have f2 := (ex_top (K := K) (V := V) (by omega) (by omega)).2 a.1 a.2 e2
      have f3 := tk_ok e3
      have f4 := (ex_top (K := K) (V := V) (by omega) (by omega)).2 b.1 b.2 e4
      have f5 := tk_ok e5
      have f6 := (ex_top (K := K) (V := V) (by omega) (by omega)).2 c.1 c.2 e6
      have f7 := tk_ok e7
      have f8 := lw_lt n t3 r.1 r.2 (by omega) (by omega) e8
      have := (Prod.mk.inj (Except.ok.inj h)).1
      omega
    · obtain ⟨a, e1, e2⟩ := bnd_ok h
      have e := (ex_top (K := K) (V := V) h1 h2).2 a.1 a.2 e1
      have := (Prod.mk.inj (Except.ok.inj e2)).1
      omega
theorem law_lt {K V : Nat → Nat} {t t2 : Nat} {x : LE × LB} (h1 : 0 < t) (h : lawP K V t = .ok (t2, x)) : t < t2 ∧ t2 ≤ 400 := by
  unfold lawP at h
  obtain ⟨t0, e1, h⟩ := bnd_ok h
  have f1 := tk_ok e1
  have := lw_lt 4 t0 t2 x (by omega) (by omega) h
  omega
theorem lw_er {K V : Nat → Nat} {kd tok : Nat} : ∀ (n t : Nat), lwP K V n t = .error (kd, tok) → kd = 1 ∨ kd = 2
  | 0, t, h => by
    simp only [lwP] at h
    split at h
    · cases h; exact Or.inr rfl
    · rcases bnd_er h with e | ⟨a, e1, e2⟩
      · exact ke_8 kd tok t e
      · cases e2
  | n + 1, t, h => by
    simp only [lwP] at h
    split at h
    · rcases bnd_er h with e | ⟨t0, e1, h⟩
      · exact tk_er e
      rcases bnd_er h with e | ⟨a, e2, h⟩
      · exact ke_8 kd tok _ e
      rcases bnd_er h with e | ⟨t1, e3, h⟩
      · exact tk_er e
      rcases bnd_er h with e | ⟨b, e4, h⟩
      · exact ke_8 kd tok _ e
      rcases bnd_er h with e | ⟨t2', e5, h⟩
      · exact tk_er e
      rcases bnd_er h with e | ⟨c, e6, h⟩
      · exact ke_8 kd tok _ e
      rcases bnd_er h with e | ⟨t3, e7, h⟩
      · exact tk_er e
      rcases bnd_er h with e | ⟨r, e8, h⟩
      · exact lw_er n _ e
      · cases h
    · rcases bnd_er h with e | ⟨a, e1, e2⟩
      · exact ke_8 kd tok t e
      · cases e2
theorem num_lt {K V : Nat → Nat} : ∀ (L : List (Nat × Nat × Nat)) (t t2 : Nat) (S S2 : PS), t ≤ 400 → numP K V L t S = .ok (t2, S2) → t ≤ t2 ∧ t2 ≤ 400
  | [], t, t2, S, S2, ht, h => by
    have := (Prod.mk.inj (Except.ok.inj h)).1
    omega
  | (k, lo, hi) :: r, t, t2, S, S2, ht, h => by
    simp only [numP] at h
    obtain ⟨a, e1, h⟩ := bnd_ok h
    obtain ⟨f1, f2, _⟩ := in_ok (t2 := a.1) (lf2 := a.2) e1
    have := num_lt r a.1 t2 _ S2 (by omega) h
    omega
theorem num_er {K V : Nat → Nat} {kd tok : Nat} : ∀ (L : List (Nat × Nat × Nat)) (t : Nat) (S : PS), numP K V L t S = .error (kd, tok) → kd = 1 ∨ kd = 2
  | [], t, S, h => by cases h
  | (k, lo, hi) :: r, t, S, h => by
    simp only [numP] at h
    rcases bnd_er h with e | ⟨a, e1, h⟩
    · exact in_er e
    · exact num_er r _ _ h
theorem bod_lt {K V NM : Nat → Nat} {k t t2 : Nat} {S S2 : PS} (h1 : 0 < t) (ht : t ≤ 400) (h : bodP K V NM k t S = .ok (t2, S2)) : t ≤ t2 ∧ t2 ≤ 400 := by
  unfold bodP at h
  split at h
  · obtain ⟨a, e1, h⟩ := bnd_ok h
    have f1 := law_lt h1 (t2 := a.1) (x := a.2) e1
    have := (Prod.mk.inj (Except.ok.inj h)).1
    omega
  · split at h
    · unfold manP at h
      obtain ⟨t1, e1, h⟩ := bnd_ok h
      obtain ⟨a, e2, h⟩ := bnd_ok h
      obtain ⟨b, e3, h⟩ := bnd_ok h
      obtain ⟨c, e4, h⟩ := bnd_ok h
      obtain ⟨d, e5, h⟩ := bnd_ok h
      have f1 := tk_ok e1
      have f2 := in_ok (t2 := a.1) (lf2 := a.2) e2
      have f3 := in_ok (t2 := b.1) (lf2 := b.2) e3
      have f4 := in_ok (t2 := c.1) (lf2 := c.2) e4
      have f5 := in_ok (t2 := d.1) (lf2 := d.2) e5
      have := (Prod.mk.inj (Except.ok.inj h)).1
      omega
    · split at h
      · unfold judP at h
        obtain ⟨t1, e1, h⟩ := bnd_ok h
        obtain ⟨a, e2, h⟩ := bnd_ok h
        obtain ⟨b, e3, h⟩ := bnd_ok h
        obtain ⟨c, e4, h⟩ := bnd_ok h
        have f1 := tk_ok e1
        have f2 : t1 ≤ a ∧ a ≤ 400 := by
          split at e2
          · have := tk_ok e2; omega
          · have := Except.ok.inj e2; omega
        have f3 := in_ok (t2 := b.1) (lf2 := b.2) e3
        have f4 := in_ok (t2 := c.1) (lf2 := c.2) e4
        have := (Prod.mk.inj (Except.ok.inj h)).1
        omega
      · exact num_lt _ _ _ _ _ ht h
theorem tel_lt {K V NM : Nat → Nat} {t t2 : Nat} {S S2 : PS} (h : telP K V NM t S = .ok (t2, S2)) : t < t2 ∧ t2 ≤ 400 := by
  unfold telP at h
  split at h
  · split at h
    · cases h
    · obtain ⟨t1, e1, h⟩ := bnd_ok h
      obtain ⟨a, e2, h⟩ := bnd_ok h
      obtain ⟨b, e3, h⟩ := bnd_ok h
      have f1 := tk_ok e1
      have f2 := bod_lt (t2 := a.1) (S2 := a.2) (by omega) (by omega) e2
      have f3 := tk_ok e3
      have := (Prod.mk.inj (Except.ok.inj h)).1
      omega
  · cases h
theorem tel_er {K V NM : Nat → Nat} {t kd tok : Nat} {S : PS} (h : telP K V NM t S = .error (kd, tok)) : kd = 1 ∨ kd = 2 := by
  unfold telP at h
  split at h
  · split at h
    · cases h; exact Or.inr rfl
    · rcases bnd_er h with e | ⟨t1, e1, h⟩
      · exact tk_er e
      rcases bnd_er h with e | ⟨a, e2, h⟩
      · unfold bodP at e
        split at e
        · rcases bnd_er e with e | ⟨a, e1, h⟩
          · unfold lawP at e
            rcases bnd_er e with e | ⟨a, e1, h⟩
            · exact tk_er e
            · exact lw_er _ _ h
          · cases h
        · split at e
          · unfold manP at e
            rcases bnd_er e with e | ⟨_, _, h⟩
            · exact tk_er e
            rcases bnd_er h with e | ⟨_, _, h⟩
            · exact in_er e
            rcases bnd_er h with e | ⟨_, _, h⟩
            · exact in_er e
            rcases bnd_er h with e | ⟨_, _, h⟩
            · exact in_er e
            rcases bnd_er h with e | ⟨_, _, h⟩
            · exact in_er e
            cases h
          · split at e
            · unfold judP at e
              rcases bnd_er e with e | ⟨_, _, h⟩
              · exact tk_er e
              rcases bnd_er h with e | ⟨_, _, h⟩
              · split at e
                · exact tk_er e
                · cases e
              rcases bnd_er h with e | ⟨_, _, h⟩
              · exact in_er e
              rcases bnd_er h with e | ⟨_, _, h⟩
              · exact in_er e
              cases h
            · exact num_er _ _ _ e
      rcases bnd_er h with e | ⟨b, e3, h⟩
      · exact tk_er e
      · cases h
  · cases h; exact Or.inl rfl
