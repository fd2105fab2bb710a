def LFr (P : Nat → Nat) (lf : LFt) (w : Mem) : Prop := match lf with
  | none => w 150 15 = 0
  | some (k, t) => (0 < k ∧ k < 10) ∧ w 150 15 = nI k ∧ w 150 16 = nI (P t)
theorem r_wrong {K P V : Nat → Nat} {M t k : Nat} {lf : LFt} {w : Mem} {wl : MemL} {Q : Mem → MemL → Prop} (tk : TKM K P V M w) (ht : t ≤ M) (h13 : w 150 13 = 0) (hk : 0 < k ∧ k < 10) (hl : LFr P lf w) (hlt : ∀ k0 t0, lf = some (k0, t0) → P t0 < P t) (hP : P t < 2 ^ 20) (K1 : ∀ w2, (∀ a j, ¬ (a = 150 ∧ (j = 15 ∨ j = 16)) → w2 a j = w a j) → LFr P (noP lf k t) w2 → Q w2 wl) : wp_12_wrong (nI k) (nI t) w wl Q := by
  have hm := tk.1
  have e4 : w 154 t = nI (P t) := (tk.2.2 t ht).2.2.1
  unfold wp_12_wrong
  rw [ix_nI (by omega), e4, h13]
  refine ⟨vp_in_nI (by omega) (by decide), fun x2 ex => ?_⟩
  subst ex
  refine ⟨fun q => absurd q (by decide), fun _ => ?_⟩
  cases lf with
  | none =>
    have hl0 : w 150 15 = 0 := hl
    refine ⟨fun _ w1 e1 w2 e2 => ?_, fun q => absurd hl0 q⟩
    refine K1 w2 (fun a j q => ?_) ⟨hk, ?_, ?_⟩
    · subst e2; subst e1
      simp only [st]
      rw [if_neg (by omega), if_neg (by omega)]
    · subst e2; subst e1; rw [st_nj (by decide), st_eq]
    · subst e2; exact st_eq
  | some x =>
    obtain ⟨k2, t2⟩ := x
    have hl0 := hl
    obtain ⟨q0, q1, q2⟩ := hl
    have n7 : ¬ w 150 15 = 0 := by rw [q1]; exact nI_ne0 (by omega) (by omega)
    have lt := hlt k2 t2 rfl
    refine ⟨fun q => absurd q n7, fun _ => ?_⟩
    rw [q2]
    exact pk_lt (P t2) (P t) (fun _ => K1 w (fun _ _ _ => rfl) hl0) (fun q => absurd q (by omega))
