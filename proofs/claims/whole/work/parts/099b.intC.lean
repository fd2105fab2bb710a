/-- the first fault that counts only in a text without others -/
abbrev LFt := Option (Nat × Nat)
def noP (lf : LFt) (k t : Nat) : LFt := match lf with
  | none => some (k, t)
  | some x => some x
def LFc (P : Nat → Nat) (lf : LFt) (w : Mem) : Prop := match lf with
  | none => w 7 7 = 0 ∧ w 7 8 = -1
  | some (k, t) => (0 < k ∧ k < 10) ∧ w 7 7 = nI k ∧ w 7 8 = nI (P t)
def inP (K V : Nat → Nat) (lo hi t : Nat) (lf : LFt) : Except (Nat × Nat) (Nat × LFt) := if K t = 3 then (if t < 400 then .ok (t + 1, if lo ≤ V t ∧ V t ≤ hi then lf else noP lf 5 t) else .error (2, t)) else .error (1, t)
/-- only the reader's own fields differ -/
def fr7 (w w2 : Mem) : Prop := ∀ a j, ¬ (a = 7 ∧ 3 ≤ j ∧ j ≤ 8) → w2 a j = w a j
theorem f7_tr {w w2 w3 : Mem} (h : fr7 w w2) (h2 : fr7 w2 w3) : fr7 w w3 := fun a j p => (h2 a j p).trans (h a j p)
theorem f7_st {w : Mem} {j : Nat} {v : Int32} (hj : 3 ≤ j ∧ j ≤ 8) : fr7 w (st w 7 j v) := by
  intro a x p
  simp only [st]
  rw [if_neg (by omega)]
theorem tkn_7 {K P V : Nat → Nat} {m : Nat} {w w2 : Mem} (h : TKN K P V m w) (f : fr7 w w2) : TKN K P V m w2 := by
  refine ⟨h.1, h.2.1, fun j hj => ?_⟩
  rw [f 4 j (by omega), f 5 j (by omega), f 6 j (by omega)]
  exact h.2.2 j hj
theorem c_notes {K P V : Nat → Nat} {m t k : Nat} {lf : LFt} {w : Mem} {Q : Mem → Prop} (tk : TKN K P V m w) (ht : t ≤ m) (hk : 0 < k ∧ k < 10) (hl : LFc P lf w) (K1 : ∀ w2, fr7 w w2 → w2 7 3 = w 7 3 → w2 7 4 = w 7 4 → LFc P (noP lf k t) w2 → Q w2) : wp_3_notes (nI k) (nI t) w Q := by
  have hm := tk.1
  unfold wp_3_notes
  cases lf with
  | none =>
    have hl0 : w 7 7 = 0 := hl.1
    refine ⟨fun q => absurd hl0 q, fun _ w1 e1 => ⟨vp_in_nI (by omega) (by decide), fun w3 e3 => ?_⟩⟩
    have g5 : w1 5 t = nI (P t) := by subst e1; rw [st_nk (by decide)]; exact (tk.2.2 t ht).2.2.1
    rw [ix_nI (by omega), g5] at e3
    refine K1 w3 ?_ ?_ ?_ ⟨hk, ?_, ?_⟩
    · subst e3; subst e1; exact f7_tr (f7_st (by omega)) (f7_st (by omega))
    · subst e3; subst e1; rw [st_nj (by decide), st_nj (by decide)]
    · subst e3; subst e1; rw [st_nj (by decide), st_nj (by decide)]
    · subst e3; subst e1; rw [st_nj (by decide), st_eq]
    · subst e3; exact st_eq
  | some x =>
    obtain ⟨k2, t2⟩ := x
    have hl0 := hl
    obtain ⟨q0, q1, q2⟩ := hl
    have n7 : ¬ w 7 7 = 0 := by rw [q1]; exact nI_ne0 (by omega) (by omega)
    exact ⟨fun _ => K1 w (fun _ _ _ => rfl) rfl rfl hl0, fun q => absurd (Classical.not_not.mp q) n7⟩
/-- an INT in the class -/
theorem c_int {K P V : Nat → Nat} {m t lo hi : Nat} {lf : LFt} {w : Mem} {Q : Int32 → Mem → Prop} (tk : TKN K P V m w) (hV : ∀ j, K j = 3 → V j < 2 ^ 20) (ht : t ≤ m) (h3 : w 7 3 = nI t) (hlo : lo < 2 ^ 20) (hhi : hi < 2 ^ 20) (hl : LFc P lf w)
    (KE : ∀ kd, (kd = 1 ∨ kd = 2) → inP K V lo hi t lf = .error (kd, t) → ∀ w2, fr7 w w2 → w2 7 5 = nI kd → w2 7 6 = nI (P t) → Q 0 w2)
    (KO : ∀ lf2, inP K V lo hi t lf = .ok (t + 1, lf2) → t + 1 ≤ m → ∀ w2, fr7 w w2 → w2 7 3 = nI (t + 1) → w2 7 4 = nI (V t) → LFc P lf2 w2 → Q 1 w2) : wp_3_readInt (nI lo) (nI hi) w Q := by
  have hm := tk.1
  intro x1 e1
  rw [h3] at e1
  subst e1
  unfold inP at KE KO
  refine c_takes (c := 3) tk ht h3 (by omega) (fun y c4 => ?_) (fun y c4 => ?_) (fun y => ?_)
  · rw [if_pos y, if_pos c4] at KO
    have m1 := tkn_lt tk ht c4 (by omega)
    have hv := hV t y
    refine ⟨fun _ => ⟨vp_in_nI (by omega) (by decide), fun w5 e5 => ?_⟩, fun q => absurd (by decide) q⟩
    have g6 : w 6 t = nI (V t) := (tk.2.2 t ht).2.2.2 y
    rw [ix_nI (by omega), st_nk (by decide), g6] at e5
    have f5 : fr7 w w5 := by subst e5; exact f7_tr (f7_st (by omega)) (f7_st (by omega))
    have g3 : w5 7 3 = nI (t + 1) := by subst e5; rw [st_nj (by decide), st_eq]
    have g4 : w5 7 4 = nI (V t) := by subst e5; exact st_eq
    have l5 : LFc P lf w5 := by
      have a7 : w5 7 7 = w 7 7 := by subst e5; rw [st_nj (by decide), st_nj (by decide)]
      have a8 : w5 7 8 = w 7 8 := by subst e5; rw [st_nj (by decide), st_nj (by decide)]
      unfold LFc
      rw [a7, a8]
      exact hl
    clear e5
    rw [g4]
    refine c_within (by omega) (by omega) (by omega) (fun q1 q2 => ?_) (fun q => ?_)
    · refine ⟨fun _ => ?_, fun q => absurd (by decide) q⟩
      rw [if_pos ⟨q1, q2⟩] at KO
      exact KO lf rfl m1 w5 f5 g3 g4 l5
    · refine ⟨fun q => absurd rfl q, fun _ => ?_⟩
      rw [if_neg q] at KO
      refine c_notes (k := 5) (tkn_7 tk f5) ht (by omega) l5 (fun w8 f8 a3 a4 l8 => ?_)
      exact KO _ rfl m1 w8 (f7_tr f5 f8) (a3.trans g3) (a4.trans g4) l8
  · rw [if_pos y, if_neg c4] at KE
    refine u0 (KE 2 (Or.inr rfl) rfl _ (f7_tr (f7_st (by omega)) (f7_st (by omega))) ?_ st_eq)
    rw [st_nj (by decide), st_eq]
  · rw [if_neg y] at KE
    refine u0 (KE 1 (Or.inl rfl) rfl _ (f7_tr (f7_st (by omega)) (f7_st (by omega))) ?_ st_eq)
    rw [st_nj (by decide), st_eq]
