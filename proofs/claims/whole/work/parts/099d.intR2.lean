/-- what an INT may write in the reference -/
def frI (w w2 : Mem) : Prop := ∀ a j, ¬ (a = 150 ∧ (j = 11 ∨ j = 13 ∨ j = 14 ∨ j = 15 ∨ j = 16)) → w2 a j = w a j
/-- an INT in the reference -/
theorem r_int {K P V : Nat → Nat} {M t lo hi : Nat} {lf : LFt} {w : Mem} {wl : MemL} {Q : Int32 → Mem → MemL → Prop} (tk : TKM K P V M w) (hV : ∀ j, K j = 3 → V j < 2 ^ 20) (ht : t ≤ M) (h11 : w 150 11 = nI t) (h13 : w 150 13 = 0) (hlo : lo < 2 ^ 20) (hhi : hi < 2 ^ 20) (hl : LFr P lf w) (hlt : ∀ k0 t0, lf = some (k0, t0) → P t0 < P t) (hP : P t < 2 ^ 20)
    (KE : ∀ kd, (kd = 1 ∨ kd = 2) → inP K V lo hi t lf = .error (kd, t) → ∀ x w2, frI w w2 → w2 150 11 = nI t → w2 150 13 = nI kd → w2 150 14 = nI (P t) → Q x w2 wl)
    (KO : ∀ lf2, inP K V lo hi t lf = .ok (t + 1, lf2) → t + 1 ≤ M → ∀ w2, frI w w2 → w2 150 11 = nI (t + 1) → w2 150 13 = 0 → w2 150 14 = w 150 14 → LFr P lf2 w2 → Q (nI (V t)) w2 wl) : wp_12_bounded (nI lo) (nI hi) w wl Q := by
  have hm := tk.1
  have e4 : w 154 t = nI (P t) := (tk.2.2 t ht).2.2.1
  unfold inP at KE KO
  -- on behind the INT
  have go : ∀ lf2 w2, (∀ a j, ¬ (a = 150 ∧ (j = 15 ∨ j = 16)) → w2 a j = w a j) → LFr P lf2 w2 → K t = 3 → (t < 400 → (if t < 400 then (Except.ok (t + 1, if lo ≤ V t ∧ V t ≤ hi then lf else noP lf 5 t) : Except (Nat × Nat) (Nat × LFt)) else .error (2, t)) = .ok (t + 1, lf2)) → wp_12_bounded_b51 Q (nI (V t)) w2 wl := by
    intro lf2 w2 f2 l2 y hif
    have k11 : w2 150 11 = nI t := (f2 150 11 (by omega)).trans h11
    have k13 : w2 150 13 = 0 := (f2 150 13 (by omega)).trans h13
    refine r_goes (by omega) k11 (fun c4 => ?_) (fun c4 => ?_)
    · rw [if_pos y] at KO
      refine KO lf2 (hif c4) (tkm_lt tk ht c4 (by omega)) _ (fun a j q => ?_) st_eq ?_ ?_ ?_
      · simp only [st]
        rw [if_neg (by omega)]
        exact f2 a j (by omega)
      · rw [st_nj (by decide)]; exact k13
      · rw [st_nj (by decide)]; exact f2 150 14 (by omega)
      · unfold LFr
        rw [st_nj (by decide), st_nj (by decide)]
        exact l2
    · rw [if_pos y, if_neg (by omega)] at KE
      refine r_fail (by omega) k11 k13 ?_
      rw [f2 154 t (by omega), e4]
      refine KE 2 (Or.inr rfl) rfl _ _ (fun a j q => ?_) ?_ ?_ st_eq
      · simp only [st]
        rw [if_neg (by omega), if_neg (by omega)]
        exact f2 a j (by omega)
      · rw [st_nj (by decide), st_nj (by decide)]; exact k11
      · rw [st_nj (by decide), st_eq]
  unfold wp_12_bounded
  rw [h13]
  refine ⟨fun q => absurd q (by decide), fun _ => r_is tk ht h11 h13 (c := 3) (by decide) (by decide) (fun y => ?_) (fun y => ?_)⟩
  · have hv := hV t y
    refine ⟨fun _ => ?_, fun q => absurd (by decide) q⟩
    rw [h11, ix_nI (by omega), (tk.2.2 t ht).2.2.2 y]
    refine ⟨vp_in_nI (by omega) (by decide), fun x5 e5 => ?_⟩
    subst e5
    have bad : ¬ (lo ≤ V t ∧ V t ≤ hi) → wp_12_bounded_b42 Q (nI (V t)) w wl := by
      intro nb
      unfold wp_12_bounded_b42
      rw [h11]
      refine r_wrong (k := 5) tk ht h13 (by omega) hl hlt hP (fun w2 f2 l2 => go _ w2 f2 l2 y (fun c4 => ?_))
      rw [if_pos c4, if_neg nb]
    refine pk_lt (V t) lo (fun q => bad (by omega)) (fun q => pk_le (V t) hi (fun q2 => ?_) (fun q2 => bad (by omega)))
    refine go lf w (fun _ _ _ => rfl) hl y (fun c4 => ?_)
    rw [if_pos c4, if_pos ⟨q, q2⟩]
  · refine ⟨fun q => absurd rfl q, fun _ => r_fail (a := 1) (by omega) h11 h13 ?_⟩
    rw [if_neg y] at KE
    rw [e4]
    refine KE 1 (Or.inl rfl) rfl _ _ (fun a j q => ?_) ?_ ?_ st_eq
    · simp only [st]
      rw [if_neg (by omega), if_neg (by omega)]
    · rw [st_nj (by decide), st_nj (by decide)]; exact h11
    · rw [st_nj (by decide), st_eq]
