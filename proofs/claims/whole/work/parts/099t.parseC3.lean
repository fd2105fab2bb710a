theorem par_er {K V NM : Nat → Nat} {kd tok : Nat} : ∀ (n t : Nat) (S : PS), parP K V NM n t S = .error (kd, tok) → kd = 1 ∨ kd = 2
  | 0, t, S, h => by cases h
  | n + 1, t, S, h => by
    simp only [parP] at h
    split at h
    · cases h
    · rcases bnd_er h with e | ⟨a, e1, h⟩
      · exact tel_er e
      · exact par_er n _ _ h
theorem par_k {K V NM : Nat → Nat} {t2 : Nat} {S2 : PS} : ∀ (n t : Nat) (S : PS), SI S → BI S → parP K V NM n t S = .ok (t2, S2) → SI S2 ∧ BI S2
  | 0, t, S, hS, hB, h => by
    have e := (Prod.mk.inj (Except.ok.inj h)).2
    subst e
    exact ⟨hS, hB⟩
  | n + 1, t, S, hS, hB, h => by
    simp only [parP] at h
    split at h
    · have e := (Prod.mk.inj (Except.ok.inj h)).2
      subst e
      exact ⟨hS, hB⟩
    · obtain ⟨a, e1, h⟩ := bnd_ok h
      obtain ⟨k1, k2⟩ := tel_k (t2 := a.1) (S2 := a.2) hS hB e1
      exact par_k n _ _ k1 k2 h
/-- the class's loop over the TELLS -/
theorem c_loop {K P V NM : Nat → Nat} {m c : Nat} {w0 : Mem} {Q : Int32 → Mem → Prop} (hc : 9 ≤ c) (hV : ∀ j, K j = 3 → V j < 2 ^ 20) : ∀ (n i t : Nat) (S : PS) (w : Mem), 400 - t < n → GC K P V NM m c w0 t S w → SI S → BI S → i ≤ t →
    (∀ kd tok, parP K V NM n t S = .error (kd, tok) → ∀ w2, FE P c w0 kd tok w2 → wp_3_parse_b76 c Q 0 w2) → (∀ t2 S2, parP K V NM n t S = .ok (t2, S2) → ∀ w2, GC K P V NM m c w0 t2 S2 w2 → wp_3_parse_b76 c Q 1 w2) → wp_3_parse_b38 c Q (n + 1) 1 (nI i) w
  | 0, i, t, S, w, hn, g, hS, hB, hi, h1, h2 => absurd hn (Nat.not_lt_zero _)
  | n + 1, i, t, S, w, hn, g, hS, hB, hi, h1, h2 => by
    have g0 := g
    obtain ⟨⟨tk, sm, ht, h3⟩, b, d, e, f⟩ := g
    have hm := tk.1
    obtain ⟨kd0, q4, _, _⟩ := tk.2.2 t ht
    have kl := kd_lt kd0
    have e0 : nI (K t) = 0 ↔ K t = 0 := nI_eq (b := 0) (by omega) (by omega)
    unfold wp_3_parse_b38
    refine pk_lt 400 i (fun q => absurd q (by omega)) (fun _ => t1 ?_)
    rw [h3, ix_nI (by omega), q4]
    refine ⟨vp_in_nI (by omega) (by decide), fun y => ?_, fun y => ?_⟩
    · have k0 := e0.mp y
      exact h2 t S (by simp only [parP]; rw [if_pos k0]) w g0
    · have k0 : ¬ K t = 0 := fun z => y (e0.mpr z)
      simp only [parP, if_neg k0] at h1 h2
      refine c_tell hc hV hS g0 ?_
      cases hr : telP K V NM t S with
      | error yy =>
        obtain ⟨kd, tok⟩ := yy
        rw [hr] at h1
        have h1' := h1 kd tok rfl
        intro w2 f2 x4 _
        unfold wp_3_parse_b38
        exact ⟨fun _ => h1' w2 f2, fun _ => t0 (h1' w2 f2)⟩
      | ok yy =>
        obtain ⟨t2, S2⟩ := yy
        obtain ⟨l1, l2⟩ := tel_lt hr
        obtain ⟨k1, k2⟩ := tel_k hS hB hr
        rw [hr] at h1 h2
        intro w2 g2 x4 e4
        rw [nI_1] at e4
        subst e4
        exact c_loop hc hV n (i + 1) t2 S2 w2 (by omega) g2 k1 k2 (by omega) h1 h2
/-- what the class's parse answers -/
def PX (P : Nat → Nat) (c : Nat) (w0 : Mem) (Q : Int32 → Mem → Prop) (r : Except (Nat × Nat) (Nat × PS)) : Prop := match r with
  | .error (kd, tok) => ∀ w2, FT c w0 w2 → w2 7 6 = nI (P tok) → Q (nI kd) w2
  | .ok (t2, S2) => match sF S2 with
    | some (k0, t0) => (0 < k0 ∧ k0 < 10) → ∀ w2, FT c w0 w2 → w2 7 6 = nI (P t0) → Q (nI k0) w2
    | none => ∀ w2, FT c w0 w2 → w2 7 6 = -1 → TC c (TXs S2) w2 → Q 0 w2
/-- the class's parse -/
theorem c_parse {K P V NM : Nat → Nat} {m c : Nat} {w0 : Mem} {Q : Int32 → Mem → Prop} (hc : 9 ≤ c) (hV : ∀ j, K j = 3 → V j < 2 ^ 20) (tk : TKN K P V m w0) (sm : SMN K NM m w0) (hX : PX P c w0 Q (parP K V NM 401 0 S0)) : wp_3_parse c w0 Q := by
  unfold wp_3_parse
  rintro _ rfl _ rfl _ rfl _ rfl _ rfl w6 e6
  have f6 : FT c w0 w6 := by
    subst e6
    intro a j q
    simp only [wrC] at q
    simp only [st]
    rw [if_neg (by omega), if_neg (by omega), if_neg (by omega), if_neg (by omega), if_neg (by omega), if_neg (by omega)]
  have v6 : w6 7 3 = 0 ∧ w6 7 2 = 0 ∧ w6 7 7 = 0 ∧ w6 7 8 = -1 := by
    subst e6
    simp [st]
  clear e6
  refine c_clear hc (fun w7 f7 x7 => ?_)
  have lo : ∀ j, w7 7 j = w6 7 j := fun j => f7 7 j (fun z => by have := z.1; omega)
  have f70 : FT c w0 w7 := ftx_tr f6 (fun a j q => f7 a j (fun z => q z.2))
  have g7 : GC K P V NM m c w0 0 S0 w7 := by
    refine ⟨⟨tkn_ft hc tk f70, smn_fr sm (fun a j p q => f70 a j (by simp only [wrC]; omega)), Nat.zero_le _, (lo 3).trans v6.1⟩, x7, ⟨(lo 2).trans v6.2.1, fun i x hx => ?_, fun x hx => ?_⟩, ⟨(lo 7).trans v6.2.2.1, (lo 8).trans v6.2.2.2⟩, f70⟩
    · have hx2 : ([] : List Nat)[i]? = some x := hx
      simp at hx2
    · exact absurd hx List.not_mem_nil
  refine ⟨402, c_loop hc hV 401 0 0 S0 w7 (by omega) g7 si_0 bi_0 (Nat.le_refl _) (fun kd tok er w2 f2 => ?_) (fun t2 S2 er w2 g2 => ?_)⟩
  · rw [er] at hX
    refine t0 ?_
    rw [f2.2.1]
    exact hX w2 f2.1 f2.2.2
  · rw [er] at hX
    obtain ⟨_, x2, _, l2, ft2⟩ := g2
    refine t1 (fun w3 e3 w4 e4 => ?_)
    have r4 : ∀ a j, ¬ (a = 7 ∧ (j = 5 ∨ j = 6)) → w4 a j = w2 a j := by
      subst e4
      subst e3
      intro a j q
      simp only [st]
      rw [if_neg (by omega), if_neg (by omega)]
    have z5 : w4 7 5 = w2 7 7 := by subst e4; subst e3; rw [st_nj (by decide), st_eq]
    have z6 : w4 7 6 = w2 7 8 := by subst e4; subst e3; rw [st_eq, st_nj (by decide)]
    clear e3 e4
    refine c_untold hc (cx_fr x2 (fun a j q1 q2 => r4 a j (by omega))) (fun w5 f5 t5 => ?_)
    have k5 : ∀ j, w5 7 j = w4 7 j := fun j => f5 7 j (fun z => by have := z.1; omega)
    have f50 : FT c w0 w5 := ftx_tr ft2 (fun a j q => by
      have q2 := q
      simp only [wrC] at q2
      rw [f5 a j (fun z => q z.2)]
      exact r4 a j (by omega))
    simp only [PX] at hX
    unfold LFc at l2
    cases hs : sF S2 with
    | none =>
      have hs' : S2.2.2.2.2 = none := hs
      simp only [sF, hs'] at hX l2
      rw [k5, z5, l2.1]
      exact hX w5 f50 (by rw [k5, z6]; exact l2.2) t5
    | some y =>
      obtain ⟨k0, t0⟩ := y
      have hs' : S2.2.2.2.2 = some (k0, t0) := hs
      simp only [sF, hs'] at hX l2
      rw [k5, z5, l2.2.1]
      exact hX l2.1 w5 f50 (by rw [k5, z6]; exact l2.2.2)
