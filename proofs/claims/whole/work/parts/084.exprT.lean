def GS5 (S : List Nat) : Prop := ∀ g, g ∈ S → g = 40 ∨ g = 42 ∨ g = 43 ∨ g = 45 ∨ g = 47
theorem run_g {R : List Nat} (h : runS R) : GS5 R := by
  intro g hg
  rcases h with rfl | ⟨p, hp, rfl⟩ | ⟨m, hm, rfl⟩ | ⟨m, p, hm, hp, rfl⟩ <;> simp at hg <;> omega
theorem sk_g : ∀ (o : Nat) (S : List Nat), SKo o S → GS5 S
  | 0, S, h => run_g h
  | o + 1, S, h => by
    obtain ⟨R, S', h1, rfl, h3⟩ := h
    intro g hg
    rw [List.mem_append, List.mem_cons] at hg
    rcases hg with q | q | q
    · exact run_g h1 g q
    · exact Or.inl q
    · exact sk_g o S' h3 g q
theorem r_b42 {s c0 t o g : Nat} {f l1 : Int32} {w0 w : Mem} {wl : MemL} {E : LE} {S : List Nat} {Q : Mem → MemL → Prop} {L0 : Int32 → Mem → MemL → Prop} (hs : s ≤ 1) (ht : t ≤ 400) (hc : 420 * s ≤ c0) (hS : S.length ≤ 60) (hg : g = 42 ∨ g = 43 ∨ g = 45 ∨ g = 47) (h : ESt s c0 w0 w t E (g :: S) o f) (K : ∀ w2, ESt s c0 w0 w2 t (E ++ [(sgO g, 0)]) S o f → L0 l1 w2 wl) : wp_12_comesOut_b42 Q L0 l1 (nI (rcF g)) w wl := by
  obtain ⟨⟨h1, h2, h3, h4, h5⟩, h6, ⟨_, h7⟩, h8, h9⟩ := h
  simp only [List.length_cons] at h5 h9
  intro w1 e1
  rw [h5, show (1 : Int32) = nI 1 from rfl, pk_sub (by omega), Nat.add_sub_cancel] at e1
  have r1 : ∀ a j, ¬ (a = 150 ∧ j = 43) → w1 a j = w a j := by
    subst e1
    intro a j q
    simp only [st]
    rw [if_neg q]
  have z43 : w1 150 43 = nI S.length := by subst e1; exact st_eq
  have row : ∀ a, a ≠ 150 → w1 a = w a := fun a ha => funext (fun j => r1 a j (by omega))
  have s1 : ESt s c0 w0 w1 t E S o f := by
    refine ⟨⟨(r1 150 11 (by omega)).trans h1, (r1 150 12 (by omega)).trans h2, (r1 150 13 (by omega)).trans h3, (r1 150 39 (by omega)).trans h4, z43⟩, ?_, ?_, fun a j q1 q2 q3 => ?_, by omega⟩
    · rw [row 175 (by decide), row 176 (by decide)]; exact h6
    · rw [row 177 (by decide)]; exact h7
    · rw [r1 a j (by omega)]; exact h8 a j q1 q2 q3
  have go : wp_12_comesOut_b84 Q L0 l1 (nI (sgO g)) w1 wl := by
    refine r_emit hs ht hc s1 (by omega) (fun w2 k1 k2 k3 k4 => K w2 (k1 S t (by omega) ?_ ?_ ?_))
    · rw [k2, z43]
    · rw [k4, s1.1.1]
    · rw [k3, row 177 (by decide)]; exact h7
  rcases hg with rfl | rfl | rfl | rfl
  · exact ⟨fun _ => ⟨fun _ => ⟨fun q => absurd rfl q, fun _ => go⟩, fun q => absurd (by decide) q⟩, fun q => absurd (by decide) q⟩
  · exact ⟨fun q => absurd rfl q, fun _ => go⟩
  · exact ⟨fun _ => ⟨fun q => absurd rfl q, fun _ => go⟩, fun q => absurd (by decide) q⟩
  · exact ⟨fun _ => ⟨fun _ => ⟨fun _ => go, fun q => absurd (by decide) q⟩, fun q => absurd (by decide) q⟩, fun q => absurd (by decide) q⟩
theorem r_out {s c0 t o md : Nat} {f : Int32} {w0 : Mem} {wl : MemL} {Q : Mem → MemL → Prop} (hs : s ≤ 1) (ht : t ≤ 400) (hc : 420 * s ≤ c0) (hmd : md ≤ 1) : ∀ (S : List Nat) (E : LE) (w : Mem), S.length ≤ 60 → GS5 S → ESt s c0 w0 w t E S o f → (∀ w2, ESt s c0 w0 w2 t (if md = 0 then (pop0 E S).1 else (pop1 E S).1) (if md = 0 then (pop0 E S).2 else (pop1 E S).2) o f → Q w2 wl) → wp_12_comesOut_b0 Q (S.length + 1) (nI md) w wl
  | [], E, w, _, _, h, K => by
    unfold wp_12_comesOut_b0
    rw [h.1.2.2.2.2]
    refine ⟨fun _ => K w ?_, fun q => absurd (by decide) q⟩
    simp only [pop0, pop1, ite_self]
    exact h
  | g :: S, E, w, hS, hG, h, K => by
    have hl : (g :: S).length = S.length + 1 := rfl
    have hg5 := hG g (by simp)
    rw [hl] at hS
    show wp_12_comesOut_b0 Q (S.length + 1 + 1) (nI md) w wl
    unfold wp_12_comesOut_b0
    have e43 : w 150 43 = nI (S.length + 1) := h.1.2.2.2.2
    have e77 : w 177 S.length = nI (rcF g) := h.2.2.1.1
    rw [e43]
    refine ⟨fun q => absurd ((nI_leI (b := 0) (by omega) (by omega)).mp q) (by omega), fun _ => ?_⟩
    rw [show (1 : Int32) = nI 1 from rfl, pk_sub (by omega), Nat.add_sub_cancel, ix_nI (by omega), e77]
    refine ⟨vp_in_nI (by omega) (by decide), fun x2 e2 => ?_⟩
    subst e2
    have hG2 : GS5 S := fun x hx => hG x (by simp [hx])
    have stop : (md = 0 → g = 40) → (md = 1 → ¬ (g = 42 ∨ g = 47)) → Q w wl := by
      intro k0 k1
      refine K w ?_
      rcases (show md = 0 ∨ md = 1 by omega) with rfl | rfl
      · simp only [if_true, pop0]
        rw [if_pos (k0 rfl)]
        exact h
      · simp only [if_neg (show ¬ 1 = 0 by omega), pop1]
        rw [if_neg (k1 rfl)]
        exact h
    have next : (g = 42 ∨ g = 43 ∨ g = 45 ∨ g = 47) → (md = 1 → (g = 42 ∨ g = 47)) → wp_12_comesOut_b42 Q (wp_12_comesOut_b0 Q (S.length + 1)) (nI md) (nI (rcF g)) w wl := by
      intro k0 k1
      refine r_b42 hs ht hc (by omega) k0 h (fun w2 h2 => r_out hs ht hc hmd S _ w2 (by omega) hG2 h2 (fun w3 h3 => K w3 ?_))
      rcases (show md = 0 ∨ md = 1 by omega) with rfl | rfl
      · simp only [if_true] at h3 ⊢
        rw [pop0_s (by omega)]
        exact h3
      · simp only [if_neg (show ¬ 1 = 0 by omega)] at h3 ⊢
        rw [pop1_s (k1 rfl)]
        exact h3
    have m0 : nI md = 0 ↔ md = 0 := nI_eq (b := 0) (by omega) (by omega)
    rcases hg5 with e | e | e | e | e
    · subst e
      exact ⟨fun _ => stop (fun _ => rfl) (fun _ => by omega), fun q => absurd rfl q⟩
    · subst e
      exact ⟨fun q => absurd q (by decide), fun _ => ⟨fun _ => next (by omega) (fun _ => by omega), fun _ => ⟨fun q => absurd q (by decide), fun _ => ⟨fun _ => next (by omega) (fun _ => by omega), fun q => absurd (by decide) q⟩⟩⟩⟩
    · subst e
      exact ⟨fun q => absurd q (by decide), fun _ => ⟨fun q => next (by omega) (fun z => absurd (m0.mp q) (by omega)), fun q => ⟨fun _ => stop (fun z => absurd (m0.mpr z) q) (fun _ => by omega), fun q => absurd rfl q⟩⟩⟩
    · subst e
      exact ⟨fun q => absurd q (by decide), fun _ => ⟨fun q => next (by omega) (fun z => absurd (m0.mp q) (by omega)), fun q => ⟨fun z => absurd z (by decide), fun _ => ⟨fun z => absurd rfl z, fun _ => stop (fun z => absurd (m0.mpr z) q) (fun _ => by omega)⟩⟩⟩⟩
    · subst e
      exact ⟨fun q => absurd q (by decide), fun _ => ⟨fun _ => next (by omega) (fun _ => by omega), fun _ => ⟨fun q => absurd q (by decide), fun _ => ⟨fun _ => next (by omega) (fun _ => by omega), fun q => absurd (by decide) q⟩⟩⟩⟩
