theorem r_tells49 {cl ch : Nat} {V : Nat → Int32} {Z : List (Nat × Int32)} {lo hi : Int32} {x N : Nat} {wl : MemL} {Q : Int32 → Mem → MemL → Prop} (hl : lo ≤ hi) (hx : x < 10) : ∀ (R : List (List (Nat × Int32) × List (Nat × Int32) × List (Nat × Int32))) (i : Nat) (w : Mem),
    lwR cl ch w Z i N R → w 169 x = nI N → w 150 46 = 0 → (∀ j, j < 11 → w 178 j = V j) →
    (∀ w2, frR w w2 → Q (mx lo (mn hi ((telA V Z R).getD 0))) w2 wl) → wp_12_tells_b49 Q (R.length + 1) lo hi (nI x) (nI i) w wl
  | [], i, w, h, hN, hb, hV, K => by
    obtain ⟨l1, l2, l3⟩ := lwR_lt _ _ _ h
    have ii : vp_in (nI i) 260 := pk_in i 260 l3
    refine ⟨pk_in x 10 hx, ?_⟩
    rw [ix_nI (n := x) (by omega), hN]
    refine pk_le N i (fun q => absurd q (by omega)) (fun _ => ⟨ii, ?_⟩)
    rw [ix_nI (n := i) (by omega), h.1]
    exact ⟨fun _ => r_b136 (V := V) hl l3 h.2.1 hV hb K, fun q => absurd rfl q⟩
  | (A, B, C) :: r, i, w, h, hN, hb, hV, K => by
    obtain ⟨l1, l2, l3⟩ := lwR_lt _ _ _ h
    have ii : vp_in (nI i) 260 := pk_in i 260 l3
    obtain ⟨h0, hA, hB, hC, _, hr⟩ := h
    refine ⟨pk_in x 10 hx, ?_⟩
    rw [ix_nI (n := x) (by omega), hN]
    refine pk_le N i (fun q => absurd q (by omega)) (fun _ => ⟨ii, ?_⟩)
    rw [ix_nI (n := i) (by omega), h0]
    refine ⟨fun q => absurd q (by decide), fun _ => ⟨ii, ii, ?_⟩⟩
    have bad : ∀ w5, frR w w5 → w5 150 46 = 1 → telA V Z ((A, B, C) :: r) = none → wp_12_held 0 lo hi w5 wl (fun r15 w14 v16 => Q r15 w14 v16) := by
      intro w5 f g e
      have := K w5 f
      rw [e] at this
      exact s_heldR hl this
    have hV2 : ∀ w3, frR w w3 → ∀ j, j < 11 → w3 178 j = V j := fun w3 f j hj => (f 178 (by decide) j (by omega)).trans (hV j hj)
    refine r_term1 (V := V) hA hV ?_ ?_
    · intro a w5 ea f5 g5
      refine ⟨ii, ii, ?_⟩
      rw [frR_row f5 172 (by decide) (by decide), frR_row f5 173 (by decide) (by decide)]
      refine r_term1 (V := V) (pcR_fr f5 hB) (hV2 w5 f5) ?_ ?_
      · intro b w10 eb f10 g10
        have f := frR_tr f5 f10
        have g : w10 150 46 = 0 := (g10.trans g5).trans hb
        have et : telA V Z ((A, B, C) :: r) = if a < b then evS V C [] else telA V Z r := by simp only [telA, ea, eb]
        rw [et] at K
        refine ⟨fun _ => ⟨fun q => ?_, fun q => ?_⟩, fun q => absurd g q⟩
        · rw [if_pos q] at K
          refine r_b136 (cl := cl) (ch := ch) (V := V) hl l3 ?_ (hV2 w10 f) g (fun w2 f2 => K w2 (frR_tr f f2))
          rw [frR_row f 173 (by decide) (by decide), frR_row f 174 (by decide) (by decide)]
          exact pcR_fr f hC
        · rw [if_neg q] at K
          intro x13 e13
          rw [show nI i + (1 : Int32) = nI (i + 1) from nI_add i 1] at e13
          subst e13
          refine r_tells49 hl hx r (i + 1) w10 (lwR_fr f r _ _ hr) ?_ g (hV2 w10 f) (fun w2 f2 => K w2 (frR_tr f f2))
          rw [frR_row f 169 (by decide) (by decide)]
          exact hN
      · intro w10 eb f10 g10
        have et : telA V Z ((A, B, C) :: r) = none := by simp only [telA, ea, eb]
        exact ⟨fun q => absurd (g10.symm.trans q) (by decide), fun _ => bad w10 (frR_tr f5 f10) g10 et⟩
    · intro w5 ea f5 g5
      have et : telA V Z ((A, B, C) :: r) = none := by simp only [telA, ea]
      refine ⟨ii, ii, ?_⟩
      rw [frR_row f5 172 (by decide) (by decide), frR_row f5 173 (by decide) (by decide)]
      refine r_term1 (V := V) (pcR_fr f5 hB) (hV2 w5 f5) ?_ ?_
      · intro b w10 eb f10 g10
        exact ⟨fun q => absurd ((g10.trans g5).symm.trans q) (by decide), fun _ => bad w10 (frR_tr f5 f10) (g10.trans g5) et⟩
      · intro w10 eb f10 g10
        exact ⟨fun q => absurd (g10.symm.trans q) (by decide), fun _ => bad w10 (frR_tr f5 f10) g10 et⟩
