theorem r_tells49 {V : Nat → Int32} {Z : List (Nat × Int32)} {lo hi : Int32} {x N : Nat} {wl : MemL} {Q : Int32 → Mem → MemL → Prop} (hl : lo ≤ hi) (hx : x < 10) : ∀ (R : List (List (Nat × Int32) × List (Nat × Int32) × List (Nat × Int32))) (i : Nat) (w : Mem),
    lwR w Z i N R → w 169 x = nI N → w 150 46 = 0 → (∀ j, j < 11 → w 178 j = V j) →
    (∀ w2, frR w w2 → Q (mx lo (mn hi ((telA V Z R).getD 0))) w2 wl) → wp_12_tells_b49 Q (R.length + 1) lo hi (nI x) (nI i) w wl
  | [], i, w, h, hN, hb, hV, K => by
    obtain ⟨l1, l2, l3⟩ := lwR_lt _ _ _ h
    have ii : vp_in (nI i) 260 := pk_in i 260 l3
    refine ⟨pk_in x 10 hx, ?_⟩
    rw [ix_nI (n := x) (by omega), hN]
    refine pk_le N i (fun q => absurd q (by omega)) (fun _ => ⟨ii, ?_⟩)
    rw [ix_nI (n := i) (by omega), h.1]
    exact ⟨fun _ => r_b136 (V := V) hl l3 h.2.1 hV hb K, fun q => absurd rfl q⟩
  | (A, B, C) :: r, i, w, h, hN, hb, hV, K => by
    obtain ⟨l1, l2, l3⟩ := lwR_lt _ _ _ h
    have ii : vp_in (nI i) 260 := pk_in i 260 l3
    obtain ⟨h0, hA, hB, hC, _, hr⟩ := h
    refine ⟨pk_in x 10 hx, ?_⟩
    rw [ix_nI (n := x) (by omega), hN]
    refine pk_le N i (fun q => absurd q (by omega)) (fun _ => ⟨ii, ?_⟩)
    rw [ix_nI (n := i) (by omega), h0]
    refine ⟨fun q => absurd q (by decide), fun _ => ⟨ii, ii, ?_⟩⟩
    have bad : ∀ w5, frR w w5 → w5 150 46 = 1 → telA V Z ((A, B, C) :: r) = none → wp_12_held 0 lo hi w5 wl (fun r15 w14 v16 => Q r15 w14 v16) := by
      intro w5 f g e
      have := K w5 f
      rw [e] at this
      exact s_heldR hl this
    have hV2 : ∀ w3, frR w w3 → ∀ j, j < 11 → w3 178 j = V j := fun w3 f j hj => (f 178 (by decide) j (by omega)).trans (hV j hj)
    refine r_term1 (V := V) hA hV ?_ ?_
    · intro a w5 ea f5 g5
      refine ⟨ii, ii, ?_⟩
      rw [frR_row f5 172 (by decide) (by decide), frR_row f5 173 (by decide) (by decide)]
      refine r_term1 (V := V) (pcR_fr f5 hB) (hV2 w5 f5) ?_ ?_
      · intro b w10 eb f10 g10
        have f := frR_tr f5 f10
        have g : w10 150 46 = 0 := (g10.trans g5).trans hb
        have et : telA V Z ((A, B, C) :: r) = if a < b then evS V C [] else telA V Z r := by simp only [telA, ea, eb]
        rw [et] at K
        refine ⟨fun _ => ⟨fun q => ?_, fun q => ?_⟩, fun q => absurd g q⟩
        · rw [if_pos q] at K
          refine r_b136 (V := V) hl l3 ?_ (hV2 w10 f) g (fun w2 f2 => K w2 (frR_tr f f2))
          rw [frR_row f 173 (by decide) (by decide), frR_row f 174 (by decide) (by decide)]
          exact pcR_fr f hC
        · rw [if_neg q] at K
          intro x13 e13
          rw [show nI i + (1 : Int32) = nI (i + 1) from nI_add i 1] at e13
          subst e13
          refine r_tells49 hl hx r (i + 1) w10 (lwR_fr f r _ _ hr) ?_ g (hV2 w10 f) (fun w2 f2 => K w2 (frR_tr f f2))
          rw [frR_row f 169 (by decide) (by decide)]
          exact hN
      · intro w10 eb f10 g10
        have et : telA V Z ((A, B, C) :: r) = none := by simp only [telA, ea, eb]
        exact ⟨fun q => absurd (g10.symm.trans q) (by decide), fun _ => bad w10 (frR_tr f5 f10) g10 et⟩
    · intro w5 ea f5 g5
      have et : telA V Z ((A, B, C) :: r) = none := by simp only [telA, ea]
      refine ⟨ii, ii, ?_⟩
      rw [frR_row f5 172 (by decide) (by decide), frR_row f5 173 (by decide) (by decide)]
      refine r_term1 (V := V) (pcR_fr f5 hB) (hV2 w5 f5) ?_ ?_
      · intro b w10 eb f10 g10
        exact ⟨fun q => absurd ((g10.trans g5).symm.trans q) (by decide), fun _ => bad w10 (frR_tr f5 f10) (g10.trans g5) et⟩
      · intro w10 eb f10 g10
        exact ⟨fun q => absurd (g10.symm.trans q) (by decide), fun _ => bad w10 (frR_tr f5 f10) g10 et⟩
/-- the law a of the live side, with the default d: told by branches, or untold (then its only expression is the default) -/
def lawR (w : Mem) (x : Nat) (d : Int32) (Z : List (Nat × Int32)) (R : List (List (Nat × Int32) × List (Nat × Int32) × List (Nat × Int32))) : Prop :=
  (w 168 x = w 169 x ∧ Z = [(0, d)] ∧ R = []) ∨ (∃ i N, w 168 x = nI i ∧ w 169 x = nI N ∧ i ≠ N ∧ lwR w Z i N R)
theorem r_tells {V : Nat → Int32} {Z : List (Nat × Int32)} {R : List (List (Nat × Int32) × List (Nat × Int32) × List (Nat × Int32))} {lo hi d : Int32} {s a : Nat} {w : Mem} {wl : MemL} {Q : Int32 → Mem → MemL → Prop} (hl : lo ≤ hi) (hs : s < 2) (ha : a < 5) (h18 : w 150 18 = nI s)
    (h : lawR w (5 * s + a) d Z R) (hV : ∀ j, j < 11 → w 178 j = V j) (K : ∀ w2, frR w w2 → Q (mx lo (mn hi ((telA V Z R).getD 0))) w2 wl) : wp_12_tells (nI a) d lo hi w wl Q := by
  intro x1 e1
  rw [h18, show (5 : Int32) = nI 5 from rfl, pk_mul, nI_add] at e1
  subst e1
  have hx : 5 * s + a < 10 := by omega
  have iv : vp_in (nI (5 * s + a)) 10 := pk_in _ 10 hx
  refine ⟨iv, iv, ?_⟩
  rw [ix_nI (by omega)]
  rcases h with ⟨h1, rfl, rfl⟩ | ⟨i, N, h1, h2, h3, h4⟩
  · exact ⟨fun q => absurd h1 q, fun _ => s_heldR hl (K w (fun _ _ _ _ => rfl))⟩
  · obtain ⟨l1, l2, l3⟩ := lwR_lt _ _ _ h4
    refine ⟨fun _ w4 e4 => ?_, fun q => absurd (Classical.not_not.mp q) ?_⟩
    · subst e4
      have f : frR w (st w 150 46 0) := fun b hb j hj => by simp only [st]; exact if_neg hj
      refine ⟨iv, fun x6 e6 => ?_⟩
      rw [frR_row f 168 (by decide) (by decide), h1] at e6
      subst e6
      refine ⟨R.length + 1, r_tells49 (V := V) hl hx R i _ (lwR_fr f R _ _ h4) ?_ st_eq (fun j hj => (f 178 (by decide) j (by omega)).trans (hV j hj)) (fun w2 f2 => K w2 (frR_tr f f2))⟩
      rw [frR_row f 169 (by decide) (by decide)]
      exact h2
    · rw [h1, h2]
      exact fun q => h3 ((nI_eq (by omega) (by omega)).mp q)
