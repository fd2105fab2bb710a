def lawP (K V : Nat → Nat) (t : Nat) : Except (Nat × Nat) (Nat × LE × LB) := bnd (tkP K 61 t) (lwP K V 4)
/-- a law in the class -/
theorem c_law {K P V : Nat → Nat} {m k t : Nat} {w : Mem} {Q : Int32 → Mem → Prop} (tk : TKN K P V m w) (hk : 9 ≤ k) (ht1 : 0 < t) (ht : t ≤ m) (h3 : w 7 3 = nI t) (hX : XL P m k 0 0 w Q (lawP K V t)) : wp_3_readLaw k w Q := by
  unfold lawP at hX
  intro w1 e1 w2 e2
  have f2 : frK k 0 0 w w2 := by
    subst e2
    subst e1
    intro a j q1 q2 q3 q4
    simp only [st]
    rw [if_neg (by omega), if_neg (by omega)]
  have g2 : LPt k t 0 0 w2 := by
    subst e2
    subst e1
    refine ⟨?_, ?_, st_eq, by omega⟩
    · rw [st_nk (by omega), st_nk (by omega)]; exact h3
    · rw [st_nj (by decide)]; exact st_eq
  clear e1 e2
  have tk2 := tkn_k hk tk f2
  refine c_mid (c := 61) tk2 hk (by omega) (by omega) (by omega) ht g2 (fun kd tok e w3 f3 => u0 ?_) (fun e m3 w3 g3 f3 => u1 ⟨5, ?_⟩)
  · rw [e] at hX
    exact hX w3 (fc_up f2 f3 (Nat.le_refl _) (Nat.le_refl _))
  · rw [e] at hX
    have f3' := fk_tr f2 f3
    refine c_lw hk 4 (t + 1) 0 0 w3 (tkn_k hk tk f3') (by omega) (by omega) (by omega) m3 g3 (fun _ => rfl) (fun z => absurd z (by omega)) ?_
    have hX2 : XL P m k 0 0 w Q (lwP K V 4 (t + 1)) := hX
    cases hr : lwP K V 4 (t + 1) with
    | error y =>
      obtain ⟨kd, tok⟩ := y
      rw [hr] at hX2
      exact fun w4 f4 => hX2 w4 (fc_up f3' f4 (Nat.le_refl _) (Nat.le_refl _))
    | ok y =>
      obtain ⟨t9, Z, R⟩ := y
      rw [hr] at hX2
      exact fun m9 w9 l9 e9 f9 => hX2 m9 w9 l9 e9 (fk_tr f3' f9)
