/-- how the class goes on behind a law -/
def XL (P : Nat → Nat) (m k p i : Nat) (w : Mem) (Q : Int32 → Mem → Prop) (r : Except (Nat × Nat) (Nat × LE × LB)) : Prop := match r with
  | .error (kd, tok) => ∀ w2, FCk P k p i w kd tok w2 → Q 0 w2
  | .ok (t2, Z, R) => t2 ≤ m → ∀ w2, lwC k w2 Z i p R → w2 7 3 = nI t2 → frK k p i w w2 → Q 1 w2
theorem c_last {K P V : Nat → Nat} {m k p i t : Nat} {w : Mem} {Q : Int32 → Mem → Prop} (tk : TKN K P V m w) (hk : 9 ≤ k) (hi : i < 13) (ht1 : 0 < t) (ht : t ≤ m) (h : LPt k t p i w) (h0 : i = 0 → p = 0) (hb : 0 < i → w (k + 3) (i - 1) = nI p)
    (hX : XL P m k p i w Q (bnd (exP K V 8 0 t) (fun x => .ok (x.1, x.2, [])))) : wp_3_readLaw_b135 k Q w := by
  refine c_ex0 tk hk hi ht1 ht h (fun kd tok e w2 f2 => ⟨Or.inl rfl, ?_⟩) (fun t2 U e e1 e2 e3 w2 l2 f2 e4 e5 e6 => ⟨Or.inr rfl, ?_⟩)
  · rw [e] at hX
    exact hX w2 f2
  · rw [e] at hX
    refine hX e2 w2 ⟨⟨h0, fun z => ?_, e4, e6, e5, e3⟩, l2.2.2.1, hi⟩ l2.1 f2
    rw [f2 (k + 3) (i - 1) (by omega) (by omega) (by omega) (by omega)]
    exact hb z
theorem c_lw {K P V : Nat → Nat} {m k : Nat} {Q : Int32 → Mem → Prop} (hk : 9 ≤ k) : ∀ (n t p i : Nat) (w : Mem), TKN K P V m w → n ≤ 4 → i + 3 * n = 12 → 0 < t → t ≤ m → LPt k t p i w → (i = 0 → p = 0) → (0 < i → w (k + 3) (i - 1) = nI p) → XL P m k p i w Q (lwP K V n t) → wp_3_readLaw_b17 k Q (n + 1) (nI (4 - n)) w
  | 0, t, p, i, w, tk, hn, hi, ht1, ht, h, h0, hb, hX => by
    have hm := tk.1
    obtain ⟨kd, e4, e5, e6⟩ := tk.2.2 t ht
    have kl := kd_lt kd
    have e143 : nI (K t) = 143 ↔ K t = 143 := nI_eq (b := 143) (by omega) (by omega)
    simp only [lwP] at hX
    unfold wp_3_readLaw_b17
    refine ⟨fun q => absurd q (by decide), fun _ => ?_⟩
    rw [h.1, ix_nI (by omega), e4]
    refine ⟨vp_in_nI (by omega) (by decide), fun q => ?_, fun q => ⟨fun q2 => absurd rfl q2, fun _ => ?_⟩⟩
    · rw [if_neg (fun z => q (e143.mpr z))] at hX
      exact c_last tk hk (by omega) ht1 ht h h0 hb hX
    · rw [if_pos (e143.mp (Classical.not_not.mp q))] at hX
      refine c_fails (a := 2) tk ht h.1 ⟨Or.inl rfl, hX _ ⟨fk_tr (fk_7 (by omega)) (fk_7 (by omega)), ?_, st_eq, ⟨p, by omega, by have := h.2.2.2; omega, ?_⟩, i, Nat.le_refl i, by omega, ?_⟩⟩
      · rw [st_nj (by decide), st_eq]
      · rw [st_nk (by omega), st_nk (by omega)]; exact h.2.1
      · rw [st_nk (by omega), st_nk (by omega)]; exact h.2.2.1
  | n + 1, t, p, i, w, tk, hn, hi, ht1, ht, h, h0, hb, hX => by
    have hm := tk.1
    obtain ⟨kd, e4, e5, e6⟩ := tk.2.2 t ht
    have kl := kd_lt kd
    have e143 : nI (K t) = 143 ↔ K t = 143 := nI_eq (b := 143) (by omega) (by omega)
    simp only [lwP] at hX
    unfold wp_3_readLaw_b17
    refine pk_lt 4 (4 - (n + 1)) (fun q => absurd q (by omega)) (fun _ => ?_)
    rw [h.1, ix_nI (by omega), e4]
    have e44 : nI (4 - (n + 1)) = 4 ↔ 4 - (n + 1) = 4 := nI_eq (b := 4) (by omega) (by omega)
    refine ⟨vp_in_nI (by omega) (by decide), fun q => ?_, fun q => ⟨fun _ => ?_, fun q2 => absurd (e44.mp (Classical.not_not.mp q2)) (by omega)⟩⟩
    · rw [if_neg (fun z => q (e143.mpr z))] at hX
      exact c_last tk hk (by omega) ht1 ht h h0 hb hX
    · rw [if_pos (e143.mp (Classical.not_not.mp q))] at hX
      have out : ∀ w2 : Mem, Q 0 w2 → wp_3_readLaw_b121 k Q (wp_3_readLaw_b17 k Q (n + 1)) (nI (4 - (n + 1))) w2 := fun w2 hq => ⟨fun q => absurd rfl q, fun _ => hq⟩
      refine c_mid (c := 143) tk hk (by omega) (by omega) (by omega) ht h (fun kd tok e w2 f2 => t0 (out w2 ?_)) (fun e m0 w2 g2 f2 => t1 ?_)
      · rw [e] at hX; exact hX w2 f2
      rw [e] at hX
      have tk2 := tkn_k hk tk f2
      have hX2 := hX
      clear hX
      simp only [bnd] at hX2
      refine c_ex0 tk2 hk (by omega) (by omega) m0 g2 (fun kd tok e w3 f3 => t0 (out w3 ?_)) (fun ta A ea a1 a2 a3 w3 g3 f3 a4 a5 a6 => t1 ?_)
      · rw [e] at hX2; exact hX2 w3 (fc_up f2 f3 (Nat.le_refl _) (Nat.le_refl _))
      rw [ea] at hX2
      simp only [bnd] at hX2
      have f3' := fk_tr f2 f3
      have tk3 := tkn_k hk tk f3'
      refine c_mid (c := 60) tk3 hk (by omega) (by omega) (by omega) a2 g3 (fun kd tok e w4 f4 => t0 (out w4 ?_)) (fun e m1 w4 g4 f4 => t1 ?_)
      · rw [e] at hX2; exact hX2 w4 (fc_up f3' f4 (by omega) (by omega))
      rw [e] at hX2
      simp only [bnd] at hX2
      have f4' := fk_tr f3' (fk_up f4 (by omega) (by omega))
      have tk4 := tkn_k hk tk f4'
      refine c_ex0 tk4 hk (by omega) (by omega) m1 g4 (fun kd tok e w5 f5 => t0 (out w5 ?_)) (fun tb B eb b1 b2 b3 w5 g5 f5 b4 b5 b6 => t1 ?_)
      · rw [e] at hX2; exact hX2 w5 (fc_up f4' f5 (by omega) (by omega))
      rw [eb] at hX2
      simp only [bnd] at hX2
      have f5' := fk_tr f4' (fk_up f5 (by omega) (by omega))
      have tk5 := tkn_k hk tk f5'
      refine c_mid (c := 144) tk5 hk (by omega) (by omega) (by omega) b2 g5 (fun kd tok e w6 f6 => t0 (out w6 ?_)) (fun e m2 w6 g6 f6 => t1 ?_)
      · rw [e] at hX2; exact hX2 w6 (fc_up f5' f6 (by omega) (by omega))
      rw [e] at hX2
      simp only [bnd] at hX2
      have f6' := fk_tr f5' (fk_up f6 (by omega) (by omega))
      have tk6 := tkn_k hk tk f6'
      refine c_ex0 tk6 hk (by omega) (by omega) m2 g6 (fun kd tok e w7 f7 => t0 (out w7 ?_)) (fun tc C ec c1 c2 c3 w7 g7 f7 c4 c5 c6 => t1 ?_)
      · rw [e] at hX2; exact hX2 w7 (fc_up f6' f7 (by omega) (by omega))
      rw [ec] at hX2
      simp only [bnd] at hX2
      have f7' := fk_tr f6' (fk_up f7 (by omega) (by omega))
      have tk7 := tkn_k hk tk f7'
      refine c_mid (c := 145) tk7 hk (by omega) (by omega) (by omega) c2 g7 (fun kd tok e w8 f8 => t0 (out w8 ?_)) (fun e m3 w8 g8 f8 => t1 ?_)
      · rw [e] at hX2; exact hX2 w8 (fc_up f7' f8 (by omega) (by omega))
      rw [e] at hX2
      simp only [bnd] at hX2
      have f8' := fk_tr f7' (fk_up f8 (by omega) (by omega))
      have tk8 := tkn_k hk tk f8'
      have pA : pcC k w3 i p A := by
        refine ⟨h0, fun z => ?_, a4, a6, a5, a3⟩
        rw [f3' (k + 3) (i - 1) (by omega) (by omega) (by omega) (by omega)]
        exact hb z
      have pB : pcC k w5 (i + 1) (p + A.length) B := by
        refine ⟨fun z => absurd z (by omega), fun _ => ?_, b4, b6, b5, b3⟩
        rw [f5 (k + 3) (i + 1 - 1) (by omega) (by omega) (by omega) (by omega), f4 (k + 3) (i + 1 - 1) (by omega) (by omega) (by omega) (by omega)]
        exact a4
      have pC : pcC k w7 (i + 2) (p + A.length + B.length) C := by
        refine ⟨fun z => absurd z (by omega), fun _ => ?_, c4, c6, c5, c3⟩
        rw [f7 (k + 3) (i + 2 - 1) (by omega) (by omega) (by omega) (by omega), f6 (k + 3) (i + 2 - 1) (by omega) (by omega) (by omega) (by omega)]
        exact b4
      refine ⟨fun _ x1 ex => ?_, fun q => absurd (by decide) q⟩
      rw [nI_1, show 4 - (n + 1) + 1 = 4 - n by omega] at ex
      subst ex
      refine c_lw hk n (tc + 1) (p + A.length + B.length + C.length) (i + 3) w8 tk8 (by omega) (by omega) (by omega) m3 g8 (fun z => absurd z (by omega)) (fun _ => ?_) ?_
      · rw [f8 (k + 3) (i + 3 - 1) (by omega) (by omega) (by omega) (by omega)]
        exact c4
      · cases hr : lwP K V n (tc + 1) with
        | error y =>
          obtain ⟨kd, tok⟩ := y
          rw [hr] at hX2
          exact fun w9 f9 => hX2 w9 (fc_up f8' f9 (by omega) (by omega))
        | ok y =>
          obtain ⟨t9, Z, R⟩ := y
          rw [hr] at hX2
          intro m9 w9 l9 e9 f9
          refine hX2 m9 w9 ⟨?_, ?_, ?_, l9⟩ e9 (fk_tr f8' (fk_up f9 (by omega) (by omega)))
          · have fA : frK k (p + A.length) (i + 1) w3 w9 := fk_tr f4 (fk_tr f5 (fk_tr (fk_up f6 (by omega) (by omega)) (fk_tr (fk_up f7 (by omega) (by omega)) (fk_tr (fk_up f8 (by omega) (by omega)) (fk_up f9 (by omega) (by omega))))))
            exact pc_keep hk pA fA (by omega) (by omega)
          · have fB : frK k (p + A.length + B.length) (i + 2) w5 w9 := fk_tr f6 (fk_tr f7 (fk_tr (fk_up f8 (by omega) (by omega)) (fk_up f9 (by omega) (by omega))))
            exact pc_keep hk pB fB (by omega) (by omega)
          · have fC : frK k (p + A.length + B.length + C.length) (i + 3) w7 w9 := fk_tr f8 f9
            exact pc_keep hk pC fC (by omega) (by omega)
