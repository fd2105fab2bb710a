theorem ls_t {k p0 i c t : Nat} {w0 w : Mem} {E : LE} (hk : 9 ≤ k) (h : LSt k p0 i c w0 w t E) : LSt k p0 i (c + 1) w0 (st w 7 3 (nI (t + 1))) (t + 1) E := by
  obtain ⟨⟨h1, h2, h3⟩, h4, h5, h6⟩ := h
  refine ⟨⟨st_eq, ?_, ?_⟩, ?_, fk_tr h5 (fk_7 (by omega)), by omega⟩
  · rw [st_nk (by omega)]; exact h2
  · rw [st_nk (by omega)]; exact h3
  · rw [st_ne (k + 1) (by omega), st_ne (k + 2) (by omega)]; exact h4
theorem ls_F {P : Nat → Nat} {k p0 i c t a tok : Nat} {w0 w : Mem} {E : LE} (hk : 9 ≤ k) (hi : i ≤ 13) (ht : t ≤ 400) (h : LSt k p0 i c w0 w t E) : FCk P k p0 i w0 a tok (st (st w 7 5 (nI a)) 7 6 (nI (P tok))) := by
  obtain ⟨⟨h1, h2, h3⟩, h4, h5, h6⟩ := h
  refine ⟨fk_tr h5 (fk_tr (fk_7 (by omega)) (fk_7 (by omega))), ?_, st_eq, ⟨p0 + E.length, by omega, by omega, ?_⟩, i, Nat.le_refl i, hi, ?_⟩
  · rw [st_nj (by decide), st_eq]
  · rw [st_nk (by omega), st_nk (by omega)]; exact h2
  · rw [st_nk (by omega), st_nk (by omega)]; exact h3
/-- how the class goes on behind what it read -/
def XC (P : Nat → Nat) (m k p0 i c : Nat) (w0 : Mem) (Q : Int32 → Mem → Prop) (E : LE) (r : PE) : Prop := match r with
  | .error (kd, tok) => ∀ w2, FCk P k p0 i w0 kd tok w2 → Q 0 w2
  | .ok (t2, U) => t2 ≤ m → ∀ w2, LSt k p0 i c w0 w2 t2 (E ++ U) → Q 1 w2
theorem c_within {x a b : Nat} {w : Mem} {Q : Int32 → Mem → Prop} (hx : x < 2 ^ 30) (ha : a < 2 ^ 30) (hb : b < 2 ^ 30) (K1 : a ≤ x → x ≤ b → Q 1 w) (K0 : ¬ (a ≤ x ∧ x ≤ b) → Q 0 w) : wp_11_within (nI x) (nI a) (nI b) w Q := by
  unfold wp_11_within
  exact pk_lt x a (fun q => K0 (by omega)) (fun q => pk_lt b x (fun q2 => K0 (by omega)) (fun q2 => K1 q q2))
theorem c_un {K P V : Nat → Nat} {RS : Nat → Nat → PE} {RSc : Nat → Int32 → Mem → (Int32 → Mem → Prop) → Prop} {m k p0 i d : Nat} {w0 : Mem} (tk0 : TKN K P V m w0) (hk : 9 ≤ k) (hi : i ≤ 13) (hd : d ≤ 6)
    (hR : d < 6 → ∀ (c t : Nat) (E : LE) (w : Mem) (Q : Int32 → Mem → Prop), t ≤ m → LSt k p0 i (c + 1) w0 w t E → XC P m k p0 i (c + 1) w0 Q E (RS (d + 1) t) → RSc k (nI (d + 1)) w Q)
    {c t : Nat} {E : LE} {w : Mem} {Q : Int32 → Mem → Prop} (ht : t ≤ m) (h : LSt k p0 i (c + 1) w0 w t E) (hX : XC P m k p0 i (c + 1) w0 Q E (unP K V RS d t)) : wp_3_readUnit RSc k (nI d) w Q := by
  have tk := tkn_k hk tk0 h.2.2.1
  have hm := tk.1
  obtain ⟨kd, e4, e5, e6⟩ := tk.2.2 t ht
  have kl := kd_lt kd
  have h3 := h.1.1
  have iv : vp_in (nI t) 401 := vp_in_nI (by omega) (by decide)
  unfold unP at hX
  unfold wp_3_readUnit
  rw [h3, ix_nI (by omega), e4]
  refine ⟨iv, fun x2 ex => ?_⟩
  subst ex
  -- one token taken behind what was put out
  have one : ∀ (kk o : Nat) (v : Int32) (w1 : Mem), K t = kk → 2 ≤ kk → LSt k p0 i c w0 w1 t (E ++ [(o, v)]) → XC P m k p0 i (c + 1) w0 Q E (if t < 400 then .ok (t + 1, [(o, v)]) else .error (2, t)) → wp_3_takes (nI kk) w1 (fun r17 w16 => ((r17 = 0 ∨ r17 = 1) ∧ Q r17 w16)) := by
    intro kk o v w1 ek k2 h1 hX
    refine c_takes (tkn_k hk tk0 h1.2.2.1) ht h1.1.1 (by omega) (fun _ c4 => ⟨Or.inr rfl, ?_⟩) (fun _ c4 => ⟨Or.inl rfl, ?_⟩) (fun z => absurd ek z)
    · rw [if_pos c4] at hX
      exact hX (tkn_lt tk ht c4 (by omega)) _ (ls_t hk h1)
    · rw [if_neg c4] at hX
      exact hX _ (ls_F hk hi (by omega) h1)
  have e3 : nI (K t) = 3 ↔ K t = 3 := nI_eq (b := 3) (by omega) (by omega)
  have e40 : nI (K t) = 40 ↔ K t = 40 := nI_eq (b := 40) (by omega) (by omega)
  refine ⟨fun q => ?_, fun q => ⟨iv, ?_⟩⟩
  · have c3 : ¬ K t = 3 := fun z => q (e3.mpr z)
    rw [if_neg c3] at hX
    refine c_within (a := 146) (b := 156) (by omega) (by omega) (by omega) (fun a1 a2 => t1 ?_) (fun cv => t0 ?_)
    · rw [if_pos ⟨a1, a2⟩] at hX
      rw [show (146 : Int32) = nI 146 from rfl, pk_sub a1]
      exact c_add (o := 1) hk (by omega) h rfl (fun w15 h15 => one (K t) 1 _ w15 rfl (by omega) h15 hX)
    · rw [if_neg cv] at hX
      refine ⟨fun q4 => ?_, fun q4 => ?_⟩
      · have c40 := e40.mp q4
        rw [if_pos c40] at hX
        refine pk_lt d 6 (fun c6 => ?_) (fun c6 => ?_)
        · rw [if_pos c6] at hX
          refine c_takes (c := 40) tk ht h3 (by omega) (fun _ c4 => t1 ?_) (fun _ c4 => t0 ?_) (fun z => absurd c40 z)
          · rw [if_pos c4] at hX
            rw [nI_1]
            refine hR c6 (c + 1) (t + 1) E _ _ (tkn_lt tk ht c4 (by omega)) (ls_t hk h) ?_
            cases hr : RS (d + 1) (t + 1) with
            | error y =>
              obtain ⟨kd2, tok⟩ := y
              rw [hr] at hX
              exact fun w2 h2 => t0 (hX w2 h2)
            | ok y =>
              obtain ⟨t2, U⟩ := y
              rw [hr] at hX
              intro tm w2 h2
              have hX2 : XC P m k p0 i (c + 1) w0 Q E (if K t2 = 41 then (if t2 < 400 then .ok (t2 + 1, U) else .error (2, t2)) else .error (1, t2)) := hX
              have h2' : LSt k p0 i c w0 w2 t2 (E ++ U) := ⟨h2.1, h2.2.1, h2.2.2.1, by have := h2.2.2.2; omega⟩
              refine t1 (c_takes (c := 41) (tkn_k hk tk0 h2.2.2.1) tm h2.1.1 (by omega) (fun y1 y2 => t1 ?_) (fun y1 y2 => t0 ?_) (fun y1 => t0 ?_))
              · rw [if_pos y1, if_pos y2] at hX2
                exact hX2 (tkn_lt tk tm y2 (by omega)) _ (ls_t hk h2')
              · rw [if_pos y1, if_neg y2] at hX2
                exact hX2 _ (ls_F hk hi (by omega) h2)
              · rw [if_neg y1] at hX2
                exact hX2 _ (ls_F hk hi (by omega) h2)
          · rw [if_neg c4] at hX
            exact hX _ (ls_F hk hi (by omega) h)
        · rw [if_neg (by omega)] at hX
          refine c_fails tk ht h3 ⟨Or.inl rfl, hX _ (ls_F hk hi (by omega) h)⟩
      · rw [if_neg (fun z => q4 (e40.mpr z))] at hX
        refine c_fails tk ht h3 ⟨Or.inl rfl, hX _ (ls_F hk hi (by omega) h)⟩
  · have c3 : K t = 3 := e3.mp (Classical.not_not.mp q)
    rw [if_pos c3] at hX
    rw [e6 c3]
    exact c_add (o := 0) hk (by omega) h rfl (fun w15 h15 => one 3 0 _ w15 c3 (by omega) h15 hX)
