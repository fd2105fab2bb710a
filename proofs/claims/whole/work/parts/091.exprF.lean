theorem xc_join {P : Nat → Nat} {m k p0 i c : Nat} {w0 : Mem} {Q : Int32 → Mem → Prop} {E : LE} {r : PE} (h : XC P m k p0 i c w0 Q E r) : (∀ kd tok, r = .error (kd, tok) → ∀ w2, FCk P k p0 i w0 kd tok w2 → Q 0 w2) ∧ ∀ t2 U, r = .ok (t2, U) → t2 ≤ m → ∀ w2, LSt k p0 i c w0 w2 t2 (E ++ U) → Q 1 w2 := by
  constructor
  · rintro kd tok rfl
    exact h
  · rintro t2 U rfl
    exact h
theorem sg_cop {g : Nat} (h : g = 42 ∨ g = 47 ∨ g = 43 ∨ g = 45) : nI g = copE (sgO g) := by
  rcases h with rfl | rfl | rfl | rfl <;> rfl
theorem c_pl {K P V : Nat → Nat} {RS : Nat → Nat → PE} {RSc : Nat → Int32 → Mem → (Int32 → Mem → Prop) → Prop} {m k p0 i d : Nat} {w0 : Mem} (tk0 : TKN K P V m w0) (hk : 9 ≤ k) (hi : i ≤ 13)
    (hU : ∀ (c t : Nat) (E : LE) (w : Mem) (Q : Int32 → Mem → Prop), t ≤ m → LSt k p0 i (c + 1) w0 w t E → XC P m k p0 i (c + 1) w0 Q E (unP K V RS d t) → wp_3_readUnit RSc k (nI d) w Q)
    {c : Nat} {Q : Int32 → Mem → Prop} {E0 : LE} : ∀ (f n0 t : Nat) (p : LE) (w : Mem), n0 + f = 400 → t ≤ m → LSt k p0 i (c + 1) w0 w t (E0 ++ p) → XC P m k p0 i (c + 1) w0 Q E0 (prL K V RS d f t p) → wp_3_readProduct_b10 RSc k Q (f + 2) (nI d) 1 (nI n0) w
  | 0, n0, t, p, w, hn, ht, h, hX => by
    unfold wp_3_readProduct_b10
    refine pk_le 400 n0 (fun _ => ⟨Or.inr rfl, hX ht w h⟩) (fun q => absurd q (by omega))
  | f + 1, n0, t, p, w, hn, ht, h, hX => by
    have tk := tkn_k hk tk0 h.2.2.1
    have hm := tk.1
    obtain ⟨kd, e4, e5, e6⟩ := tk.2.2 t ht
    have kl := kd_lt kd
    have h3 := h.1.1
    have iv : vp_in (nI t) 401 := vp_in_nI (by omega) (by decide)
    simp only [prL] at hX
    have go : (K t = 42 ∨ K t = 47) → wp_3_readProduct_b56 RSc k Q (wp_3_readProduct_b10 RSc k Q (f + 2)) (nI d) (nI n0) w := by
      intro c2
      rw [if_pos c2] at hX
      have sgc : nI (K t) = copE (sgO (K t)) := sg_cop (by omega)
      have bad : ∀ kd2 tok, (∀ w2, FCk P k p0 i w0 kd2 tok w2 → Q 0 w2) → ∀ w2, FCk P k p0 i w0 kd2 tok w2 → wp_3_readProduct_b92 RSc k Q (wp_3_readProduct_b10 RSc k Q (f + 2)) (nI d) (nI n0) (nI (K t)) w2 := by
        intro kd2 tok hq w2 h2
        unfold wp_3_readProduct_b92 wp_3_readProduct_b93
        refine c_addF hk h2 (fun w3 h4 x2 ex => ?_)
        rw [nI_1] at ex
        subst ex
        show wp_3_readProduct_b10 RSc k Q (f + 1 + 1) (nI d) 0 (nI (n0 + 1)) w3
        unfold wp_3_readProduct_b10
        exact ⟨fun _ => ⟨Or.inl rfl, hq w3 h4⟩, fun _ => t0 ⟨Or.inl rfl, hq w3 h4⟩⟩
      unfold wp_3_readProduct_b56
      rw [h3, ix_nI (by omega), e4]
      refine ⟨iv, fun x2 ex => ?_⟩
      subst ex
      refine c_takes tk ht h3 (by omega) (fun _ c4 => t1 ?_) (fun _ c4 => t0 ?_) (fun z => absurd rfl z)
      · rw [if_pos c4] at hX
        refine hU (c + 1) (t + 1) (E0 ++ p) _ _ (tkn_lt tk ht c4 (by omega)) (ls_t hk h) ?_
        cases hr : unP K V RS d (t + 1) with
        | error y =>
          obtain ⟨kd2, tok⟩ := y
          rw [hr] at hX
          exact fun w2 h2 => t0 (bad kd2 tok hX w2 h2)
        | ok y =>
          obtain ⟨t2, U⟩ := y
          rw [hr] at hX
          intro tm w2 h2
          have t24 : t2 ≤ 400 := by omega
          refine t1 (c_add (o := sgO (K t)) hk t24 h2 sgc (fun w3 h4 x2 ex => ?_))
          rw [nI_1] at ex
          subst ex
          refine c_pl tk0 hk hi hU f (n0 + 1) t2 (p ++ U ++ [(sgO (K t), 0)]) w3 (by omega) tm ?_ hX
          rw [List.append_assoc, List.append_assoc] at h4
          rw [List.append_assoc]
          exact h4
      · rw [if_neg c4] at hX
        exact bad 2 t hX _ (ls_F hk hi (by omega) h)
    unfold wp_3_readProduct_b10
    refine pk_le 400 n0 (fun q => absurd q (by omega)) (fun _ => ⟨fun q => absurd q (by decide), fun _ => ?_⟩)
    rw [h3, ix_nI (by omega), e4]
    have e42 : nI (K t) = 42 ↔ K t = 42 := nI_eq (b := 42) (by omega) (by omega)
    have e47 : nI (K t) = 47 ↔ K t = 47 := nI_eq (b := 47) (by omega) (by omega)
    refine ⟨iv, fun q => go (Or.inl (e42.mp q)), fun q => ⟨iv, fun q2 => ?_, fun q2 => go (Or.inr (e47.mp (Classical.not_not.mp q2)))⟩⟩
    rw [if_neg (by
      rintro (z | z)
      · exact q (e42.mpr z)
      · exact q2 (e47.mpr z))] at hX
    exact ⟨Or.inr rfl, hX ht w h⟩
theorem c_pr {K P V : Nat → Nat} {RS : Nat → Nat → PE} {RSc : Nat → Int32 → Mem → (Int32 → Mem → Prop) → Prop} {m k p0 i d : Nat} {w0 : Mem} (tk0 : TKN K P V m w0) (hk : 9 ≤ k) (hi : i ≤ 13)
    (hU : ∀ (c t : Nat) (E : LE) (w : Mem) (Q : Int32 → Mem → Prop), t ≤ m → LSt k p0 i (c + 1) w0 w t E → XC P m k p0 i (c + 1) w0 Q E (unP K V RS d t) → wp_3_readUnit RSc k (nI d) w Q)
    {c t : Nat} {E : LE} {w : Mem} {Q : Int32 → Mem → Prop} (ht : t ≤ m) (h : LSt k p0 i (c + 1) w0 w t E) (hX : XC P m k p0 i (c + 1) w0 Q E (prP K V RS d t)) : wp_3_readProduct RSc k (nI d) w Q := by
  unfold prP at hX
  unfold wp_3_readProduct
  refine hU c t E w _ ht h ?_
  cases hr : unP K V RS d t with
  | error y =>
    obtain ⟨kd2, tok⟩ := y
    rw [hr] at hX
    intro w2 h2
    refine ⟨1, ?_⟩
    unfold wp_3_readProduct_b10
    exact ⟨fun q => absurd q (by decide), fun _ => t0 ⟨Or.inl rfl, hX w2 h2⟩⟩
  | ok y =>
    obtain ⟨t2, U⟩ := y
    rw [hr] at hX
    intro tm w2 h2
    exact ⟨402, c_pl tk0 hk hi hU 400 0 t2 U w2 (by omega) tm h2 hX⟩
theorem c_sl {K P V : Nat → Nat} {RS : Nat → Nat → PE} {RSc : Nat → Int32 → Mem → (Int32 → Mem → Prop) → Prop} {m k p0 i d : Nat} {w0 : Mem} (tk0 : TKN K P V m w0) (hk : 9 ≤ k) (hi : i ≤ 13)
    (hU : ∀ (c t : Nat) (E : LE) (w : Mem) (Q : Int32 → Mem → Prop), t ≤ m → LSt k p0 i (c + 1) w0 w t E → XC P m k p0 i (c + 1) w0 Q E (prP K V RS d t) → wp_3_readProduct RSc k (nI d) w Q)
    {c : Nat} {Q Q2 : Int32 → Mem → Prop} {E0 : LE} (hQ : ∀ b w2, (b = 0 ∨ b = 1) → Q2 b w2 → wp_3_readSumF_b107 RSc k Q (nI d) b w2) : ∀ (f n0 t : Nat) (p : LE) (w : Mem), n0 + f = 400 → t ≤ m → LSt k p0 i (c + 1) w0 w t (E0 ++ p) → XC P m k p0 i (c + 1) w0 Q2 E0 (smL K V RS d f t p) → wp_3_readSumF_b10 RSc k Q (f + 2) (nI d) 1 (nI n0) w
  | 0, n0, t, p, w, hn, ht, h, hX => by
    unfold wp_3_readSumF_b10
    refine pk_le 400 n0 (fun _ => hQ 1 w (Or.inr rfl) (hX ht w h)) (fun q => absurd q (by omega))
  | f + 1, n0, t, p, w, hn, ht, h, hX => by
    have tk := tkn_k hk tk0 h.2.2.1
    have hm := tk.1
    obtain ⟨kd, e4, e5, e6⟩ := tk.2.2 t ht
    have kl := kd_lt kd
    have h3 := h.1.1
    have iv : vp_in (nI t) 401 := vp_in_nI (by omega) (by decide)
    simp only [smL] at hX
    have go : (K t = 43 ∨ K t = 45) → wp_3_readSumF_b56 RSc k Q (wp_3_readSumF_b10 RSc k Q (f + 2)) (nI d) (nI n0) w := by
      intro c2
      rw [if_pos c2] at hX
      have sgc : nI (K t) = copE (sgO (K t)) := sg_cop (by omega)
      have bad : ∀ kd2 tok, (∀ w2, FCk P k p0 i w0 kd2 tok w2 → Q2 0 w2) → ∀ w2, FCk P k p0 i w0 kd2 tok w2 → wp_3_readSumF_b92 RSc k Q (wp_3_readSumF_b10 RSc k Q (f + 2)) (nI d) (nI n0) (nI (K t)) w2 := by
        intro kd2 tok hq w2 h2
        unfold wp_3_readSumF_b92 wp_3_readSumF_b93
        refine c_addF hk h2 (fun w3 h4 x2 ex => ?_)
        rw [nI_1] at ex
        subst ex
        show wp_3_readSumF_b10 RSc k Q (f + 1 + 1) (nI d) 0 (nI (n0 + 1)) w3
        unfold wp_3_readSumF_b10
        exact ⟨fun _ => hQ 0 w3 (Or.inl rfl) (hq w3 h4), fun _ => t0 (hQ 0 w3 (Or.inl rfl) (hq w3 h4))⟩
      unfold wp_3_readSumF_b56
      rw [h3, ix_nI (by omega), e4]
      refine ⟨iv, fun x2 ex => ?_⟩
      subst ex
      refine c_takes tk ht h3 (by omega) (fun _ c4 => t1 ?_) (fun _ c4 => t0 ?_) (fun z => absurd rfl z)
      · rw [if_pos c4] at hX
        refine hU (c + 1) (t + 1) (E0 ++ p) _ _ (tkn_lt tk ht c4 (by omega)) (ls_t hk h) ?_
        cases hr : prP K V RS d (t + 1) with
        | error y =>
          obtain ⟨kd2, tok⟩ := y
          rw [hr] at hX
          exact fun w2 h2 => t0 (bad kd2 tok hX w2 h2)
        | ok y =>
          obtain ⟨t2, U⟩ := y
          rw [hr] at hX
          intro tm w2 h2
          have t24 : t2 ≤ 400 := by omega
          refine t1 (c_add (o := sgO (K t)) hk t24 h2 sgc (fun w3 h4 x2 ex => ?_))
          rw [nI_1] at ex
          subst ex
          refine c_sl tk0 hk hi hU hQ f (n0 + 1) t2 (p ++ U ++ [(sgO (K t), 0)]) w3 (by omega) tm ?_ hX
          rw [List.append_assoc, List.append_assoc] at h4
          rw [List.append_assoc]
          exact h4
      · rw [if_neg c4] at hX
        exact bad 2 t hX _ (ls_F hk hi (by omega) h)
    unfold wp_3_readSumF_b10
    refine pk_le 400 n0 (fun q => absurd q (by omega)) (fun _ => ⟨fun q => absurd q (by decide), fun _ => ?_⟩)
    rw [h3, ix_nI (by omega), e4]
    have e43 : nI (K t) = 43 ↔ K t = 43 := nI_eq (b := 43) (by omega) (by omega)
    have e45 : nI (K t) = 45 ↔ K t = 45 := nI_eq (b := 45) (by omega) (by omega)
    refine ⟨iv, fun q => go (Or.inl (e43.mp q)), fun q => ⟨iv, fun q2 => ?_, fun q2 => go (Or.inr (e45.mp (Classical.not_not.mp q2)))⟩⟩
    rw [if_neg (by
      rintro (z | z)
      · exact q (e43.mpr z)
      · exact q2 (e45.mpr z))] at hX
    exact hQ 1 w (Or.inr rfl) (hX ht w h)
theorem c_sm {K P V : Nat → Nat} {RS : Nat → Nat → PE} {RSc : Nat → Int32 → Mem → (Int32 → Mem → Prop) → Prop} {m k p0 i d : Nat} {w0 : Mem} (tk0 : TKN K P V m w0) (hk : 9 ≤ k) (hi : i ≤ 13)
    (hU : ∀ (c t : Nat) (E : LE) (w : Mem) (Q : Int32 → Mem → Prop), t ≤ m → LSt k p0 i (c + 1) w0 w t E → XC P m k p0 i (c + 1) w0 Q E (prP K V RS d t) → wp_3_readProduct RSc k (nI d) w Q)
    {c t : Nat} {E : LE} {w : Mem} {Q Q2 : Int32 → Mem → Prop} (hQ : ∀ b w2, (b = 0 ∨ b = 1) → Q2 b w2 → wp_3_readSumF_b107 RSc k Q (nI d) b w2) (ht : t ≤ m) (h : LSt k p0 i (c + 1) w0 w t E) (hX : XC P m k p0 i (c + 1) w0 Q2 E (smP K V RS d t)) : wp_3_readSumF RSc k (nI d) w Q := by
  unfold smP at hX
  unfold wp_3_readSumF
  refine hU c t E w _ ht h ?_
  cases hr : prP K V RS d t with
  | error y =>
    obtain ⟨kd2, tok⟩ := y
    rw [hr] at hX
    intro w2 h2
    refine ⟨1, ?_⟩
    unfold wp_3_readSumF_b10
    exact ⟨fun q => absurd q (by decide), fun _ => t0 (hQ 0 w2 (Or.inl rfl) (hX w2 h2))⟩
  | ok y =>
    obtain ⟨t2, U⟩ := y
    rw [hr] at hX
    intro tm w2 h2
    exact ⟨402, c_sl tk0 hk hi hU hQ 400 0 t2 U w2 (by omega) tm h2 hX⟩
/-- an E inside some ( in the class, and the one outside all -/
theorem c_exF {K P V : Nat → Nat} {m k p0 i : Nat} {w0 : Mem} (tk0 : TKN K P V m w0) (hk : 9 ≤ k) (hi : i ≤ 13) : ∀ (n d : Nat), d + n = 8 → 2 ≤ n → ∀ (c t : Nat) (E : LE) (w : Mem) (Q Q2 : Int32 → Mem → Prop), (∀ b w2, (b = 0 ∨ b = 1) → Q2 b w2 → wp_3_readSumF_b107 (wp_3_readSum (n - 1)) k Q (nI d) b w2) → t ≤ m → LSt k p0 i (c + 1) w0 w t E → XC P m k p0 i (c + 1) w0 Q2 E (exP K V n d t) → wp_3_readSum n k (nI d) w Q
  | 0, _, _, h, _, _, _, _, _, _, _, _, _, _ => absurd h (by omega)
  | n + 1, d, hd, hn, c, t, E, w, Q, Q2, hQ, ht, h, hX => by
    show wp_3_readSumF (wp_3_readSum n) k (nI d) w Q
    refine c_sm (RS := exP K V n) tk0 hk hi (fun c t E w Q ht h hX => ?_) hQ ht h hX
    refine c_pr tk0 hk hi (fun c t E w Q ht h hX => ?_) ht h hX
    refine c_un tk0 hk hi (by omega) (fun d6 c t E w Q ht h hX => ?_) ht h hX
    refine c_exF tk0 hk hi n (d + 1) (by omega) (by omega) c t E w Q Q (fun b w2 hb hq => ?_) ht h hX
    refine ⟨fun _ => ⟨hb, hq⟩, fun q => absurd (Classical.not_not.mp q) (nI_ne0 (by omega) (by omega))⟩
