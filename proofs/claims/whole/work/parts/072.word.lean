def wsL : List Nat := wdL.flatMap (fun u => u ++ [32])
/-- the class's way through the words, letter by letter -/
def kcF (l : List Nat) : List Nat → Nat → Nat → Bool → Nat
  | [], _, _, _ => 2
  | c :: r, wd, mt, sm => if c = 32 then (if sm = true ∧ mt = l.length then wd else kcF l r (wd + 1) 0 true) else kcF l r wd (mt + 1) (sm && decide (l[mt]? = some c))
theorem kcF_w (l : List Nat) : ∀ (u pre r : List Nat) (wd : Nat), (∀ c, c ∈ u → c ≠ 32) → kcF l (u ++ 32 :: r) wd pre.length (decide (l.take pre.length = pre)) = if l = pre ++ u then wd else kcF l r (wd + 1) 0 true
  | [], pre, r, wd, _ => by
    simp only [List.nil_append, kcF, if_true, List.append_nil, decide_eq_true_eq]
    by_cases c : l = pre
    · subst c
      rw [if_pos ⟨List.take_length, rfl⟩, if_pos rfl]
    · rw [if_neg c, if_neg]
      rintro ⟨h1, h2⟩
      apply c
      rw [h2, List.take_length] at h1
      exact h1
  | d :: u, pre, r, wd, h => by
    have hd := h d (by simp)
    simp only [List.cons_append, kcF]
    rw [if_neg hd]
    have e : (decide (l.take pre.length = pre) && decide (l[pre.length]? = some d)) = decide (l.take (pre ++ [d]).length = pre ++ [d]) := by
      rw [← Bool.decide_and]
      congr 1
      simp only [List.length_append, List.length_cons, List.length_nil, Nat.zero_add]
      rw [List.take_add_one]
      apply propext
      constructor
      · rintro ⟨h1, h2⟩
        rw [h1, h2]
        rfl
      · intro h1
        cases hg : l[pre.length]? with
        | none =>
          rw [hg] at h1
          simp only [Option.toList, List.append_nil] at h1
          have := congrArg List.length h1
          simp at this
          omega
        | some x =>
          rw [hg] at h1
          have hl : (l.take pre.length).length = pre.length := by
            have := (List.getElem?_eq_some_iff.mp hg).1
            rw [List.length_take]
            omega
          obtain ⟨a, b⟩ := List.append_inj h1 hl
          simp only [Option.toList, List.cons.injEq, and_true] at b
          exact ⟨a, by rw [b]⟩
    have el : pre.length + 1 = (pre ++ [d]).length := by simp
    rw [e, el, kcF_w l u (pre ++ [d]) r wd (fun c hc => h c (by simp [hc]))]
    simp
theorem kcF_k (l : List Nat) : ∀ (ws : List (List Nat)) (wd : Nat), (∀ u, u ∈ ws → ∀ c, c ∈ u → c ≠ 32) → kcF l (ws.flatMap (fun u => u ++ [32])) wd 0 true = kwF ws wd l
  | [], wd, _ => rfl
  | u :: ws, wd, h => by
    have := kcF_w l u [] (ws.flatMap (fun u => u ++ [32])) wd (h u (by simp))
    simp only [List.length_nil, List.take_zero, decide_true, List.nil_append] at this
    simp only [List.flatMap_cons, List.append_assoc, List.cons_append, List.nil_append, kwF]
    rw [this, kcF_k l ws (wd + 1) (fun v hv => h v (by simp [hv]))]
theorem ws_len : wsL.length = 153 := by decide +kernel
theorem ws_chr : ∀ i, i < 153 → ((((bytS.getD 0 []).getD i 0) &&& (255 : Int32)).toUInt32 % 65536).toInt32 = nI (wsL.getD i 0) ∧ wsL.getD i 0 < 256 := by decide +kernel
theorem ws_32 : ∀ u, u ∈ wdL → ∀ c, c ∈ u → c ≠ 32 := by decide +kernel
theorem ws_drop {i : Nat} (h : i < 153) : wsL.drop i = wsL.getD i 0 :: wsL.drop (i + 1) := by
  have hl : i < wsL.length := by rw [ws_len]; exact h
  rw [List.drop_eq_getElem_cons hl]
  congr 1
  rw [List.getD_eq_getElem?_getD, List.getElem?_eq_getElem hl]
  rfl
theorem s_len0 {w : Mem} {Q : Int32 → Mem → Prop} (K : Q (nI 153) w) : wp_J0_length_8abf5 0 w Q := by
  refine ⟨fun q => absurd q (by decide), fun _ => ?_⟩
  show Q ((Int32.ofNat (lenS.getD 0 0)) >>> ((0 : Int32) &&& 31)) w
  rw [show (Int32.ofNat (lenS.getD 0 0)) >>> ((0 : Int32) &&& 31) = nI 153 by decide]
  exact K
theorem s_chr {i : Nat} {w : Mem} {Q : Int32 → Mem → Prop} (hi : i < 153) (K : Q (nI (wsL.getD i 0)) w) : wp_J0_charAt_5068e 0 (nI i) w Q := by
  obtain ⟨ec, hc⟩ := ws_chr i hi
  refine ⟨fun q => absurd q (by decide), fun _ => ⟨fun q => absurd rfl q, fun _ => ⟨fun q => absurd q (by decide), fun _ => ⟨fun q => absurd q (nI_pos (by omega)), fun _ => ?_⟩⟩⟩⟩
  refine pk_lt (x := nI i) (y := Int32.ofNat (lenS.getD 0 0)) i 153 (fun _ => ⟨vp_in_nI (show i < lenS.getD 0 0 from by show i < 153; omega) (by decide), ?_⟩) (fun q => absurd q (by omega))
  rw [ix_nI (by omega), ec]
  refine ⟨?_, K⟩
  rw [pk_char, pk_tn (by omega), Nat.mod_eq_of_lt (by omega)]
theorem c_kind {B : Nat → Nat} {n p sz : Nat} {w : Mem} {Q : Int32 → Mem → Prop} (h : TB B n w) (hp : p + sz ≤ n) : ∀ (k i wd mt : Nat) (sm : Bool), i + k = 153 → wd ≤ 128 + i → mt ≤ i → Q (nI (kcF (ltF B sz p) (wsL.drop i) wd mt sm)) w → wp_9_kindOfName_b13 Q (k + 1) (nI p) (nI sz) (nI wd) (nI mt) (bI sm) (nI i) w := by
  have h20 := h.1
  intro k
  induction k with
  | zero =>
    intro i wd mt sm hi hw hm K
    refine s_len0 (pk_le 153 i (fun _ => ?_) (fun q => absurd q (by omega)))
    rw [List.drop_eq_nil_of_le (by rw [ws_len]; omega)] at K
    exact K
  | succ k ih =>
    intro i wd mt sm hi hw hm K
    obtain ⟨ec, hc⟩ := ws_chr i (by omega)
    refine s_len0 (pk_le 153 i (fun q => absurd q (by omega)) (fun _ => s_chr (by omega) ?_))
    rw [ws_drop (show i < 153 by omega)] at K
    simp only [kcF] at K
    generalize wsL.getD i 0 = c at hc K
    have b92 : kcF (ltF B sz p) (wsL.drop (i + 1)) (wd + 1) 0 true = kcF (ltF B sz p) (wsL.drop (i + 1)) (wd + 1) 0 true → Q (nI (kcF (ltF B sz p) (wsL.drop (i + 1)) (wd + 1) 0 true)) w → wp_9_kindOfName_b92 Q (wp_9_kindOfName_b13 Q (k + 1)) (nI p) (nI sz) (nI wd) (nI i) w := by
      intro _ KK x1 e1 x2 e2
      rw [nI_1] at e1 e2
      subst e1
      subst e2
      exact ih (i + 1) (wd + 1) 0 true (by omega) (by omega) (by omega) KK
    have b71 : ∀ b : Bool, Q (nI (kcF (ltF B sz p) (wsL.drop (i + 1)) wd (mt + 1) b)) w → wp_9_kindOfName_b71 Q (wp_9_kindOfName_b13 Q (k + 1)) (nI p) (nI sz) (nI wd) (nI mt) (nI i) (bI b) w := by
      intro b KK x1 e1 x2 e2
      rw [nI_1] at e1 e2
      subst e1
      subst e2
      exact ih (i + 1) wd (mt + 1) b (by omega) (by omega) (by omega) KK
    have e32 : nI c = 32 ↔ c = 32 := nI_eq (b := 32) (by omega) (by omega)
    rw [ltF_len] at K
    refine ⟨fun q => ?_, fun q => ?_⟩
    · rw [if_pos (e32.mp q)] at K
      cases sm with
      | false =>
        rw [if_neg (by simp)] at K
        exact ⟨fun _ => b92 rfl K, fun z => absurd rfl z⟩
      | true =>
        refine ⟨fun z => absurd z (by decide), fun _ => ⟨fun z => ?_, fun z => ?_⟩⟩
        · rw [if_neg (fun y => z (by rw [y.2]))] at K
          exact b92 rfl K
        · rw [if_pos ⟨rfl, (nI_eq (by omega) (by omega)).mp (Classical.not_not.mp z)⟩] at K
          exact K
    · rw [if_neg (fun z => q (e32.mpr z))] at K
      cases sm with
      | false =>
        rw [Bool.false_and] at K
        exact ⟨fun _ => b71 false K, fun z => absurd rfl z⟩
      | true =>
        rw [Bool.true_and] at K
        refine ⟨fun z => absurd z (by decide), fun _ => pk_le sz mt (fun z => ?_) (fun z => ?_)⟩
        · have : (ltF B sz p)[mt]? = none := by rw [List.getElem?_eq_none_iff, ltF_len]; exact z
          rw [this] at K
          exact b71 false K
        · rw [nI_add]
          rw [ltF_get B sz p mt z] at K
          refine c_byte h (by omega) (fun _ => ?_) (fun y => absurd y (by omega))
          have hb := (h.2.2 (p + mt) (by omega)).2
          have eb : nI (B (p + mt)) = nI c ↔ B (p + mt) = c := nI_eq (by omega) (by omega)
          refine ⟨fun y => ?_, fun y => ?_⟩
          · rw [decide_eq_false (by simp only [Option.some.injEq]; exact fun z => y (eb.mpr z))] at K
            exact b71 false K
          · rw [decide_eq_true (by simp only [Option.some.injEq]; exact eb.mp (Classical.not_not.mp y))] at K
            exact b71 true K
theorem c_kindOf {B : Nat → Nat} {n p sz : Nat} {w : Mem} {Q : Int32 → Mem → Prop} (h : TB B n w) (hp : p + sz ≤ n) (K : Q (nI (kwF wdL 128 (ltF B sz p))) w) : wp_9_kindOfName (nI p) (nI sz) w Q := by
  refine ⟨154, c_kind h hp 153 0 128 0 true rfl (by omega) (by omega) ?_⟩
  rw [List.drop_zero, show wsL = wdL.flatMap (fun u => u ++ [32]) from rfl, kcF_k _ _ _ ws_32]
  exact K
