theorem noP_2 (lf : LFt) (k t : Nat) : noP (noP lf k t) k t = noP lf k t := by cases lf <;> rfl
/-- the class compares a NAME with those before -/
theorem c_nm {K P V NM : Nat → Nat} {m t : Nat} {lf : LFt} {w0 : Mem} {Q : Int32 → Mem → Prop} (ht : t ≤ m) (hk2 : K t = 2) : ∀ (r : List Nat) (i : Nat) (b : Bool) (w : Mem), TKN K P V m w → SMN K NM m w → (∀ x, x ∈ r → x ≤ m ∧ K x = 2) → (∀ j x, r[j]? = some x → w 8 (i + j) = nI x) → w 7 2 = nI (i + r.length) → i + r.length < 15 → LFc P (if b = true then noP lf 3 t else lf) w → fr7 w0 w → w 7 3 = w0 7 3 →
    (∀ w2, fr7 w0 w2 → w2 7 3 = w0 7 3 → LFc P (if (b || sameB NM r t) = true then noP lf 3 t else lf) w2 → Q 1 (st (st w2 8 (i + r.length) (nI t)) 7 2 (nI (i + r.length + 1)))) → wp_3_readName_b17 Q (r.length + 1) (nI t) (nI i) w
  | [], i, b, w, tk, sm, hr, h8, h2, h15, hl, f, h3, k => by
    simp only [List.length_nil, Nat.add_zero] at h2 h15 k ⊢
    unfold wp_3_readName_b17
    rw [h2, ix_nI (by omega)]
    refine ⟨fun _ => ⟨fun q => absurd ((nI_leI (a := 15) (by omega) (by omega)).mp q) (by omega), fun _ => ⟨vp_in_nI (by omega) (by decide), fun w2 e2 w3 e3 => ?_⟩⟩, fun q => absurd ((nI_leI (by omega) (by omega)).mpr (Nat.le_refl i)) q⟩
    have g2 : w2 7 2 = nI i := by subst e2; rw [st_nk (by decide)]; exact h2
    rw [g2, nI_1] at e3
    subst e3
    subst e2
    refine k w f h3 ?_
    rw [show (b || sameB NM [] t) = b by cases b <;> rfl]
    exact hl
  | x :: r, i, b, w, tk, sm, hr, h8, h2, h15, hl, f, h3, k => by
    simp only [List.length_cons] at h2 h15 k ⊢
    have ii : ix (nI i) = i := ix_nI (by omega)
    have e8 : w 8 i = nI x := h8 0 x rfl
    have hx := hr x (List.mem_cons_self ..)
    unfold wp_3_readName_b17
    rw [h2]
    refine ⟨fun q => absurd ((nI_leI (by omega) (by omega)).mp q) (by omega), fun _ => ⟨vp_in_nI (by omega) (by decide), ?_⟩⟩
    rw [ii, e8]
    refine sm w (fun _ _ _ _ => rfl) x t hx.1 ht hx.2 hk2 _ (fun e => t1 ?_) (fun e => t0 (fun x1 e1 => ?_))
    · refine c_notes (k := 3) tk ht (by omega) hl (fun w7 f7 a3 a4 l7 x1 e1 => ?_)
      rw [nI_1] at e1
      subst e1
      refine c_nm (lf := lf) ht hk2 r (i + 1) true w7 (tkn_7 tk f7) (smn_fr sm (fun a j p q => f7 a j (by omega))) (fun y hy => hr y (List.mem_cons_of_mem _ hy)) (fun j y hy => ?_) ?_ (by omega) ?_ (f7_tr f f7) (a3.trans h3) (fun w9 f9 a9 l9 => ?_)
      · rw [f7 8 _ (by omega), show i + 1 + j = i + (j + 1) by omega]
        exact h8 (j + 1) y hy
      · rw [f7 7 2 (by omega), h2, show i + 1 + r.length = i + (r.length + 1) by omega]
      · have : noP (if b = true then noP lf 3 t else lf) 3 t = noP lf 3 t := by cases b <;> simp [noP_2]
        rw [this] at l7
        exact l7
      · have := k w9 f9 a9 (by
          rw [show (b || sameB NM (x :: r) t) = true by simp [sameB, e]]
          simpa using l9)
        rw [show i + 1 + r.length = i + (r.length + 1) by omega]
        exact this
    · rw [nI_1] at e1
      subst e1
      refine c_nm (lf := lf) ht hk2 r (i + 1) b w tk sm (fun y hy => hr y (List.mem_cons_of_mem _ hy)) (fun j y hy => ?_) ?_ (by omega) hl f h3 (fun w9 f9 a9 l9 => ?_)
      · rw [show i + 1 + j = i + (j + 1) by omega]
        exact h8 (j + 1) y hy
      · rw [h2, show i + 1 + r.length = i + (r.length + 1) by omega]
      · have := k w9 f9 a9 (by
          rw [show (b || sameB NM (x :: r) t) = (b || sameB NM r t) by simp [sameB, e]]
          exact l9)
        rw [show i + 1 + r.length = i + (r.length + 1) by omega]
        exact this
/-- a NAME in the class -/
theorem c_name {K P V NM : Nat → Nat} {m c t : Nat} {S : PS} {w0 w : Mem} {Q : Int32 → Mem → Prop} (hc : 9 ≤ c) (g : GC K P V NM m c w0 t S w) (h15 : (sM S).length < 15)
    (KE : ∀ kd, tkP K 2 t = .error (kd, t) → ∀ w2, FE P c w0 kd t w2 → w2 (c + 32) = w (c + 32) → Q 0 w2) (KO : tkP K 2 t = .ok (t + 1) → ∀ w2, GC K P V NM m c w0 (t + 1) (sL S, sN S, sE S, sM S ++ [t], nmF NM t S) w2 → Q 1 w2) : wp_3_readName w Q := by
  obtain ⟨⟨a1, a2, a3, a4⟩, b, ⟨d1, d2, d3⟩, e, f⟩ := g
  have hm := a1.1
  intro x1 e1
  rw [a4] at e1
  subst e1
  have er : ∀ kd, tkP K 2 t = .error (kd, t) → Q 0 (st (st w 7 5 (nI kd)) 7 6 (nI (P t))) := by
    intro kd h
    refine KE kd h _ ⟨ftx_7 f (f7_tr (f7_st (by omega)) (f7_st (by omega))), ?_, st_eq⟩ ?_
    · rw [st_nj (by decide), st_eq]
    · rw [st_ne _ (by omega), st_ne _ (by omega)]
  refine c_takes (c := 2) a1 a3 a4 (by decide) (fun y c4 => u1 ?_) (fun y c4 => u0 ?_) (fun y => u0 ?_)
  · have m1 := tkn_lt a1 a3 c4 (by omega)
    have f1 : fr7 w (st w 7 3 (nI (t + 1))) := f7_st (by omega)
    refine ⟨(sM S).length + 1, c_nm (lf := sF S) (w0 := st w 7 3 (nI (t + 1))) a3 y (sM S) 0 false _ (tkn_7 a1 f1) (smn_fr a2 (fun a j p q => f1 a j (by omega))) d3 (fun j x hx => ?_) ?_ (by omega) ?_ (fun _ _ _ => rfl) rfl (fun w2 f2 h3 l2 => ?_)⟩
    · rw [Nat.zero_add]
      exact d2 j x hx
    · rw [Nat.zero_add]
      exact d1
    · exact e
    · rw [Nat.zero_add]
      have fa : fr7 w w2 := f7_tr f1 f2
      have w8 : wrC c 8 (sM S).length := Or.inr (Or.inl rfl)
      have w72 : wrC c 7 2 := Or.inl ⟨rfl, by decide, by decide⟩
      refine KO (by unfold tkP; rw [if_pos y, if_pos c4]) _ ⟨⟨?_, ?_, m1, ?_⟩, ?_, ⟨?_, fun i x hx => ?_, fun x hx => ?_⟩, ?_, ?_⟩
      · exact tkn_ft (c := c) hc (tkn_7 a1 fa) (ftx_st (ftx_st (fun _ _ _ => rfl) w8) w72)
      · exact smn_fr a2 (fun a j p q => by rw [st_nk (by omega), st_nk (by omega)]; exact fa a j (by omega))
      · rw [st_nj (by decide), st_nk (by decide), h3, st_eq]
      · exact cx_fr b (fun a j p q => by rw [st_nk (by omega), st_nk (by omega)]; exact fa a j (by omega))
      · rw [st_eq]
        show _ = nI (sM S ++ [t]).length
        rw [List.length_append]
        rfl
      · have hx2 : (sM S ++ [t])[i]? = some x := hx
        rw [st_nk (by decide)]
        rcases Nat.lt_or_ge i (sM S).length with q | q
        · rw [List.getElem?_append_left q] at hx2
          rw [st_nj (by omega), fa 8 i (by omega)]
          exact d2 i x hx2
        · rw [List.getElem?_append_right q] at hx2
          have i0 : i - (sM S).length = 0 := by
            rcases hh : i - (sM S).length with _ | z
            · rfl
            · rw [hh] at hx2
              simp at hx2
          rw [i0] at hx2
          have : t = x := by simpa using hx2
          rw [show i = (sM S).length by omega, ← this]
          exact st_eq
      · have hx2 : x ∈ sM S ++ [t] := hx
        rcases List.mem_append.mp hx2 with q | q
        · exact d3 x q
        · rw [List.mem_singleton.mp q]
          exact ⟨a3, y⟩
      · have z7 : ∀ j, j ≠ 2 → st (st w2 8 (sM S).length (nI t)) 7 2 (nI ((sM S).length + 1)) 7 j = w2 7 j := fun j hj => by rw [st_nj hj, st_nk (by decide)]
        unfold LFc
        rw [z7 7 (by decide), z7 8 (by decide)]
        exact l2
      · exact ftx_st (ftx_st (ftx_7 f fa) w8) w72
  · exact er 2 (by unfold tkP; rw [if_pos y, if_neg c4])
  · exact er 1 (by unfold tkP; rw [if_neg y])
/-- an INT whose number is kept for later -/
theorem c_gi {K P V NM : Nat → Nat} {m c t lo hi : Nat} {S : PS} {w0 w : Mem} {Q : Int32 → Mem → Prop} (hc : 9 ≤ c) (hV : ∀ j, K j = 3 → V j < 2 ^ 20) (hlo : lo < 2 ^ 20) (hhi : hi < 2 ^ 20) (g : GC K P V NM m c w0 t S w)
    (KE : ∀ kd, inP K V lo hi t (sF S) = .error (kd, t) → ∀ w2, FE P c w0 kd t w2 → w2 (c + 32) = w (c + 32) → Q 0 w2)
    (KO : ∀ lf2, inP K V lo hi t (sF S) = .ok (t + 1, lf2) → ∀ w2, GC K P V NM m c w0 (t + 1) (sL S, sN S, sE S, sM S, lf2) w2 → w2 7 4 = nI (V t) → Q 1 w2) : wp_3_readInt (nI lo) (nI hi) w Q := by
  have g0 := g
  obtain ⟨⟨a1, a2, a3, a4⟩, b, d, e, f⟩ := g
  refine c_int a1 hV a3 a4 hlo hhi e (fun kd hk er w2 f2 e5 e6 => ?_) (fun lf2 er m1 w2 f2 e3' e4 l2 => ?_)
  · exact KE kd er _ ⟨ftx_7 f f2, e5, e6⟩ (funext (fun j => f2 _ j (by omega)))
  · exact KO lf2 er _ (gc_7 hc g0 f2 e3' m1 l2) e4
theorem fe_c {P : Nat → Nat} {c kd tok : Nat} {w0 w w2 : Mem} (hc : 9 ≤ c) (h : FE P c w0 kd tok w) (f : ∀ a j, ¬ (c ≤ a ∧ wrC c a j) → w2 a j = w a j) : FE P c w0 kd tok w2 := by
  refine ⟨fun a j p => (f a j (fun z => p z.2)).trans (h.1 a j p), ?_, ?_⟩
  · rw [f 7 5 (fun z => by have := z.1; omega)]; exact h.2.1
  · rw [f 7 6 (fun z => by have := z.1; omega)]; exact h.2.2
theorem c_addMan {k n : Nat} {a1 a2 a3 a4 : Int32} {w : Mem} {Q : Mem → Prop} (h6 : w k 6 = nI n) (hn : n < 8)
    (K : ∀ w2, (∀ a j, ¬ ((k + 1 ≤ a ∧ a ≤ k + 4) ∧ j = n) → ¬ (a = k ∧ j = 6) → w2 a j = w a j) → w2 (k + 1) n = a1 → w2 (k + 2) n = a2 → w2 (k + 3) n = a3 → w2 (k + 4) n = a4 → w2 k 6 = nI (n + 1) → Q w2) : wp_4_addMan k a1 a2 a3 a4 w Q := by
  have iv : vp_in (nI n) 8 := vp_in_nI hn (by decide)
  have ii : ix (nI n) = n := ix_nI (by omega)
  unfold wp_4_addMan
  rw [h6, ii]
  refine ⟨fun q => absurd ((nI_leI (a := 8) (by omega) (by omega)).mp q) (by omega), fun _ => ⟨iv, fun w2 e2 => ?_⟩⟩
  have g2 : w2 k 6 = nI n := by subst e2; rw [st_nk (by omega)]; exact h6
  rw [g2, ii]
  refine ⟨iv, fun w4 e4 => ?_⟩
  have g4 : w4 k 6 = nI n := by subst e4; rw [st_nk (by omega)]; exact g2
  rw [g4, ii]
  refine ⟨iv, fun w6 e6 => ?_⟩
  have g6 : w6 k 6 = nI n := by subst e6; rw [st_nk (by omega)]; exact g4
  rw [g6, ii]
  refine ⟨iv, fun w8 e8 w9 e9 => ?_⟩
  have g8 : w8 k 6 = nI n := by subst e8; rw [st_nk (by omega)]; exact g6
  rw [g8, nI_1] at e9
  subst e9
  subst e8
  subst e6
  subst e4
  subst e2
  refine K _ (fun a j q1 q2 => ?_) ?_ ?_ ?_ ?_ st_eq
  · simp only [st]
    rw [if_neg q2, if_neg (by omega), if_neg (by omega), if_neg (by omega), if_neg (by omega)]
  · rw [st_nk (by omega), st_nk (by omega), st_nk (by omega), st_nk (by omega), st_eq]
  · rw [st_nk (by omega), st_nk (by omega), st_nk (by omega), st_eq]
  · rw [st_nk (by omega), st_nk (by omega), st_eq]
  · rw [st_nk (by omega), st_eq]
theorem c_addJudge {k n : Nat} {a1 a2 : Int32} {w : Mem} {Q : Mem → Prop} (h7 : w k 7 = nI n) (hn : n < 7)
    (K : ∀ w2, (∀ a j, ¬ ((a = k + 5 ∨ a = k + 6) ∧ j = n) → ¬ (a = k ∧ j = 7) → w2 a j = w a j) → w2 (k + 5) n = a1 → w2 (k + 6) n = a2 → w2 k 7 = nI (n + 1) → Q w2) : wp_4_addJudge k a1 a2 w Q := by
  have iv : vp_in (nI n) 7 := vp_in_nI hn (by decide)
  have ii : ix (nI n) = n := ix_nI (by omega)
  unfold wp_4_addJudge
  rw [h7, ii]
  refine ⟨fun q => absurd ((nI_leI (a := 7) (by omega) (by omega)).mp q) (by omega), fun _ => ⟨iv, fun w2 e2 => ?_⟩⟩
  have g2 : w2 k 7 = nI n := by subst e2; rw [st_nk (by omega)]; exact h7
  rw [g2, ii]
  refine ⟨iv, fun w4 e4 w5 e5 => ?_⟩
  have g4 : w4 k 7 = nI n := by subst e4; rw [st_nk (by omega)]; exact g2
  rw [g4, nI_1] at e5
  subst e5
  subst e4
  subst e2
  refine K _ (fun a j q1 q2 => ?_) ?_ ?_ st_eq
  · simp only [st]
    rw [if_neg q2, if_neg (by omega), if_neg (by omega)]
  · rw [st_nk (by omega), st_nk (by omega), st_eq]
  · rw [st_nk (by omega), st_eq]
