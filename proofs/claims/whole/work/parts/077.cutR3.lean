theorem r_cutL {B : Nat → Nat} {n p i : Nat} {w : Mem} {wl : MemL} {L7 : Int32 → Mem → MemL → Prop} {Q : Mem → MemL → Prop} (h : RB2 B n w) (hk : KEYS wl) (hp : p < n) (hl : isL (B p) = true) (hi : i < 403) (h10 : w 150 10 = nI i) (K : ∀ w2 wl2, TO1 i (nI (rcF (knF B n p))) (nI p) 0 (lN (nvF 0 (ltF B (min (spN isL B n p - p) 8) p))) w w2 wl wl2 → L7 (nI (enF B n p)) w2 wl2) : ∃ nn, wp_12_cut_b85 Q L7 nn (nI p) 0 (lN 0) w wl := by
  have h20 := h.1
  have eb := spN_b (pr := isL) (B := B) (n := n) (p := p) (by omega)
  have ek : knF B n p = if 8 < spN isL B n p - p then 1 else kwF wdL 128 (ltF B (spN isL B n p - p) p) := by
    unfold knF
    rw [if_neg (by omega), if_pos hl]
  have ee : enF B n p = spN isL B n p := by
    unfold enF
    rw [if_neg (by omega), if_pos hl]
  obtain ⟨z, hz⟩ : ∃ z, z = spN isL B n p - p := ⟨_, rfl⟩
  have fin : ∀ kd, kd = rcF (knF B n p) → wp_12_cut_b179 Q L7 (nI p) (nI z) (lN (nvF 0 (ltF B (min z 8) p))) (nI kd) w wl := by
    intro kd e
    subst e
    refine r_token hi h10 (fun w2 wl2 o x3 e3 => ?_)
    rw [nI_add, show p + z = enF B n p by omega] at e3
    subst e3
    refine K w2 wl2 ?_
    rw [← hz]
    exact o
  refine pk_loop (fun m j (x : Nat) => wp_12_cut_b85 Q L7 m (nI p) (nI j) (lN x) w wl) (fun j x => x = nvF 0 (ltF B (min j 8) p)) z 0 0 (by omega) rfl (fun m x hx => ?_) (fun m j x hj hx L => ?_)
  · subst hx
    unfold wp_12_cut_b85
    rw [nI_add]
    refine r_byte h (by omega) (r_letter ?_ (fun c => ?_) (fun _ => t0 ?_))
    · split
      · rename_i c; have := (h.2.2 _ c).2; omega
      · omega
    · exfalso
      split at c
      · rename_i y
        refine spN_s (pr := isL) (B := B) (n := n) (p := p) (by omega) (by omega) ?_
        rw [show spN isL B n p = p + z by omega]
        exact c
      · exact absurd c (by decide)
    · refine pk_le z 8 (fun q => ?_) (fun q => ?_)
      · refine pk_lt 7 z (fun q2 => ?_) (fun q2 => ?_)
        · refine fin 1 ?_
          rw [ek, if_neg (by omega), kwF_no]
          · rfl
          · intro y
            have := (wd_let _ y).2
            rw [ltF_len] at this
            omega
        · have e8 : min z 8 = z := by omega
          have lin : ∀ c, c ∈ ltF B z p → 97 ≤ c ∧ c ≤ 122 := ltF_in (n := n) z (by omega)
          have l63 : nvF 0 (ltF B z p) < 2 ^ 63 := nvF_63 lin (by rw [ltF_len]; omega)
          refine pk_loop (fun m k (x : Nat) => wp_12_cut_b146 Q L7 m (nI p) (nI z) (lN (nvF 0 (ltF B (min z 8) p))) (nI x) (nI k) w wl) (fun k x => (∃ m, m < k ∧ wdL[m]? = some (ltF B z p) ∧ x = 20 + m) ∨ ((∀ m, m < k → ¬ wdL[m]? = some (ltF B z p)) ∧ x = 1)) 29 0 1 (by omega) (Or.inr ⟨fun m hm => absurd hm (by omega), rfl⟩) (fun m x hx => ?_) (fun m k x hk2 hx L => ?_)
          · refine pk_le 29 29 (fun _ => fin x ?_) (fun y => absurd y (by omega))
            rw [ek, if_neg (by omega), ← hz]
            rcases hx with ⟨m, hm, e1, e2⟩ | ⟨e1, e2⟩
            · rw [kwF_at wdL 128 m _ wd_ne e1, e2]
              unfold rcF
              rw [if_neg (by omega), if_neg (by omega), if_neg (by omega), if_neg (by omega), if_neg (by omega), if_neg (by omega), if_neg (by omega), if_neg (by omega), if_neg (by omega), if_neg (by omega), if_neg (by omega), if_neg (by omega), if_neg (by omega)]
              omega
            · rw [kwF_no, e2]
              · rfl
              · intro y
                obtain ⟨m, hm, e⟩ := List.mem_iff_getElem.mp y
                have hm2 : m < 29 := hm
                refine e1 m hm2 ?_
                rw [List.getElem?_eq_getElem hm, e]
          · refine pk_le 29 k (fun y => absurd y (by omega)) (fun _ => ⟨vp_in_nI (by omega) (by decide), ?_⟩)
            rw [ix_nI (by omega), hk k hk2, e8]
            have hmem : k < wdL.length := hk2
            have eg : wdL.getD k [] = wdL[k] := by rw [List.getD_eq_getElem?_getD, List.getElem?_eq_getElem hmem]; rfl
            have wl2 := wd_let _ (List.getElem_mem hmem)
            have k63 : nvF 0 (wdL.getD k []) < 2 ^ 63 := by
              rw [eg]
              exact nvF_63 wl2.1 (by omega)
            have iff1 : lg_cmp (lN (nvF 0 (wdL.getD k []))) (lN (nvF 0 (ltF B z p))) = 0 ↔ wdL[k]? = some (ltF B z p) := by
              rw [lg_cmp_eq, pk_lEQ k63 l63, eg, List.getElem?_eq_getElem hmem]
              constructor
              · intro e; rw [nvF_inj wl2.1 lin e]
              · intro e; rw [Option.some.inj e]
            rw [e8] at L
            refine ⟨fun q => ?_, fun q x2 e2 x1 e1 => ?_⟩
            · intro x1 e1
              rw [nI_1] at e1
              subst e1
              refine L x ?_
              rcases hx with ⟨m, hm, y⟩ | ⟨y1, y2⟩
              · exact Or.inl ⟨m, by omega, y⟩
              · refine Or.inr ⟨fun m hm y => ?_, y2⟩
                rcases Nat.lt_or_ge m k with d | d
                · exact y1 m d y
                · rw [show m = k by omega] at y
                  exact q (iff1.mpr y)
            · rw [show (20 : Int32) = nI 20 from rfl, nI_add] at e2
              rw [nI_1] at e1
              subst e1
              subst e2
              exact L (20 + k) (Or.inl ⟨k, by omega, iff1.mp (Classical.not_not.mp q), rfl⟩)
      · refine pk_lt 7 z (fun _ => fin 3 ?_) (fun q2 => absurd q2 (by omega))
        rw [ek, if_pos (by omega)]
        rfl
  · subst hx
    have hlj : isL (B (p + j)) = true := spN_a (n := n) (p := p) (by omega) (by omega)
    have hj2 : p + j < n := by omega
    have hb := (h.2.2 _ hj2).2
    unfold wp_12_cut_b85
    rw [nI_add]
    refine r_byte h (by omega) ?_
    rw [if_pos hj2]
    refine r_letter (by omega) (fun _ => t1 ?_) (fun c => absurd hlj c)
    refine pk_le 8 j (fun q x1 e1 => ?_) (fun q => ?_)
    · rw [nI_1] at e1
      subst e1
      refine L _ ?_
      rw [show min j 8 = 8 by omega, show min (j + 1) 8 = 8 by omega]
    · refine r_byte h (by omega) ?_
      rw [if_pos hj2]
      refine r_app (isL_d.mp hlj) (fun x1 e1 => ?_)
      rw [nI_1] at e1
      subst e1
      refine L _ ?_
      rw [show min j 8 = j by omega, show min (j + 1) 8 = j + 1 by omega, ltF_a, nvF_a]
