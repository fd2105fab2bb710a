theorem evS_var {V : Nat → Int32} {E : List (Nat × Int32)} {s : List Int32} {j : Nat} (hj : j < 11) : evS V ((1, nI j) :: E) s = evS V E (V j :: s) := by
  show evS V E (V (ix (nI j)) :: s) = _
  rw [ix_nI (by omega)]
/-- only the stack and the flag of a broken law differ -/
def frR (w w2 : Mem) : Prop := ∀ a, a ≠ 179 → ∀ j, ¬ (a = 150 ∧ j = 46) → w2 a j = w a j
theorem frR_st {w w2 : Mem} {i : Nat} {x : Int32} (h : frR (st w 179 i x) w2) : frR w w2 := by
  intro a ha j hj
  rw [h a ha j hj, st_nk ha]
theorem r_term {V : Nat → Int32} {wl : MemL} {Q : Int32 → Mem → MemL → Prop} : ∀ (E : List (Nat × Int32)) (s : List Int32) (p N : Nat) (w : Mem),
    cda nI (w 175) (w 176) p E → wfS E s.length → s.length ≤ 16 → stk (w 179) s → (∀ j, j < 11 → w 178 j = V j) → N = p + E.length → N ≤ 840 →
    (∀ v w2, evS V E s = some v → frR w w2 → w2 150 46 = w 150 46 → Q v w2 wl) →
    (∀ w2, evS V E s = none → frR w w2 → w2 150 46 = 1 → Q 0 w2 wl) →
    wp_12_termOf_b5 Q (E.length + 1) (nI N) (nI s.length) (nI p) w wl
  | [], s, p, N, w, hc, hw, hs, hk, hV, hN, hN2, K, KN => by
    simp only [List.length_nil, Nat.add_zero] at hN
    subst hN
    refine pk_le N N (fun _ => ?_) (fun q => absurd q (by omega))
    rw [ix0]
    have h1 : s.length = 1 := hw
    cases s with
    | nil => exact absurd h1 (by decide)
    | cons x t =>
      cases t with
      | nil =>
        have e := hk.1
        simp only [List.length_nil] at e
        rw [e]
        exact K x w rfl (fun a _ j _ => rfl) rfl
      | cons y t => simp at h1
  | (o, v) :: E, s, p, N, w, hc, hw, hs, hk, hV, hN, hN2, K, KN => by
    have hN1 : N = p + 1 + E.length := by simp only [List.length_cons] at hN; omega
    obtain ⟨hco, hcv, hcr⟩ := hc
    have hp : p < 840 := by omega
    refine pk_le N p (fun q => absurd q (by omega)) (fun _ => ⟨pk_in p 840 hp, fun x2 e2 => ?_⟩)
    rw [ix_nI (by omega), hco] at e2
    subst e2
    rcases hw with ⟨rfl, hd, hw⟩ | ⟨rfl, hd, ⟨j, hj, rfl⟩, hw⟩ | ⟨h2, h5, hd, hw⟩
    · refine ⟨fun q => absurd q (by decide), fun _ => ⟨fun q => absurd rfl q, fun _ => ⟨pk_in p 840 hp, ?_⟩⟩⟩
      refine r_b58 (by omega) ?_
      rw [ix_nI (by omega), hcv]
      refine r_term E (v :: s) (p + 1) N (st w 179 s.length v) hcr hw (by simp only [List.length_cons]; omega) ?_ hV hN1 hN2 ?_ ?_
      · exact ⟨st_eq, by rw [st_at]; exact stk_hi (Nat.le_refl _) hk⟩
      · exact fun v2 w2 e f g => K v2 w2 e (frR_st f) g
      · exact fun w2 e f g => KN w2 e (frR_st f) g
    · refine ⟨fun q => absurd q (by decide), fun _ => ⟨fun _ => ⟨pk_in p 840 hp, ?_⟩, fun q => absurd (by decide) q⟩⟩
      rw [ix_nI (by omega), hcv]
      refine ⟨pk_in j 11 hj, ?_⟩
      refine r_b58 (by omega) ?_
      rw [ix_nI (by omega), hV j hj]
      refine r_term E (V j :: s) (p + 1) N (st w 179 s.length (V j)) hcr hw (by simp only [List.length_cons]; omega) ?_ hV hN1 hN2 ?_ ?_
      · exact ⟨st_eq, by rw [st_at]; exact stk_hi (Nat.le_refl _) hk⟩
      · exact fun v2 w2 e f g => K v2 w2 ((evS_var hj).trans e) (frR_st f) g
      · exact fun w2 e f g => KN w2 ((evS_var hj).trans e) (frR_st f) g
    · match s, hd, hs, hk, hw, K, KN with
      | y :: x :: t, hd, hs, hk, hw, K, KN =>
        simp only [List.length_cons] at hd hs hw ⊢
        have hev : evS V ((o, v) :: E) (y :: x :: t) = if o = 5 ∧ y = 0 then none else evS V E (opE o x y :: t) := by
          simp only [evS]
          rw [if_neg (by omega), if_neg (by omega)]
        rw [hev] at K KN
        refine pk_le 2 o (fun _ => ?_) (fun q => absurd q (by omega))
        intro x3 e3
        rw [pk_m1] at e3
        subst e3
        have e1 : nI (t.length + 1) - (1 : Int32) = nI t.length := by rw [show (1 : Int32) = nI 1 from rfl, pk_sub (by omega)]; rfl
        rw [e1]
        refine ⟨pk_in t.length 400 (by omega), fun x5 e5 => ⟨pk_in (t.length + 1) 400 (by omega), fun x7 e7 => ?_⟩⟩
        rw [ix_nI (by omega), hk.2.1] at e5
        have hk1 := hk.1
        simp only [List.length_cons] at hk1
        rw [ix_nI (by omega), hk1] at e7
        subst e5
        subst e7
        have go : ¬ (o = 5 ∧ x7 = 0) → wp_12_termOf_b104 Q (wp_12_termOf_b5 Q (E.length + 1)) (nI N) (nI (t.length + 1)) (nI p) (nI o) x5 x7 w wl := by
          intro ny
          rw [if_neg ny] at K KN
          refine r_b104 (by omega) ⟨h2, h5⟩ ny ?_
          refine r_term E (opE o x5 x7 :: t) (p + 1) N (st w 179 t.length (opE o x5 x7)) hcr hw (by simp only [List.length_cons]; omega) ?_ hV hN1 hN2 ?_ ?_
          · exact ⟨st_eq, by rw [st_at]; exact stk_hi (Nat.le_refl _) hk.2.2⟩
          · exact fun v2 w2 e f g => K v2 w2 e (frR_st f) g
          · exact fun w2 e f g => KN w2 e (frR_st f) g
        refine ⟨fun q => go (fun z => q (congrArg nI z.1)), fun q => ⟨fun z => go (fun u => z u.2), fun z => ?_⟩⟩
        have o5 : o = 5 := (nI_eq (by omega) (by omega)).mp (Classical.not_not.mp q)
        intro w8 e8
        refine KN w8 (if_pos ⟨o5, Classical.not_not.mp z⟩) ?_ (by rw [e8]; exact st_eq)
        intro a ha j hj
        rw [e8]
        simp only [st]
        exact if_neg hj
