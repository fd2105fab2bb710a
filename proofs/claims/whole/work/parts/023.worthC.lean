/-- the class's sign for a piece -/
def copE (o : Nat) : Int32 := if o = 0 then 0 else if o = 1 then 1 else if o = 2 then 43 else if o = 3 then 45 else if o = 4 then 42 else 47
/-- only the stack and the flag of the law k differ -/
def frC (k : Nat) (w w2 : Mem) : Prop := ∀ a, a ≠ k + 5 → ∀ j, ¬ (a = k ∧ j = 7) → w2 a j = w a j
theorem frC_st {k : Nat} {w w2 : Mem} {i : Nat} {x : Int32} (h : frC k (st w (k + 5) i x) w2) : frC k w w2 := by
  intro a ha j hj
  rw [h a ha j hj, st_nk ha]
theorem frC_fl {k : Nat} {w w2 : Mem} {x : Int32} (h : frC k (st w k 7 x) w2) : frC k w w2 := by
  intro a ha j hj
  rw [h a ha j hj]
  simp only [st]
  exact if_neg hj
theorem c_b161 {k : Nat} {Q : Int32 → Mem → Prop} {L : Int32 → Int32 → Int32 → Mem → Prop} {l1 l2 : Int32} {p : Nat} {w : Mem} (K : L l1 l2 (nI (p + 1)) w) : wp_2_worth_b161 k Q L l1 l2 (nI p) w := by
  intro x1 e
  rw [e, show (1 : Int32) = nI 1 from rfl, nI_add]
  exact K
theorem c_b114 {k : Nat} {Q : Int32 → Mem → Prop} {L : Int32 → Int32 → Int32 → Mem → Prop} {l1 : Int32} {p i : Nat} {x : Int32} {w : Mem} (h : i < 16) (K : L l1 (nI (i + 1)) (nI (p + 1)) (st w (k + 5) i x)) : wp_2_worth_b114 k Q L l1 (nI i) (nI p) (nI i) x w := by
  refine ⟨pk_in i 16 h, fun w2 e x3 e3 => ?_⟩
  rw [e, e3, ix_nI (by omega), show (1 : Int32) = nI 1 from rfl, nI_add]
  exact c_b161 K
theorem c_joined {k o : Nat} {x y : Int32} {w : Mem} {Q : Int32 → Mem → Prop} (h : 2 ≤ o ∧ o ≤ 5) (K : ¬ (o = 5 ∧ y = 0) → Q (opE o x y) w) (K0 : (o = 5 ∧ y = 0) → Q 0 (st w k 7 1)) : wp_2_joined k (copE o) x y w Q := by
  rcases (show o = 2 ∨ o = 3 ∨ o = 4 ∨ o = 5 by omega) with rfl | rfl | rfl | rfl
  · exact ⟨fun q => absurd q (by decide), fun _ => ⟨fun _ => K (fun q => absurd q.1 (by decide)), fun q => absurd rfl q⟩⟩
  · exact ⟨fun q => absurd q (by decide), fun _ => ⟨fun q => absurd q (by decide), fun _ => ⟨fun _ => K (fun q => absurd q.1 (by decide)), fun q => absurd rfl q⟩⟩⟩
  · exact ⟨fun _ => K (fun q => absurd q.1 (by decide)), fun q => absurd rfl q⟩
  · refine ⟨fun q => absurd q (by decide), fun _ => ⟨fun q => absurd q (by decide), fun _ => ⟨fun q => absurd q (by decide), fun _ => ⟨fun q => ⟨q, K (fun z => q z.2)⟩, fun q w2 e => ?_⟩⟩⟩⟩
    rw [e]
    exact K0 ⟨rfl, Classical.not_not.mp q⟩
theorem c_worth {k i : Nat} {V : Nat → Int32} {Q : Int32 → Mem → Prop} (hi : i < 13) : ∀ (E : List (Nat × Int32)) (s : List Int32) (p N : Nat) (w : Mem),
    cda copE (w (k + 1)) (w (k + 2)) p E → wfS E s.length → s.length ≤ 16 → stk (w (k + 5)) s → (∀ j, j < 11 → w (k + 4) j = V j) → w (k + 3) i = nI N → N = p + E.length → N ≤ 400 →
    (∀ v w2, evS V E s = some v → frC k w w2 → w2 k 7 = w k 7 → Q v w2) →
    (∀ v w2, evS V E s = none → frC k w w2 → w2 k 7 = 1 → Q v w2) →
    wp_2_worth_b42 k Q (E.length + 1) (nI i) (nI s.length) (nI p) w
  | [], s, p, N, w, hc, hw, hs, hk, hV, hE, hN, hN2, K, KN => by
    simp only [List.length_nil, Nat.add_zero] at hN
    subst hN
    refine ⟨pk_in i 13 hi, ?_⟩
    rw [ix_nI (by omega), hE]
    refine pk_le N N (fun _ => ?_) (fun q => absurd q (by omega))
    have h1 : s.length = 1 := hw
    cases s with
    | nil => exact absurd h1 (by decide)
    | cons x t =>
      cases t with
      | nil =>
        refine ⟨fun q => absurd rfl q, fun _ => ?_⟩
        have e := hk.1
        simp only [List.length_nil] at e
        rw [ix0, e]
        exact K x w rfl (fun a _ j _ => rfl) rfl
      | cons y t => simp at h1
  | (o, v) :: E, s, p, N, w, hc, hw, hs, hk, hV, hE, hN, hN2, K, KN => by
    have hN1 : N = p + 1 + E.length := by simp only [List.length_cons] at hN; omega
    obtain ⟨hco, hcv, hcr⟩ := hc
    have hp : p < 400 := by omega
    have ip : vp_in (nI p) 400 := pk_in p 400 hp
    have ii : vp_in (nI i) 13 := pk_in i 13 hi
    refine ⟨ii, ?_⟩
    rw [ix_nI (n := i) (by omega), hE]
    refine pk_le N p (fun q => absurd q (by omega)) (fun _ => ⟨ip, ?_⟩)
    rw [ix_nI (n := p) (by omega), hco]
    rcases hw with ⟨rfl, hd, hw⟩ | ⟨rfl, hd, ⟨j, hj, rfl⟩, hw⟩ | ⟨h2, h5, hd, hw⟩
    · refine ⟨fun _ => ?_, fun q => absurd rfl q⟩
      refine pk_le 16 s.length (fun q => absurd q (by omega)) (fun _ => ⟨ip, ?_⟩)
      rw [ix_nI (n := p) (by omega), hco]
      refine ⟨fun q => absurd rfl q, fun _ => ⟨ip, ?_⟩⟩
      rw [hcv]
      refine c_b114 hd ?_
      refine c_worth (V := V) hi E (v :: s) (p + 1) N (st w (k + 5) s.length v) ?_ hw (by simp only [List.length_cons]; omega) ?_ ?_ ?_ hN1 hN2 ?_ ?_
      · rw [st_ne (k + 1) (by omega), st_ne (k + 2) (by omega)]; exact hcr
      · exact ⟨st_eq, by rw [st_at]; exact stk_hi (Nat.le_refl _) hk⟩
      · rw [st_ne (k + 4) (by omega)]; exact hV
      · rw [st_ne (k + 3) (by omega)]; exact hE
      · exact fun v2 w2 e f g => K v2 w2 e (frC_st f) (g.trans (st_nk (by omega)))
      · exact fun v2 w2 e f g => KN v2 w2 e (frC_st f) g
    · refine ⟨fun q => absurd q (by decide), fun _ => ⟨ip, ⟨fun q => absurd rfl q, fun _ => ?_⟩⟩⟩
      refine pk_le 16 s.length (fun q => absurd q (by omega)) (fun _ => ⟨ip, ?_⟩)
      rw [ix_nI (n := p) (by omega), hco, hcv]
      refine ⟨fun _ => ⟨ip, pk_in j 11 hj, ?_⟩, fun q => absurd (by decide) q⟩
      rw [ix_nI (n := j) (by omega), hV j hj]
      refine c_b114 hd ?_
      refine c_worth (V := V) hi E (V j :: s) (p + 1) N (st w (k + 5) s.length (V j)) ?_ hw (by simp only [List.length_cons]; omega) ?_ ?_ ?_ hN1 hN2 ?_ ?_
      · rw [st_ne (k + 1) (by omega), st_ne (k + 2) (by omega)]; exact hcr
      · exact ⟨st_eq, by rw [st_at]; exact stk_hi (Nat.le_refl _) hk⟩
      · rw [st_ne (k + 4) (by omega)]; exact hV
      · rw [st_ne (k + 3) (by omega)]; exact hE
      · exact fun v2 w2 e f g => K v2 w2 ((evS_var hj).trans e) (frC_st f) (g.trans (st_nk (by omega)))
      · exact fun v2 w2 e f g => KN v2 w2 ((evS_var hj).trans e) (frC_st f) g
    · match s, hd, hs, hk, hw, K, KN with
      | y :: x :: t, hd, hs, hk, hw, K, KN =>
        simp only [List.length_cons] at hd hs hw ⊢
        have hev : evS V ((o, v) :: E) (y :: x :: t) = if o = 5 ∧ y = 0 then none else evS V E (opE o x y :: t) := by
          simp only [evS]
          rw [if_neg (by omega), if_neg (by omega)]
        rw [hev] at K KN
        have n0 : ¬ copE o = 0 := by
          rcases (show o = 2 ∨ o = 3 ∨ o = 4 ∨ o = 5 by omega) with rfl | rfl | rfl | rfl <;> decide
        have n1 : ¬ copE o = 1 := by
          rcases (show o = 2 ∨ o = 3 ∨ o = 4 ∨ o = 5 by omega) with rfl | rfl | rfl | rfl <;> decide
        refine ⟨fun q => absurd q n0, fun _ => ⟨ip, ⟨fun _ => ?_, fun q => absurd n1 q⟩⟩⟩
        refine pk_lt (t.length + 1 + 1) 2 (fun q => absurd q (by omega)) (fun _ => ?_)
        intro x4 e4
        rw [pk_m1] at e4
        subst e4
        have e1 : nI (t.length + 1) - (1 : Int32) = nI t.length := by rw [show (1 : Int32) = nI 1 from rfl, pk_sub (by omega)]; rfl
        rw [e1]
        have it : vp_in (nI t.length) 16 := pk_in t.length 16 (by omega)
        have hk1 := hk.1
        simp only [List.length_cons] at hk1
        refine ⟨ip, it, pk_in (t.length + 1) 16 (by omega), ?_⟩
        rw [ix_nI (n := t.length) (by omega), hk.2.1, ix_nI (n := t.length + 1) (by omega), hk1]
        have hS : ∀ (w8 : Mem) (r : Int32), stk (w8 (k + 5)) t → stk (st w8 (k + 5) t.length r (k + 5)) (r :: t) := fun w8 r q => ⟨st_eq, by rw [st_at]; exact stk_hi (Nat.le_refl _) q⟩
        refine c_joined ⟨h2, h5⟩ (fun ny => ⟨it, fun w11 e11 => ?_⟩) (fun ny => ⟨it, fun w11 e11 => ?_⟩)
        · rw [if_neg ny] at K KN
          subst e11
          refine c_b161 ?_
          refine c_worth (V := V) hi E (opE o x y :: t) (p + 1) N _ ?_ hw (by simp only [List.length_cons]; omega) (hS _ _ hk.2.2) ?_ ?_ hN1 hN2 ?_ ?_
          · rw [st_ne (k + 1) (by omega), st_ne (k + 2) (by omega)]; exact hcr
          · rw [st_ne (k + 4) (by omega)]; exact hV
          · rw [st_ne (k + 3) (by omega)]; exact hE
          · exact fun v2 w2 e f g => K v2 w2 e (frC_st f) (g.trans (st_nk (by omega)))
          · exact fun v2 w2 e f g => KN v2 w2 e (frC_st f) g
        · rw [if_pos ny] at KN
          subst e11
          refine c_b161 ?_
          refine c_worth (V := V) hi E (0 :: t) (p + 1) N _ ?_ hw (by simp only [List.length_cons]; omega) (hS _ _ ?_) ?_ ?_ hN1 hN2 ?_ ?_
          · rw [st_ne (k + 1) (by omega), st_ne (k + 2) (by omega), st_ne (k + 1) (by omega), st_ne (k + 2) (by omega)]; exact hcr
          · rw [st_ne (k + 5) (by omega)]; exact hk.2.2
          · rw [st_ne (k + 4) (by omega), st_ne (k + 4) (by omega)]; exact hV
          · rw [st_ne (k + 3) (by omega), st_ne (k + 3) (by omega)]; exact hE
          · exact fun v2 w2 e f g => KN v2 w2 rfl (frC_fl (frC_st f)) (g.trans ((st_nk (by omega)).trans st_eq))
          · exact fun v2 w2 e f g => KN v2 w2 rfl (frC_fl (frC_st f)) g
