/-- he has a jump left in this round -/
def LEFT (T : TX) (P : Nat → Int32) (a : Nat) : Prop := ∃ i, sn P ≤ i ∧ i < szP T P ∧ odP T false P i = a
theorem c_toStart {T : TX} {P : Nat → Int32} {a : Nat} {w : Mem} {Q : Int32 → Mem → Prop} (hB : BT T) (hP : PL T false P 89 w) (hG : GW T false P) (ha : a < tm T) (K1 : LEFT T P a → Q 1 w) (K0 : ¬ LEFT T P a → Q 0 w) : wp_5_isToStart 89 (nI a) w Q := by
  have z8 := szP_8 (P := P) hB
  have h8 := hB.2.2.1.2.2.2.1
  obtain ⟨g1, g3, r1, r3, s8, gs, gg⟩ := hG.1
  intro x1 e1
  rw [hP.1.2.2.2.1, g3] at e1
  subst e1
  refine pk_loop (fun n i (_ : Unit) => wp_5_isToStart_b5 89 Q n (nI a) (nI i) w) (fun i _ => sn P ≤ i ∧ ∀ j, sn P ≤ j → j < i → ¬ odP T false P j = a) (szP T P) (sn P) () (by omega) ⟨Nat.le_refl _, fun j h1 h2 => absurd h2 (by omega)⟩ (fun n z hz => ?_) (fun n i z hi hz L => ?_)
  · unfold wp_5_isToStart_b5
    rw [hP.1.2.2.2.2]
    refine pk_le (szP T P) (szP T P) (fun _ => K0 ?_) (fun q => absurd q (by omega))
    rintro ⟨i, h1, h2, h3⟩
    exact hz.2 i h1 h2 h3
  · unfold wp_5_isToStart_b5
    rw [hP.1.2.2.2.2]
    refine pk_le (szP T P) i (fun q => absurd q (by omega)) (fun _ => pk_le 8 i (fun q => absurd q (by omega)) (fun _ => ⟨pk_in i 8 (by omega), ?_⟩))
    have hl := odP_lt (lf := false) hB r1 hi
    rw [ix_nI (by omega), show w (89 + 1) i = nI (odP T false P i) from hP.2.1 i hi]
    refine ⟨fun q x2 e2 => ?_, fun q => K1 ?_⟩
    · rw [nI_1] at e2
      subst e2
      refine L () ⟨by omega, fun j h1 h2 => ?_⟩
      rcases Nat.lt_or_ge j i with c | c
      · exact hz.2 j h1 c
      · rw [show j = i by omega]
        exact fun z => q (by rw [z])
    · exact ⟨i, hz.1, hi, (nI_eq (by omega) (by omega)).mp (Classical.not_not.mp q)⟩
theorem r_hasLeft {T : TX} {s a : Nat} {w : Mem} {wl : MemL} {Q : Int32 → Mem → MemL → Prop} (h : RT s T (nI (tn T 15)) w) (hG : GW T false (w 181)) (ha : a < tm T) (K1 : LEFT T (w 181) a → Q 1 w wl) (K0 : ¬ LEFT T (w 181) a → Q 0 w wl) : wp_12_hasLeft (nI a) w wl Q := by
  have hB := h.2.2.2.1
  have h8 := hB.2.2.1.2.2.2.1
  have nb := n2_8 hB
  have hGG := hG
  obtain ⟨⟨g1, g3, r1, r3, s8, gs, gg⟩, gw, g12, gu, gm⟩ := hG
  have e1 : w 181 (ix (1 : Int32)) = nI (rd (w 181)) := g1
  unfold wp_12_hasLeft
  rw [e1]
  refine ⟨fun q => K0 ?_, fun q => ?_⟩
  · have rn : rd (w 181) = 3 := (nI_eq (b := 3) (by omega) (by omega)).mp q
    rintro ⟨i, h1, h2, h3⟩
    unfold szP at h2
    rw [if_neg (by omega), if_neg (by omega)] at h2
    omega
  · have rn : rd (w 181) ≠ 3 := fun z => q (by rw [z]; rfl)
    have ei : ((4 : Int32) + (8 : Int32) * (nI (rd (w 181)) - (1 : Int32))) + nI a = nI (4 + (8 * qP (w 181) + a)) := by
      rw [show (1 : Int32) = nI 1 from rfl, pk_sub r1, show (8 : Int32) = nI 8 from rfl, pk_mul, show (4 : Int32) = nI 4 from rfl, nI_add, nI_add]
      unfold qP
      congr 1
      omega
    refine r_cellE ?_
    rw [ei]
    refine ⟨vp_in_nI (by unfold qP; omega) (by decide), ?_⟩
    rw [ix_nI (by unfold qP; omega), e1]
    have gwa := gw (by omega) a ha
    refine ⟨fun nw => ⟨fun q1 => K1 ?_, fun q1 => ?_⟩, fun yw => K0 ?_⟩
    · have rn1 : rd (w 181) = 1 := (nI_eq (b := 1) (by omega) (by omega)).mp q1
      refine ⟨a, ?_, ?_, ?_⟩
      · rcases Nat.lt_or_ge a (sn (w 181)) with c | c
        · exfalso
          refine nw (gwa.mpr ⟨a, c, ?_⟩)
          unfold odP
          rw [if_pos rn1, if_neg (by decide)]
        · exact c
      · unfold szP
        rw [if_pos rn1]
        exact ha
      · unfold odP
        rw [if_pos rn1, if_neg (by decide)]
    · have rn1 : rd (w 181) ≠ 1 := fun z => q1 (by rw [z]; rfl)
      have rn2 : rd (w 181) = 2 := by omega
      refine r_rankBy (r := 1) h (Or.inl ⟨rfl, rfl⟩) (by omega) (fun o ho => (gw_p hGG o ho).1) (r_inSec h ?_)
      have rl := rkN_le (f1 (w 181)) a (tm T)
      have ez : szP T (w 181) = n2 T := by unfold szP; rw [if_neg rn1, if_pos rn2]
      refine pk_le (n2 T) (rkN (f1 (w 181)) a (tm T)) (fun q => K0 ?_) (fun q => K1 ?_)
      · rintro ⟨i, h1, h2, h3⟩
        rw [ez] at h2
        unfold odP at h3
        rw [if_neg rn1] at h3
        have := (manS_sp (f1 (w 181)) (m := tm T) (r := n2 T - 1 - i) (by omega)).2
        rw [h3] at this
        omega
      · have ro : odP T false (w 181) (n2 T - 1 - rkN (f1 (w 181)) a (tm T)) = a := by
          unfold odP
          rw [if_neg rn1, show n2 T - 1 - (n2 T - 1 - rkN (f1 (w 181)) a (tm T)) = rkN (f1 (w 181)) a (tm T) by omega]
          exact manS_eq ha rfl _ ha (Nat.le_refl _)
        refine ⟨n2 T - 1 - rkN (f1 (w 181)) a (tm T), ?_, by rw [ez]; omega, ro⟩
        rcases Nat.lt_or_ge (n2 T - 1 - rkN (f1 (w 181)) a (tm T)) (sn (w 181)) with c | c
        · exact absurd (gwa.mpr ⟨_, c, ro⟩) nw
        · exact c
    · obtain ⟨i, hi, e⟩ := gwa.mp (Classical.not_not.mp yw)
      rintro ⟨i2, h1, h2, h3⟩
      have := odP_inj (lf := false) hB r1 (show i < szP T (w 181) by omega) h2 (e.trans h3.symm)
      omega
def duF (P : Nat → Int32) (a n : Nat) : Int32 := f2 P n + (if a ≤ n then 0 else 1)
def moR (P : Nat → Int32) (a : Nat) : Nat → Int32
  | 0 => -1
  | n + 1 => if n = a then moR P a n else mx (moR P a n) (duF P a n)
def tbF (P : Nat → Int32) (a : Nat) : Nat → Int32
  | 0 => 0
  | n + 1 => if n = a then tbF P a n else mx (tbF P a n) (duF P a n)
theorem duF_b {T : TX} {P : Nat → Int32} {a n : Nat} (hG : GW T false P) (hn : n < 8) : 0 ≤ (duF P a n).toInt ∧ (duF P a n).toInt ≤ 400001 := by
  obtain ⟨p, e, hp⟩ := (gw_p hG n hn).2
  unfold duF
  rw [e]
  split
  · rw [Int32.add_zero, ti_nI (by omega)]; omega
  · rw [nI_1, ti_nI (by omega)]; omega
theorem tbF_m {T : TX} {P : Nat → Int32} {a : Nat} (hG : GW T false P) : ∀ n, n ≤ 8 → (tbF P a n).toInt = max 0 (moR P a n).toInt ∧ (tbF P a n).toInt ≤ 400001 ∧ -1 ≤ (moR P a n).toInt
  | 0, _ => ⟨by rw [show tbF P a 0 = 0 from rfl, show moR P a 0 = -1 from rfl]; rfl, by rw [show tbF P a 0 = 0 from rfl]; decide, by rw [show moR P a 0 = -1 from rfl]; decide⟩
  | n + 1, h => by
    obtain ⟨h1, h2, h3⟩ := tbF_m (a := a) hG n (by omega)
    have d := duF_b (a := a) hG (show n < 8 by omega)
    simp only [tbF, moR]
    split
    · exact ⟨h1, h2, h3⟩
    · rw [ti_mx, ti_mx]
      omega
/-- the first of k lengths from l on that will do -/
def neR (S : Nat → Bool) : Nat → Nat → Int32
  | 0, _ => -2
  | k + 1, l => if S l = true then nI l else neR S k (l + 1)
theorem cf_len {w0 w : Mem} {tw mw ln sy po v : Int32} {mk : Nat → Int32} (h : CF w0 tw mw ln sy po mk w) : CF w0 tw mw v sy po mk (st w 87 5 v) := by
  refine ⟨fun b j q => ?_, ⟨?_, ?_, st_eq, ?_, ?_⟩, fun j hj => ?_⟩
  · have n3 : ¬ (b = 87 ∧ j = 5) := fun z => q (by rw [z.1, z.2]; decide)
    simp only [st]
    rw [if_neg n3]
    exact h.1 b j q
  · rw [st_nj (by decide)]; exact h.2.1.1
  · rw [st_nj (by decide)]; exact h.2.1.2.1
  · rw [st_nj (by decide)]; exact h.2.1.2.2.2.1
  · rw [st_nj (by decide)]; exact h.2.1.2.2.2.2
  · rw [st_nk (by decide)]; exact h.2.2 j hj
theorem c_toBeFirst {T : TX} {P : Nat → Int32} {a : Nat} {w : Mem} {Q : Int32 → Mem → Prop} (hB : BT T) (hP : PL T false P 89 w) (h80 : w 80 6 = nI (tm T)) (ha : a < tm T) (K : Q (tbF P a (tm T)) w) : wp_5_totalToBeFirst 89 (nI a) w Q := by
  have h8 := hB.2.2.1.2.2.2.1
  refine pk_loop (fun n i (z : Int32) => wp_5_totalToBeFirst_b4 89 Q n (nI a) z (nI i) w) (fun i z => z = tbF P a i) (tm T) 0 0 (by omega) rfl (fun n z hz => ?_) (fun n i z hi hz L => ?_)
  · subst hz
    unfold wp_5_totalToBeFirst_b4
    rw [h80]
    exact pk_le (tm T) (tm T) (fun _ => K) (fun q => absurd q (by omega))
  · subst hz
    unfold wp_5_totalToBeFirst_b4
    rw [h80]
    have et : w (89 + 2) i = f2 P i := hP.2.2.1 i (by omega)
    refine pk_le (tm T) i (fun q => absurd q (by omega)) (fun _ => ⟨fun q x1 e1 => ?_, fun q => ?_⟩)
    · rw [nI_1] at e1
      subst e1
      exact L _ (by simp only [tbF]; rw [if_pos ((nI_eq (by omega) (by omega)).mp q)])
    · have qa : ¬ i = a := fun z => q (by rw [z])
      have L2 := L _ (show mx (tbF P a i) (duF P a i) = _ by simp only [tbF]; rw [if_neg qa])
      have b46 : ∀ v, v = duF P a i → wp_5_totalToBeFirst_b46 89 Q (wp_5_totalToBeFirst_b4 89 Q n) (nI a) (nI i) (tbF P a i) v w := by
        intro v ev x1 e1 x2 e2
        rw [nI_1] at e2
        subst e2
        subst e1
        subst ev
        exact L2
      refine pk_le a i (fun c => ⟨pk_in i 8 (by omega), b46 _ ?_⟩) (fun c => ⟨pk_in i 8 (by omega), b46 _ ?_⟩)
      · rw [ix_nI (by omega), et]
        unfold duF
        rw [if_pos c, Int32.add_zero]
      · rw [ix_nI (by omega), et]
        unfold duF
        rw [if_neg (by omega)]
