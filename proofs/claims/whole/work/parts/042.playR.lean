def frP (w w2 : Mem) : Prop := ∀ a j, ¬ scR a j → a ≠ 181 → w2 a j = w a j
theorem fp_re (w : Mem) : frP w w := fun _ _ _ _ => rfl
theorem fp_tr {w w2 w3 : Mem} (h : frP w w2) (h2 : frP w2 w3) : frP w w3 := fun a j p q => (h2 a j p q).trans (h a j p q)
theorem fp_rf {w w2 : Mem} (h : RF w w2) : frP w w2 := fun a j p _ => h a j p
theorem fp_st {w w2 : Mem} {j : Nat} {v : Int32} (h : frP w w2) : frP w (st w2 181 j v) := fun a i p q => (st_nk q).trans (h a i p q)
theorem rt_fp {s : Nat} {T : TX} {sd : Int32} {w w2 : Mem} (h : RT s T sd w) (f : frP w w2) : RT s T sd w2 :=
  ⟨h.1, (f 150 18 (by decide) (by decide)).trans h.2.1, tr_rf h.2.2.1 (fun b h1 h2 h3 h4 => funext (fun j => f b j (by simp only [scR]; omega) (by omega))), h.2.2.2.1, (f 150 49 (by decide) (by decide)).trans h.2.2.2.2⟩
theorem r_pts {a : Nat} {w : Mem} {wl : MemL} {Q : Int32 → Mem → MemL → Prop} (ha : a < 8) (K : Q (f2 (w 181) a) w wl) : wp_12_pointsOf (nI a) w wl Q := by
  have e1 : ((36 : Int32) + (8 : Int32) * (0 : Int32)) + nI a = nI (36 + a) := nI_add 36 a
  have e2 : ((36 : Int32) + (8 : Int32) * (1 : Int32)) + nI a = nI (44 + a) := nI_add 44 a
  unfold wp_12_pointsOf
  simp only [wp_12_cell, e1, e2]
  refine ⟨pk_in _ 260 (show 36 + a < 260 by omega), pk_in _ 260 (show 44 + a < 260 by omega), ?_⟩
  rw [ix_nI (by omega), ix_nI (by omega)]
  exact K
theorem sub_pos {x y : Int32} {p q : Nat} (hx : x = nI p) (hy : y = nI q) (hp : p < 2 ^ 30) (hq : q < 2 ^ 30) : (0 < x - y ↔ y < x) ∧ (x - y = 0 ↔ x = y) := by
  subst hx
  subst hy
  have e := pk_sub_toInt hp hq
  constructor
  · rw [Int32.lt_iff_toInt_lt, Int32.lt_iff_toInt_lt, e, ti_nI (by omega), ti_nI (by omega)]
    simp
  · rw [← Int32.toInt_inj, ← Int32.toInt_inj, e, ti_nI (by omega), ti_nI (by omega)]
    simp
    omega
theorem r_rankBy {s a r : Nat} {T : TX} {sd : Int32} {f : Nat → Int32} {w : Mem} {wl : MemL} {Q : Int32 → Mem → MemL → Prop} (h : RT s T sd w) (hf : (r = 1 ∧ f = f1 (w 181)) ∨ (r = 2 ∧ f = f2 (w 181))) (ha : a < 8) (hp : ∀ o, o < 8 → ∃ p, f o = nI p ∧ p ≤ 400000) (K : Q (nI (rkN f a (tm T))) w wl) : wp_12_rankBy (nI a) (nI r) w wl Q := by
  have h8 : tm T ≤ 8 := h.2.2.2.1.2.2.1.2.2.2.1
  have hs := h.1
  refine pk_loop (fun n i (z : Int32) => wp_12_rankBy_b5 Q n (nI a) (nI r) z (nI i) w wl) (fun i z => z = nI (rkN f a i)) (tm T) 0 0 (by omega) rfl (fun n z hz => ?_) (fun n i z hi hz L => ?_)
  · subst hz
    refine ⟨by rw [h.2.1]; exact pk_in s 2 hs, ?_⟩
    rw [h.2.1, ix_nI (by omega), h.2.2.1.2.2.1.1]
    exact pk_le (tm T) (tm T) (fun _ => K) (fun q => absurd q (by omega))
  · subst hz
    refine ⟨by rw [h.2.1]; exact pk_in s 2 hs, ?_⟩
    rw [h.2.1, ix_nI (by omega), h.2.2.1.2.2.1.1]
    refine pk_le (tm T) i (fun q => absurd q (by omega)) (fun _ => ?_)
    have b88 : ∀ c, nI c = nI (rkN f a (i + 1)) → wp_12_rankBy_b88 Q (wp_12_rankBy_b5 Q n) (nI a) (nI r) (nI c) (nI i) w wl := by
      intro c ec x1 e1
      rw [nI_1] at e1
      subst e1
      exact L _ ec
    have b67 : ∀ x, x = f i - f a → wp_12_rankBy_b67 Q (wp_12_rankBy_b5 Q n) (nI a) (nI r) (nI (rkN f a i)) (nI i) x w wl := by
      intro x ex
      subst ex
      obtain ⟨p, ep, hp1⟩ := hp i (by omega)
      obtain ⟨p2, ep2, hp2⟩ := hp a ha
      obtain ⟨s1, s2⟩ := sub_pos ep ep2 (by omega) (by omega)
      have b85 : ahd f i a → wp_12_rankBy_b85 Q (wp_12_rankBy_b5 Q n) (nI a) (nI r) (nI (rkN f a i)) (nI i) w wl := by
        intro c x1 e1
        rw [nI_1] at e1
        subst e1
        exact b88 _ (by simp only [rkN]; rw [if_pos c])
      refine ⟨fun q => b85 (Or.inl (s1.mp q)), fun q => ⟨fun q2 => b88 _ ?_, fun q2 => ?_⟩⟩
      · simp only [rkN]
        rw [if_neg]
        rintro (z | z)
        · exact q (s1.mpr z)
        · exact q2 (s2.mpr z.1)
      · refine pk_le a i (fun q3 => b88 _ ?_) (fun q3 => b85 (Or.inr ⟨s2.mp (Classical.not_not.mp q2), q3⟩))
        simp only [rkN]
        rw [if_neg]
        rintro (z | z)
        · exact q (s1.mpr z)
        · omega
    have r2 : r = 1 ∨ r = 2 := by rcases hf with ⟨x, _⟩ | ⟨x, _⟩ <;> omega
    refine ⟨fun q => ?_, fun q => ?_⟩
    · rcases hf with ⟨rfl, _⟩ | ⟨rfl, rfl⟩
      · exact absurd rfl q
      · exact r_pts (by omega) (r_pts ha (b67 _ rfl))
    · rcases hf with ⟨rfl, rfl⟩ | ⟨rfl, _⟩
      · have e1 : ∀ a, ((36 : Int32) + (8 : Int32) * (0 : Int32)) + nI a = nI (36 + a) := fun a => nI_add 36 a
        simp only [wp_12_cell, e1]
        refine ⟨pk_in _ 260 (show 36 + i < 260 by omega), pk_in _ 260 (show 36 + a < 260 by omega), ?_⟩
        rw [ix_nI (by omega), ix_nI (by omega)]
        exact b67 _ rfl
      · exact absurd (by decide) q
theorem r_inSec {s : Nat} {T : TX} {sd : Int32} {w : Mem} {wl : MemL} {Q : Int32 → Mem → MemL → Prop} (h : RT s T sd w) (K : Q (nI (n2 T)) w wl) : wp_12_inSecond w wl Q := by
  have hs := h.1
  have b := h.2.2.2.1.2.2.1
  refine r_tell (a := 14) h (by omega) ⟨by rw [h.2.1]; exact pk_in s 2 hs, ?_⟩
  rw [h.2.1, ix_nI (by omega), h.2.2.1.2.2.1.1]
  unfold n2 at K
  refine pk_le (tm T) (tn T 14) (fun q => ⟨pk_in s 2 hs, ?_⟩) (fun q => r_tell (a := 14) h (by omega) ?_)
  · rw [if_pos q] at K
    exact K
  · rw [if_neg (by omega)] at K
    exact K
def bI (b : Bool) : Int32 := if b = true then 1 else 0
theorem gw_p {T : TX} {lf : Bool} {P : Nat → Int32} (h : GW T lf P) (o : Nat) (ho : o < 8) : (∃ p, f1 P o = nI p ∧ p ≤ 400000) ∧ (∃ p, f2 P o = nI p ∧ p ≤ 400000) := by
  obtain ⟨p, e, hp⟩ := (h.2.2.2.1 o (by omega)).2.2.1
  obtain ⟨p2, e2, hp2⟩ := (h.2.2.2.1 (8 + o) (by omega)).2.2.1
  refine ⟨⟨p, e, by omega⟩, ⟨p + p2, ?_, by omega⟩⟩
  unfold f2
  rw [e, show 44 + o = 36 + (8 + o) by omega, e2, nI_add]
theorem r_next {s : Nat} {T : TX} {sd : Int32} {lf : Bool} {w : Mem} {wl : MemL} {Q : Int32 → Mem → MemL → Prop} (h : RT s T sd w) (hP : GW T lf (w 181)) (hl : w 150 50 = bI lf) (K0 : szP T (w 181) = 0 → Q (-2) w wl) (K1 : sn (w 181) < szP T (w 181) → Q (nI (nxP T lf (w 181))) w wl) : wp_12_nextOne w wl Q := by
  have h8 : tm T ≤ 8 := h.2.2.2.1.2.2.1.2.2.2.1
  have hs := h.1
  have iv : vp_in (w 150 18) 2 := by rw [h.2.1]; exact pk_in s 2 hs
  obtain ⟨g1, g3, r1, r3, s8, gs, gg⟩ := hP.1
  have x1 : w 181 (ix (1 : Int32)) = nI (rd (w 181)) := g1
  have x3 : w 181 (ix (3 : Int32)) = nI (sn (w 181)) := g3
  have em : w 160 (ix (w 150 18)) = nI (tm T) := by rw [h.2.1, ix_nI (by omega)]; exact h.2.2.1.2.2.1.1
  refine ⟨iv, ?_⟩
  rw [em, x1, x3, hl]
  refine ⟨fun q => K0 ?_, fun q => ⟨fun q3 => ⟨fun q1 => ?_, fun q1 => ?_⟩, fun q3 => K0 ?_⟩⟩
  · have m0 : tm T = 0 := (nI_eq (b := 0) (by omega) (by omega)).mp q
    unfold szP n2
    split
    · exact m0
    · split
      · rw [m0]; simp
      · rfl
  · have rn3 : rd (w 181) ≠ 3 := fun z => q3 (by rw [z]; rfl)
    have rn1 : rd (w 181) ≠ 1 := fun z => q1 (by rw [z]; rfl)
    have m0 : 0 < tm T := by
      rcases Nat.eq_zero_or_pos (tm T) with z | z
      · exact absurd (by rw [z]; rfl) q
      · exact z
    have nb := n2_b h.2.2.2.1 m0
    have ez : szP T (w 181) = n2 T := by unfold szP; rw [if_neg rn1, if_pos (by omega)]
    have hr : n2 T - 1 - sn (w 181) < tm T := by omega
    have en : nxP T lf (w 181) = manS (f1 (w 181)) (tm T) (n2 T - 1 - sn (w 181)) (tm T) := by unfold nxP odP; rw [if_neg rn1]
    have K2 := K1 (by omega)
    rw [en] at K2
    obtain ⟨s1, s2⟩ := manS_sp (f1 (w 181)) hr
    refine pk_loop (fun n i (_ : Unit) => wp_12_nextOne_b72 Q n (nI i) w wl) (fun i _ => i ≤ manS (f1 (w 181)) (tm T) (n2 T - 1 - sn (w 181)) (tm T)) (tm T) 0 () (by omega) (by omega) (fun n z hz => absurd hz (by omega)) (fun n i z hi hz L => ?_)
    refine ⟨iv, ?_⟩
    rw [em]
    refine pk_le (tm T) i (fun q => absurd q (by omega)) (fun _ => ?_)
    refine r_rankBy (r := 1) h (Or.inl ⟨rfl, rfl⟩) (by omega) (fun o ho => (gw_p hP o ho).1) (r_inSec h ?_)
    rw [x3, show (1 : Int32) = nI 1 from rfl, pk_sub (by omega), pk_sub (by omega)]
    have := rkN_le (f1 (w 181)) i (tm T)
    refine ⟨fun q x3 e3 => ?_, fun q => ?_⟩
    · rw [nI_add] at e3
      subst e3
      refine L () ?_
      rcases Nat.lt_or_ge i (manS (f1 (w 181)) (tm T) (n2 T - 1 - sn (w 181)) (tm T)) with c | c
      · exact c
      · exact absurd (by rw [show i = manS (f1 (w 181)) (tm T) (n2 T - 1 - sn (w 181)) (tm T) by omega, s2]) q
    · rw [rkN_inj (show i < tm T by omega) s1 (((nI_eq (by omega) (by omega)).mp (Classical.not_not.mp q)).trans s2.symm)]
      exact K2
  · have rn1 : rd (w 181) = 1 := (nI_eq (b := 1) (by omega) (by omega)).mp (Classical.not_not.mp q1)
    have ez : szP T (w 181) = tm T := by unfold szP; rw [if_pos rn1]
    have K2 := K1 (by
      rcases gs with z | z
      · exact z
      · exact absurd (by rw [← ez, z.1]; rfl) q)
    have en : nxP T lf (w 181) = if lf = true then tm T - 1 - sn (w 181) else sn (w 181) := by unfold nxP odP; rw [if_pos rn1]
    rw [en] at K2
    cases lf with
    | false => exact ⟨fun _ => K2, fun z => absurd rfl z⟩
    | true =>
      refine ⟨fun z => absurd z (by decide), fun _ => ⟨iv, ?_⟩⟩
      rw [show (1 : Int32) = nI 1 from rfl, pk_sub (by
        rcases Nat.eq_zero_or_pos (tm T) with z | z
        · exact absurd (by rw [z]; rfl) q
        · exact z), pk_sub (by
        rcases gs with z | z
        · omega
        · omega)]
      exact K2
  · have rn : rd (w 181) = 3 := (nI_eq (b := 3) (by omega) (by omega)).mp (Classical.not_not.mp q3)
    unfold szP
    rw [if_neg (by omega), if_neg (by omega)]
