theorem up_rd {P : Nat → Int32} {v : Int32} {i : Nat} (hi : i = 0 ∨ i = 2) : rd (upd P i v) = rd P ∧ sn (upd P i v) = sn P ∧ f1 (upd P i v) = f1 P ∧ f2 (upd P i v) = f2 P := by
  refine ⟨?_, ?_, ?_, ?_⟩
  · unfold rd; rw [pk_un (by omega)]
  · unfold sn; rw [pk_un (by omega)]
  · funext a; unfold f1; rw [pk_un (by omega)]
  · funext a; unfold f2; rw [pk_un (by omega), pk_un (by omega)]
theorem up_sz {T : TX} {lf : Bool} {P : Nat → Int32} {v : Int32} {i : Nat} (hi : i = 0 ∨ i = 2) : szP T (upd P i v) = szP T P ∧ (∀ j, odP T lf (upd P i v) j = odP T lf P j) ∧ qP (upd P i v) = qP P := by
  obtain ⟨h1, h2, h3, h4⟩ := up_rd (P := P) (v := v) hi
  refine ⟨?_, fun j => ?_, ?_⟩
  · unfold szP; rw [h1]
  · unfold odP; rw [h1, h3]
  · unfold qP; rw [h1]
theorem gw_up {T : TX} {lf : Bool} {P : Nat → Int32} {v : Int32} {i : Nat} (hi : i = 0 ∨ i = 2) (h : GW T lf P) (hv : i = 2 → ∃ g, v = nI g ∧ g ≤ 40) : GW T lf (upd P i v) := by
  obtain ⟨h1, h2, h3, h4⟩ := up_rd (P := P) (v := v) hi
  obtain ⟨z1, z2, z3⟩ := up_sz (T := T) (lf := lf) (P := P) (v := v) hi
  obtain ⟨⟨g1, g3, r1, r3, s8, gs, gg⟩, gw, g12, gu, gm⟩ := h
  have hgt : ∃ g, upd P i v 2 = nI g ∧ g ≤ 40 := by
    rcases hi with z | z
    · subst z
      rw [pk_un (by decide)]
      exact gg
    · obtain ⟨g, e, hg⟩ := hv z
      subst z
      exact ⟨g, by rw [pk_us]; exact e, hg⟩
  clear hv gg
  refine ⟨⟨?_, ?_, by rw [h1]; exact r1, by rw [h1]; exact r3, by rw [h2]; exact s8, by rw [h2, z1]; exact gs, hgt⟩, fun hr a ha => ?_, fun hr a ha => ?_, fun u hu => ?_, fun a ha ha2 => ?_⟩
  · rw [pk_un (by omega), h1]; exact g1
  · rw [pk_un (by omega), h2]; exact g3
  · rw [h1] at hr
    rw [pk_un (by omega), z3, h2]
    simp only [z2]
    exact gw hr a ha
  · rw [h1] at hr
    rw [pk_un (by omega)]
    exact g12 hr a ha
  · rw [pk_un (by omega), pk_un (by omega), pk_un (by omega)]; exact gu u hu
  · rw [pk_un (by omega), pk_un (by omega)]; exact gm a ha ha2
theorem cs_up {T : TX} {P : Nat → Int32} {v : Int32} {i : Nat} (hi : i = 0 ∨ i = 2) (h : CS T P) : CS T (upd P i v) := by
  intro a q hq ha
  rw [pk_un (by omega), pk_un (by omega), pk_un (by omega), pk_un (by omega), pk_un (by omega), pk_un (by omega), pk_un (by omega)]
  intro z
  obtain ⟨k1, k2, k3, k4⟩ := h a q hq ha z
  exact ⟨k1, k2, fun j hj => by rw [pk_un (by omega)]; exact k3 j hj, k4⟩
theorem pl_up {T : TX} {lf : Bool} {P : Nat → Int32} {v : Int32} {i k : Nat} {w : Mem} (hi : i = 0 ∨ i = 2) (h : PL T lf P k w) : PL T lf (upd P i v) k (st w k (4 + i) v) := by
  obtain ⟨h1, h2, h3, h4⟩ := up_rd (P := P) (v := v) hi
  obtain ⟨z1, z2, z3⟩ := up_sz (T := T) (lf := lf) (P := P) (v := v) hi
  obtain ⟨⟨e4, e5, e6, e7, e8⟩, ho, ht, hc, hw, hj⟩ := h
  refine ⟨⟨?_, ?_, ?_, ?_, ?_⟩, fun j hj => ?_, fun a ha => ?_, fun u c hu hc2 => ?_, fun u hu => ?_, fun u j hu hj2 => ?_⟩
  · rcases hi with rfl | rfl
    · rw [pk_us]; exact st_eq
    · rw [pk_un (by decide), st_nj (by decide)]; exact e4
  · rw [pk_un (by omega), st_nj (by omega)]; exact e5
  · rcases hi with rfl | rfl
    · rw [pk_un (by decide), st_nj (by decide)]; exact e6
    · rw [pk_us]; exact st_eq
  · rw [pk_un (by omega), st_nj (by omega)]; exact e7
  · rw [z1, st_nj (by omega)]; exact e8
  · rw [z1] at hj
    rw [z2, st_nk (by omega)]; exact ho j hj
  · rw [h4, st_nk (by omega)]; exact ht a ha
  · rw [pk_un (by omega), st_nk (by omega)]; exact hc u c hu hc2
  · rw [pk_un (by omega), st_nk (by omega)]; exact hw u hu
  · rw [pk_un (by omega), st_nk (by omega)]; exact hj u j hu hj2
theorem sim_gate (a1 : Int32) : SIM (wp_11_gate a1) (wp_12_gate a1) := by
  rintro w wm wl ⟨T, s, h⟩
  obtain ⟨hC, hR, hP, hS⟩ := h.1
  have hB := hR.2.2.2.1
  have hG := hR.2.2.2.2.2.2
  obtain ⟨n, x, n1, n2, n3, n4, n5, n6⟩ := h.2.1.1
  have i2 : ix (2 : Int32) = 2 := ix_nI (n := 2) (by omega)
  refine c_in (fun x1 => ⟨Or.inr rfl, t1 ?_⟩) (fun q => ⟨Or.inl rfl, t0 (r_in (fun z => absurd z q) (fun _ => t0 ⟨rfl, T, s, h⟩))⟩)
  obtain ⟨g, hg, rfl⟩ := inR_nI (n := 40) (by omega) x1
  rw [show w 89 6 = wm 180 2 from hP.1.2.2.1]
  refine ⟨fun q => ?_, fun q => ?_⟩
  · refine c_keep hB hP n1 n2 n3 n4 (fun w2 f2 k1 k2 k3 w4 e4 => ?_)
    have p2 : PL T false (wm 180) 89 w2 := pl_fr hP (fun b h1 h2 => f2 b (by omega) (by omega))
    refine r_in (fun _ => t1 ?_) (fun z => absurd x1 z)
    rw [i2]
    refine ⟨fun _ => r_copies hR (fun wm1 g1 e1 p1 b1 w6 e6 => ?_), fun z => absurd (Classical.not_not.mp z).symm q⟩
    have g6 : frO2 wm w6 := by subst e6; exact fun a j q1 q2 q3 => (st_nk q2).trans (g1 a j q1 q2 q3)
    have x6 : w6 181 = upd (wm 180) 2 (nI g) := by subst e6; rw [st_at, e1]
    refine act_end (v := 0) h n1 n2 n5 n6 f2 k1 k2 k3 (w3 := w4) ?_ (upd (wm 180) 2 (nI g)) ?_ ⟨gw_up (Or.inr rfl) hG (fun _ => ⟨g, rfl, hg⟩), cs_up (Or.inr rfl) hS⟩ (fun i hi => by rw [pk_un (by omega)]; exact z0 hR i hi) g6 x6 (fun wm4 hr _ _ => ⟨rfl, hr⟩)
    · subst e4; exact fun a j q1 q2 => st_nk (by omega)
    · subst e4; exact pl_up (Or.inr rfl) p2
  · refine r_in (fun _ => t1 ?_) (fun z => absurd x1 z)
    rw [i2]
    exact ⟨fun z => absurd (Classical.not_not.mp q).symm z, fun _ => ⟨rfl, T, s, h⟩⟩
theorem sim_pause (a1 : Int32) : SIM (wp_11_pause a1) (wp_12_pause a1) := by
  rintro w wm wl ⟨T, s, h⟩
  obtain ⟨hC, hR, hP, hS⟩ := h.1
  have hB := hR.2.2.2.1
  have hG := hR.2.2.2.2.2.2
  obtain ⟨n, x, n1, n2, n3, n4, n5, n6⟩ := h.2.1.1
  refine c_in (fun x1 => u1 ?_) (fun q => u0 (r_in (fun z => absurd z q) (fun _ => u0 ⟨rfl, T, s, h⟩)))
  refine c_keep hB hP n1 n2 n3 n4 (fun w2 f2 k1 k2 k3 w4 e4 => ?_)
  have p2 : PL T false (wm 180) 89 w2 := pl_fr hP (fun b h1 h2 => f2 b (by omega) (by omega))
  rw [p2.1.1] at e4
  refine r_in (fun _ => u1 (r_copies hR (fun wm1 g1 e1 p1 b1 w6 e6 => ?_))) (fun z => absurd x1 z)
  rw [ix0, e1] at e6
  have g6 : frO2 wm w6 := by subst e6; exact fun a j q1 q2 q3 => (st_nk q2).trans (g1 a j q1 q2 q3)
  have x6 : w6 181 = upd (wm 180) 0 (wm 180 0 + a1) := by subst e6; rw [st_at, e1]
  have v4 : w4 89 4 = wm 180 0 + a1 := by subst e4; exact st_eq
  refine act_end (v := 0) h n1 n2 n5 n6 f2 k1 k2 k3 (w3 := w4) ?_ (upd (wm 180) 0 (wm 180 0 + a1)) ?_ ⟨gw_up (Or.inl rfl) hG (fun z => absurd z (by decide)), cs_up (Or.inl rfl) hS⟩ (fun i hi => by rw [pk_un (by omega)]; exact z0 hR i hi) g6 x6 (fun wm4 hr e180 _ => ⟨?_, hr⟩)
  · subst e4; exact fun a j q1 q2 => st_nk (by omega)
  · subst e4; exact pl_up (i := 0) (Or.inl rfl) p2
  · rw [v4, ix0, e180, pk_us]
theorem sim_undo : SIM wp_11_undo wp_12_undo := by
  rintro w wm wl ⟨T, s, h⟩
  obtain ⟨hC, hR, hP, hS⟩ := h.1
  have hB := hR.2.2.2.1
  obtain ⟨n, x, n1, n2, n3, n4, n5, n6⟩ := h.2.1.1
  unfold wp_11_undo wp_1_takeBack
  rw [n3, n4]
  refine ⟨fun q w1 e1 w2 e2 => ?_, fun q => ⟨Or.inl rfl, ?_⟩⟩
  · have n0 : 0 < n := by
      rcases Nat.eq_zero_or_pos n with z | z
      · exact absurd (by rw [z]; rfl) q
      · exact z
    have er : irm ((nI x + (40 : Int32)) - (1 : Int32)) 40 = nI ((x + 39) % 40) := by
      rw [show (40 : Int32) = nI 40 from rfl, nI_add, show (1 : Int32) = nI 1 from rfl, pk_sub (by omega)]
      exact pk_rem (a := x + 40 - 1) (d := 40) (by omega) (by omega) (by omega)
    rw [er] at e1
    have g1 : w1 97 1 = nI n := by subst e1; rw [st_nj (by decide)]; exact n3
    rw [g1, show (1 : Int32) = nI 1 from rfl, pk_sub (by omega)] at e2
    have v2 : w2 97 2 = nI ((x + 39) % 40) := by subst e2; subst e1; rw [st_nj (by decide), st_eq]
    have v1 : w2 97 1 = nI (n - 1) := by subst e2; exact st_eq
    have f2 : ∀ a, a ≠ 97 → w2 a = w a := by subst e2; subst e1; exact fun a ha => (st_ne a ha).trans (st_ne a ha)
    rw [v2]
    refine ⟨vp_in_nI (by omega) (by decide), ?_⟩
    rw [ix_nI (by omega)]
    obtain ⟨s1, s2⟩ := n6 (n - 1) (by omega)
    rw [show (x + 40 - n + (n - 1)) % 40 = (x + 39) % 40 by omega] at s1
    refine c_load hB (by omega) (by rw [f2 _ (by omega)]; exact s1) (fun w4 f4 p4 => ⟨Or.inr rfl, ?_⟩)
    unfold wp_12_undo
    rw [n5]
    refine ⟨fun _ wm1 ex1 => ?_, fun z => absurd q z⟩
    rw [show (1 : Int32) = nI 1 from rfl, pk_sub (by omega)] at ex1
    have g64 : wm1 150 64 = nI (n - 1) := by subst ex1; exact st_eq
    have gf : ∀ a j, ¬ (a = 150 ∧ j = 64) → wm1 a j = wm a j := by
      subst ex1
      intro a j ha
      simp only [st]
      exact if_neg ha
    refine pk_loop (fun m i (z : Mem) => wp_12_undo_b21 (fun y wm2 wl2 => nI 1 = y ∧ REL w4 wm2 wl2) m (nI i) z wl) (fun i z => (∀ a, a ≠ 180 → z a = wm1 a) ∧ (∀ j, j < i → z 180 j = wm 183 (260 * (n - 1) + j)) ∧ ∀ j, 260 ≤ j → z 180 j = 0) 260 0 wm1 (by omega) ⟨fun _ _ => rfl, fun j hj => absurd hj (by omega), fun j hj => (gf 180 j (by omega)).trans (z0 hR j hj)⟩ (fun m z hz2 => ?_) (fun m i z hi hz2 L => ?_)
    · obtain ⟨f, e, e0⟩ := hz2
      refine pk_le 260 260 (fun _ => ⟨rfl, ?_⟩) (fun q => absurd q (by omega))
      have ec : z 180 = cu (wm 183) (260 * (n - 1)) := by
        funext j
        unfold cu
        split
        · exact e j ‹_›
        · exact e0 j (by omega)
      refine rel_new h (fun a j q1 q2 q3 q4 => by rw [f4 a (by omega), f2 a (by omega)]) (fun a j q1 q2 q3 q4 q5 => by rw [f a q2]; exact gf a j (by omega)) (fun i hi => ⟨e0 i hi, ?_⟩) (by rw [ec]; exact p4) (by rw [ec]; exact s2) ?_
      · rw [f 181 (by decide), gf 181 i (by omega)]
        exact (hR.2.2.2.2.2.1 i hi).2
      · refine ⟨n - 1, (x + 39) % 40, by omega, by omega, ?_, ?_, ?_, fun i hi => ?_⟩
        · rw [f4 97 (by omega)]; exact v1
        · rw [f4 97 (by omega)]; exact v2
        · rw [f 150 (by decide)]; exact g64
        · have e183 : z 183 = wm 183 := by rw [f 183 (by decide)]; exact funext (fun j => gf 183 j (by omega))
          rw [e183, f4 _ (by omega), f2 _ (by omega), show ((x + 39) % 40 + 40 - (n - 1) + i) % 40 = (x + 40 - n + i) % 40 by omega]
          exact n6 i (by omega)
    · obtain ⟨f, e, e0⟩ := hz2
      refine pk_le 260 i (fun q => absurd q (by omega)) (fun _ => ?_)
      rw [f 150 (by decide), g64, show (260 : Int32) = nI 260 from rfl, pk_mul, nI_add]
      refine ⟨vp_in_nI (by omega) (by decide), vp_in_nI hi (by decide), fun w3 e3 x4 e4 => ?_⟩
      rw [ix_nI (by omega), ix_nI (by omega), f 183 (by decide), gf 183 _ (by omega)] at e3
      rw [nI_1] at e4
      subst e4
      subst e3
      refine L _ ⟨fun a ha => (st_ne a ha).trans (f a ha), fun j hj => ?_, fun j hj => ?_⟩
      · rw [st_at]
        by_cases c : j = i
        · subst c; exact pk_us
        · rw [pk_un c]; exact e j (by omega)
      · rw [st_at, pk_un (by omega)]; exact e0 j hj
  · unfold wp_12_undo
    rw [n5]
    exact ⟨fun z => absurd z q, fun _ => ⟨rfl, T, s, h⟩⟩
