/-- both sides after a text with a fault -/
theorem rel_rd {T : TX} {s : Nat} {w w2 wm wm2 : Mem} {wl wl2 : MemL} (h : RELt T s w wm wl) (fc : ∀ a j, (a = 0 ∧ j ≠ 12) ∨ 48 ≤ a → w2 a j = w a j) (fr : frRd s wm wm2) (hk : KEYS wl2) (h1 : w2 1 1 = 0) (h2 : wm2 150 2 = 0) (h12 : w2 0 12 = wm2 150 17) : REL w2 wm2 wl2 := by
  obtain ⟨⟨hC, ⟨r1, r2, r3, r4, r5, r6, r7⟩, hP, hS⟩, ⟨hH, hL, hT, hA⟩, _, hK⟩ := h
  have cr : ∀ a, 48 ≤ a → w2 a = w a := fun a q => funext (fun j => fc a j (Or.inr q))
  have rr : ∀ a, 177 < a → wm2 a = wm a := fun a q => funext (fun j => fr a j (by simp only [wrR]; omega) (by omega) (by omega) (by omega))
  have r150 : ∀ j, 20 < j → j ≠ 33 → j ≠ 39 → j ≠ 43 → wm2 150 j = wm 150 j := fun j q1 q2 q3 q4 => fr 150 j (by simp only [wrR]; omega) (by decide) (by decide) (by omega)
  have e180 := rr 180 (by decide)
  have e181 := rr 181 (by decide)
  refine ⟨T, s, ⟨⟨ct_fr2 hC (fun a j q q1 q2 => fc a j (Or.inr q1)), ⟨r1, ?_, ?_, r4, ?_, by rw [e180, e181]; exact r6, by rw [e180]; exact r7⟩, ?_, by rw [e180]; exact hS⟩, ⟨?_, ?_, ?_, ⟨0, by omega, h1, h2, fun i hi => absurd hi (Nat.not_lt_zero _)⟩⟩, h12, hk⟩⟩
  · rw [fr 150 18 (by simp only [wrR]; omega) (by decide) (by decide) (by decide)]; exact r2
  · exact tr_side (by omega) r3 (fun a j q q1 q2 => fr a j q (by omega) (by omega) (by omega)) r4
  · rw [r150 61 (by decide) (by decide) (by decide) (by decide)]; exact r5
  · rw [e180]; exact pl_fr hP (fun a h1 h2 => cr a (by omega))
  · obtain ⟨n, x, k1, k2, k3, k4, k5, k6⟩ := hH
    refine ⟨n, x, k1, k2, ?_, ?_, (r150 64 (by decide) (by decide) (by decide) (by decide)).trans k5, fun i hi => ?_⟩
    · rw [cr 97 (by decide)]; exact k3
    · rw [cr 97 (by decide)]; exact k4
    · rw [cr _ (by omega), rr 183 (by decide)]; exact k6 i hi
  · exact sl_cg hL (fun a q1 q2 => cr a (by omega)) (fun a q1 q2 => rr a (by omega))
  · exact to_cg hT (fun a q1 q2 => cr a (by omega)) (fun a q1 q2 => rr a (by omega)) (r150 66 (by decide) (by decide) (by decide) (by decide))
/-- both sides with a new text -/
theorem rel_fresh {T : TX} {s : Nat} {w wm : Mem} {wl : MemL} (hs : s < 2) (hB : BT T) (hC : TC 48 T w) (hZ : ZV w) (h87 : w 87 2 = nI (tn T 15)) (hP : PL T false (begP T) 89 w) (h97 : w 97 1 = 0 ∧ w 97 2 = 0) (h144 : ∀ i, i < 3 → w 144 i = 0) (h145 : w 145 3 = 0) (h1 : w 1 1 = 0) (h12 : w 0 12 = -1)
    (hk : KEYS wl) (m2 : wm 150 2 = 0) (mv : wm 150 17 = -1 ∧ wm 150 18 = nI s ∧ wm 150 64 = 0 ∧ wm 150 66 = 0) (m61 : wm 150 61 = -1) (hT : TR s T wm) (e180 : wm 180 = begP T) (e181 : wm 181 = begP T) (m187 : ∀ i, i < 3 → wm 187 i = 0) : REL w wm wl := by
  refine ⟨T, s, ⟨⟨⟨hC, hB, hZ, h87⟩, ⟨hs, mv.2.1, hT, hB, m61, fun i hi => ?_, ?_⟩, ?_, ?_⟩, ⟨⟨0, 0, by omega, by omega, h97.1, h97.2, mv.2.2.1, fun i hi => absurd hi (Nat.not_lt_zero _)⟩, fun i hi => ⟨⟨?_, Or.inl (h144 i hi)⟩, fun q => ?_⟩, ⟨0, by omega, h145, mv.2.2.2, fun i hi => absurd hi (Nat.not_lt_zero _)⟩, ⟨0, by omega, h1, m2, fun i hi => absurd hi (Nat.not_lt_zero _)⟩⟩, ?_, hk⟩⟩
  · rw [e180, e181]
    exact ⟨begP_0 T (by omega), begP_0 T (by omega)⟩
  · rw [e180]; exact gw_beg hB false
  · rw [e180]; exact hP
  · rw [e180]; exact cs_beg T
  · rw [h144 i hi, m187 i hi]
  · rw [h144 i hi] at q
    exact absurd q (by decide)
  · rw [h12, mv.1]
theorem sim_read : SIM wp_11_read wp_12_read := by
  rintro w wm wl ⟨T, s, h⟩
  obtain ⟨hC, ⟨r1, r2, r3, r4, r5, r6, r7⟩, hP, hS⟩ := h.1
  obtain ⟨n, n1, n2, n3, n4⟩ := h.2.1.2.2.2
  have hK := h.2.2.2
  have bb : ∀ i, (w 2 i) &&& (255 : Int32) = nI ((w 2 i).toBitVec.toNat % 256) ∧ (w 2 i).toBitVec.toNat % 256 < 256 := fun i => ⟨pk_and (w 2 i) 8 rfl, Nat.mod_lt _ (by decide)⟩
  have tb : TB (fun i => (w 2 i).toBitVec.toNat % 256) n w := ⟨n1, n2, fun i _ => bb i⟩
  have rb : ∀ i, i < n → (wm 151 i) &&& (255 : Int32) = nI ((fun i => (w 2 i).toBitVec.toNat % 256) i) ∧ (fun i => (w 2 i).toBitVec.toNat % 256) i < 256 := fun i hi => by
    rw [← n4 i hi]
    exact bb i
  generalize (fun i => (w 2 i).toBitVec.toNat % 256) = B at tb rb
  clear bb
  refine c_read tb (fun kd tok er w2 f2 h1 h12 => ?_) (fun t2 S2 k0 t0 er hf w2 f2 h1 h12 => ?_) (fun t2 S2 er hf hB w2 f2 h1 h12 c2 s2 p2 k2 z2 t2' => ?_)
  · refine r_read r1 r2 n1 n3 rb hK r6 (fun kd' tok' er' wm2 wl2 fr hk' m2 m17 => ?_) (fun t2' S2' k0' t0' er' => ?_) (fun t2' S2' er' => ?_)
    · rw [er] at er'
      have e := Prod.mk.inj (Except.error.inj er')
      obtain ⟨e1, e2⟩ := e
      subst e1
      subst e2
      exact ⟨rfl, rel_rd h f2 fr hk' h1 m2 (by rw [h12, m17])⟩
    · rw [er] at er'
      cases er'
    · rw [er] at er'
      cases er'
  · refine r_read r1 r2 n1 n3 rb hK r6 (fun kd' tok' er' => ?_) (fun t2' S2' k0' t0' er' hf' wm2 wl2 fr hk' m2 m17 => ?_) (fun t2' S2' er' hf' => ?_)
    · rw [er] at er'
      cases er'
    · rw [er] at er'
      have e := (Prod.mk.inj (Except.ok.inj er')).2
      subst e
      rw [hf] at hf'
      have e := Prod.mk.inj (Option.some.inj hf')
      obtain ⟨e1, e2⟩ := e
      subst e1
      subst e2
      exact ⟨rfl, rel_rd h f2 fr hk' h1 m2 (by rw [h12, m17])⟩
    · rw [er] at er'
      have e := (Prod.mk.inj (Except.ok.inj er')).2
      subst e
      rw [hf] at hf'
      cases hf'
  · refine r_read r1 r2 n1 n3 rb hK r6 (fun kd' tok' er' => ?_) (fun t3 S3 k0' t0' er' hf' => ?_) (fun t3 S3 er' hf' wm2 wl2 hk' m2 mv m61 tr e180 e181 m187 => ?_)
    · rw [er] at er'
      cases er'
    · rw [er] at er'
      have e := (Prod.mk.inj (Except.ok.inj er')).2
      subst e
      rw [hf] at hf'
      cases hf'
    · rw [er] at er'
      have e := (Prod.mk.inj (Except.ok.inj er')).2
      subst e
      refine ⟨rfl, rel_fresh (T := TXs S2) (s := 1 - s) (by omega) hB c2 (fun a j ha hj hq => ?_) s2 p2 k2 z2 t2' h1 h12 hk' m2 mv (m61.trans r5) tr e180 e181 m187⟩
      rw [f2 a j ha]
      exact hC.2.2.1 a j ha hj hq
