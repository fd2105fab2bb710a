/-- read on both sides, for what comes behind it -/
theorem simg_read (w wm : Mem) (wl : MemL) (hR : REL w wm wl) (C : Int32 → Mem → Int32 → Mem → MemL → Prop) (hC : ∀ (x y : Int32) (w2 wm2 : Mem) (wl2 : MemL), x = y ∧ REL w2 wm2 wl2 → C x w2 y wm2 wl2) : wp_11_read w (fun x w2 => wp_12_read wm wl (fun y wm2 wl2 => C x w2 y wm2 wl2)) := by
  obtain ⟨T, s, h⟩ := hR
  obtain ⟨hC1, ⟨r1, r2, r3, r4, r5, r6, r7⟩, hP, hS⟩ := h.1
  obtain ⟨n, n1, n2, n3, n4⟩ := h.2.1.2.2.2
  have hK := h.2.2.2
  have bb : ∀ i, (w 2 i) &&& (255 : Int32) = nI ((w 2 i).toBitVec.toNat % 256) ∧ (w 2 i).toBitVec.toNat % 256 < 256 := fun i => ⟨pk_and (w 2 i) 8 rfl, Nat.mod_lt _ (by decide)⟩
  have tb : TB (fun i => (w 2 i).toBitVec.toNat % 256) n w := ⟨n1, n2, fun i _ => bb i⟩
  have rb : ∀ i, i < n → (wm 151 i) &&& (255 : Int32) = nI ((fun i => (w 2 i).toBitVec.toNat % 256) i) ∧ (fun i => (w 2 i).toBitVec.toNat % 256) i < 256 := fun i hi => by
    rw [← n4 i hi]
    exact bb i
  generalize (fun i => (w 2 i).toBitVec.toNat % 256) = B at tb rb
  clear bb
  refine c_read tb (fun kd tok er w2 f2 h1 h12 => ?_) (fun t2 S2 k0 t0 er hf w2 f2 h1 h12 => ?_) (fun t2 S2 er hf hB w2 f2 h1 h12 c2 s2 p2 k2 z2 t2' => ?_)
  · refine r_read r1 r2 n1 n3 rb hK r6 (fun kd' tok' er' wm2 wl2 fr hk' m2 m17 => ?_) (fun t2' S2' k0' t0' er' => ?_) (fun t2' S2' er' => ?_)
    · rw [er] at er'
      have e := Prod.mk.inj (Except.error.inj er')
      obtain ⟨e1, e2⟩ := e
      subst e1
      subst e2
      exact hC _ _ _ _ _ ⟨rfl, rel_rd h f2 fr hk' h1 m2 (by rw [h12, m17])⟩
    · rw [er] at er'
      cases er'
    · rw [er] at er'
      cases er'
  · refine r_read r1 r2 n1 n3 rb hK r6 (fun kd' tok' er' => ?_) (fun t2' S2' k0' t0' er' hf' wm2 wl2 fr hk' m2 m17 => ?_) (fun t2' S2' er' hf' => ?_)
    · rw [er] at er'
      cases er'
    · rw [er] at er'
      have e := (Prod.mk.inj (Except.ok.inj er')).2
      subst e
      rw [hf] at hf'
      have e := Prod.mk.inj (Option.some.inj hf')
      obtain ⟨e1, e2⟩ := e
      subst e1
      subst e2
      exact hC _ _ _ _ _ ⟨rfl, rel_rd h f2 fr hk' h1 m2 (by rw [h12, m17])⟩
    · rw [er] at er'
      have e := (Prod.mk.inj (Except.ok.inj er')).2
      subst e
      rw [hf] at hf'
      cases hf'
  · refine r_read r1 r2 n1 n3 rb hK r6 (fun kd' tok' er' => ?_) (fun t3 S3 k0' t0' er' hf' => ?_) (fun t3 S3 er' hf' wm2 wl2 hk' m2 mv m61 tr e180 e181 m187 => ?_)
    · rw [er] at er'
      cases er'
    · rw [er] at er'
      have e := (Prod.mk.inj (Except.ok.inj er')).2
      subst e
      rw [hf] at hf'
      cases hf'
    · rw [er] at er'
      have e := (Prod.mk.inj (Except.ok.inj er')).2
      subst e
      refine hC _ _ _ _ _ ⟨rfl, rel_fresh (T := TXs S2) (s := 1 - s) (by omega) hB c2 (fun a j ha hj hq => ?_) s2 p2 k2 z2 t2' h1 h12 hk' m2 mv (m61.trans r5) tr e180 e181 m187⟩
      rw [f2 a j ha]
      exact hC1.2.2.1 a j ha hj hq
