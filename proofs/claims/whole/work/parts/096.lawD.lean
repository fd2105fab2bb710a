/-- what reading a law may write in the reference, from the branch i and the code c on -/
def frL (s i c : Nat) (w w2 : Mem) : Prop := ∀ a j, a ≠ 177 → ¬ (a = 150 ∧ (j = 11 ∨ j = 12 ∨ j = 13 ∨ j = 33 ∨ j = 39 ∨ j = 43)) → ¬ ((a = 175 ∨ a = 176) ∧ c ≤ j ∧ j < 420 * s + 420) → ¬ ((170 ≤ a ∧ a ≤ 174) ∧ i ≤ j ∧ j < 130 * s + 130) → w2 a j = w a j
theorem fl_tr {s i c : Nat} {w w2 w3 : Mem} (h : frL s i c w w2) (h2 : frL s i c w2 w3) : frL s i c w w3 := fun a j p q r t => (h2 a j p q r t).trans (h a j p q r t)
theorem fl_up {s i c i2 c2 : Nat} {w w2 : Mem} (h : frL s i2 c2 w w2) (hi : i ≤ i2) (hc : c ≤ c2) : frL s i c w w2 := fun a j p q r t => h a j p q (by omega) (by omega)
theorem fl_fe {s i c c2 : Nat} {w w2 : Mem} (h : frE s c2 w w2) (hc : c ≤ c2) : frL s i c w w2 := fun a j p q r t => h a j p (by omega) (by omega)
theorem fl_sb {s i c j : Nat} {v : Int32} {w : Mem} (hj : j = 11 ∨ j = 12 ∨ j = 13 ∨ j = 33 ∨ j = 39 ∨ j = 43) : frL s i c w (st w 150 j v) := by
  intro a x p q r t
  simp only [st]
  rw [if_neg (by omega)]
theorem fl_sr {s i c a0 j : Nat} {v : Int32} {w : Mem} (ha : 170 ≤ a0 ∧ a0 ≤ 174) (hj : i ≤ j ∧ j < 130 * s + 130) : frL s i c w (st w a0 j v) := by
  intro a x p q r t
  simp only [st]
  rw [if_neg (by omega)]
theorem tkm_fl {K P V : Nat → Nat} {M s i c : Nat} {w w2 : Mem} (h : TKM K P V M w) (f : frL s i c w w2) : TKM K P V M w2 := by
  refine ⟨h.1, h.2.1, fun j hj => ?_⟩
  rw [f 153 j (by omega) (by omega) (by omega) (by omega), f 154 j (by omega) (by omega) (by omega) (by omega), f 155 j (by omega) (by omega) (by omega) (by omega)]
  exact h.2.2 j hj
/-- the reference behind a fault in a law: 33 may still grow by r -/
def FL (P : Nat → Nat) (s i c : Nat) (w0 : Mem) (kd tok r : Nat) (w : Mem) : Prop :=
  frL s i c (st w0 150 14 (nI (P tok))) w ∧ w 150 13 = nI kd ∧ (∃ t, t ≤ 400 ∧ w 150 11 = nI t) ∧ (∃ x, i ≤ x ∧ x + r ≤ 130 * s + 130 ∧ w 150 33 = nI x) ∧ ∃ y, c ≤ y ∧ y ≤ 420 * s + 420 ∧ w 150 39 = nI y
theorem fl_13 {P : Nat → Nat} {s i c kd tok r : Nat} {w0 w : Mem} (h : FL P s i c w0 kd tok r w) (hk : kd = 1 ∨ kd = 2) : ¬ w 150 13 = 0 := by
  rw [h.2.1]
  exact nI_ne0 (by omega) (by omega)
theorem fl_must {P : Nat → Nat} {s i c kd tok r : Nat} {a : Int32} {w0 w : Mem} {wl : MemL} {Q : Mem → MemL → Prop} (h : FL P s i c w0 kd tok r w) (hk : kd = 1 ∨ kd = 2) (K : Q w wl) : wp_12_must a w wl Q := by
  unfold wp_12_must
  exact r_isF (fl_13 h hk) (t0 (r_failF h.2.1 (by omega) (by omega) K))
theorem fl_at {P : Nat → Nat} {s i c kd tok r : Nat} {w0 w : Mem} (hs : s ≤ 1) (h : FL P s i c w0 kd tok (r + 1) w) : ∃ x, w 150 33 = nI x ∧ x < 260 ∧ (∀ a0 v, 170 ≤ a0 → a0 ≤ 174 → FL P s i c w0 kd tok (r + 1) (st w a0 x v)) ∧ FL P s i c w0 kd tok r (st w 150 33 (nI (x + 1))) := by
  obtain ⟨h1, h2, ⟨t, t1, t2⟩, ⟨x, y1, y2, y3⟩, ⟨z, z1, z2, z3⟩⟩ := h
  refine ⟨x, y3, by omega, fun a0 v q1 q2 => ?_, ?_⟩
  · have g : ∀ j, st w a0 x v 150 j = w 150 j := fun j => st_nk (by omega)
    exact ⟨fl_tr h1 (fl_sr ⟨q1, q2⟩ (by omega)), (g 13).trans h2, ⟨t, t1, (g 11).trans t2⟩, ⟨x, y1, y2, (g 33).trans y3⟩, ⟨z, z1, z2, (g 39).trans z3⟩⟩
  · refine ⟨fl_tr h1 (fl_sb (by omega)), (st_nj (by decide)).trans h2, ⟨t, t1, (st_nj (by decide)).trans t2⟩, ⟨x + 1, by omega, by omega, st_eq⟩, ⟨z, z1, z2, (st_nj (by decide)).trans z3⟩⟩
theorem fl_term {P : Nat → Nat} {s i c kd tok r : Nat} {w0 w : Mem} {wl : MemL} {Q : Mem → MemL → Prop} (hs : s ≤ 1) (h : FL P s i c w0 kd tok (r + 1) w) (hk : kd = 1 ∨ kd = 2) (K : ∀ w2, FL P s i c w0 kd tok r w2 → Q w2 wl) : wp_12_term w wl Q := by
  obtain ⟨x, x1, x2, x3, x4⟩ := fl_at hs h
  have iv : vp_in (nI x) 260 := vp_in_nI x2 (by decide)
  unfold wp_12_term
  rw [x1, ix_nI (by omega)]
  refine ⟨iv, fun w2 e2 => ?_⟩
  have h2 : FL P s i c w0 kd tok (r + 1) w2 := by subst e2; exact x3 173 _ (by omega) (by omega)
  have g2 : w2 150 33 = nI x := by subst e2; rw [st_nk (by decide)]; exact x1
  clear e2
  obtain ⟨y, y1, y2, y3, y4⟩ := fl_at hs h2
  have iy : vp_in (nI y) 260 := vp_in_nI y2 (by decide)
  refine ⟨fun _ => ?_, fun q => absurd (Classical.not_not.mp q) (fl_13 h2 hk)⟩
  unfold wp_12_term_b24
  rw [y1, ix_nI (by omega)]
  refine ⟨iy, fun w3 e3 w4 e4 => ?_⟩
  have h3 : FL P s i c w0 kd tok (r + 1) w3 := by subst e3; exact y3 174 _ (by omega) (by omega)
  obtain ⟨u, u1, u2, u3, u4⟩ := fl_at hs h3
  rw [u1, nI_1] at e4
  subst e4
  exact K _ u4
theorem fl_129 {P : Nat → Nat} {s i c kd tok r : Nat} {l1 l2 : Int32} {w0 w : Mem} {wl : MemL} {Q : Mem → MemL → Prop} (hs : s ≤ 1) (h : FL P s i c w0 kd tok (r + 1) w) (hk : kd = 1 ∨ kd = 2) (K : ∀ w2, FL P s i c w0 kd tok r w2 → Q w2 wl) : wp_12_tellLaw_b129 Q l1 l2 w wl := by
  obtain ⟨x, x1, x2, x3, x4⟩ := fl_at hs h
  unfold wp_12_tellLaw_b129
  rw [x1, ix_nI (by omega)]
  refine ⟨vp_in_nI x2 (by decide), fun w2 e2 => ?_⟩
  have h2 : FL P s i c w0 kd tok (r + 1) w2 := by subst e2; exact x3 170 _ (by omega) (by omega)
  refine fl_term hs h2 hk (fun w3 h3 => fl_must h3 hk ?_)
  refine ⟨fun q => absurd q ?_, fun _ => K w3 h3⟩
  rw [h3.2.1]
  intro q
  exact absurd ((nI_leI (b := 0) (by omega) (by omega)).mp q) (by omega)
theorem fl_12 {P : Nat → Nat} {s i c kd tok r n : Nat} {l1 l2 l3 : Int32} {w0 w : Mem} {wl : MemL} {Q : Mem → MemL → Prop} (hs : s ≤ 1) (h : FL P s i c w0 kd tok (r + 1) w) (hk : kd = 1 ∨ kd = 2) (K : ∀ w2, FL P s i c w0 kd tok r w2 → Q w2 wl) : wp_12_tellLaw_b12 Q (n + 1) l1 l2 l3 w wl := by
  unfold wp_12_tellLaw_b12
  exact ⟨fun _ => fl_129 hs h hk K, fun q => absurd (Classical.not_not.mp q) (fl_13 h hk)⟩
theorem fl_110 {P : Nat → Nat} {s i c kd tok r n : Nat} {l1 l2 l3 : Int32} {w0 w : Mem} {wl : MemL} {Q : Mem → MemL → Prop} (hs : s ≤ 1) (h : FL P s i c w0 kd tok (r + 2) w) (hk : kd = 1 ∨ kd = 2) (K : ∀ w2, FL P s i c w0 kd tok r w2 → Q w2 wl) : wp_12_tellLaw_b110 Q (wp_12_tellLaw_b12 Q (n + 1)) l1 l2 l3 w wl := by
  unfold wp_12_tellLaw_b110
  exact fl_must h hk (fl_term hs h hk (fun w3 h3 => fl_must h3 hk (fl_12 hs h3 hk K)))
/-- a fault inside an E of a law -/
theorem fl_fx {P : Nat → Nat} {s i c c2 x kd tok r : Nat} {w0 w w2 : Mem} (f : frL s i c w0 w) (hc : c ≤ c2) (h33 : w 150 33 = nI x) (hx : i ≤ x) (hr : x + r ≤ 130 * s + 130) (h : FX P s c2 w kd tok w2) : FL P s i c w0 kd tok r w2 := by
  obtain ⟨h1, h2, h3, y, y1, y2, y3⟩ := h
  refine ⟨fun a j q1 q2 q3 q4 => ?_, h2, h3, ⟨x, hx, hr, ?_⟩, y, by omega, y2, y3⟩
  · rw [h1 a j q1 (by omega) (by omega)]
    simp only [st]
    split
    · rfl
    · exact f a j q1 q2 q3 q4
  · rw [h1 150 33 (by omega) (by omega) (by omega), st_nj (by decide)]
    exact h33
/-- a fault found at the token t -/
theorem fl_new {P : Nat → Nat} {s i c c2 x t kd r : Nat} {w0 w : Mem} (f : frL s i c w0 w) (hc : c ≤ c2) (hc2 : c2 ≤ 420 * s + 420) (h39 : w 150 39 = nI c2) (h33 : w 150 33 = nI x) (hx : i ≤ x) (hr : x + r ≤ 130 * s + 130) (ht : t ≤ 400) (h11 : w 150 11 = nI t) : FL P s i c w0 kd t r (st (st w 150 13 (nI kd)) 150 14 (nI (P t))) := by
  refine ⟨fun a j q1 q2 q3 q4 => ?_, ?_, ⟨t, ht, ?_⟩, ⟨x, hx, hr, ?_⟩, c2, hc, hc2, ?_⟩
  · simp only [st]
    split
    · rfl
    · rw [if_neg (by omega)]
      exact f a j q1 q2 q3 q4
  · rw [st_nj (by decide), st_eq]
  · rw [st_nj (by decide), st_nj (by decide)]; exact h11
  · rw [st_nj (by decide), st_nj (by decide)]; exact h33
  · rw [st_nj (by decide), st_nj (by decide)]; exact h39
theorem r_must {K P V : Nat → Nat} {M t c : Nat} {r : Int32} {w : Mem} {wl : MemL} {Q : Mem → MemL → Prop} (tk : TKM K P V M w) (ht : t ≤ M) (h11 : w 150 11 = nI t) (h13 : w 150 13 = 0) (hc : kdB c = true) (hc0 : 0 < c) (hr : r = nI (rcF c))
    (KE : ∀ kd, (kd = 1 ∨ kd = 2) → tkP K c t = .error (kd, t) → Q (st (st w 150 13 (nI kd)) 150 14 (nI (P t))) wl) (KO : tkP K c t = .ok (t + 1) → t < 400 → t + 1 ≤ M → Q (st w 150 11 (nI (t + 1))) wl) : wp_12_must r w wl Q := by
  have hm := tk.1
  have e4 : w 154 t = nI (P t) := (tk.2.2 t ht).2.2.1
  unfold tkP at KE KO
  unfold wp_12_must
  refine r_is tk ht h11 h13 hc hr (fun y => t1 ?_) (fun y => t0 ?_)
  · refine r_goes (by omega) h11 (fun c4 => ?_) (fun c4 => ?_)
    · rw [if_pos y, if_pos c4] at KO
      exact KO rfl c4 (tkm_lt tk ht c4 (by omega))
    · refine r_fail (by omega) h11 h13 ?_
      rw [e4]
      refine KE 2 (Or.inr rfl) ?_
      rw [if_pos y, if_neg (by omega)]
  · refine r_fail (a := 1) (by omega) h11 h13 ?_
    rw [e4]
    refine KE 1 (Or.inl rfl) ?_
    rw [if_neg y]
