/-- the tokens as the reference holds them -/
def TKM (K P V : Nat → Nat) (M : Nat) (w : Mem) : Prop := M ≤ 400 ∧ (M = 400 ∨ K M = 0) ∧ ∀ j, j ≤ M → kdB (K j) = true ∧ w 153 j = nI (rcF (K j)) ∧ w 154 j = nI (P j) ∧ (K j = 3 → w 155 j = nI (V j))
/-- what reading an E may write -/
def frE (s c0 : Nat) (w w2 : Mem) : Prop := ∀ a j, a ≠ 177 → ¬ (a = 150 ∧ (j = 11 ∨ j = 12 ∨ j = 13 ∨ j = 39 ∨ j = 43)) → ¬ ((a = 175 ∨ a = 176) ∧ c0 ≤ j ∧ j < 420 * s + 420) → w2 a j = w a j
theorem fe_tr {s c0 : Nat} {w w2 w3 : Mem} (h : frE s c0 w w2) (h2 : frE s c0 w2 w3) : frE s c0 w w3 := fun a j p q r => (h2 a j p q r).trans (h a j p q r)
theorem tkm_fe {K P V : Nat → Nat} {M s c0 : Nat} {w w2 : Mem} (h : TKM K P V M w) (f : frE s c0 w w2) : TKM K P V M w2 := by
  refine ⟨h.1, h.2.1, fun j hj => ?_⟩
  rw [f 153 j (by omega) (by omega) (by omega), f 154 j (by omega) (by omega) (by omega), f 155 j (by omega) (by omega) (by omega)]
  exact h.2.2 j hj
def wst (f : Nat → Int32) : List Nat → Prop
  | [] => True
  | g :: S => f S.length = nI (rcF g) ∧ wst f S
theorem wst_hi {f : Nat → Int32} {x : Int32} {i : Nat} : ∀ {S : List Nat}, S.length ≤ i → wst f S → wst (upd f i x) S
  | [], _, _ => trivial
  | y :: s, h, q => by
    simp only [List.length_cons] at h
    exact ⟨by rw [pk_un (by omega)]; exact q.1, wst_hi (by omega) q.2⟩
theorem cda_x {c f g f2 g2 : Nat → Int32} : ∀ {E : LE} {p : Nat}, (∀ j, p ≤ j → j < p + E.length → f2 j = f j ∧ g2 j = g j) → cda c f g p E → cda c f2 g2 p E
  | [], _, _, _ => trivial
  | (o, v) :: r, p, h, q => by
    simp only [List.length_cons] at h
    obtain ⟨a, b⟩ := h p (by omega) (by omega)
    exact ⟨a.trans q.1, b.trans q.2.1, cda_x (fun j h1 h2 => h j (by omega) (by omega)) q.2.2⟩
theorem cda_a {c f g f2 g2 : Nat → Int32} {o : Nat} {v : Int32} : ∀ {E : LE} {p : Nat}, (∀ j, p ≤ j → j < p + E.length → f2 j = f j ∧ g2 j = g j) → cda c f g p E → f2 (p + E.length) = c o → g2 (p + E.length) = v → cda c f2 g2 p (E ++ [(o, v)])
  | [], p, _, _, h1, h2 => ⟨h1, h2, trivial⟩
  | (o', v') :: r, p, h, q, h1, h2 => by
    simp only [List.length_cons] at h h1 h2
    obtain ⟨a, b⟩ := h p (by omega) (by omega)
    rw [show p + (r.length + 1) = p + 1 + r.length by omega] at h1 h2
    exact ⟨a.trans q.1, b.trans q.2.1, cda_a (fun j h1 h2 => h j (by omega) (by omega)) q.2.2 h1 h2⟩
/-- the reference in the midst of an E -/
def ESt (s c0 : Nat) (w0 w : Mem) (t : Nat) (E : LE) (S : List Nat) (o : Nat) (f : Int32) : Prop :=
  (w 150 11 = nI t ∧ w 150 12 = nI o ∧ w 150 13 = f ∧ w 150 39 = nI (c0 + E.length) ∧ w 150 43 = nI S.length) ∧ cda nI (w 175) (w 176) c0 E ∧ wst (w 177) S ∧ frE s c0 w0 w ∧ c0 + E.length + S.length ≤ 420 * s + t
theorem r_is {K P V : Nat → Nat} {M t c : Nat} {r : Int32} {w : Mem} {wl : MemL} {Q : Int32 → Mem → MemL → Prop} (h : TKM K P V M w) (ht : t ≤ M) (h11 : w 150 11 = nI t) (h13 : w 150 13 = 0) (hc : kdB c = true) (hr : r = nI (rcF c)) (K1 : K t = c → Q 1 w wl) (K0 : ¬ K t = c → Q 0 w wl) : wp_12_is r w wl Q := by
  have hm := h.1
  obtain ⟨hk, e, _, _⟩ := h.2.2 t ht
  unfold wp_12_is
  rw [h13, h11]
  refine ⟨fun q => absurd rfl q, fun _ => ⟨vp_in_nI (by omega) (by decide), ?_⟩⟩
  rw [ix_nI (by omega), e, hr]
  have l1 := rc_lt (K t) (kd_lt hk)
  have l2 := rc_lt c (kd_lt hc)
  refine ⟨fun q => K0 (fun z => q (by rw [z])), fun q => K1 ((rc_inj hk hc).mp ((nI_eq (by omega) (by omega)).mp (Classical.not_not.mp q)))⟩
theorem r_isF {r : Int32} {w : Mem} {wl : MemL} {Q : Int32 → Mem → MemL → Prop} (h13 : ¬ w 150 13 = 0) (K0 : Q 0 w wl) : wp_12_is r w wl Q := by
  unfold wp_12_is
  exact ⟨fun _ => K0, fun q => absurd h13 q⟩
theorem r_failF {a : Int32} {x : Nat} {w : Mem} {wl : MemL} {Q : Mem → MemL → Prop} (h13 : w 150 13 = nI x) (hx : 0 < x) (hx2 : x < 10) (K0 : Q w wl) : wp_12_fail a w wl Q := by
  unfold wp_12_fail
  rw [h13]
  exact ⟨fun q => absurd ((nI_leI (b := 0) (by omega) (by omega)).mp q) (by omega), fun _ => K0⟩
theorem r_fail {a t : Nat} {w : Mem} {wl : MemL} {Q : Mem → MemL → Prop} (ht : t ≤ 400) (h11 : w 150 11 = nI t) (h13 : w 150 13 = 0) (K1 : Q (st (st w 150 13 (nI a)) 150 14 (w 154 t)) wl) : wp_12_fail (nI a) w wl Q := by
  unfold wp_12_fail
  rw [h13]
  refine ⟨fun _ w1 e1 => ?_, fun q => absurd (by decide) q⟩
  subst e1
  rw [st_nj (by decide), h11]
  refine ⟨vp_in_nI (by omega) (by decide), fun w3 e3 => ?_⟩
  rw [ix_nI (by omega), st_nk (by decide)] at e3
  subst e3
  exact K1
theorem r_goes {t : Nat} {w : Mem} {wl : MemL} {Q : Mem → MemL → Prop} (ht : t ≤ 400) (h11 : w 150 11 = nI t) (K1 : t < 400 → Q (st w 150 11 (nI (t + 1))) wl) (K0 : t = 400 → wp_12_fail (nI 2) w wl Q) : wp_12_goesOn w wl Q := by
  unfold wp_12_goesOn
  rw [h11]
  refine ⟨fun q w1 e1 => ?_, fun q => K0 ((nI_eq (by omega) (by omega)).mp (Classical.not_not.mp q))⟩
  rw [nI_1] at e1
  subst e1
  refine K1 ?_
  have : ¬ t = 400 := fun z => q (by rw [z]; rfl)
  omega
theorem r_emit {s c0 t o k : Nat} {v f : Int32} {w0 w : Mem} {wl : MemL} {E : LE} {S : List Nat} {Q : Mem → MemL → Prop} (hs : s ≤ 1) (ht : t ≤ 400) (hc : 420 * s ≤ c0) (h : ESt s c0 w0 w t E S o f) (hb : c0 + E.length + S.length < 420 * s + 420) (K : ∀ w2, (∀ S2 t2, c0 + (E.length + 1) + S2.length ≤ 420 * s + t2 → w2 150 43 = nI S2.length → w2 150 11 = nI t2 → wst (w2 177) S2 → ESt s c0 w0 w2 t2 (E ++ [(k, v)]) S2 o f) → w2 150 43 = w 150 43 → w2 177 = w 177 → w2 150 11 = w 150 11 → Q w2 wl) : wp_12_emit (nI k) v w wl Q := by
  obtain ⟨⟨h1, h2, h3, h4, h5⟩, h6, h7, h8, h9⟩ := h
  have iv : vp_in (nI (c0 + E.length)) 840 := vp_in_nI (by omega) (by decide)
  unfold wp_12_emit
  rw [h4, ix_nI (by omega)]
  refine ⟨iv, fun w2 e2 => ?_⟩
  have g2 : w2 150 39 = nI (c0 + E.length) := by subst e2; rw [st_nk (by decide)]; exact h4
  rw [g2, ix_nI (by omega)]
  refine ⟨iv, fun w4 e4 w5 e5 => ?_⟩
  have g4 : w4 150 39 = nI (c0 + E.length) := by subst e4; rw [st_nk (by decide)]; exact g2
  rw [g4, nI_1] at e5
  have r5 : ∀ a j, ¬ (a = 150 ∧ j = 39) → ¬ ((a = 175 ∨ a = 176) ∧ j = c0 + E.length) → w5 a j = w a j := by
    subst e5
    subst e4
    subst e2
    intro a j q1 q2
    simp only [st]
    rw [if_neg q1, if_neg (by omega), if_neg (by omega)]
  have z175 : w5 175 (c0 + E.length) = nI k := by
    subst e5
    subst e4
    subst e2
    rw [st_nk (by decide), st_nk (by decide), st_eq]
  have z176 : w5 176 (c0 + E.length) = v := by
    subst e5
    subst e4
    rw [st_nk (by decide), st_eq]
  have z39 : w5 150 39 = nI (c0 + E.length + 1) := by subst e5; exact st_eq
  refine K w5 (fun S2 t2 b2 a1 a2 a3 => ?_) (r5 150 43 (by omega) (by omega)) (funext (fun j => r5 177 j (by omega) (by omega))) (r5 150 11 (by omega) (by omega))
  refine ⟨⟨a2, (r5 150 12 (by omega) (by omega)).trans h2, (r5 150 13 (by omega) (by omega)).trans h3, ?_, a1⟩, ?_, a3, ?_, ?_⟩
  · rw [z39, List.length_append]
    rfl
  · exact cda_a (fun j q1 q2 => ⟨r5 175 j (by omega) (by omega), r5 176 j (by omega) (by omega)⟩) h6 z175 z176
  · intro a j q1 q2 q3
    rw [r5 a j (by omega) (by omega)]
    exact h8 a j q1 q2 q3
  · rw [List.length_append]
    exact b2
