/-! a TELL in the reference -/
theorem pcR_up {cl ch ch2 : Nat} {w : Mem} {f g : Int32} {E : LE} (h : ch ≤ ch2) (h2 : ch2 ≤ 840) (q : pcR cl ch w f g E) : pcR cl ch2 w f g E := by
  obtain ⟨a, h1, h3, h4, h5, h6, h7⟩ := q
  exact ⟨a, h1, h3, h4, by omega, h2, h7⟩
theorem pcR_lo {cl ch : Nat} {w w2 : Mem} {f g : Int32} {E : LE} (h : ∀ b j, (b = 175 ∨ b = 176) → j < ch → w2 b j = w b j) (q : pcR cl ch w f g E) : pcR cl ch w2 f g E := by
  obtain ⟨a, h1, h3, h4, h5, h6, h7, h8⟩ := q
  exact ⟨a, h1, h3, h4, h5, h6, cda_x (fun j q1 q2 => ⟨h 175 j (Or.inl rfl) (by omega), h 176 j (Or.inr rfl) (by omega)⟩) h7, h8⟩
theorem lwR_lo {cl ch ch2 : Nat} {w w2 : Mem} {Z : LE} (hc : ch ≤ ch2) (hc2 : ch2 ≤ 840) : ∀ (R : LB) (i N : Nat), (∀ b j, 170 ≤ b → b ≤ 174 → j < N → w2 b j = w b j) → (∀ b j, (b = 175 ∨ b = 176) → j < ch → w2 b j = w b j) → lwR cl ch w Z i N R → lwR cl ch2 w2 Z i N R
  | [], i, N, h, h2, q => by
    obtain ⟨q0, q1, q2, q3⟩ := q
    refine ⟨?_, ?_, q2, q3⟩
    · rw [h 170 i (by decide) (by decide) (by omega)]; exact q0
    · rw [h 173 i (by decide) (by decide) (by omega), h 174 i (by decide) (by decide) (by omega)]; exact pcR_up hc hc2 (pcR_lo h2 q1)
  | (A, B, C) :: r, i, N, h, h2, q => by
    obtain ⟨q0, q1, q2, q3, q4, q5⟩ := q
    obtain ⟨l1, l2, l3⟩ := lwR_lt _ _ _ q5
    refine ⟨?_, ?_, ?_, ?_, q4, lwR_lo hc hc2 r _ _ h h2 q5⟩
    · rw [h 170 i (by decide) (by decide) (by omega)]; exact q0
    · rw [h 171 i (by decide) (by decide) (by omega), h 172 i (by decide) (by decide) (by omega)]; exact pcR_up hc hc2 (pcR_lo h2 q1)
    · rw [h 172 i (by decide) (by decide) (by omega), h 173 i (by decide) (by decide) (by omega)]; exact pcR_up hc hc2 (pcR_lo h2 q2)
    · rw [h 173 i (by decide) (by decide) (by omega), h 174 i (by decide) (by decide) (by omega)]; exact pcR_up hc hc2 (pcR_lo h2 q3)
/-- what reading a text into the side s may write in the reference -/
abbrev wrR (s a j : Nat) : Prop := a = 177 ∨ (a = 150 ∧ (j = 11 ∨ j = 12 ∨ j = 13 ∨ j = 14 ∨ j = 15 ∨ j = 16 ∨ j = 20 ∨ j = 33 ∨ j = 39 ∨ j = 43)) ∨ (a = 159 ∧ 20 * s ≤ j ∧ j < 20 * s + 20) ∨ ((a = 160 ∨ a = 165) ∧ j = s) ∨
  ((161 ≤ a ∧ a ≤ 164) ∧ 8 * s ≤ j ∧ j < 8 * s + 8) ∨ ((a = 166 ∨ a = 167) ∧ 7 * s ≤ j ∧ j < 7 * s + 7) ∨ ((a = 168 ∨ a = 169) ∧ 5 * s ≤ j ∧ j < 5 * s + 5) ∨ ((170 ≤ a ∧ a ≤ 174) ∧ 130 * s ≤ j ∧ j < 130 * s + 130) ∨ ((a = 175 ∨ a = 176) ∧ 420 * s ≤ j ∧ j < 420 * s + 420)
def FR (s : Nat) (w w2 : Mem) : Prop := ∀ a j, ¬ wrR s a j → w2 a j = w a j
def FRL (wl wl2 : MemL) : Prop := ∀ a, a ≠ 158 → wl2 a = wl a
theorem frx_tr {s : Nat} {w w2 w3 : Mem} (h : FR s w w2) (h2 : FR s w2 w3) : FR s w w3 := fun a j p => (h2 a j p).trans (h a j p)
theorem frx_st {s a j : Nat} {v : Int32} {w w2 : Mem} (h : FR s w w2) (hw : wrR s a j) : FR s w (st w2 a j v) := by
  intro b i p
  simp only [st]
  rw [if_neg (fun q => p (by rw [q.1, q.2]; exact hw))]
  exact h b i p
/-- a fault of the reference -/
def ER (P : Nat → Nat) (s : Nat) (w0 : Mem) (wl0 : MemL) (kd tok : Nat) (w : Mem) (wl : MemL) : Prop := FR s w0 w ∧ FRL wl0 wl ∧ w 150 13 = nI kd ∧ w 150 14 = nI (P tok) ∧ w 150 19 = nI s ∧ (kd = 1 ∨ kd = 2) ∧ ∃ t, t ≤ 400 ∧ w 150 11 = nI t
theorem er_13 {P : Nat → Nat} {s kd tok : Nat} {w0 w : Mem} {wl0 wl : MemL} (h : ER P s w0 wl0 kd tok w wl) : ¬ w 150 13 = 0 := by
  have hk := h.2.2.2.2.2.1
  rw [h.2.2.1]
  exact nI_ne0 (by omega) (by omega)
theorem er_st {P : Nat → Nat} {s kd tok a j : Nat} {v : Int32} {w0 w : Mem} {wl0 wl : MemL} (h : ER P s w0 wl0 kd tok w wl) (hw : wrR s a j) (ha : a ≠ 150) : ER P s w0 wl0 kd tok (st w a j v) wl := by
  obtain ⟨h1, h2, h3, h4, h5, h6, t, h7, h8⟩ := h
  refine ⟨frx_st h1 hw, h2, ?_, ?_, ?_, h6, t, h7, ?_⟩ <;> (rw [st_nk (Ne.symm ha)]; assumption)
theorem er_must {P : Nat → Nat} {s kd tok : Nat} {a : Int32} {w0 w : Mem} {wl0 wl : MemL} {Q : Mem → MemL → Prop} (h : ER P s w0 wl0 kd tok w wl) (K : Q w wl) : wp_12_must a w wl Q := by
  have hk := h.2.2.2.2.2.1
  unfold wp_12_must
  exact r_isF (er_13 h) (t0 (r_failF h.2.2.1 (by omega) (by omega) K))
theorem er_bounded {P : Nat → Nat} {s kd tok : Nat} {a b : Int32} {w0 w : Mem} {wl0 wl : MemL} {Q : Int32 → Mem → MemL → Prop} (h : ER P s w0 wl0 kd tok w wl) (K : Q a w wl) : wp_12_bounded a b w wl Q := by
  have hk := h.2.2.2.2.2.1
  unfold wp_12_bounded
  rw [h.2.2.1]
  exact ⟨fun _ => r_failF h.2.2.1 (by omega) (by omega) K, fun q => absurd ((nI_leI (b := 0) (by omega) (by omega)).mp (nlt.mp q)) (by omega)⟩
theorem er_number {P : Nat → Nat} {s kd tok : Nat} {k a b : Int32} {w0 w : Mem} {wl0 wl : MemL} {Q : Mem → MemL → Prop} (h : ER P s w0 wl0 kd tok w wl) (K : Q w wl) : wp_12_tellNumber k a b w wl Q := by
  unfold wp_12_tellNumber
  exact er_bounded h ⟨fun _ => K, fun q => absurd (Classical.not_not.mp q) (er_13 h)⟩
def OLr (s iB c a : Nat) (w : Mem) : Option (LE × LB) → Prop
  | none => w 168 (5 * s + a) = w 169 (5 * s + a)
  | some (Z, R) => ∃ i N, w 168 (5 * s + a) = nI i ∧ w 169 (5 * s + a) = nI N ∧ 130 * s ≤ i ∧ N ≤ iB ∧ lwR (420 * s) c w Z i N R
/-- the reference's side s holds what S tells -/
def RX (s iB c : Nat) (S : PS) (w : Mem) : Prop :=
  (∀ a, a < 5 → OLr s iB c a w (sL S a)) ∧ (∀ k, k < 16 → w 159 (20 * s + k) = nI (sN S 0 k)) ∧
  (w 160 s = nI (sN S 1 0) ∧ w 165 s = nI (sN S 1 1)) ∧
  (∀ r a, r < 4 → a < sN S 1 0 → w (161 + r) (8 * s + a) = nI (sN S (2 + r) a)) ∧ (∀ j, j < sN S 1 1 → w 166 (7 * s + j) = sE S j ∧ w 167 (7 * s + j) = nI (sN S 6 j))
theorem ol_r {s iB c iB2 c2 a : Nat} {w w2 : Mem} (hi : iB ≤ iB2) (hc : c ≤ c2) (hc2 : c2 ≤ 840) (h8 : w2 168 (5 * s + a) = w 168 (5 * s + a)) (h9 : w2 169 (5 * s + a) = w 169 (5 * s + a)) (f1 : ∀ b j, 170 ≤ b → b ≤ 174 → j < iB → w2 b j = w b j) (f2 : ∀ b j, (b = 175 ∨ b = 176) → j < c → w2 b j = w b j) : ∀ {o : Option (LE × LB)}, OLr s iB c a w o → OLr s iB2 c2 a w2 o
  | none, h => h8.trans (h.trans h9.symm)
  | some (Z, R), ⟨i, N, h1, h2, h3, h4, h5⟩ => ⟨i, N, h8.trans h1, h9.trans h2, h3, by omega, lwR_lo hc hc2 R i N (fun b j q1 q2 q3 => f1 b j q1 q2 (by omega)) f2 h5⟩
theorem rx_fr {s iB c : Nat} {S : PS} {w w2 : Mem} (hc : c ≤ 840) (h : RX s iB c S w) (f : ∀ a, 159 ≤ a → a ≤ 176 → w2 a = w a) : RX s iB c S w2 := by
  obtain ⟨h1, h2, h3, h4, h5⟩ := h
  refine ⟨fun a ha => ol_r (Nat.le_refl _) (Nat.le_refl _) hc (congrFun (f 168 (by decide) (by decide)) _) (congrFun (f 169 (by decide) (by decide)) _) (fun b j q1 q2 _ => congrFun (f b (by omega) (by omega)) j) (fun b j q1 _ => congrFun (f b (by omega) (by omega)) j) (h1 a ha), ?_, ?_, fun r a hr ha => ?_, ?_⟩
  · rw [f 159 (by decide) (by decide)]; exact h2
  · rw [f 160 (by decide) (by decide), f 165 (by decide) (by decide)]; exact h3
  · rw [f (161 + r) (by omega) (by omega)]; exact h4 r a hr ha
  · rw [f 166 (by decide) (by decide), f 167 (by decide) (by decide)]; exact h5
/-- the reference in the midst of a text -/
def GR (K P V NM : Nat → Nat) (M s : Nat) (w0 : Mem) (wl0 : MemL) (t : Nat) (S : PS) (w : Mem) (wl : MemL) : Prop := ∃ iB c,
  (TKM K P V M w ∧ t ≤ M ∧ s ≤ 1) ∧ ((w 150 11 = nI t ∧ w 150 12 = 0 ∧ w 150 13 = 0 ∧ w 150 33 = nI iB ∧ w 150 39 = nI c ∧ w 150 19 = nI s) ∧ 420 * s ≤ c ∧ c ≤ 420 * s + t ∧ 130 * s ≤ iB ∧ 4 * iB ≤ 520 * s + t) ∧ RX s iB c S w ∧
  (LFr P (sF S) w ∧ ∀ k0 t0, sF S = some (k0, t0) → t0 < t) ∧
  (w 150 20 = nI (sM S).length ∧ (∀ i x, (sM S)[i]? = some x → wl 158 i = lN (NM x)) ∧ (∀ x, x ∈ sM S → x ≤ M ∧ K x = 2) ∧ ∀ j, j ≤ M → K j = 2 → wl 156 j = lN (NM j) ∧ NM j < 2 ^ 63) ∧ FR s w0 w ∧ FRL wl0 wl
def RGX (K P V NM : Nat → Nat) (M s : Nat) (w0 : Mem) (wl0 : MemL) (Q : Mem → MemL → Prop) (r : Except (Nat × Nat) (Nat × PS)) : Prop := match r with
  | .error (kd, tok) => ∀ w2 wl2, ER P s w0 wl0 kd tok w2 wl2 → Q w2 wl2
  | .ok (t2, S2) => ∀ w2 wl2, GR K P V NM M s w0 wl0 t2 S2 w2 wl2 → Q w2 wl2
theorem tkm_i {K P V : Nat → Nat} {M : Nat} {w w2 : Mem} (h : TKM K P V M w) (f : ∀ a, 153 ≤ a → a ≤ 155 → w2 a = w a) : TKM K P V M w2 := by
  refine ⟨h.1, h.2.1, fun j hj => ?_⟩
  rw [f 153 (by decide) (by decide), f 154 (by decide) (by decide), f 155 (by decide) (by decide)]
  exact h.2.2 j hj
/-- the reference goes on behind a token -/
theorem gr_11 {K P V NM : Nat → Nat} {M s t t2 : Nat} {S : PS} {lf : LFt} {w0 w w2 : Mem} {wl0 wl : MemL} (h : GR K P V NM M s w0 wl0 t S w wl) (f : ∀ a j, ¬ (a = 150 ∧ (j = 11 ∨ j = 15 ∨ j = 16)) → w2 a j = w a j) (h11 : w2 150 11 = nI t2) (h2 : t ≤ t2) (h3 : t2 ≤ M) (hl : LFr P lf w2) (hlt : ∀ k0 t0, lf = some (k0, t0) → t0 < t2) : GR K P V NM M s w0 wl0 t2 (sL S, sN S, sE S, sM S, lf) w2 wl := by
  obtain ⟨iB, c, ⟨a1, a2, a3⟩, ⟨⟨b1, b2, b3, b4, b5, b6⟩, d1, d2, d3, d4⟩, e, _, ⟨g1, g2, g3, g4⟩, l1, l2⟩ := h
  have hm := a1.1
  have r : ∀ a, a ≠ 150 → w2 a = w a := fun a q => funext (fun j => f a j (by omega))
  refine ⟨iB, c, ⟨tkm_i a1 (fun a q1 q2 => r a (by omega)), h3, a3⟩, ⟨⟨h11, (f 150 12 (by omega)).trans b2, (f 150 13 (by omega)).trans b3, (f 150 33 (by omega)).trans b4, (f 150 39 (by omega)).trans b5, (f 150 19 (by omega)).trans b6⟩, d1, by omega, d3, by omega⟩, rx_fr (by omega) e (fun a q1 q2 => r a (by omega)), ⟨hl, hlt⟩, ⟨(f 150 20 (by omega)).trans g1, g2, g3, g4⟩, frx_tr l1 (fun a j q => f a j (by simp only [wrR] at q; omega)), l2⟩
theorem er_new {K P V NM : Nat → Nat} {M s t t2 kd : Nat} {S : PS} {w0 w w2 : Mem} {wl0 wl : MemL} (h : GR K P V NM M s w0 wl0 t S w wl) (hk : kd = 1 ∨ kd = 2) (f : ∀ a j, ¬ (a = 150 ∧ (j = 11 ∨ j = 13 ∨ j = 14 ∨ j = 15 ∨ j = 16)) → w2 a j = w a j) (h11 : w2 150 11 = nI t2) (h2 : t2 ≤ 400) (h13 : w2 150 13 = nI kd) (h14 : w2 150 14 = nI (P t2)) : ER P s w0 wl0 kd t2 w2 wl := by
  obtain ⟨iB, c, ⟨a1, a2, a3⟩, ⟨⟨b1, b2, b3, b4, b5, b6⟩, d1, d2, d3, d4⟩, e, _, ⟨g1, g2, g3, g4⟩, l1, l2⟩ := h
  exact ⟨frx_tr l1 (fun a j q => f a j (by simp only [wrR] at q; omega)), l2, h13, h14, (f 150 19 (by omega)).trans b6, hk, t2, h2, h11⟩
/-- an INT in the reference -/
theorem r_gi {K P V NM : Nat → Nat} {M s t lo hi : Nat} {S : PS} {w0 w : Mem} {wl0 wl : MemL} {Q : Int32 → Mem → MemL → Prop} (hV : ∀ j, K j = 3 → V j < 2 ^ 20) (hP : ∀ i j, i < j → j ≤ M → P i < P j) (hP2 : ∀ i, P i < 2 ^ 20) (hlo : lo < 2 ^ 20) (hhi : hi < 2 ^ 20) (g : GR K P V NM M s w0 wl0 t S w wl)
    (KE : ∀ kd, inP K V lo hi t (sF S) = .error (kd, t) → ∀ x w2, ER P s w0 wl0 kd t w2 wl → Q x w2 wl)
    (KO : ∀ lf2, inP K V lo hi t (sF S) = .ok (t + 1, lf2) → ∀ w2, (∀ a, a ≠ 150 → w2 a = w a) → GR K P V NM M s w0 wl0 (t + 1) (sL S, sN S, sE S, sM S, lf2) w2 wl → Q (nI (V t)) w2 wl) : wp_12_bounded (nI lo) (nI hi) w wl Q := by
  have g0 := g
  obtain ⟨iB, c, ⟨a1, a2, a3⟩, ⟨⟨b1, b2, b3, b4, b5, b6⟩, d1, d2, d3, d4⟩, e, ⟨lf, lt⟩, _, _, _⟩ := g
  have hm := a1.1
  refine r_int a1 hV a2 b1 b3 hlo hhi lf (fun k0 t0 q => hP t0 t (lt k0 t0 q) a2) (hP2 t) (fun kd hk er x w2 f2 h11 h13 h14 => ?_) (fun lf2 er m1 w2 f2 h11 h13 h14 l2 => ?_)
  · exact KE kd er x w2 (er_new g0 hk (fun a j q => f2 a j (by omega)) h11 (by omega) h13 h14)
  · refine KO lf2 er w2 (fun a q => funext (fun j => f2 a j (by omega))) (gr_11 g0 (fun a j q => ?_) h11 (by omega) m1 l2 (fun k0 t0 q => ?_))
    · by_cases z : a = 150 ∧ (j = 13 ∨ j = 14)
      · rcases z with ⟨rfl, rfl | rfl⟩
        · rw [h13, b3]
        · exact h14
      · exact f2 a j (by omega)
    · unfold inP at er
      split at er
      · split at er
        · have := (Prod.mk.inj (Except.ok.inj er)).2
          split at this
          · have := lt k0 t0 (this.trans q); omega
          · cases hs : sF S with
            | none =>
              rw [hs, q] at this
              have := (Prod.mk.inj (Option.some.inj this)).2
              omega
            | some y =>
              rw [hs, q] at this
              have := lt k0 t0 (hs.trans this)
              omega
        · cases er
      · cases er
