/-! layer 2: what a text tells, as numbers; how each side holds it -/
abbrev LE : Type := List (Nat × Int32)
abbrev LB : Type := List (List (Nat × Int32) × List (Nat × Int32) × List (Nat × Int32))
/-- laws as functions of their variables; numbers; leans -/
abbrev TX : Type := (Nat → (Nat → Int32) → Int32) × (Nat → Nat → Nat) × (Nat → Int32)
abbrev tl (T : TX) (a : Nat) (V : Nat → Int32) : Int32 := T.1 a V
abbrev tn (T : TX) (k : Nat) : Nat := T.2.1 0 k
abbrev tm (T : TX) : Nat := T.2.1 1 0
abbrev tj (T : TX) : Nat := T.2.1 1 1
abbrev ta (T : TX) (r a : Nat) : Nat := T.2.1 (2 + r) a
abbrev te (T : TX) (j : Nat) : Int32 := T.2.2 j
def BT (T : TX) : Prop :=
  (100 ≤ tn T 0 ∧ tn T 0 ≤ 2500 ∧ tn T 1 ≤ 2500 ∧ tn T 2 ≤ 99 ∧ (∀ i, i < 5 → tn T (3 + i) ≤ 9)) ∧
  (tn T 8 ≤ 99 ∧ tn T 9 ≤ 30 ∧ tn T 10 ≤ 30 ∧ tn T 11 ≤ 300 ∧ tn T 12 ≤ 40 ∧ tn T 13 ≤ 99) ∧
  (1 ≤ tn T 14 ∧ tn T 14 ≤ 8 ∧ tn T 15 ≤ 9999 ∧ tm T ≤ 8 ∧ tj T ≤ 7) ∧
  (∀ a, a < tm T → 30 ≤ ta T 0 a ∧ ta T 0 a ≤ 120 ∧ 100 ≤ ta T 1 a ∧ ta T 1 a ≤ 300 ∧ ta T 2 a ≤ 9 ∧ ta T 3 a ≤ 9) ∧ (∀ j, j < tj T → ta T 4 j ≤ 9)
/-- what the class holds of a text at the cell t -/
def TC (t : Nat) (T : TX) (w : Mem) : Prop :=
  (∀ a, a < 5 → ∃ (Z : LE) (R : LB), lwC (t + 1 + 6 * a) w Z 0 0 R ∧ ∀ V, tl T a V = (telA V Z R).getD 0) ∧
  (∀ k, k < 3 → w t (7 + k) = nI (tn T k)) ∧ (∀ i, i < 5 → w (t + 31) i = nI (tn T (3 + i))) ∧ (∀ k, 8 ≤ k → k < 16 → w t (2 + k) = nI (tn T k)) ∧
  (w (t + 32) 6 = nI (tm T) ∧ w (t + 32) 7 = nI (tj T)) ∧
  (∀ r a, r < 4 → a < tm T → w (t + 33 + r) a = nI (ta T r a)) ∧ (∀ j, j < tj T → w (t + 37) j = te T j ∧ w (t + 38) j = nI (ta T 4 j))
/-- the law a if it isn't told -/
def dfT (T : TX) (a : Nat) (V : Nat → Int32) : Int32 := if a = 1 then nI (tn T 0) + 2 * V 2 + 5 * V 7 else if a = 3 then 170 else if a = 4 then 1 else 0
/-- what the reference holds of a text at the side s -/
def TRl (s a : Nat) (T : TX) (w : Mem) : Prop :=
  (w 168 (5 * s + a) = w 169 (5 * s + a) ∧ ∀ V, tl T a V = dfT T a V) ∨
  (∃ (i N : Nat) (Z : LE) (R : LB), w 168 (5 * s + a) = nI i ∧ w 169 (5 * s + a) = nI N ∧ i ≠ N ∧ 130 * s ≤ i ∧ N ≤ 130 * s + 130 ∧ lwR (420 * s) (420 * s + 420) w Z i N R ∧ ∀ V, tl T a V = (telA V Z R).getD 0)
def TR (s : Nat) (T : TX) (w : Mem) : Prop :=
  (∀ a, a < 5 → TRl s a T w) ∧ (∀ k, k < 16 → w 159 (20 * s + k) = nI (tn T k)) ∧
  (w 160 s = nI (tm T) ∧ w 165 s = nI (tj T)) ∧
  (∀ r a, r < 4 → a < tm T → w (161 + r) (8 * s + a) = nI (ta T r a)) ∧ (∀ j, j < tj T → w 166 (7 * s + j) = te T j ∧ w 167 (7 * s + j) = nI (ta T 4 j))

/-- what flights of the class may write -/
abbrev scC (a j : Nat) : Prop :=
  (a = 53 ∧ j < 2) ∨ a = 54 ∨ (a = 49 ∧ j = 7) ∨ (a = 59 ∧ 2 ≤ j ∧ j < 8) ∨ a = 60 ∨ (a = 55 ∧ j = 7) ∨ (a = 65 ∧ j = 2) ∨ a = 66 ∨ (a = 61 ∧ j = 7) ∨
  (a = 71 ∧ (j = 2 ∨ j = 5 ∨ j = 8 ∨ j = 9 ∨ j = 10)) ∨ a = 72 ∨ (a = 67 ∧ j = 7) ∨ (a = 77 ∧ (j = 0 ∨ j = 2 ∨ j = 3 ∨ j = 4)) ∨ a = 78 ∨ (a = 73 ∧ j = 7) ∨ (a = 87 ∧ 3 ≤ j) ∨ a = 88
/-- the variables of a law that its callers never set are 0 -/
def ZV (w : Mem) : Prop := ∀ a j, a < 5 → j < 11 → ¬ scC (53 + 6 * a) j → w (53 + 6 * a) j = 0
/-- as w0 but for a flight: true wind, mean wind, length, style, points, marks -/
def CF (w0 : Mem) (tw mw ln sy po : Int32) (mk : Nat → Int32) (w : Mem) : Prop :=
  (∀ a j, ¬ scC a j → w a j = w0 a j) ∧ (w 87 3 = tw ∧ w 87 4 = mw ∧ w 87 5 = ln ∧ w 87 6 = sy ∧ w 87 7 = po) ∧ ∀ j, j < 7 → w 88 j = mk j
theorem cf_row {w0 w : Mem} {tw mw ln sy po : Int32} {mk : Nat → Int32} (h : CF w0 tw mw ln sy po mk w) (a : Nat) (ha : ∀ j, ¬ scC a j) : w a = w0 a := funext (fun j => h.1 a j (ha j))
theorem cf_st {w0 w : Mem} {tw mw ln sy po v : Int32} {mk : Nat → Int32} {a j : Nat} (h : CF w0 tw mw ln sy po mk w) (hs : scC a j) (h7 : a ≠ 87) (h8 : a ≠ 88) : CF w0 tw mw ln sy po mk (st w a j v) := by
  refine ⟨fun b i hb => ?_, ?_, fun i hi => ?_⟩
  · simp only [st]
    rw [if_neg (fun q => hb (by rw [q.1, q.2]; exact hs))]
    exact h.1 b i hb
  · rw [st_ne 87 (Ne.symm h7)]
    exact h.2.1
  · rw [st_ne 88 (Ne.symm h8)]
    exact h.2.2 i hi
theorem cf_fr {w0 w w2 : Mem} {tw mw ln sy po : Int32} {mk : Nat → Int32} {a : Nat} (h : CF w0 tw mw ln sy po mk w) (ha : a < 5) (f : frC (49 + 6 * a) w w2) : CF w0 tw mw ln sy po mk w2 := by
  have e : ∀ b i, ¬ (b = 49 + 6 * a + 5) → ¬ (b = 49 + 6 * a ∧ i = 7) → w2 b i = w b i := fun b i h1 h2 => f b h1 i h2
  refine ⟨fun b i hb => (e b i (by simp only [scC] at hb; omega) (by simp only [scC] at hb; omega)).trans (h.1 b i hb), ?_, fun i hi => (e 88 i (by omega) (by omega)).trans (h.2.2 i hi)⟩
  rw [e 87 3 (by omega) (by omega), e 87 4 (by omega) (by omega), e 87 5 (by omega) (by omega), e 87 6 (by omega) (by omega), e 87 7 (by omega) (by omega)]
  exact h.2.1
theorem cf_law {T : TX} {w0 w : Mem} {tw mw ln sy po : Int32} {mk : Nat → Int32} {a : Nat} (h : CF w0 tw mw ln sy po mk w) (hT : TC 48 T w0) (ha : a < 5) : ∃ (Z : LE) (R : LB), lwC (49 + 6 * a) w Z 0 0 R ∧ ∀ V, tl T a V = (telA V Z R).getD 0 := by
  obtain ⟨Z, R, h1, h2⟩ := hT.1 a ha
  exact ⟨Z, R, lwC_cg (cf_row h _ (fun j => by simp only [scC]; omega)) (cf_row h _ (fun j => by simp only [scC]; omega)) (cf_row h _ (fun j => by simp only [scC]; omega)) (h.1 _ 6 (by simp only [scC]; omega)) R 0 0 h1, h2⟩
/-- the class asks its law a -/
theorem c_ask {T : TX} {w0 w : Mem} {tw mw ln sy po : Int32} {mk : Nat → Int32} {V : Nat → Int32} {Q : Int32 → Mem → Prop} (a : Nat) {k : Nat} (hk : k = 49 + 6 * a) (ha : a < 5) (hT : TC 48 T w0) (h : CF w0 tw mw ln sy po mk w) (hV : ∀ j, j < 11 → w (k + 4) j = V j)
    (K : ∀ w2, CF w0 tw mw ln sy po mk w2 → w2 (k + 4) = w (k + 4) → Q (tl T a V) w2) : wp_2_tells k w Q := by
  subst hk
  obtain ⟨Z, R, h1, h2⟩ := cf_law h hT ha
  refine c_tells (V := V) h1 hV (fun w2 f => ?_)
  rw [← h2 V]
  exact K w2 (cf_fr h ha f) (funext (fun j => f (49 + 6 * a + 4) (by omega) j (by omega)))

/-- what jumps of the reference may write -/
abbrev scR (a j : Nat) : Prop := a = 178 ∨ a = 179 ∨ a = 182 ∨ (a = 150 ∧ (j = 46 ∨ (51 ≤ j ∧ j < 64 ∧ j ≠ 61)))
def RF (w0 w : Mem) : Prop := ∀ a j, ¬ scR a j → w a j = w0 a j
theorem rf_re (w : Mem) : RF w w := fun _ _ _ => rfl
theorem rf_tr {w0 w w2 : Mem} (h : RF w0 w) (h2 : RF w w2) : RF w0 w2 := fun a j q => (h2 a j q).trans (h a j q)
theorem rf_row {w0 w : Mem} (h : RF w0 w) (a : Nat) (ha : ∀ j, ¬ scR a j) : w a = w0 a := funext (fun j => h a j (ha j))
theorem rf_st {w0 w : Mem} {a j : Nat} {v : Int32} (h : RF w0 w) (hs : scR a j) : RF w0 (st w a j v) := by
  intro b i hb
  simp only [st]
  rw [if_neg (fun q => hb (by rw [q.1, q.2]; exact hs))]
  exact h b i hb
theorem rf_fr {w0 w w2 : Mem} (h : RF w0 w) (f : frR w w2) : RF w0 w2 := fun a j q => (f a (by simp only [scR] at q; omega) j (by simp only [scR] at q; omega)).trans (h a j q)
theorem rf_fo {w0 w w2 : Mem} (h : RF w0 w) (f : frO 178 w w2) : RF w0 w2 := fun a j q => (congrFun (f a (by simp only [scR] at q; omega)) j).trans (h a j q)
theorem pcR_rw {cl ch : Nat} {w w2 : Mem} {f g : Int32} {E : LE} (h5 : w2 175 = w 175) (h6 : w2 176 = w 176) (q : pcR cl ch w f g E) : pcR cl ch w2 f g E := by
  unfold pcR at q ⊢
  rw [h5, h6]
  exact q
theorem lwR_rw {cl ch : Nat} {w w2 : Mem} {Z : LE} (h : ∀ b, 170 ≤ b → b ≤ 176 → w2 b = w b) : ∀ (R : LB) (i N : Nat), lwR cl ch w Z i N R → lwR cl ch w2 Z i N R
  | [], i, N, q => by
    refine ⟨?_, ?_, q.2.2⟩
    · rw [h 170 (by decide) (by decide)]; exact q.1
    · rw [h 173 (by decide) (by decide), h 174 (by decide) (by decide)]; exact pcR_rw (h _ (by decide) (by decide)) (h _ (by decide) (by decide)) q.2.1
  | (A, B, C) :: r, i, N, q => by
    obtain ⟨q0, q1, q2, q3, q4, q5⟩ := q
    refine ⟨?_, ?_, ?_, ?_, q4, lwR_rw h r _ _ q5⟩
    · rw [h 170 (by decide) (by decide)]; exact q0
    · rw [h 171 (by decide) (by decide), h 172 (by decide) (by decide)]; exact pcR_rw (h _ (by decide) (by decide)) (h _ (by decide) (by decide)) q1
    · rw [h 172 (by decide) (by decide), h 173 (by decide) (by decide)]; exact pcR_rw (h _ (by decide) (by decide)) (h _ (by decide) (by decide)) q2
    · rw [h 173 (by decide) (by decide), h 174 (by decide) (by decide)]; exact pcR_rw (h _ (by decide) (by decide)) (h _ (by decide) (by decide)) q3
theorem tr_rf {s : Nat} {T : TX} {w0 w : Mem} (h : TR s T w0) (f : ∀ b, b ≠ 150 → b ≠ 178 → b ≠ 179 → b < 180 → w b = w0 b) : TR s T w := by
  obtain ⟨h1, h2, h3, h4, h5⟩ := h
  refine ⟨fun a ha => ?_, ?_, ?_, ?_, ?_⟩
  · have q := h1 a ha
    unfold TRl at q ⊢
    rw [f 168 (by decide) (by decide) (by decide) (by decide), f 169 (by decide) (by decide) (by decide) (by decide)]
    rcases q with q | ⟨i, N, Z, R, a1, a2, a3, a4, a5, a6, a7⟩
    · exact Or.inl q
    · exact Or.inr ⟨i, N, Z, R, a1, a2, a3, a4, a5, lwR_rw (fun b hb hb2 => f b (by omega) (by omega) (by omega) (by omega)) R i N a6, a7⟩
  · rw [f 159 (by decide) (by decide) (by decide) (by decide)]; exact h2
  · rw [f 160 (by decide) (by decide) (by decide) (by decide), f 165 (by decide) (by decide) (by decide) (by decide)]; exact h3
  · intro r a hr ha; rw [f (161 + r) (by omega) (by omega) (by omega) (by omega)]; exact h4 r a hr ha
  · rw [f 166 (by decide) (by decide) (by decide) (by decide), f 167 (by decide) (by decide) (by decide) (by decide)]; exact h5
theorem rf_text {s : Nat} {T : TX} {w0 w : Mem} (h : TR s T w0) (f : RF w0 w) : TR s T w :=
  tr_rf h (fun b h1 h2 h3 h4 => rf_row f b (fun j => by simp only [scR]; omega))
/-- the reference asks its law a -/
theorem r_ask {T : TX} {w : Mem} {wl : MemL} {V : Nat → Int32} {s : Nat} {lo hi d : Int32} {Q : Int32 → Mem → MemL → Prop} (a : Nat) (ha : a < 5) (hl : lo ≤ hi) (hs : s < 2) (h18 : w 150 18 = nI s) (hT : TR s T w) (hV : ∀ j, j < 11 → w 178 j = V j) (hd : d = dfT T a V)
    (K : ∀ w2, frR w w2 → Q (mx lo (mn hi (tl T a V))) w2 wl) : wp_12_tells (nI a) d lo hi w wl Q := by
  intro x1 e1
  rw [h18, show (5 : Int32) = nI 5 from rfl, pk_mul, nI_add] at e1
  subst e1
  have hx : 5 * s + a < 10 := by omega
  have iv : vp_in (nI (5 * s + a)) 10 := pk_in _ 10 hx
  refine ⟨iv, iv, ?_⟩
  rw [ix_nI (by omega)]
  rcases hT.1 a ha with ⟨h1, h2⟩ | ⟨i, N, Z, R, h1, h2, h3, h5, h6, h4, h7⟩
  · refine ⟨fun q => absurd h1 q, fun _ => s_heldR hl ?_⟩
    rw [hd, ← h2 V]
    exact K w (fun _ _ _ _ => rfl)
  · obtain ⟨l1, l2, l3⟩ := lwR_lt _ _ _ h4
    refine ⟨fun _ w4 e4 => ?_, fun q => absurd (Classical.not_not.mp q) ?_⟩
    · subst e4
      have f : frR w (st w 150 46 0) := fun b hb j hj => by simp only [st]; exact if_neg hj
      refine ⟨iv, fun x6 e6 => ?_⟩
      rw [frR_row f 168 (by decide) (by decide), h1] at e6
      subst e6
      refine ⟨R.length + 1, r_tells49 (V := V) hl hx R i _ (lwR_fr f R _ _ h4) ?_ st_eq (fun j hj => (f 178 (by decide) j (by omega)).trans (hV j hj)) (fun w2 f2 => ?_)⟩
      · rw [frR_row f 169 (by decide) (by decide)]
        exact h2
      · rw [← h7 V]
        exact K w2 (frR_tr f f2)
    · rw [h1, h2]
      exact fun q => h3 ((nI_eq (by omega) (by omega)).mp q)
