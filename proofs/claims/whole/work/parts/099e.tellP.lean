/-! what a TELL tells, in no side's words: laws; numbers (row 0 as told, row 1 men and judges, rows 2..5 the men's, row 6 the judges'); leans; the NAMES' tokens; the later fault -/
abbrev PS : Type := (Nat → Option (LE × LB)) × (Nat → Nat → Nat) × (Nat → Int32) × List Nat × LFt
abbrev sL (S : PS) : Nat → Option (LE × LB) := S.1
abbrev sN (S : PS) : Nat → Nat → Nat := S.2.1
abbrev sE (S : PS) : Nat → Int32 := S.2.2.1
abbrev sM (S : PS) : List Nat := S.2.2.2.1
abbrev sF (S : PS) : LFt := S.2.2.2.2
def up2 (N : Nat → Nat → Nat) (r k v : Nat) : Nat → Nat → Nat := fun a b => if a = r ∧ b = k then v else N a b
def upL (L : Nat → Option (LE × LB)) (a : Nat) (x : LE × LB) : Nat → Option (LE × LB) := fun b => if b = a then some x else L b
def upE (E : Nat → Int32) (a : Nat) (x : Int32) : Nat → Int32 := fun b => if b = a then x else E b
def numP (K V : Nat → Nat) : List (Nat × Nat × Nat) → Nat → PS → Except (Nat × Nat) (Nat × PS)
  | [], t, S => .ok (t, S)
  | (k, lo, hi) :: r, t, S => bnd (inP K V lo hi t (sF S)) fun x => numP K V r x.1 (sL S, up2 (sN S) 0 k (V t), sE S, sM S, x.2)
def nsL (k : Nat) : List (Nat × Nat × Nat) :=
  if k = 128 then [(0, 100, 2500), (1, 100, 2500), (2, 0, 99)] else if k = 134 then [(3, 0, 9), (4, 0, 9), (5, 0, 9), (6, 0, 9), (7, 0, 9)] else
  if k = 137 then [(8, 0, 99)] else if k = 138 then [(9, 0, 30)] else if k = 139 then [(10, 0, 30), (11, 1, 300)] else
  if k = 140 then [(12, 0, 40), (13, 0, 99)] else if k = 141 then [(14, 1, 8)] else [(15, 0, 9999)]
/-- whether a NAME before has the same letters -/
def sameB (NM : Nat → Nat) (M : List Nat) (t : Nat) : Bool := M.any (fun x => decide (NM x = NM t))
def nmF (NM : Nat → Nat) (t : Nat) (S : PS) : LFt := if sameB NM (sM S) t = true then noP (sF S) 3 t else sF S
def manP (K V NM : Nat → Nat) (t : Nat) (S : PS) : Except (Nat × Nat) (Nat × PS) :=
  bnd (tkP K 2 t) fun t1 => bnd (inP K V 30 120 t1 (nmF NM t S)) fun a => bnd (inP K V 100 300 a.1 a.2) fun b => bnd (inP K V 0 9 b.1 b.2) fun c => bnd (inP K V 0 9 c.1 c.2) fun d =>
  .ok (d.1, sL S, up2 (up2 (up2 (up2 (up2 (sN S) 2 (sN S 1 0) (V t1)) 3 (sN S 1 0) (V a.1)) 4 (sN S 1 0) (V b.1)) 5 (sN S 1 0) (V c.1)) 1 0 (sN S 1 0 + 1), sE S, sM S ++ [t], d.2)
def judP (K V NM : Nat → Nat) (t : Nat) (S : PS) : Except (Nat × Nat) (Nat × PS) :=
  bnd (tkP K 2 t) fun t1 => bnd (if K t1 = 45 then tkP K 45 t1 else .ok t1) fun t2 => bnd (inP K V 0 9 t2 (nmF NM t S)) fun b => bnd (inP K V 0 9 b.1 b.2) fun c =>
  .ok (c.1, sL S, up2 (up2 (sN S) 6 (sN S 1 1) (V b.1)) 1 1 (sN S 1 1 + 1), upE (sE S) (sN S 1 1) (if K t1 = 45 then -(nI (V t2)) else nI (V t2)), sM S ++ [t], c.2)
def bodP (K V NM : Nat → Nat) (k t : Nat) (S : PS) : Except (Nat × Nat) (Nat × PS) :=
  if 129 ≤ k ∧ k ≤ 133 then bnd (lawP K V t) (fun x => .ok (x.1, upL (sL S) (k - 129) x.2, sN S, sE S, sM S, sF S)) else
  if k = 135 then manP K V NM t S else if k = 136 then judP K V NM t S else numP K V (nsL k) t S
def telP (K V NM : Nat → Nat) (t : Nat) (S : PS) : Except (Nat × Nat) (Nat × PS) :=
  if 128 ≤ K t ∧ K t ≤ 142 then (if (K t = 135 ∧ sN S 1 0 = 8) ∨ (K t = 136 ∧ sN S 1 1 = 7) then .error (2, t) else
    bnd (tkP K (K t) t) fun t1 => bnd (bodP K V NM (K t) t1 S) fun x => bnd (tkP K 59 x.1) fun t2 => .ok (t2, x.2)) else .error (1, t)
/-- what reading a text into the cell c may write in the class -/
abbrev wrC (c a j : Nat) : Prop := (a = 7 ∧ 2 ≤ j ∧ j ≤ 8) ∨ a = 8 ∨ (c ≤ a ∧ a < c + 39 ∧ a ≠ c + 5 ∧ a ≠ c + 11 ∧ a ≠ c + 17 ∧ a ≠ c + 23 ∧ a ≠ c + 29)
def FT (c : Nat) (w w2 : Mem) : Prop := ∀ a j, ¬ wrC c a j → w2 a j = w a j
theorem ftx_tr {c : Nat} {w w2 w3 : Mem} (h : FT c w w2) (h2 : FT c w2 w3) : FT c w w3 := fun a j p => (h2 a j p).trans (h a j p)
theorem ftx_7 {c : Nat} {w w2 w3 : Mem} (h : FT c w w2) (h2 : fr7 w2 w3) : FT c w w3 := fun a j p => (h2 a j (by simp only [wrC] at p; omega)).trans (h a j p)
theorem ftx_st {c a j : Nat} {v : Int32} {w w2 : Mem} (h : FT c w w2) (hw : wrC c a j) : FT c w (st w2 a j v) := by
  intro b i p
  simp only [st]
  rw [if_neg (fun q => p (by rw [q.1, q.2]; exact hw))]
  exact h b i p
/-- a fault of the class -/
def FE (P : Nat → Nat) (c : Nat) (w0 : Mem) (kd tok : Nat) (w : Mem) : Prop := FT c w0 w ∧ w 7 5 = nI kd ∧ w 7 6 = nI (P tok)
theorem fe_st {P : Nat → Nat} {c kd tok a j : Nat} {v : Int32} {w0 w : Mem} (h : FE P c w0 kd tok w) (hw : wrC c a j) (h7 : 9 ≤ a) : FE P c w0 kd tok (st w a j v) := by
  refine ⟨ftx_st h.1 hw, ?_, ?_⟩
  · rw [st_nk (by omega)]; exact h.2.1
  · rw [st_nk (by omega)]; exact h.2.2
def OLc (k : Nat) (w : Mem) : Option (LE × LB) → Prop
  | none => w k 5 = 0 ∧ w k 6 = 0
  | some (Z, R) => lwC k w Z 0 0 R
theorem ol_cg {k : Nat} {w w2 : Mem} (h1 : w2 (k + 1) = w (k + 1)) (h2 : w2 (k + 2) = w (k + 2)) (h3 : w2 (k + 3) = w (k + 3)) (h5 : w2 k 5 = w k 5) (h6 : w2 k 6 = w k 6) : ∀ {o : Option (LE × LB)}, OLc k w o → OLc k w2 o
  | none, h => ⟨h5.trans h.1, h6.trans h.2⟩
  | some (Z, R), h => lwC_cg h1 h2 h3 h6 R 0 0 h
/-- the class's text at the cell c holds what S tells -/
def CX (c : Nat) (S : PS) (w : Mem) : Prop :=
  (∀ a, a < 5 → OLc (c + 1 + 6 * a) w (sL S a)) ∧
  (∀ k, k < 3 → w c (7 + k) = nI (sN S 0 k)) ∧ (∀ i, i < 5 → w (c + 31) i = nI (sN S 0 (3 + i))) ∧ (∀ k, 8 ≤ k → k < 16 → w c (2 + k) = nI (sN S 0 k)) ∧
  (w (c + 32) 6 = nI (sN S 1 0) ∧ w (c + 32) 7 = nI (sN S 1 1)) ∧
  (∀ r a, r < 4 → a < sN S 1 0 → w (c + 33 + r) a = nI (sN S (2 + r) a)) ∧ (∀ j, j < sN S 1 1 → w (c + 37) j = sE S j ∧ w (c + 38) j = nI (sN S 6 j))
theorem cx_fr {c : Nat} {S : PS} {w w2 : Mem} (h : CX c S w) (f : ∀ a j, c ≤ a → a < c + 39 → w2 a j = w a j) : CX c S w2 := by
  obtain ⟨h1, h2, h3, h4, h5, h6, h7⟩ := h
  have r : ∀ a, c ≤ a → a < c + 39 → w2 a = w a := fun a p q => funext (fun j => f a j p q)
  refine ⟨fun a ha => ol_cg (r _ (by omega) (by omega)) (r _ (by omega) (by omega)) (r _ (by omega) (by omega)) (f _ _ (by omega) (by omega)) (f _ _ (by omega) (by omega)) (h1 a ha), ?_, ?_, ?_, ?_, ?_, ?_⟩
  · rw [r c (by omega) (by omega)]; exact h2
  · rw [r (c + 31) (by omega) (by omega)]; exact h3
  · rw [r c (by omega) (by omega)]; exact h4
  · rw [r (c + 32) (by omega) (by omega)]; exact h5
  · intro q a hq ha; rw [r (c + 33 + q) (by omega) (by omega)]; exact h6 q a hq ha
  · rw [r (c + 37) (by omega) (by omega), r (c + 38) (by omega) (by omega)]; exact h7
/-- the names of a text: their letters are compared -/
def SMN (K NM : Nat → Nat) (m : Nat) (w : Mem) : Prop := ∀ w2 : Mem, (∀ a j, 1 ≤ a → a ≤ 6 → w2 a j = w a j) → ∀ x y, x ≤ m → y ≤ m → K x = 2 → K y = 2 → ∀ Q : Int32 → Mem → Prop, (NM x = NM y → Q 1 w2) → (¬ NM x = NM y → Q 0 w2) → wp_9_isSameName (nI x) (nI y) w2 Q
theorem smn_fr {K NM : Nat → Nat} {m : Nat} {w w2 : Mem} (h : SMN K NM m w) (f : ∀ a j, 1 ≤ a → a ≤ 6 → w2 a j = w a j) : SMN K NM m w2 := fun w3 f3 => h w3 (fun a j p q => (f3 a j p q).trans (f a j p q))
/-- the class in the midst of a text -/
def GC (K P V NM : Nat → Nat) (m c : Nat) (w0 : Mem) (t : Nat) (S : PS) (w : Mem) : Prop :=
  (TKN K P V m w ∧ SMN K NM m w ∧ t ≤ m ∧ w 7 3 = nI t) ∧ CX c S w ∧ (w 7 2 = nI (sM S).length ∧ (∀ i x, (sM S)[i]? = some x → w 8 i = nI x) ∧ ∀ x, x ∈ sM S → x ≤ m ∧ K x = 2) ∧ LFc P (sF S) w ∧ FT c w0 w
def GX (K P V NM : Nat → Nat) (m c : Nat) (w0 : Mem) (Q : Int32 → Mem → Prop) (r : Except (Nat × Nat) (Nat × PS)) : Prop := match r with
  | .error (kd, tok) => ∀ w2, FE P c w0 kd tok w2 → Q 0 w2
  | .ok (t2, S2) => ∀ w2, GC K P V NM m c w0 t2 S2 w2 → Q 1 w2
theorem tkn_ft {K P V : Nat → Nat} {m c : Nat} {w w2 : Mem} (hc : 9 ≤ c) (h : TKN K P V m w) (f : FT c w w2) : TKN K P V m w2 := by
  refine ⟨h.1, h.2.1, fun j hj => ?_⟩
  rw [f 4 j (by simp only [wrC]; omega), f 5 j (by simp only [wrC]; omega), f 6 j (by simp only [wrC]; omega)]
  exact h.2.2 j hj
/-- only the reader's own fields have changed -/
theorem gc_7 {K P V NM : Nat → Nat} {m c t t2 : Nat} {S : PS} {lf : LFt} {w0 w w2 : Mem} (hc : 9 ≤ c) (h : GC K P V NM m c w0 t S w) (f : fr7 w w2) (h3 : w2 7 3 = nI t2) (h2 : t2 ≤ m) (hl : LFc P lf w2) : GC K P V NM m c w0 t2 (sL S, sN S, sE S, sM S, lf) w2 := by
  obtain ⟨⟨a1, a2, a3, a4⟩, b, ⟨d1, d2, d3⟩, e, g⟩ := h
  refine ⟨⟨tkn_7 a1 f, smn_fr a2 (fun a j p q => f a j (by omega)), h2, h3⟩, cx_fr b (fun a j p q => f a j (by omega)), ⟨(f 7 2 (by omega)).trans d1, fun i x hx => (f 8 i (by omega)).trans (d2 i x hx), d3⟩, hl, ftx_7 g f⟩
