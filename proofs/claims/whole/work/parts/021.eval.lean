/-! layer 2: the value of a law's expression, as pieces in their order (0 number, 1 variable, 2 +, 3 -, 4 *, 5 /) -/
def opE (o : Nat) (x y : Int32) : Int32 := if o = 2 then x + y else if o = 3 then x - y else if o = 4 then x * y else x / y
def evS (V : Nat → Int32) : List (Nat × Int32) → List Int32 → Option Int32
  | [], s => s.head?
  | (o, v) :: r, s => if o = 0 then evS V r (v :: s) else if o = 1 then evS V r (V (ix v) :: s) else
      match s with
      | y :: x :: t => if o = 5 ∧ y = 0 then none else evS V r (opE o x y :: t)
      | _ => none
def wfS : List (Nat × Int32) → Nat → Prop
  | [], d => d = 1
  | (o, v) :: r, d => (o = 0 ∧ d < 16 ∧ wfS r (d + 1)) ∨ (o = 1 ∧ d < 16 ∧ (∃ j, j < 11 ∧ v = nI j) ∧ wfS r (d + 1)) ∨ (2 ≤ o ∧ o ≤ 5 ∧ 2 ≤ d ∧ wfS r (d - 1))
def stk (f : Nat → Int32) : List Int32 → Prop
  | [] => True
  | x :: s => f s.length = x ∧ stk f s
def cda (c f g : Nat → Int32) : Nat → List (Nat × Int32) → Prop
  | _, [] => True
  | p, (o, v) :: r => f p = c o ∧ g p = v ∧ cda c f g (p + 1) r
theorem stk_hi {f : Nat → Int32} {x : Int32} {i : Nat} : ∀ {s : List Int32}, s.length ≤ i → stk f s → stk (upd f i x) s
  | [], _, _ => trivial
  | y :: s, h, q => by
    simp only [List.length_cons] at h
    exact ⟨by rw [pk_un (by omega)]; exact q.1, stk_hi (by omega) q.2⟩
theorem ix0 : ix (0 : Int32) = 0 := ix_nI (n := 0) (by omega)

theorem r_b159 {Q : Int32 → Mem → MemL → Prop} {L : Int32 → Int32 → Int32 → Mem → MemL → Prop} {l2 l3 : Int32} {p : Nat} {w : Mem} {wl : MemL} (K : L l2 l3 (nI (p + 1)) w wl) : wp_12_termOf_b159 Q L l2 l3 (nI p) w wl := by
  intro x1 e
  rw [e, show (1 : Int32) = nI 1 from rfl, nI_add]
  exact K
theorem r_b158 {Q : Int32 → Mem → MemL → Prop} {L : Int32 → Int32 → Int32 → Mem → MemL → Prop} {l2 l3 : Int32} {p i : Nat} {x : Int32} {w : Mem} {wl : MemL} (h : i < 400) (K : L l2 l3 (nI (p + 1)) (st w 179 i x) wl) : wp_12_termOf_b158 Q L l2 l3 (nI p) (nI i) x w wl := by
  refine ⟨pk_in i 400 h, fun w2 e => ?_⟩
  rw [e, ix_nI (by omega)]
  exact r_b159 K
theorem r_b58 {Q : Int32 → Mem → MemL → Prop} {L : Int32 → Int32 → Int32 → Mem → MemL → Prop} {l2 : Int32} {p i : Nat} {x : Int32} {w : Mem} {wl : MemL} (h : i < 400) (K : L l2 (nI (i + 1)) (nI (p + 1)) (st w 179 i x) wl) : wp_12_termOf_b58 Q L l2 (nI i) (nI p) (nI i) x w wl := by
  refine ⟨pk_in i 400 h, fun w2 e x3 e3 => ?_⟩
  rw [e, e3, ix_nI (by omega), show (1 : Int32) = nI 1 from rfl, nI_add]
  exact r_b159 K
theorem r_b104 {Q : Int32 → Mem → MemL → Prop} {L : Int32 → Int32 → Int32 → Mem → MemL → Prop} {l2 : Int32} {p i o : Nat} {x y : Int32} {w : Mem} {wl : MemL} (h : i < 400) (ho : 2 ≤ o ∧ o ≤ 5) (hy : ¬ (o = 5 ∧ y = 0)) (K : L l2 (nI (i + 1)) (nI (p + 1)) (st w 179 i (opE o x y)) wl) : wp_12_termOf_b104 Q L l2 (nI (i + 1)) (nI p) (nI o) x y w wl := by
  have e : nI (i + 1) - (1 : Int32) = nI i := by rw [show (1 : Int32) = nI 1 from rfl, pk_sub (by omega)]; rfl
  unfold wp_12_termOf_b104
  rw [e]
  refine ⟨fun h2 => ⟨fun h3 => ⟨fun h4 => ?_, fun h4 => ?_⟩, fun h3 => ?_⟩, fun h2 => ?_⟩
  · have o5 : o = 5 := by
      rcases ho with ⟨a, b⟩
      rcases (show o = 2 ∨ o = 3 ∨ o = 4 ∨ o = 5 by omega) with rfl | rfl | rfl | rfl
      · exact absurd rfl h2
      · exact absurd rfl h3
      · exact absurd rfl h4
      · rfl
    subst o5
    exact ⟨fun q => hy ⟨rfl, q⟩, r_b158 h K⟩
  · have o4 : o = 4 := (nI_eq (by omega) (by omega)).mp (Classical.not_not.mp h4)
    subst o4
    exact r_b158 h K
  · have o3 : o = 3 := (nI_eq (by omega) (by omega)).mp (Classical.not_not.mp h3)
    subst o3
    exact r_b158 h K
  · have o2 : o = 2 := (nI_eq (by omega) (by omega)).mp (Classical.not_not.mp h2)
    subst o2
    exact r_b158 h K
