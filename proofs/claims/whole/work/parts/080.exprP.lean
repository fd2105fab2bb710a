/-! layer 2: an expression read in two ways -/
abbrev PE := Except (Nat × Nat) (Nat × LE)
/-- what a sign puts out -/
def sgO (k : Nat) : Nat := if k = 43 then 2 else if k = 45 then 3 else if k = 42 then 4 else 5
def unP (K V : Nat → Nat) (RS : Nat → Nat → PE) (d t : Nat) : PE :=
  if K t = 3 then (if t < 400 then .ok (t + 1, [(0, nI (V t))]) else .error (2, t)) else
  if 146 ≤ K t ∧ K t ≤ 156 then (if t < 400 then .ok (t + 1, [(1, nI (K t - 146))]) else .error (2, t)) else
  if K t = 40 then (if d < 6 then (if t < 400 then (match RS (d + 1) (t + 1) with
    | .error e => .error e
    | .ok (t2, E) => if K t2 = 41 then (if t2 < 400 then .ok (t2 + 1, E) else .error (2, t2)) else .error (1, t2)) else .error (2, t)) else .error (2, t)) else .error (1, t)
def prL (K V : Nat → Nat) (RS : Nat → Nat → PE) (d : Nat) : Nat → Nat → LE → PE
  | 0, t, E => .ok (t, E)
  | n + 1, t, E => if K t = 42 ∨ K t = 47 then (if t < 400 then (match unP K V RS d (t + 1) with
    | .error e => .error e
    | .ok (t2, U) => prL K V RS d n t2 (E ++ U ++ [(sgO (K t), 0)])) else .error (2, t)) else .ok (t, E)
def prP (K V : Nat → Nat) (RS : Nat → Nat → PE) (d t : Nat) : PE := match unP K V RS d t with
  | .error e => .error e
  | .ok (t2, U) => prL K V RS d 400 t2 U
def smL (K V : Nat → Nat) (RS : Nat → Nat → PE) (d : Nat) : Nat → Nat → LE → PE
  | 0, t, E => .ok (t, E)
  | n + 1, t, E => if K t = 43 ∨ K t = 45 then (if t < 400 then (match prP K V RS d (t + 1) with
    | .error e => .error e
    | .ok (t2, U) => smL K V RS d n t2 (E ++ U ++ [(sgO (K t), 0)])) else .error (2, t)) else .ok (t, E)
def smP (K V : Nat → Nat) (RS : Nat → Nat → PE) (d t : Nat) : PE := match prP K V RS d t with
  | .error e => .error e
  | .ok (t2, U) => smL K V RS d 400 t2 U
/-- an E, in the class's way -/
def exP (K V : Nat → Nat) : Nat → Nat → Nat → PE
  | 0, _, _ => .error (0, 0)
  | n + 1, d, t => smP K V (exP K V n) d t
def pop1 : LE → List Nat → LE × List Nat
  | E, [] => (E, [])
  | E, g :: S => if g = 42 ∨ g = 47 then pop1 (E ++ [(sgO g, 0)]) S else (E, g :: S)
def pop0 : LE → List Nat → LE × List Nat
  | E, [] => (E, [])
  | E, g :: S => if g = 40 then (E, g :: S) else pop0 (E ++ [(sgO g, 0)]) S
/-- an E, in the reference's way: so many tokens are left, a unit is wanted or not, put out, waiting, open -/
def shF (K V : Nat → Nat) : Nat → Bool → LE → List Nat → Nat → PE
  | 0, _, _, _, _ => .error (0, 0)
  | f + 1, true, E, S, o =>
    if K (400 - f) = 40 then (if o < 6 then (if 400 - f < 400 then shF K V f true E (40 :: S) (o + 1) else .error (2, 400 - f)) else .error (2, 400 - f)) else
    if K (400 - f) = 3 then (if 400 - f < 400 then shF K V f false (E ++ [(0, nI (V (400 - f)))]) S o else .error (2, 400 - f)) else
    if 146 ≤ K (400 - f) ∧ K (400 - f) ≤ 156 then (if 400 - f < 400 then shF K V f false (E ++ [(1, nI (K (400 - f) - 146))]) S o else .error (2, 400 - f)) else .error (1, 400 - f)
  | f + 1, false, E, S, o =>
    if K (400 - f) = 41 ∧ 0 < o then (if 400 - f < 400 then shF K V f false (pop0 E S).1 (pop0 E S).2.tail (o - 1) else .error (2, 400 - f)) else
    if K (400 - f) = 42 ∨ K (400 - f) = 47 then (if 400 - f < 400 then shF K V f true (pop1 E S).1 (K (400 - f) :: (pop1 E S).2) o else .error (2, 400 - f)) else
    if K (400 - f) = 43 ∨ K (400 - f) = 45 then (if 400 - f < 400 then shF K V f true (pop0 E S).1 (K (400 - f) :: (pop0 E S).2) o else .error (2, 400 - f)) else
    if o = 0 then .ok (400 - f, (pop0 E S).1) else .error (1, 400 - f)
theorem sh_A {K V : Nat → Nat} {t : Nat} {E : LE} {S : List Nat} {o : Nat} (h : t ≤ 400) : shF K V (401 - t) true E S o =
    if K t = 40 then (if o < 6 then (if t < 400 then shF K V (401 - (t + 1)) true E (40 :: S) (o + 1) else .error (2, t)) else .error (2, t)) else
    if K t = 3 then (if t < 400 then shF K V (401 - (t + 1)) false (E ++ [(0, nI (V t))]) S o else .error (2, t)) else
    if 146 ≤ K t ∧ K t ≤ 156 then (if t < 400 then shF K V (401 - (t + 1)) false (E ++ [(1, nI (K t - 146))]) S o else .error (2, t)) else .error (1, t) := by
  obtain ⟨f, hf⟩ : ∃ f, 401 - t = f + 1 := ⟨400 - t, by omega⟩
  rw [hf, show 401 - (t + 1) = f by omega]
  simp only [shF]
  rw [show 400 - f = t by omega]
theorem sh_B {K V : Nat → Nat} {t : Nat} {E : LE} {S : List Nat} {o : Nat} (h : t ≤ 400) : shF K V (401 - t) false E S o =
    if K t = 41 ∧ 0 < o then (if t < 400 then shF K V (401 - (t + 1)) false (pop0 E S).1 (pop0 E S).2.tail (o - 1) else .error (2, t)) else
    if K t = 42 ∨ K t = 47 then (if t < 400 then shF K V (401 - (t + 1)) true (pop1 E S).1 (K t :: (pop1 E S).2) o else .error (2, t)) else
    if K t = 43 ∨ K t = 45 then (if t < 400 then shF K V (401 - (t + 1)) true (pop0 E S).1 (K t :: (pop0 E S).2) o else .error (2, t)) else
    if o = 0 then .ok (t, (pop0 E S).1) else .error (1, t) := by
  obtain ⟨f, hf⟩ : ∃ f, 401 - t = f + 1 := ⟨400 - t, by omega⟩
  rw [hf, show 401 - (t + 1) = f by omega]
  simp only [shF]
  rw [show 400 - f = t by omega]
theorem pop0_s {E : LE} {S : List Nat} {g : Nat} (h : g ≠ 40) : pop0 E (g :: S) = pop0 (E ++ [(sgO g, 0)]) S := by
  simp only [pop0]
  rw [if_neg h]
theorem pop1_s {E : LE} {S : List Nat} {g : Nat} (h : g = 42 ∨ g = 47) : pop1 E (g :: S) = pop1 (E ++ [(sgO g, 0)]) S := by
  simp only [pop1]
  rw [if_pos h]
theorem sh_e1 {K V : Nat → Nat} {t g : Nat} {E : LE} {S : List Nat} {o : Nat} (h : t ≤ 400) (hg : g = 42 ∨ g = 47) : shF K V (401 - t) false E (g :: S) o = shF K V (401 - t) false (E ++ [(sgO g, 0)]) S o := by
  rw [sh_B h, sh_B h, pop0_s (by omega), pop1_s hg]
theorem sh_e2 {K V : Nat → Nat} {t g : Nat} {E : LE} {S : List Nat} {o : Nat} (h : t ≤ 400) (hg : g = 43 ∨ g = 45) (hk : ¬ (K t = 42 ∨ K t = 47)) : shF K V (401 - t) false E (g :: S) o = shF K V (401 - t) false (E ++ [(sgO g, 0)]) S o := by
  rw [sh_B h, sh_B h, pop0_s (by omega), if_neg hk, if_neg hk]
def NS0 (S : List Nat) : Prop := ∀ E, pop0 E S = (E, S)
def NS1 (S : List Nat) : Prop := ∀ E, pop1 E S = (E, S)
theorem ns_nil : NS0 [] := fun _ => rfl
theorem ns_par (S : List Nat) : NS0 (40 :: S) := fun _ => rfl
theorem ns1_nil : NS1 [] := fun _ => rfl
theorem ns1_par (S : List Nat) : NS1 (40 :: S) := fun _ => rfl
theorem ns1_pm {g : Nat} (S : List Nat) (h : g = 43 ∨ g = 45) : NS1 (g :: S) := fun E => by
  simp only [pop1]
  rw [if_neg (by omega)]
/-- what is read, and that the other way comes to the same -/
def SA (K V : Nat → Nat) (h d t : Nat) (S : List Nat) (r : PE) (f : Nat → Prop) : Prop := match r with
  | .error e => ∀ E, shF K V (401 - t) true E S d = .error e
  | .ok (t2, U) => (∀ E, shF K V (401 - t) true E S d = shF K V (401 - t2) false (E ++ U) S d) ∧ (t < t2 ∧ t2 ≤ 400 ∧ U.length ≤ t2 - t ∧ f t2) ∧ ∀ F x, x + h ≤ 16 → wfS F (x + 1) → wfS (U ++ F) x
theorem sa_un {K V : Nat → Nat} {RS : Nat → Nat → PE} {d t h : Nat} {S : List Nat} (ht : t ≤ 400) (hd : d ≤ 6) (h1 : 1 ≤ h) (hh : d < 6 → ∀ t S, 0 < t → t ≤ 400 → NS0 S → NS1 S → SA K V h (d + 1) t S (RS (d + 1) t) (fun t2 => ¬ (K t2 = 42 ∨ K t2 = 47) ∧ ¬ (K t2 = 43 ∨ K t2 = 45))) : SA K V h d t S (unP K V RS d t) (fun _ => True) := by
  unfold unP
  by_cases c3 : K t = 3
  · rw [if_pos c3]
    by_cases c4 : t < 400
    · rw [if_pos c4]
      refine ⟨fun E => ?_, ⟨by omega, by omega, ?_, trivial⟩, fun F x hx hF => ?_⟩
      · rw [sh_A ht, if_neg (by omega), if_pos c3, if_pos c4]
      · show 1 ≤ _
        omega
      · exact Or.inl ⟨rfl, by omega, hF⟩
    · rw [if_neg c4]
      intro E
      rw [sh_A ht, if_neg (by omega), if_pos c3, if_neg c4]
  · rw [if_neg c3]
    by_cases cv : 146 ≤ K t ∧ K t ≤ 156
    · rw [if_pos cv]
      by_cases c4 : t < 400
      · rw [if_pos c4]
        refine ⟨fun E => ?_, ⟨by omega, by omega, ?_, trivial⟩, fun F x hx hF => ?_⟩
        · rw [sh_A ht, if_neg (by omega), if_neg c3, if_pos cv, if_pos c4]
        · show 1 ≤ _
          omega
        · exact Or.inr (Or.inl ⟨rfl, by omega, ⟨K t - 146, by omega, rfl⟩, hF⟩)
      · rw [if_neg c4]
        intro E
        rw [sh_A ht, if_neg (by omega), if_neg c3, if_pos cv, if_neg c4]
    · rw [if_neg cv]
      by_cases c0 : K t = 40
      · rw [if_pos c0]
        by_cases c6 : d < 6
        · rw [if_pos c6]
          by_cases c4 : t < 400
          · rw [if_pos c4]
            have z := hh c6 (t + 1) (40 :: S) (by omega) (by omega) (ns_par S) (ns1_par S)
            have e1 : ∀ E, shF K V (401 - t) true E S d = shF K V (401 - (t + 1)) true E (40 :: S) (d + 1) := fun E => by
              rw [sh_A ht, if_pos c0, if_pos c6, if_pos c4]
            cases hr : RS (d + 1) (t + 1) with
            | error e =>
              rw [hr] at z
              exact fun E => (e1 E).trans (z E)
            | ok y =>
              obtain ⟨t2, U⟩ := y
              rw [hr] at z
              obtain ⟨z1, ⟨z2, z3, z4, z5, z6⟩, z7⟩ := z
              show SA K V h d t S (if K t2 = 41 then (if t2 < 400 then Except.ok (t2 + 1, U) else Except.error (2, t2)) else Except.error (1, t2)) _
              by_cases c1 : K t2 = 41
              · rw [if_pos c1]
                by_cases c5 : t2 < 400
                · rw [if_pos c5]
                  refine ⟨fun E => ?_, ⟨by omega, by omega, by omega, trivial⟩, z7⟩
                  rw [e1 E, z1 E, sh_B z3, if_pos ⟨c1, by omega⟩, if_pos c5, ns_par S]
                  rfl
                · rw [if_neg c5]
                  intro E
                  rw [e1 E, z1 E, sh_B z3, if_pos ⟨c1, by omega⟩, if_neg c5]
              · rw [if_neg c1]
                intro E
                rw [e1 E, z1 E, sh_B z3, if_neg (fun q => c1 q.1), if_neg z5, if_neg z6, if_neg (by omega)]
          · rw [if_neg c4]
            intro E
            rw [sh_A ht, if_pos c0, if_pos c6, if_neg c4]
        · rw [if_neg c6]
          intro E
          rw [sh_A ht, if_pos c0, if_neg c6]
      · rw [if_neg c0]
        intro E
        rw [sh_A ht, if_neg c0, if_neg c3, if_neg cv]
