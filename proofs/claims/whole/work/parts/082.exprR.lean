/-- an E outside all ( : both ways come to the same -/
theorem ex_top {K V : Nat → Nat} {t : Nat} (h1 : 0 < t) (h2 : t ≤ 400) : shF K V (401 - t) true [] [] 0 = exP K V 8 0 t ∧ ∀ t2 U, exP K V 8 0 t = .ok (t2, U) → t < t2 ∧ t2 ≤ 400 ∧ U.length ≤ t2 - t ∧ wfS U 0 := by
  have z := sa_ex (K := K) (V := V) 8 0 t [] (by omega) (by omega) h1 h2 ns_nil ns1_nil
  cases hr : exP K V 8 0 t with
  | error e =>
    rw [hr] at z
    exact ⟨z [], fun _ _ q => by cases q⟩
  | ok y =>
    obtain ⟨t2, U⟩ := y
    rw [hr] at z
    obtain ⟨z1, ⟨z2, z3, z4, z5, z6⟩, z7⟩ := z
    refine ⟨?_, fun a b q => ?_⟩
    · rw [z1 [], sh_B z3, if_neg (by omega), if_neg z5, if_neg z6, if_pos rfl]
      rfl
    · cases q
      refine ⟨z2, z3, z4, ?_⟩
      have := z7 [] 0 (by omega) rfl
      rw [List.append_nil] at this
      exact this
/-- the signs that wait inside one ( -/
def runS (R : List Nat) : Prop := R = [] ∨ (∃ p, (p = 43 ∨ p = 45) ∧ R = [p]) ∨ (∃ m, (m = 42 ∨ m = 47) ∧ R = [m]) ∨ ∃ m p, (m = 42 ∨ m = 47) ∧ (p = 43 ∨ p = 45) ∧ R = [m, p]
def SKo : Nat → List Nat → Prop
  | 0, S => runS S
  | o + 1, S => ∃ R S', runS R ∧ S = R ++ 40 :: S' ∧ SKo o S'
theorem run_b {R : List Nat} (h : runS R) : R.length ≤ 2 := by
  rcases h with rfl | ⟨p, _, rfl⟩ | ⟨m, _, rfl⟩ | ⟨m, p, _, _, rfl⟩ <;> simp
theorem sk_b : ∀ (o : Nat) (S : List Nat), SKo o S → S.length ≤ 3 * o + 2
  | 0, S, h => run_b h
  | o + 1, S, h => by
    obtain ⟨R, S', h1, rfl, h3⟩ := h
    have := run_b h1
    have := sk_b o S' h3
    simp only [List.length_append, List.length_cons]
    omega
theorem sk_par {o : Nat} {S : List Nat} (h : SKo o S) : SKo (o + 1) (40 :: S) := ⟨[], S, Or.inl rfl, rfl, h⟩
theorem sk_md {o : Nat} {S : List Nat} {g : Nat} (E : LE) (hg : g = 42 ∨ g = 47) (h : SKo o S) : SKo o (g :: (pop1 E S).2) := by
  have base : ∀ R T, runS R → NS1 T → (pop1 E (R ++ T)).2 = T ∨ ∃ p, (p = 43 ∨ p = 45) ∧ (pop1 E (R ++ T)).2 = p :: T := by
    intro R T hR hT
    rcases hR with rfl | ⟨p, hp, rfl⟩ | ⟨m, hm, rfl⟩ | ⟨m, p, hm, hp, rfl⟩
    · exact Or.inl (by rw [List.nil_append, hT])
    · exact Or.inr ⟨p, hp, by rw [show [p] ++ T = p :: T from rfl, ns1_pm T hp]⟩
    · exact Or.inl (by rw [show [m] ++ T = m :: T from rfl, pop1_s hm, hT])
    · exact Or.inr ⟨p, hp, by rw [show [m, p] ++ T = m :: p :: T from rfl, pop1_s hm, ns1_pm T hp]⟩
  cases o with
  | zero =>
    have := base S [] h ns1_nil
    rw [List.append_nil] at this
    rcases this with e | ⟨p, hp, e⟩
    · rw [e]; exact Or.inr (Or.inr (Or.inl ⟨g, hg, rfl⟩))
    · rw [e]; exact Or.inr (Or.inr (Or.inr ⟨g, p, hg, hp, rfl⟩))
  | succ o =>
    obtain ⟨R, S', h1, rfl, h3⟩ := h
    rcases base R (40 :: S') h1 (ns1_par S') with e | ⟨p, hp, e⟩
    · rw [e]; exact ⟨[g], S', Or.inr (Or.inr (Or.inl ⟨g, hg, rfl⟩)), rfl, h3⟩
    · rw [e]; exact ⟨[g, p], S', Or.inr (Or.inr (Or.inr ⟨g, p, hg, hp, rfl⟩)), rfl, h3⟩
theorem pop0_r {E : LE} {R T : List Nat} (hR : runS R) (hT : NS0 T) : (pop0 E (R ++ T)).2 = T := by
  rcases hR with rfl | ⟨p, hp, rfl⟩ | ⟨m, hm, rfl⟩ | ⟨m, p, hm, hp, rfl⟩
  · rw [List.nil_append, hT]
  · rw [show [p] ++ T = p :: T from rfl, pop0_s (by omega), hT]
  · rw [show [m] ++ T = m :: T from rfl, pop0_s (by omega), hT]
  · rw [show [m, p] ++ T = m :: p :: T from rfl, pop0_s (by omega), pop0_s (by omega), hT]
theorem sk_pm {o : Nat} {S : List Nat} {g : Nat} (E : LE) (hg : g = 43 ∨ g = 45) (h : SKo o S) : SKo o (g :: (pop0 E S).2) := by
  cases o with
  | zero =>
    have := pop0_r (E := E) h ns_nil
    rw [List.append_nil] at this
    rw [this]
    exact Or.inr (Or.inl ⟨g, hg, rfl⟩)
  | succ o =>
    obtain ⟨R, S', h1, rfl, h3⟩ := h
    rw [pop0_r h1 (ns_par S')]
    exact ⟨[g], S', Or.inr (Or.inl ⟨g, hg, rfl⟩), rfl, h3⟩
theorem sk_cl {o : Nat} {S : List Nat} (E : LE) (h : SKo (o + 1) S) : ∃ S', (pop0 E S).2 = 40 :: S' ∧ SKo o S' := by
  obtain ⟨R, S', h1, rfl, h3⟩ := h
  exact ⟨S', pop0_r h1 (ns_par S'), h3⟩
theorem pop0_l : ∀ (S : List Nat) (E : LE), (pop0 E S).1.length + (pop0 E S).2.length = E.length + S.length
  | [], E => rfl
  | g :: S, E => by
    simp only [pop0]
    split
    · rfl
    · rw [pop0_l S]
      simp only [List.length_append, List.length_cons, List.length_nil]
      omega
theorem pop1_l : ∀ (S : List Nat) (E : LE), (pop1 E S).1.length + (pop1 E S).2.length = E.length + S.length
  | [], E => rfl
  | g :: S, E => by
    simp only [pop1]
    split
    · rw [pop1_l S]
      simp only [List.length_append, List.length_cons, List.length_nil]
      omega
    · rfl
/-- a kind of the class -/
def kdB (k : Nat) : Bool := decide (k ≤ 3) || isS k || decide (128 ≤ k ∧ k ≤ 156)
def crF (r : Nat) : Nat := if r = 0 then 0 else if r = 3 then 1 else if r = 1 then 2 else if r = 2 then 3 else if r = 4 then 59 else if r = 5 then 61 else if r = 6 then 40 else if r = 7 then 41 else if r = 8 then 43 else if r = 9 then 45 else if r = 10 then 42 else if r = 13 then 60 else if r = 15 then 47 else r + 108
theorem cr_rc : ∀ k, k < 157 → kdB k = true → crF (rcF k) = k := by decide +kernel
theorem kd_lt {k : Nat} (h : kdB k = true) : k < 157 := by
  unfold kdB at h
  rw [Bool.or_eq_true, Bool.or_eq_true, decide_eq_true_eq, decide_eq_true_eq] at h
  rcases h with (h | h) | h
  · omega
  · have dd : isS k = true ↔ (k = 59 ∨ k = 61 ∨ k = 43 ∨ k = 45 ∨ k = 42 ∨ k = 47 ∨ k = 60 ∨ k = 40 ∨ k = 41) := by unfold isS; exact decide_eq_true_iff
    have := dd.mp h
    omega
  · omega
theorem rc_inj {k c : Nat} (hk : kdB k = true) (hc : kdB c = true) : rcF k = rcF c ↔ k = c := by
  constructor
  · intro e
    rw [← cr_rc k (kd_lt hk) hk, e, cr_rc c (kd_lt hc) hc]
  · intro e
    rw [e]
theorem rc_lt : ∀ k, k < 157 → rcF k < 157 := by decide +kernel
