def WF (h : Nat) (P : LE) : Prop := ∀ F x, x + h ≤ 16 → wfS F (x + 1) → wfS (P ++ F) x
/-- a loop behind what was read -/
def SB (K V : Nat → Nat) (h d t : Nat) (P : LE) (S : List Nat) (r : PE) (f : Nat → Prop) : Prop := match r with
  | .error e => ∀ E, shF K V (401 - t) false (E ++ P) S d = .error e
  | .ok (t2, U) => (∀ E, shF K V (401 - t) false (E ++ P) S d = shF K V (401 - t2) false (E ++ U) S d) ∧ (t ≤ t2 ∧ t2 ≤ 400 ∧ U.length + t ≤ P.length + t2 ∧ f t2) ∧ WF h U
theorem sa_wf {h h2 : Nat} {P : LE} (q : WF h P) (e : h ≤ h2) : WF h2 P := fun F x hx hF => q F x (by omega) hF
theorem sgO_b (g : Nat) : 2 ≤ sgO g ∧ sgO g ≤ 5 := by
  unfold sgO
  split
  · omega
  · split
    · omega
    · split <;> omega
theorem wf_join {h : Nat} {P U : LE} (g : Nat) (hp : WF (h + 1) P) (hu : WF h U) : WF (h + 1) (P ++ U ++ [(sgO g, 0)]) := by
  intro F x hx hF
  rw [List.append_assoc, List.append_assoc]
  refine hp _ x hx (hu _ (x + 1) (by omega) ?_)
  have := sgO_b g
  exact Or.inr (Or.inr ⟨this.1, this.2, by omega, hF⟩)
theorem sa_pl {K V : Nat → Nat} {RS : Nat → Nat → PE} {d h : Nat} {S : List Nat} (hu : ∀ t S, t ≤ 400 → SA K V h d t S (unP K V RS d t) (fun _ => True)) (hS : NS1 S) : ∀ (n t : Nat) (P : LE), t ≤ 400 → 401 ≤ t + n → WF (h + 1) P → SB K V (h + 1) d t P S (prL K V RS d n t P) (fun t2 => ¬ (K t2 = 42 ∨ K t2 = 47))
  | 0, t, P, ht, hn, _ => absurd hn (by omega)
  | n + 1, t, P, ht, hn, hw => by
    simp only [prL]
    by_cases c : K t = 42 ∨ K t = 47
    · rw [if_pos c]
      have c41 : ¬ (K t = 41 ∧ 0 < d) := by omega
      by_cases c4 : t < 400
      · rw [if_pos c4]
        have z := hu (t + 1) (K t :: S) (by omega)
        have e1 : ∀ E, shF K V (401 - t) false (E ++ P) S d = shF K V (401 - (t + 1)) true (E ++ P) (K t :: S) d := fun E => by
          rw [sh_B ht, if_neg c41, if_pos c, if_pos c4, hS]
        cases hr : unP K V RS d (t + 1) with
        | error e =>
          rw [hr] at z
          exact fun E => (e1 E).trans (z _)
        | ok y =>
          obtain ⟨t2, U⟩ := y
          rw [hr] at z
          obtain ⟨z1, ⟨z2, z3, z4, _⟩, z7⟩ := z
          have e2 : ∀ E, shF K V (401 - t) false (E ++ P) S d = shF K V (401 - t2) false (E ++ (P ++ U ++ [(sgO (K t), 0)])) S d := fun E => by
            rw [e1 E, z1, sh_e1 z3 c]
            simp only [List.append_assoc]
          have r := sa_pl hu hS n t2 (P ++ U ++ [(sgO (K t), 0)]) z3 (by omega) (wf_join _ hw z7)
          show SB K V (h + 1) d t P S (prL K V RS d n t2 (P ++ U ++ [(sgO (K t), 0)])) _
          cases hr2 : prL K V RS d n t2 (P ++ U ++ [(sgO (K t), 0)]) with
          | error e =>
            rw [hr2] at r
            exact fun E => (e2 E).trans (r E)
          | ok y =>
            obtain ⟨t3, U3⟩ := y
            rw [hr2] at r
            obtain ⟨r1, ⟨r2, r3, r4, r5⟩, r7⟩ := r
            refine ⟨fun E => (e2 E).trans (r1 E), ⟨by omega, r3, ?_, r5⟩, r7⟩
            simp only [List.length_append, List.length_cons, List.length_nil] at r4
            omega
      · rw [if_neg c4]
        intro E
        rw [sh_B ht, if_neg c41, if_pos c, if_neg c4]
    · rw [if_neg c]
      exact ⟨fun _ => rfl, ⟨Nat.le_refl _, ht, Nat.le_refl _, c⟩, hw⟩
theorem sa_pr {K V : Nat → Nat} {RS : Nat → Nat → PE} {d h t : Nat} {S : List Nat} (ht1 : 0 < t) (ht : t ≤ 400) (hu : ∀ t S, t ≤ 400 → SA K V h d t S (unP K V RS d t) (fun _ => True)) (hS : NS1 S) : SA K V (h + 1) d t S (prP K V RS d t) (fun t2 => ¬ (K t2 = 42 ∨ K t2 = 47)) := by
  have z := hu t S ht
  unfold prP
  cases hr : unP K V RS d t with
  | error e =>
    rw [hr] at z
    exact z
  | ok y =>
    obtain ⟨t2, U⟩ := y
    rw [hr] at z
    obtain ⟨z1, ⟨z2, z3, z4, _⟩, z7⟩ := z
    have r := sa_pl (K := K) (V := V) (RS := RS) (d := d) hu hS 400 t2 U z3 (by omega) (sa_wf z7 (by omega))
    show SA K V (h + 1) d t S (prL K V RS d 400 t2 U) _
    cases hr2 : prL K V RS d 400 t2 U with
    | error e =>
      rw [hr2] at r
      exact fun E => (z1 E).trans (r E)
    | ok y =>
      obtain ⟨t3, U3⟩ := y
      rw [hr2] at r
      obtain ⟨r1, ⟨r2, r3, r4, r5⟩, r7⟩ := r
      exact ⟨fun E => (z1 E).trans (r1 E), ⟨by omega, r3, by omega, r5⟩, r7⟩
theorem sa_sl {K V : Nat → Nat} {RS : Nat → Nat → PE} {d h : Nat} {S : List Nat} (hu : ∀ t S, 0 < t → t ≤ 400 → NS1 S → SA K V h d t S (prP K V RS d t) (fun t2 => ¬ (K t2 = 42 ∨ K t2 = 47))) (hS : NS0 S) : ∀ (n t : Nat) (P : LE), t ≤ 400 → 401 ≤ t + n → ¬ (K t = 42 ∨ K t = 47) → WF (h + 1) P → SB K V (h + 1) d t P S (smL K V RS d n t P) (fun t2 => ¬ (K t2 = 42 ∨ K t2 = 47) ∧ ¬ (K t2 = 43 ∨ K t2 = 45))
  | 0, t, P, ht, hn, _, _ => absurd hn (by omega)
  | n + 1, t, P, ht, hn, hk, hw => by
    simp only [smL]
    by_cases c : K t = 43 ∨ K t = 45
    · rw [if_pos c]
      have c41 : ¬ (K t = 41 ∧ 0 < d) := by omega
      by_cases c4 : t < 400
      · rw [if_pos c4]
        have z := hu (t + 1) (K t :: S) (by omega) (by omega) (ns1_pm S c)
        have e1 : ∀ E, shF K V (401 - t) false (E ++ P) S d = shF K V (401 - (t + 1)) true (E ++ P) (K t :: S) d := fun E => by
          rw [sh_B ht, if_neg c41, if_neg hk, if_pos c, if_pos c4, hS]
        cases hr : prP K V RS d (t + 1) with
        | error e =>
          rw [hr] at z
          exact fun E => (e1 E).trans (z _)
        | ok y =>
          obtain ⟨t2, U⟩ := y
          rw [hr] at z
          obtain ⟨z1, ⟨z2, z3, z4, z5⟩, z7⟩ := z
          have e2 : ∀ E, shF K V (401 - t) false (E ++ P) S d = shF K V (401 - t2) false (E ++ (P ++ U ++ [(sgO (K t), 0)])) S d := fun E => by
            rw [e1 E, z1, sh_e2 z3 c z5]
            simp only [List.append_assoc]
          have r := sa_sl hu hS n t2 (P ++ U ++ [(sgO (K t), 0)]) z3 (by omega) z5 (wf_join _ hw z7)
          show SB K V (h + 1) d t P S (smL K V RS d n t2 (P ++ U ++ [(sgO (K t), 0)])) _
          cases hr2 : smL K V RS d n t2 (P ++ U ++ [(sgO (K t), 0)]) with
          | error e =>
            rw [hr2] at r
            exact fun E => (e2 E).trans (r E)
          | ok y =>
            obtain ⟨t3, U3⟩ := y
            rw [hr2] at r
            obtain ⟨r1, ⟨r2, r3, r4, r5⟩, r7⟩ := r
            refine ⟨fun E => (e2 E).trans (r1 E), ⟨by omega, r3, ?_, r5⟩, r7⟩
            simp only [List.length_append, List.length_cons, List.length_nil] at r4
            omega
      · rw [if_neg c4]
        intro E
        rw [sh_B ht, if_neg c41, if_neg hk, if_pos c, if_neg c4]
    · rw [if_neg c]
      exact ⟨fun _ => rfl, ⟨Nat.le_refl _, ht, Nat.le_refl _, hk, c⟩, hw⟩
theorem sa_sm {K V : Nat → Nat} {RS : Nat → Nat → PE} {d h t : Nat} {S : List Nat} (ht1 : 0 < t) (ht : t ≤ 400) (hu : ∀ t S, 0 < t → t ≤ 400 → NS1 S → SA K V h d t S (prP K V RS d t) (fun t2 => ¬ (K t2 = 42 ∨ K t2 = 47))) (hS : NS0 S) (hS1 : NS1 S) : SA K V (h + 1) d t S (smP K V RS d t) (fun t2 => ¬ (K t2 = 42 ∨ K t2 = 47) ∧ ¬ (K t2 = 43 ∨ K t2 = 45)) := by
  have z := hu t S ht1 ht hS1
  unfold smP
  cases hr : prP K V RS d t with
  | error e =>
    rw [hr] at z
    exact z
  | ok y =>
    obtain ⟨t2, U⟩ := y
    rw [hr] at z
    obtain ⟨z1, ⟨z2, z3, z4, z5⟩, z7⟩ := z
    have r := sa_sl (K := K) (V := V) (RS := RS) (d := d) hu hS 400 t2 U z3 (by omega) z5 (sa_wf z7 (by omega))
    show SA K V (h + 1) d t S (smL K V RS d 400 t2 U) _
    cases hr2 : smL K V RS d 400 t2 U with
    | error e =>
      rw [hr2] at r
      exact fun E => (z1 E).trans (r E)
    | ok y =>
      obtain ⟨t3, U3⟩ := y
      rw [hr2] at r
      obtain ⟨r1, ⟨r2, r3, r4, r5⟩, r7⟩ := r
      exact ⟨fun E => (z1 E).trans (r1 E), ⟨by omega, r3, by omega, r5⟩, r7⟩
/-- an E inside so many ( -/
theorem sa_ex {K V : Nat → Nat} : ∀ (n d t : Nat) (S : List Nat), d + n = 8 → 2 ≤ n → 0 < t → t ≤ 400 → NS0 S → NS1 S → SA K V (2 * n - 1) d t S (exP K V n d t) (fun t2 => ¬ (K t2 = 42 ∨ K t2 = 47) ∧ ¬ (K t2 = 43 ∨ K t2 = 45))
  | 0, _, _, _, _, h, _, _, _, _ => absurd h (by omega)
  | n + 1, d, t, S, hd, hn, ht1, ht, h0, h1 => by
    show SA K V (2 * (n + 1) - 1) d t S (smP K V (exP K V n) d t) _
    obtain ⟨h, hh⟩ : ∃ h, 2 * (n + 1) - 1 = h + 2 := ⟨2 * n - 1, by omega⟩
    rw [hh]
    refine sa_sm (h := h + 1) ht1 ht (fun t S q1 q2 q3 => sa_pr (h := h) q1 q2 (fun t S q => ?_) q3) h0 h1
    refine sa_un (h := h) q (by omega) (by omega) (fun c t S p0 p1 p2 p3 => ?_)
    have e : h = 2 * n - 1 := by omega
    rw [e]
    exact sa_ex n (d + 1) t S (by omega) (by omega) p0 p1 p2 p3
