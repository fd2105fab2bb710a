/-- the reference holds the first m tokens -/
def TKR (B : Nat → Nat) (n m : Nat) (w : Mem) (wl : MemL) : Prop := ∀ j, j < m → w 153 j = nI (rcF (knF B n (psF B n j))) ∧ w 154 j = nI (psF B n j) ∧
  (knF B n (psF B n j) = 3 → w 155 j = nI (vlF B (spN isD B n (psF B n j) - psF B n j) (psF B n j) 0)) ∧ (knF B n (psF B n j) = 2 → wl 156 j = lN (nvF 0 (ltF B (spN isL B n (psF B n j) - psF B n j) (psF B n j))))
theorem tkr_s {B : Nat → Nat} {n i p : Nat} {v : Int32} {nm : Int64} {w w2 : Mem} {wl wl2 : MemL} (h : TKR B n i w wl) (hp : psF B n i = p) (o : TO1 i (nI (rcF (knF B n p))) (nI p) v nm w w2 wl wl2) (hv : knF B n p = 3 → v = nI (vlF B (spN isD B n p - p) p 0)) (hn : knF B n p = 2 → nm = lN (nvF 0 (ltF B (spN isL B n p - p) p))) : TKR B n (i + 1) w2 wl2 := by
  obtain ⟨_, _, o3, o4, o5, _, o7⟩ := o
  intro j hj
  by_cases c : j = i
  · subst c
    rw [hp]
    refine ⟨by rw [o3]; exact pk_us, by rw [o4]; exact pk_us, fun z => ?_, fun z => ?_⟩
    · rw [o5, ← hv z]; exact pk_us
    · rw [o7, ← hn z]
      show (if j = j then nm else _) = _
      rw [if_pos rfl]
  · obtain ⟨h1, h2, h3, h4⟩ := h j (by omega)
    refine ⟨by rw [o3, pk_un c]; exact h1, by rw [o4, pk_un c]; exact h2, fun z => by rw [o5, pk_un c]; exact h3 z, fun z => ?_⟩
    rw [o7]
    show (if j = i then nm else _) = _
    rw [if_neg c]
    exact h4 z
def sgK (c : Nat) : Nat := if c = 60 then 13 else if c = 47 then 15 else if c = 42 then 10 else if c = 45 then 9 else if c = 43 then 8 else if c = 59 then 4 else if c = 61 then 5 else if c = 40 then 6 else if c = 41 then 7 else 3
theorem rc_sg : ∀ c, c < 256 → sgK c = rcF (if isS c = true then c else 1) := by decide +kernel
theorem sg1 {c k x v : Nat} (P : Int32 → Prop) (hc : c < 256) (hk : k < 256) (h : P (nI (if c = k then v else x))) : (¬ nI c = nI k → P (nI x)) ∧ (¬ ¬ nI c = nI k → P (nI v)) := by
  constructor
  · intro q
    rw [if_neg (fun z => q (by rw [z]))] at h
    exact h
  · intro q
    rw [if_pos ((nI_eq (by omega) (by omega)).mp (Classical.not_not.mp q))] at h
    exact h
theorem r_sign {c i p : Nat} {x : Int32} {w : Mem} {wl : MemL} {Q : Int32 → Mem → MemL → Prop} (hc : c < 256) (hi : i < 403) (h : w 150 10 = nI i) (K : ∀ w2 wl2, TO1 i (nI (sgK c)) (nI p) 0 0 w w2 wl wl2 → Q 1 w2 wl2) : wp_12_sign (nI p) (nI c) x w wl Q := by
  have stage : ∀ x0, (if c = 60 then 13 else if c = 47 then 15 else if c = 42 then 10 else if c = 45 then 9 else if c = 43 then 8 else x0) = sgK c → wp_12_sign_b43 Q (nI p) (nI c) (nI x0) w wl := by
    intro x0 e
    refine sg1 (k := 43) (v := 8) (fun y => wp_12_sign_b55 Q (nI p) (nI c) y w wl) hc (by omega) ?_
    refine sg1 (k := 45) (v := 9) (fun y => wp_12_sign_b65 Q (nI p) (nI c) y w wl) hc (by omega) ?_
    refine sg1 (k := 42) (v := 10) (fun y => wp_12_sign_b75 Q (nI p) (nI c) y w wl) hc (by omega) ?_
    refine sg1 (k := 47) (v := 15) (fun y => wp_12_sign_b85 Q (nI p) (nI c) y w wl) hc (by omega) ?_
    refine sg1 (k := 60) (v := 13) (fun y => wp_12_sign_b95 Q (nI p) y w wl) hc (by omega) ?_
    rw [e]
    exact r_token hi h (fun w2 wl2 o => K w2 wl2 o)
  have ne : ∀ k, ¬ nI c = nI k → ¬ c = k := fun k q z => q (by rw [z])
  have eq : ∀ k, k < 256 → ¬ ¬ nI c = nI k → c = k := fun k hk q => (nI_eq (by omega) (by omega)).mp (Classical.not_not.mp q)
  refine ⟨fun q59 => ⟨fun q61 => ⟨fun q40 => ⟨fun q41 => stage 3 ?_, fun q41 => stage 7 ?_⟩, fun q40 => stage 6 ?_⟩, fun q61 => stage 5 ?_⟩, fun q59 => stage 4 ?_⟩
  · have n59 := ne 59 q59
    have n61 := ne 61 q61
    have n40 := ne 40 q40
    have n41 := ne 41 q41
    unfold sgK
    simp only [if_neg n59, if_neg n61, if_neg n40, if_neg n41]
  · rw [eq 41 (by omega) q41]; rfl
  · rw [eq 40 (by omega) q40]; rfl
  · rw [eq 61 (by omega) q61]; rfl
  · rw [eq 59 (by omega) q59]; rfl
theorem r_isB {c : Nat} {A C : Prop} (hc : c < 256) (K1 : isB c = true → A) (K0 : ¬ isB c = true → C) : ((nI c = (9 : Int32) → A) ∧ (¬ (nI c = (9 : Int32)) → ((nI c = (10 : Int32) → A) ∧ (¬ (nI c = (10 : Int32)) → ((nI c = (13 : Int32) → A) ∧ (¬ (nI c = (13 : Int32)) → ((¬ nI c = (32 : Int32) → C) ∧ (¬ ¬ nI c = (32 : Int32) → A)))))))) := by
  have e : ∀ k, k < 2 ^ 20 → (nI c = nI k ↔ c = k) := fun k hk => nI_eq (by omega) (by omega)
  have e9 : nI c = 9 ↔ c = 9 := e 9 (by omega)
  have e10 : nI c = 10 ↔ c = 10 := e 10 (by omega)
  have e13 : nI c = 13 ↔ c = 13 := e 13 (by omega)
  have e32 : nI c = 32 ↔ c = 32 := e 32 (by omega)
  have d : isB c = true ↔ c = 9 ∨ c = 10 ∨ c = 13 ∨ c = 32 := by unfold isB; exact decide_eq_true_iff
  refine ⟨fun q => K1 (d.mpr (Or.inl (e9.mp q))), fun n9 => ⟨fun q => K1 (d.mpr (Or.inr (Or.inl (e10.mp q)))), fun n10 => ⟨fun q => K1 (d.mpr (Or.inr (Or.inr (Or.inl (e13.mp q))))), fun n13 => ⟨fun q => K0 (fun z => ?_), fun q => K1 (d.mpr (Or.inr (Or.inr (Or.inr (e32.mp (Classical.not_not.mp q))))))⟩⟩⟩⟩
  rcases d.mp z with z | z | z | z
  · exact n9 (e9.mpr z)
  · exact n10 (e10.mpr z)
  · exact n13 (e13.mpr z)
  · exact q (e32.mpr z)
theorem ltF_in {B : Nat → Nat} {n p : Nat} : ∀ (k : Nat), p + k ≤ spN isL B n p → ∀ c, c ∈ ltF B k p → 97 ≤ c ∧ c ≤ 122 := by
  intro k hk c hc
  obtain ⟨i, hi, e⟩ := List.mem_iff_getElem.mp hc
  rw [ltF_len] at hi
  have := ltF_get B k p i hi
  rw [List.getElem?_eq_getElem (by rw [ltF_len]; exact hi), e] at this
  have e2 : c = B (p + i) := Option.some.inj this
  rw [e2]
  exact isL_d.mp (spN_a (n := n) (p := p) (by omega) (by omega))
