theorem e_le {a b c : Nat} (e : a = b) (h : b ≤ c) : a ≤ c := by rw [e]; exact h
theorem e_ge {a b c : Nat} (e : a = b) (h : c ≤ b) : c ≤ a := by rw [e]; exact h
abbrev tx (S : PS) : TX := (fun _ _ => 0, sN S, sE S)
def okv (k v : Nat) : Prop := (k = 0 → 100 ≤ v ∧ v ≤ 2500) ∧ (k = 1 → v ≤ 2500) ∧ (k = 2 → v ≤ 99) ∧ (3 ≤ k ∧ k < 8 → v ≤ 9) ∧ (k = 8 → v ≤ 99) ∧ (k = 9 → v ≤ 30) ∧ (k = 10 → v ≤ 30) ∧ (k = 11 → v ≤ 300) ∧ (k = 12 → v ≤ 40) ∧ (k = 13 → v ≤ 99) ∧ (k = 14 → 1 ≤ v ∧ v ≤ 8) ∧ (k = 15 → v ≤ 9999)
theorem bt_num {L L2 : Nat → (Nat → Int32) → Int32} {N : Nat → Nat → Nat} {E E2 : Nat → Int32} {k v : Nat} (h : BT (L, N, E)) (o : okv k v) : BT (L2, up2 N 0 k v, E2) := by
  obtain ⟨⟨a1, a2, a3, a4, a5⟩, ⟨b1, b2, b3, b4, b5, b6⟩, ⟨c1, c2, c3, c4, c5⟩, d, e⟩ := h
  obtain ⟨o0, o1, o2, o3, o8, o9, o10, o11, o12, o13, o14, o15⟩ := o
  have u : ∀ i, up2 N 0 k v 0 i = if i = k then v else N 0 i := by
    intro i
    unfold up2
    by_cases q : i = k
    · rw [if_pos ⟨rfl, q⟩, if_pos q]
    · rw [if_neg (fun z => q z.2), if_neg q]
  have r : ∀ q x, q ≠ 0 → up2 N 0 k v q x = N q x := fun q x hq => if_neg (by omega)
  refine ⟨⟨?_, ?_, ?_, ?_, fun i hi => ?_⟩, ⟨?_, ?_, ?_, ?_, ?_, ?_⟩, ⟨?_, ?_, ?_, ?_, ?_⟩, fun a ha => ?_, fun j hj => ?_⟩
  · show 100 ≤ up2 N 0 k v 0 0
    rw [u]
    split
    · have := o0 (by omega); omega
    · exact a1
  · show up2 N 0 k v 0 0 ≤ 2500
    rw [u]
    split
    · have := o0 (by omega); omega
    · exact a2
  · show up2 N 0 k v 0 1 ≤ 2500
    rw [u]
    split
    · exact o1 (by omega)
    · exact a3
  · show up2 N 0 k v 0 2 ≤ 99
    rw [u]
    split
    · exact o2 (by omega)
    · exact a4
  · show up2 N 0 k v 0 (3 + i) ≤ 9
    rw [u]
    split
    · exact o3 (by omega)
    · exact a5 i hi
  · show up2 N 0 k v 0 8 ≤ 99
    rw [u]
    split
    · exact o8 (by omega)
    · exact b1
  · show up2 N 0 k v 0 9 ≤ 30
    rw [u]
    split
    · exact o9 (by omega)
    · exact b2
  · show up2 N 0 k v 0 10 ≤ 30
    rw [u]
    split
    · exact o10 (by omega)
    · exact b3
  · show up2 N 0 k v 0 11 ≤ 300
    rw [u]
    split
    · exact o11 (by omega)
    · exact b4
  · show up2 N 0 k v 0 12 ≤ 40
    rw [u]
    split
    · exact o12 (by omega)
    · exact b5
  · show up2 N 0 k v 0 13 ≤ 99
    rw [u]
    split
    · exact o13 (by omega)
    · exact b6
  · show 1 ≤ up2 N 0 k v 0 14
    rw [u]
    split
    · exact (o14 (by omega)).1
    · exact c1
  · show up2 N 0 k v 0 14 ≤ 8
    rw [u]
    split
    · exact (o14 (by omega)).2
    · exact c2
  · show up2 N 0 k v 0 15 ≤ 9999
    rw [u]
    split
    · exact o15 (by omega)
    · exact c3
  · show up2 N 0 k v 1 0 ≤ 8
    rw [r 1 0 (by decide)]
    exact c4
  · show up2 N 0 k v 1 1 ≤ 7
    rw [r 1 1 (by decide)]
    exact c5
  · have ha2 : a < N 1 0 := by have q : a < up2 N 0 k v 1 0 := ha; rw [r 1 0 (by decide)] at q; exact q
    show 30 ≤ up2 N 0 k v 2 a ∧ up2 N 0 k v 2 a ≤ 120 ∧ 100 ≤ up2 N 0 k v 3 a ∧ up2 N 0 k v 3 a ≤ 300 ∧ up2 N 0 k v 4 a ≤ 9 ∧ up2 N 0 k v 5 a ≤ 9
    rw [r 2 a (by decide), r 3 a (by decide), r 4 a (by decide), r 5 a (by decide)]
    exact d a ha2
  · have hj2 : j < N 1 1 := by have q : j < up2 N 0 k v 1 1 := hj; rw [r 1 1 (by decide)] at q; exact q
    show up2 N 0 k v 6 j ≤ 9
    rw [r 6 j (by decide)]
    exact e j hj2
theorem bt_man {L L2 : Nat → (Nat → Int32) → Int32} {N : Nat → Nat → Nat} {E E2 : Nat → Int32} {n v1 v2 v3 v4 : Nat} (hn : N 1 0 = n) (hn8 : n < 8) (h : BT (L, N, E)) (k1 : 30 ≤ v1 ∧ v1 ≤ 120) (k2 : 100 ≤ v2 ∧ v2 ≤ 300) (k3 : v3 ≤ 9) (k4 : v4 ≤ 9) : BT (L2, up2 (up2 (up2 (up2 (up2 N 2 n v1) 3 n v2) 4 n v3) 5 n v4) 1 0 (n + 1), E2) := by
  obtain ⟨a, b, ⟨c1, c2, c3, c4, c5⟩, d, e⟩ := h
  have n0 : ∀ q x, q = 0 ∨ q = 6 ∨ (q = 1 ∧ x = 1) → up2 (up2 (up2 (up2 (up2 N 2 n v1) 3 n v2) 4 n v3) 5 n v4) 1 0 (n + 1) q x = N q x := by
    intro q x hq
    simp only [up2]
    rw [if_neg (by omega), if_neg (by omega), if_neg (by omega), if_neg (by omega), if_neg (by omega)]
  have m : up2 (up2 (up2 (up2 (up2 N 2 n v1) 3 n v2) 4 n v3) 5 n v4) 1 0 (n + 1) 1 0 = n + 1 := by simp [up2]
  have at2 : ∀ q x, 2 ≤ q → q ≤ 5 → up2 (up2 (up2 (up2 (up2 N 2 n v1) 3 n v2) 4 n v3) 5 n v4) 1 0 (n + 1) q x = if x = n then (if q = 2 then v1 else if q = 3 then v2 else if q = 4 then v3 else v4) else N q x := by
    intro q x h1 h2
    rcases (by omega : q = 2 ∨ q = 3 ∨ q = 4 ∨ q = 5) with z | z | z | z <;> subst z <;> simp [up2]
  refine ⟨?_, ?_, ⟨?_, ?_, ?_, ?_, ?_⟩, fun x hx => ?_, fun j hj => ?_⟩
  · obtain ⟨a1, a2, a3, a4, a5⟩ := a
    exact ⟨e_ge (n0 0 0 (by omega)) a1, e_le (n0 0 0 (by omega)) a2, e_le (n0 0 1 (by omega)) a3, e_le (n0 0 2 (by omega)) a4, fun i hi => e_le (n0 0 (3 + i) (by omega)) (a5 i hi)⟩
  · obtain ⟨b1, b2, b3, b4, b5, b6⟩ := b
    exact ⟨e_le (n0 0 8 (by omega)) b1, e_le (n0 0 9 (by omega)) b2, e_le (n0 0 10 (by omega)) b3, e_le (n0 0 11 (by omega)) b4, e_le (n0 0 12 (by omega)) b5, e_le (n0 0 13 (by omega)) b6⟩
  · exact e_ge (n0 0 14 (by omega)) c1
  · exact e_le (n0 0 14 (by omega)) c2
  · exact e_le (n0 0 15 (by omega)) c3
  · exact e_le m (by omega)
  · exact e_le (n0 1 1 (by omega)) c5
  · have hx2 : x < n + 1 := by have q : x < up2 (up2 (up2 (up2 (up2 N 2 n v1) 3 n v2) 4 n v3) 5 n v4) 1 0 (n + 1) 1 0 := hx; rw [m] at q; exact q
    show 30 ≤ up2 (up2 (up2 (up2 (up2 N 2 n v1) 3 n v2) 4 n v3) 5 n v4) 1 0 (n + 1) 2 x ∧ up2 (up2 (up2 (up2 (up2 N 2 n v1) 3 n v2) 4 n v3) 5 n v4) 1 0 (n + 1) 2 x ≤ 120 ∧ 100 ≤ up2 (up2 (up2 (up2 (up2 N 2 n v1) 3 n v2) 4 n v3) 5 n v4) 1 0 (n + 1) 3 x ∧ up2 (up2 (up2 (up2 (up2 N 2 n v1) 3 n v2) 4 n v3) 5 n v4) 1 0 (n + 1) 3 x ≤ 300 ∧ up2 (up2 (up2 (up2 (up2 N 2 n v1) 3 n v2) 4 n v3) 5 n v4) 1 0 (n + 1) 4 x ≤ 9 ∧ up2 (up2 (up2 (up2 (up2 N 2 n v1) 3 n v2) 4 n v3) 5 n v4) 1 0 (n + 1) 5 x ≤ 9
    rw [at2 2 x (by decide) (by decide), at2 3 x (by decide) (by decide), at2 4 x (by decide) (by decide), at2 5 x (by decide) (by decide)]
    by_cases z : x = n
    · simp only [if_pos z]
      exact ⟨k1.1, k1.2, k2.1, k2.2, k3, k4⟩
    · simp only [if_neg z]
      exact d x (by show x < N 1 0; omega)
  · have hj2 : j < N 1 1 := by have q : j < up2 (up2 (up2 (up2 (up2 N 2 n v1) 3 n v2) 4 n v3) 5 n v4) 1 0 (n + 1) 1 1 := hj; rw [n0 1 1 (by omega)] at q; exact q
    exact e_le (n0 6 j (by omega)) (e j hj2)
theorem bt_jud {L L2 : Nat → (Nat → Int32) → Int32} {N : Nat → Nat → Nat} {E E2 : Nat → Int32} {n v : Nat} (hn : N 1 1 = n) (hn7 : n < 7) (h : BT (L, N, E)) (k : v ≤ 9) : BT (L2, up2 (up2 N 6 n v) 1 1 (n + 1), E2) := by
  obtain ⟨a, b, ⟨c1, c2, c3, c4, c5⟩, d, e⟩ := h
  have n0 : ∀ q x, q = 0 ∨ (2 ≤ q ∧ q < 6) ∨ (q = 1 ∧ x = 0) → up2 (up2 N 6 n v) 1 1 (n + 1) q x = N q x := by
    intro q x hq
    simp only [up2]
    rw [if_neg (by omega), if_neg (by omega)]
  have m : up2 (up2 N 6 n v) 1 1 (n + 1) 1 1 = n + 1 := by simp [up2]
  refine ⟨?_, ?_, ⟨?_, ?_, ?_, ?_, ?_⟩, fun x hx => ?_, fun j hj => ?_⟩
  · obtain ⟨a1, a2, a3, a4, a5⟩ := a
    exact ⟨e_ge (n0 0 0 (by omega)) a1, e_le (n0 0 0 (by omega)) a2, e_le (n0 0 1 (by omega)) a3, e_le (n0 0 2 (by omega)) a4, fun i hi => e_le (n0 0 (3 + i) (by omega)) (a5 i hi)⟩
  · obtain ⟨b1, b2, b3, b4, b5, b6⟩ := b
    exact ⟨e_le (n0 0 8 (by omega)) b1, e_le (n0 0 9 (by omega)) b2, e_le (n0 0 10 (by omega)) b3, e_le (n0 0 11 (by omega)) b4, e_le (n0 0 12 (by omega)) b5, e_le (n0 0 13 (by omega)) b6⟩
  · exact e_ge (n0 0 14 (by omega)) c1
  · exact e_le (n0 0 14 (by omega)) c2
  · exact e_le (n0 0 15 (by omega)) c3
  · exact e_le (n0 1 0 (by omega)) c4
  · exact e_le m (by omega)
  · have hx2 : x < N 1 0 := by have q : x < up2 (up2 N 6 n v) 1 1 (n + 1) 1 0 := hx; rw [n0 1 0 (by omega)] at q; exact q
    show 30 ≤ up2 (up2 N 6 n v) 1 1 (n + 1) 2 x ∧ up2 (up2 N 6 n v) 1 1 (n + 1) 2 x ≤ 120 ∧ 100 ≤ up2 (up2 N 6 n v) 1 1 (n + 1) 3 x ∧ up2 (up2 N 6 n v) 1 1 (n + 1) 3 x ≤ 300 ∧ up2 (up2 N 6 n v) 1 1 (n + 1) 4 x ≤ 9 ∧ up2 (up2 N 6 n v) 1 1 (n + 1) 5 x ≤ 9
    rw [n0 2 x (by omega), n0 3 x (by omega), n0 4 x (by omega), n0 5 x (by omega)]
    exact d x hx2
  · have hj2 : j < n + 1 := by have q : j < up2 (up2 N 6 n v) 1 1 (n + 1) 1 1 := hj; rw [m] at q; exact q
    show up2 (up2 N 6 n v) 1 1 (n + 1) 6 j ≤ 9
    by_cases z : j = n
    · subst z
      rw [show up2 (up2 N 6 j v) 1 1 (j + 1) 6 j = v by simp [up2]]
      exact k
    · rw [show up2 (up2 N 6 n v) 1 1 (n + 1) 6 j = N 6 j by simp only [up2]; rw [if_neg (by omega), if_neg (by omega)]]
      exact e j (by show j < N 1 1; omega)
def BI (S : PS) : Prop := sF S = none → BT (tx S)
theorem num_k {K V : Nat → Nat} : ∀ (L : List (Nat × Nat × Nat)) (t t2 : Nat) (S S2 : PS), (∀ x, x ∈ L → ∀ v, x.2.1 ≤ v → v ≤ x.2.2 → okv x.1 v) → BI S → numP K V L t S = .ok (t2, S2) → BI S2 ∧ (∀ q x, q ≠ 0 → sN S2 q x = sN S q x) ∧ sM S2 = sM S
  | [], t, t2, S, S2, hL, hB, h => by
    have e := (Prod.mk.inj (Except.ok.inj h)).2
    subst e
    exact ⟨hB, fun _ _ _ => rfl, rfl⟩
  | (k, lo, hi) :: r, t, t2, S, S2, hL, hB, h => by
    simp only [numP] at h
    obtain ⟨a, e1, h⟩ := bnd_ok h
    obtain ⟨f1, f2, f3, f4⟩ := in_ok (t2 := a.1) (lf2 := a.2) e1
    have ih := num_k r a.1 t2 _ S2 (fun x hx => hL x (List.mem_cons_of_mem _ hx)) (fun q => by
      obtain ⟨g1, g2, g3⟩ := f4 q
      exact bt_num (hB g1) (hL (k, lo, hi) (List.mem_cons_self ..) (V t) g2 g3)) h
    exact ⟨ih.1, fun q x hq => (ih.2.1 q x hq).trans (if_neg (by omega)), ih.2.2⟩
theorem fa_n {α : Type} {p : α → Prop} : ∀ x, x ∈ ([] : List α) → p x := fun x hx => absurd hx List.not_mem_nil
theorem fa_c {α : Type} {p : α → Prop} {a : α} {l : List α} (h : p a) (h2 : ∀ x, x ∈ l → p x) : ∀ x, x ∈ a :: l → p x := by
  intro x hx
  rcases List.mem_cons.mp hx with q | q
  · rw [q]; exact h
  · exact h2 x q
theorem up2_at {N : Nat → Nat → Nat} {r k v : Nat} : up2 N r k v r k = v := if_pos ⟨rfl, rfl⟩
theorem ns_ok (k : Nat) : ∀ x, x ∈ nsL k → ∀ v, x.2.1 ≤ v → v ≤ x.2.2 → okv x.1 v := by
  unfold nsL
  split
  · exact fa_c (fun v h1 h2 => by unfold okv; simp only at h1 h2 ⊢; omega) (fa_c (fun v h1 h2 => by unfold okv; simp only at h1 h2 ⊢; omega) (fa_c (fun v h1 h2 => by unfold okv; simp only at h1 h2 ⊢; omega) fa_n))
  split
  · exact fa_c (fun v h1 h2 => by unfold okv; simp only at h1 h2 ⊢; omega) (fa_c (fun v h1 h2 => by unfold okv; simp only at h1 h2 ⊢; omega) (fa_c (fun v h1 h2 => by unfold okv; simp only at h1 h2 ⊢; omega) (fa_c (fun v h1 h2 => by unfold okv; simp only at h1 h2 ⊢; omega) (fa_c (fun v h1 h2 => by unfold okv; simp only at h1 h2 ⊢; omega) fa_n))))
  split
  · exact fa_c (fun v h1 h2 => by unfold okv; simp only at h1 h2 ⊢; omega) fa_n
  split
  · exact fa_c (fun v h1 h2 => by unfold okv; simp only at h1 h2 ⊢; omega) fa_n
  split
  · exact fa_c (fun v h1 h2 => by unfold okv; simp only at h1 h2 ⊢; omega) (fa_c (fun v h1 h2 => by unfold okv; simp only at h1 h2 ⊢; omega) fa_n)
  split
  · exact fa_c (fun v h1 h2 => by unfold okv; simp only at h1 h2 ⊢; omega) (fa_c (fun v h1 h2 => by unfold okv; simp only at h1 h2 ⊢; omega) fa_n)
  split
  · exact fa_c (fun v h1 h2 => by unfold okv; simp only at h1 h2 ⊢; omega) fa_n
  exact fa_c (fun v h1 h2 => by unfold okv; simp only at h1 h2 ⊢; omega) fa_n
theorem si_x {L : Nat → Option (LE × LB)} {N5 : Nat → Nat → Nat} {E : Nat → Int32} {M : List Nat} {lf : LFt} {t a b : Nat} (e1 : N5 1 0 = a) (e2 : N5 1 1 = b) (ha : a ≤ 8) (hb : b ≤ 7) (hm : M.length + 1 = a + b) : SI (L, N5, E, M ++ [t], lf) := by
  refine ⟨?_, ?_, ?_⟩
  · show N5 1 0 ≤ 8
    omega
  · show N5 1 1 ≤ 7
    omega
  · show (M ++ [t]).length = N5 1 0 + N5 1 1
    rw [List.length_append, e1, e2]
    exact hm
/-- a TELL keeps what is always so -/
theorem tel_k {K V NM : Nat → Nat} {t t2 : Nat} {S S2 : PS} (hS : SI S) (hB : BI S) (h : telP K V NM t S = .ok (t2, S2)) : SI S2 ∧ BI S2 := by
  obtain ⟨s1, s2, s3⟩ := hS
  unfold telP at h
  split at h
  · rename_i hk
    split at h
    · cases h
    · rename_i hf
      obtain ⟨t1, e1, h⟩ := bnd_ok h
      obtain ⟨a, e2, h⟩ := bnd_ok h
      obtain ⟨b, e3, h⟩ := bnd_ok h
      have ea := (Prod.mk.inj (Except.ok.inj h)).2
      subst ea
      clear h e3
      unfold bodP at e2
      split at e2
      · obtain ⟨x, e4, e5⟩ := bnd_ok e2
        have := Except.ok.inj e5
        subst this
        exact ⟨⟨s1, s2, s3⟩, hB⟩
      · split at e2
        · rename_i k135
          unfold manP at e2
          obtain ⟨t1', e1, h⟩ := bnd_ok e2
          obtain ⟨x1, f1, h⟩ := bnd_ok h
          obtain ⟨x2, f2, h⟩ := bnd_ok h
          obtain ⟨x3, f3, h⟩ := bnd_ok h
          obtain ⟨x4, f4, h⟩ := bnd_ok h
          have ea := Except.ok.inj h
          subst ea
          have n8 : sN S 1 0 < 8 := by have : ¬ sN S 1 0 = 8 := fun z => hf (Or.inl ⟨k135, z⟩); omega
          obtain ⟨_, _, _, g1⟩ := in_ok (t2 := x1.1) (lf2 := x1.2) f1
          obtain ⟨_, _, _, g2⟩ := in_ok (t2 := x2.1) (lf2 := x2.2) f2
          obtain ⟨_, _, _, g3⟩ := in_ok (t2 := x3.1) (lf2 := x3.2) f3
          obtain ⟨_, _, _, g4⟩ := in_ok (t2 := x4.1) (lf2 := x4.2) f4
          refine ⟨si_x (a := sN S 1 0 + 1) (b := sN S 1 1) up2_at (by simp [up2]) (by omega) s2 (by omega), fun q => ?_⟩
          · obtain ⟨p4, q4⟩ := g4 q
            obtain ⟨p3, q3⟩ := g3 p4
            obtain ⟨p2, q2⟩ := g2 p3
            obtain ⟨p1, q1⟩ := g1 p2
            have p0 : sF S = none := by
              unfold nmF at p1
              split at p1
              · cases hh : sF S with
                | none => rfl
                | some y => rw [hh] at p1; cases p1
              · exact p1
            exact bt_man rfl n8 (hB p0) q1 q2 q3.2 q4.2
        · split at e2
          · rename_i k136
            unfold judP at e2
            obtain ⟨t1', e1, h⟩ := bnd_ok e2
            obtain ⟨x1, f1, h⟩ := bnd_ok h
            obtain ⟨x2, f2, h⟩ := bnd_ok h
            obtain ⟨x3, f3, h⟩ := bnd_ok h
            have ea := Except.ok.inj h
            subst ea
            have n7 : sN S 1 1 < 7 := by have : ¬ sN S 1 1 = 7 := fun z => hf (Or.inr ⟨k136, z⟩); omega
            obtain ⟨_, _, _, g2⟩ := in_ok (t2 := x2.1) (lf2 := x2.2) f2
            obtain ⟨_, _, _, g3⟩ := in_ok (t2 := x3.1) (lf2 := x3.2) f3
            refine ⟨si_x (a := sN S 1 0) (b := sN S 1 1 + 1) (by simp [up2]) up2_at s1 (by omega) (by omega), fun q => ?_⟩
            · obtain ⟨p3, q3⟩ := g3 q
              obtain ⟨p2, q2⟩ := g2 p3
              have p0 : sF S = none := by
                unfold nmF at p2
                split at p2
                · cases hh : sF S with
                  | none => rfl
                  | some y => rw [hh] at p2; cases p2
                · exact p2
              exact bt_jud rfl n7 (hB p0) q3.2
          · obtain ⟨i1, i2, i3⟩ := num_k (nsL (K t)) t1 a.1 S a.2 (ns_ok _) hB e2
            refine ⟨⟨?_, ?_, ?_⟩, i1⟩
            · rw [i2 1 0 (by decide)]; exact s1
            · rw [i2 1 1 (by decide)]; exact s2
            · rw [i3, i2 1 0 (by decide), i2 1 1 (by decide)]; exact s3
  · cases h
