/-- all rows but the row a stay -/
def frO (a : Nat) (w w2 : Mem) : Prop := ∀ b, b ≠ a → w2 b = w b
theorem r_clears2 {Q : Mem → MemL → Prop} {wl : MemL} : ∀ (m i : Nat) (w : Mem), i + m = 11 → (∀ j, j < i → w 178 j = 0) →
    (∀ w2, frO 178 w w2 → (∀ j, j < 11 → w2 178 j = 0) → Q w2 wl) → wp_12_clears_b2 Q (m + 1) (nI i) w wl
  | 0, i, w, h, hz, K => by
    refine pk_le 11 i (fun _ => K w (fun _ _ => rfl) (fun j hj => hz j (by omega))) (fun q => absurd q (by omega))
  | m + 1, i, w, h, hz, K => by
    refine pk_le 11 i (fun q => absurd q (by omega)) (fun _ => ⟨pk_in i 11 (by omega), fun w2 e x3 e3 => ?_⟩)
    rw [ix_nI (by omega)] at e
    rw [show nI i + (1 : Int32) = nI (i + 1) from nI_add i 1] at e3
    subst e
    subst e3
    refine r_clears2 m (i + 1) _ (by omega) ?_ ?_
    · intro j hj
      rw [st_at]
      by_cases c : j = i
      · subst c; exact pk_us
      · rw [pk_un c]; exact hz j (by omega)
    · intro w2 f z
      exact K w2 (fun b hb => (f b hb).trans (st_ne b hb)) z
theorem r_clears {Q : Mem → MemL → Prop} {w : Mem} {wl : MemL} (K : ∀ w2, frO 178 w w2 → (∀ j, j < 11 → w2 178 j = 0) → Q w2 wl) : wp_12_clears w wl Q :=
  ⟨12, r_clears2 11 0 w rfl (fun j hj => absurd hj (by omega)) K⟩
theorem r_tell0 {s a : Nat} {w : Mem} {wl : MemL} {Q : Int32 → Mem → MemL → Prop} (h18 : w 150 18 = nI s) (hs : s < 2) (ha : a < 20) (K : Q (w 159 (20 * s + a)) w wl) : wp_12_tell0 (nI a) w wl Q := by
  unfold wp_12_tell0
  rw [h18, show (20 : Int32) = nI 20 from rfl, pk_mul, nI_add]
  refine ⟨pk_in (20 * s + a) 40 (by omega), ?_⟩
  rw [ix_nI (by omega)]
  exact K
/-- the variables of the wind's law -/
def windV (a1 a2 : Int32) : Nat → Int32 := fun j => if j = 0 then a2 else if j = 1 then a1 else 0
