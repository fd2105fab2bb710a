theorem pl_of {T : TX} {lf : Bool} {P : Nat → Int32} {k k2 : Nat} {w w2 : Mem} (hB : BT T) (h : PL T lf P k w) (e0 : w2 k2 4 = w k 4 ∧ w2 k2 5 = w k 5 ∧ w2 k2 6 = w k 6 ∧ w2 k2 7 = w k 7 ∧ w2 k2 8 = w k 8)
    (e1 : ∀ j, j < 8 → w2 (k2 + 1) j = w (k + 1) j) (e2 : ∀ j, j < 8 → w2 (k2 + 2) j = w (k + 2) j) (e3 : ∀ j, j < 256 → w2 (k2 + 3) j = w (k + 3) j) : PL T lf P k2 w2 := by
  have h7 := hB.2.2.1.2.2.2.2
  have z8 := szP_8 (P := P) hB
  obtain ⟨hn, ho, ht, hc, hw, hj⟩ := h
  refine ⟨?_, fun i hi => ?_, fun a ha => ?_, fun u c hu hc2 => ?_, fun u hu => ?_, fun u j hu hj2 => ?_⟩
  · rw [e0.1, e0.2.1, e0.2.2.1, e0.2.2.2.1, e0.2.2.2.2]; exact hn
  · rw [e1 i (by omega)]; exact ho i hi
  · rw [e2 a ha]; exact ht a ha
  · rw [e3 _ (by unfold uc; omega)]; exact hc u c hu hc2
  · rw [e3 _ (by unfold uc; omega)]; exact hw u hu
  · rw [e3 _ (by unfold uc; omega)]; exact hj u j hu hj2
theorem c_copyP {T : TX} {P : Nat → Int32} {w : Mem} {Q : Mem → Prop} (hB : BT T) (h : PL T false P 89 w) (K : ∀ w2, (∀ b, b < 93 ∨ 97 ≤ b → w2 b = w b) → PL T false P 93 w2 → Q w2) : wp_5_copy 93 89 w Q := by
  rintro _ rfl _ rfl _ rfl _ rfl w5 e5' w6 e6' w7 e7' w8 e8'
  have i0 : ix (0 : Int32) = 0 := ix0
  have i8 : ix (8 : Int32) = 8 := ix_nI (n := 8) (by omega)
  have i256 : ix (256 : Int32) = 256 := ix_nI (n := 256) (by omega)
  rw [i0, i8] at e6' e7'
  rw [i0, i256] at e8'
  have f5 : ∀ b, b ≠ 93 → w5 b = w b := by
    subst e5'
    intro b hb
    rw [st_ne b hb, st_ne b hb, st_ne b hb, st_ne b hb, st_ne b hb]
  have r5 : w5 93 4 = w 89 4 ∧ w5 93 5 = w 89 5 ∧ w5 93 6 = w 89 6 ∧ w5 93 7 = w 89 7 ∧ w5 93 8 = w 89 8 := by
    subst e5'
    simp [st]
  have f8 : ∀ b, b < 93 ∨ 97 ≤ b → w8 b = w b := by
    intro b hb
    rw [e8', cpy_ne b (by omega), e7', cpy_ne b (by omega), e6', cpy_ne b (by omega)]
    exact f5 b (by omega)
  have r93 : w8 93 = w5 93 := by rw [e8', cpy_ne _ (by omega), e7', cpy_ne _ (by omega), e6', cpy_ne _ (by omega)]
  have r94 : ∀ j, j < 8 → w8 94 j = w 90 j := by
    intro j hj
    rw [e8', cpy_ne 94 (by omega), e7', cpy_ne 94 (by omega), e6']
    rw [show (94 : Nat) = 93 + 1 from rfl, cpy_at, pk_cpy_in (by omega) (by omega), f5 _ (by omega), Nat.zero_add, Nat.sub_zero]
  have r95 : ∀ j, j < 8 → w8 95 j = w 91 j := by
    intro j hj
    rw [e8', cpy_ne 95 (by omega), e7']
    rw [show (95 : Nat) = 93 + 2 from rfl, cpy_at, pk_cpy_in (by omega) (by omega), e6', cpy_ne _ (by omega), f5 _ (by omega), Nat.zero_add, Nat.sub_zero]
  have r96 : ∀ j, j < 256 → w8 96 j = w 92 j := by
    intro j hj
    rw [e8']
    rw [show (96 : Nat) = 93 + 3 from rfl, cpy_at, pk_cpy_in (by omega) (by omega), e7', cpy_ne _ (by omega), e6', cpy_ne _ (by omega), f5 _ (by omega), Nat.zero_add, Nat.sub_zero]
  refine K w8 f8 (pl_of hB h ?_ r94 r95 r96)
  rw [r93]
  exact r5
def begP (T : TX) : Nat → Int32 := fun i => if i = 1 then 1 else if i = 2 then nI (tn T 12) else 0
theorem begP_rd (T : TX) : rd (begP T) = 1 ∧ sn (begP T) = 0 ∧ szP T (begP T) = tm T := by
  have h1 : rd (begP T) = 1 := ix_nI (n := 1) (by omega)
  have h2 : sn (begP T) = 0 := ix0
  refine ⟨h1, h2, ?_⟩
  unfold szP
  rw [h1, if_pos rfl]
theorem begP_0 (T : TX) {i : Nat} (h : 4 ≤ i) : begP T i = 0 := by
  unfold begP
  rw [if_neg (by omega), if_neg (by omega)]
theorem gw_beg {T : TX} (hB : BT T) (lf : Bool) : GW T lf (begP T) := by
  obtain ⟨h1, h2, h3⟩ := begP_rd T
  have b12 : tn T 12 ≤ 40 := hB.2.1.2.2.2.2.1
  refine ⟨⟨?_, ?_, by omega, by omega, by omega, ?_, tn T 12, rfl, b12⟩, fun _ a ha => ?_, fun _ a ha => begP_0 T (by omega), fun u hu => ⟨Or.inl (begP_0 T (by omega)), fun _ => ⟨begP_0 T (by omega), begP_0 T (by omega)⟩, ⟨0, begP_0 T (by omega), by omega⟩, ?_, ?_⟩, fun a h1 h2 => ⟨begP_0 T (by omega), begP_0 T (by omega)⟩⟩
  · rw [h1]; rfl
  · rw [h2]; rfl
  · rw [h2, h3]
    omega
  · rw [begP_0 T (by omega), h2]
    constructor
    · intro z; exact absurd z (by decide)
    · rintro ⟨i, hi, _⟩; omega
  · rw [begP_0 T (by omega)]; decide
  · rw [begP_0 T (by omega)]; decide
theorem cs_beg (T : TX) : CS T (begP T) := fun a q hq ha z => by
  rw [begP_0 T (by omega)] at z
  exact absurd z (by decide)
theorem c_begin {T : TX} {k : Nat} {w : Mem} {Q : Mem → Prop} (hk : 89 ≤ k) (h14 : w 48 14 = nI (tn T 12)) (h80 : w 80 6 = nI (tm T)) (hB : BT T) (K : ∀ w2, (∀ b, b < k ∨ k + 4 ≤ b → w2 b = w b) → PL T false (begP T) k w2 → Q w2) : wp_5_begin k w Q := by
  obtain ⟨h1, h2, h3⟩ := begP_rd T
  have h8 : tm T ≤ 8 := hB.2.2.1.2.2.2.1
  intro w1 e1 w2 e2 w3 e3 w4 e4 w5 e5
  have f5 : ∀ b, b ≠ k → w5 b = w b := by
    subst e5
    subst e4
    subst e3
    subst e2
    subst e1
    intro b hb
    rw [st_ne b hb, st_ne b hb, st_ne b hb, st_ne b hb, st_ne b hb]
  have r5 : w5 k 4 = 0 ∧ w5 k 5 = 1 ∧ w5 k 6 = nI (tn T 12) ∧ w5 k 7 = 0 ∧ w5 k 8 = nI (tm T) := by
    have g2 : w2 48 14 = nI (tn T 12) := by
      subst e2
      subst e1
      rw [st_nk (by omega), st_nk (by omega)]
      exact h14
    have g4 : w4 80 6 = nI (tm T) := by
      subst e4
      subst e3
      subst e2
      subst e1
      rw [st_nk (by omega), st_nk (by omega), st_nk (by omega), st_nk (by omega)]
      exact h80
    rw [g4] at e5
    rw [g2] at e3
    subst e5
    subst e4
    subst e3
    subst e2
    subst e1
    simp [st]
  clear e5 e4 e3 e2 e1
  refine pk_loop (fun n i (z : Mem) => wp_5_begin_b42 k Q n (nI i) z) (fun i z => (∀ b, b ≠ k + 1 → z b = w5 b) ∧ ∀ j, j < i → z (k + 1) j = nI j) 8 0 w5 (by omega) ⟨fun _ _ => rfl, fun j hj => absurd hj (by omega)⟩ (fun n z hz => ?_) (fun n i z hi hz L => ?_)
  · obtain ⟨f, o⟩ := hz
    refine pk_le 8 8 (fun _ => s_fill (by omega) (fun w6 f6 z6 => s_fill (by omega) (fun w7 f7 z7 => ?_))) (fun q => absurd q (by omega))
    have ek : w7 k = w5 k := by rw [f7 k (by omega), f6 k (by omega), f k (by omega)]
    refine K w7 (fun b hb => ?_) ⟨⟨?_, ?_, ?_, ?_, ?_⟩, fun i hi => ?_, fun a ha => ?_, fun u c hu hc => ?_, fun u hu => ?_, fun u j hu hj => ?_⟩
    · rw [f7 b (by omega), f6 b (by omega), f b (by omega), f5 b (by omega)]
    · rw [ek]; exact r5.1
    · rw [ek]; exact r5.2.1
    · rw [ek]; exact r5.2.2.1
    · rw [ek]; exact r5.2.2.2.1
    · rw [ek, h3]; exact r5.2.2.2.2
    · rw [h3] at hi
      rw [f7 (k + 1) (by omega), f6 (k + 1) (by omega), o i (by omega)]
      unfold odP
      rw [h1, if_pos rfl, if_neg (by decide)]
    · rw [f7 (k + 2) (by omega), z6 a (by omega)]
      unfold f2
      rw [begP_0 T (by omega), begP_0 T (by omega)]
      rfl
    · rw [z7 _ (by unfold uc; omega), begP_0 T (by omega)]
    · rw [z7 _ (by unfold uc; omega), begP_0 T (by omega)]
    · have := hB.2.2.1.2.2.2.2
      rw [z7 _ (by unfold uc; omega), begP_0 T (by omega)]
  · obtain ⟨f, o⟩ := hz
    refine pk_le 8 i (fun q => absurd q (by omega)) (fun _ => ⟨pk_in i 8 hi, fun w4 e4 x5 e5 => ?_⟩)
    rw [ix_nI (by omega)] at e4
    rw [nI_1] at e5
    subst e5
    subst e4
    refine L _ ⟨fun b hb => (st_ne b hb).trans (f b hb), fun j hj => ?_⟩
    rw [st_at]
    by_cases c : j = i
    · subst c; rw [pk_us]
    · rw [pk_un c]; exact o j (by omega)
theorem c_turn {T : TX} {k : Nat} {w : Mem} {Q : Mem → Prop} (hB : BT T) (h : PL T false (begP T) k w) (K : ∀ w2, (∀ b, b ≠ k + 1 → w2 b = w b) → PL T true (begP T) k w2 → Q w2) : wp_5_turnOrder k w Q := by
  obtain ⟨h1, h2, h3⟩ := begP_rd T
  have h8 : tm T ≤ 8 := hB.2.2.1.2.2.2.1
  obtain ⟨hn, ho, ht, hc, hw, hj⟩ := h
  have e8 : w k 8 = nI (tm T) := by rw [← h3]; exact hn.2.2.2.2
  refine pk_loop (fun n i (z : Mem) => wp_5_turnOrder_b2 k Q n (nI i) z) (fun i z => (∀ b, b ≠ k + 1 → z b = w b) ∧ ∀ j, j < i → z (k + 1) j = nI (tm T - 1 - j)) (tm T) 0 w (by omega) ⟨fun _ _ => rfl, fun j hj => absurd hj (by omega)⟩ (fun n z hz => ?_) (fun n i z hi hz L => ?_)
  · obtain ⟨f, o⟩ := hz
    unfold wp_5_turnOrder_b2
    rw [f k (by omega), e8]
    refine pk_le (tm T) (tm T) (fun _ => K z f ⟨?_, fun i hi => ?_, ?_, ?_, ?_, ?_⟩) (fun q => absurd q (by omega))
    · rw [f k (by omega)]; exact hn
    · rw [h3] at hi
      rw [o i hi]
      unfold odP
      rw [h1, if_pos rfl, if_pos rfl]
    · rw [f (k + 2) (by omega)]; exact ht
    · rw [f (k + 3) (by omega)]; exact hc
    · rw [f (k + 3) (by omega)]; exact hw
    · rw [f (k + 3) (by omega)]; exact hj
  · obtain ⟨f, o⟩ := hz
    unfold wp_5_turnOrder_b2
    rw [f k (by omega), e8]
    refine pk_le (tm T) i (fun q => absurd q (by omega)) (fun _ => pk_le 8 i (fun q => absurd q (by omega)) (fun _ => ⟨pk_in i 8 (by omega), fun w2 e2 x3 e3 => ?_⟩))
    rw [ix_nI (by omega), show (1 : Int32) = nI 1 from rfl, pk_sub (by omega), pk_sub (by omega)] at e2
    rw [nI_1] at e3
    subst e3
    subst e2
    refine L _ ⟨fun b hb => (st_ne b hb).trans (f b hb), fun j hj => ?_⟩
    rw [st_at]
    by_cases c : j = i
    · subst c; rw [pk_us]
    · rw [pk_un c]; exact o j (by omega)
/-- the reference begins anew -/
theorem r_begins {s : Nat} {T : TX} {w : Mem} {wl : MemL} {Q : Mem → MemL → Prop} (hs : s < 2) (h18 : w 150 18 = nI s) (hT : TR s T w) (hz : ∀ i, 260 ≤ i → w 181 i = 0) (K : ∀ w2, (∀ b i, b ≠ 181 → ¬ (b = 150 ∧ (i = 49 ∨ i = 50)) → w2 b i = w b i) → w2 181 = begP T → w2 150 49 = nI (tn T 15) → w2 150 50 = 0 → Q w2 wl) : wp_12_begins w wl Q := by
  refine pk_loop (fun n i (z : Mem) => wp_12_begins_b2 Q n (nI i) z wl) (fun i z => (∀ a, a ≠ 181 → z a = w a) ∧ (∀ j, j < i → z 181 j = 0) ∧ ∀ j, 260 ≤ j → z 181 j = 0) 260 0 w (by omega) ⟨fun _ _ => rfl, fun j hj => absurd hj (by omega), hz⟩ (fun n z hz => ?_) (fun n i z hi hz L => ?_)
  · obtain ⟨f, e, e0⟩ := hz
    refine pk_le 260 260 (fun _ w1 e1 => ?_) (fun q => absurd q (by omega))
    have f1 : ∀ a, a ≠ 181 → w1 a = w a := by subst e1; exact fun a ha => (st_ne a ha).trans (f a ha)
    have t1 : TR s T w1 := tr_rf hT (fun b h1 h2 h3 h4 => f1 b (by omega))
    have g18 : w1 150 18 = nI s := by rw [f1 150 (by decide)]; exact h18
    refine r_tell0 (a := 12) g18 hs (by omega) (fun w5 e5 => ?_)
    rw [t1.2.1 12 (by omega)] at e5
    have f5 : ∀ a, a ≠ 181 → w5 a = w a := by subst e5; exact fun a ha => (st_ne a ha).trans (f1 a ha)
    have t5 : TR s T w5 := tr_rf hT (fun b h1 h2 h3 h4 => f5 b (by omega))
    refine r_plainly hs (by rw [f5 150 (by decide)]; exact h18) t5 ?_
    refine K _ (fun b i h1 h2 => ?_) ?_ ?_ ?_
    · simp only [st]
      rw [if_neg (by omega), if_neg (by omega), f5 b h1]
    · rw [st_ne 181 (by decide), st_ne 181 (by decide)]
      funext i
      subst e5
      subst e1
      rw [st_at, st_at, show ix (1 : Int32) = 1 from ix_nI (n := 1) (by omega), show ix (2 : Int32) = 2 from ix_nI (n := 2) (by omega)]
      unfold upd begP
      by_cases c2 : i = 2
      · subst c2; rfl
      · by_cases c1 : i = 1
        · subst c1; rfl
        · rw [if_neg c2, if_neg c1, if_neg c1, if_neg c2]
          rcases Nat.lt_or_ge i 260 with c | c
          · exact e i c
          · exact e0 i c
    · rw [st_nj (by decide), st_eq]
    · exact st_eq
  · obtain ⟨f, e, e0⟩ := hz
    refine pk_le 260 i (fun q => absurd q (by omega)) (fun _ => ⟨vp_in_nI hi (by decide), fun w5 e5 x6 e6 => ?_⟩)
    rw [ix_nI (by omega)] at e5
    rw [nI_1] at e6
    subst e6
    subst e5
    refine L _ ⟨fun a ha => (st_ne a ha).trans (f a ha), fun j hj => ?_, fun j hj => ?_⟩
    · rw [st_at]
      by_cases c : j = i
      · subst c; exact pk_us
      · rw [pk_un c]; exact e j (by omega)
    · rw [st_at, pk_un (by omega)]; exact e0 j hj
