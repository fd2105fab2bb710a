/-! layer 2: the two memories side by side -/
def wdL : List (List Nat) := [[104, 105, 108, 108], [119, 105, 110, 100], [102, 97, 114], [103, 105, 118, 101, 115], [115, 116, 121, 108, 101], [103, 111, 101, 115], [112, 97, 114, 116, 115], [109, 97, 110], [106, 117, 100, 103, 101], [115, 110, 111, 119], [103, 117, 115, 116, 115], [119, 97, 105, 116, 115], [103, 97, 116, 101], [115, 101, 99, 111, 110, 100], [115, 101, 101, 100], [105, 102], [116, 104, 101, 110], [101, 108, 115, 101], [97, 116], [115, 101, 99, 116, 105, 111, 110], [103, 117, 115, 116], [119, 101, 105, 103, 104, 116], [115, 107, 105], [108, 97, 116, 101], [119, 104, 105, 116, 101], [98, 97, 114], [108, 101, 110, 103, 116, 104], [108, 101, 97, 110], [104, 111, 109, 101]]
/-- a name as a number of base 27 -/
def nvF : Nat → List Nat → Nat
  | x, [] => x
  | x, c :: r => nvF (27 * x + (c - 96)) r
def KEYS (wl : MemL) : Prop := ∀ k, k < 29 → wl 157 k = lN (nvF 0 (wdL.getD k []))
/-- 260 numbers of a row, from the place b on -/
def cu (f : Nat → Int32) (b : Nat) : Nat → Int32 := fun j => if j < 260 then f (b + j) else 0
/-- a saved row of the class, looked at as a play -/
def unr (row : Nat → Int32) : Mem := fun a j => if a = 0 then row (j - 4) else if a = 1 then row (5 + j) else if a = 2 then row (13 + j) else row (21 + j)
def SR (T : TX) (P row : Nat → Int32) : Prop := PL T false P 0 (unr row)
/-- each jump that was is the jump of its second, slip, gate and place -/
def CS (T : TX) (P : Nat → Int32) : Prop := ∀ a q, q < 2 → a < 8 → P (4 + (8 * q + a)) = 1 →
  P (20 + (8 * q + a)) = jL T (nI (tn T 15)) a (P (84 + (8 * q + a))) (P (68 + (8 * q + a))) (P (100 + (8 * q + a))) (P (132 + (8 * q + a))) ∧ P (116 + (8 * q + a)) = meanT T (nI (tn T 15)) (P (84 + (8 * q + a))) ∧
  (∀ j, j < tj T → P (148 + 7 * (8 * q + a) + j) = jM T (nI (tn T 15)) a (P (84 + (8 * q + a))) (P (68 + (8 * q + a))) (P (100 + (8 * q + a))) (P (132 + (8 * q + a))) j) ∧ ∃ g, P (100 + (8 * q + a)) = nI g ∧ g ≤ 40
def GS (T : TX) (P : Nat → Int32) : Prop := GW T false P ∧ CS T P
def HR (T : TX) (w wm : Mem) : Prop := ∃ n x, n ≤ 40 ∧ x < 40 ∧ w 97 1 = nI n ∧ w 97 2 = nI x ∧ wm 150 64 = nI n ∧ ∀ i, i < n → SR T (cu (wm 183) (260 * i)) (w (99 + (x + 40 - n + i) % 40)) ∧ GS T (cu (wm 183) (260 * i))
def SL (T : TX) (w wm : Mem) : Prop := ∀ i, i < 3 → (w 144 i = wm 187 i ∧ (w 144 i = 0 ∨ w 144 i = 1)) ∧ (w 144 i = 1 → SR T (cu (wm 188) (260 * i)) (w (141 + i)) ∧ GS T (cu (wm 188) (260 * i)))
def TO (w wm : Mem) : Prop := ∃ n, n ≤ 20 ∧ w 145 3 = nI n ∧ wm 150 66 = nI n ∧ ∀ i, i < n → w 146 i = wm 184 i ∧ w 147 i = wm 185 i ∧ w 148 i = wm 186 i
def TA (w wm : Mem) : Prop := ∃ n, n ≤ 2000 ∧ w 1 1 = nI n ∧ wm 150 2 = nI n ∧ ∀ i, i < n → w 2 i = wm 151 i
/-- what every call finds in the reference -/
def RB (s : Nat) (T : TX) (w : Mem) : Prop := s < 2 ∧ w 150 18 = nI s ∧ TR s T w ∧ BT T ∧ w 150 61 = -1 ∧ (∀ i, 260 ≤ i → w 180 i = 0 ∧ w 181 i = 0) ∧ GW T false (w 180)
def RELt (T : TX) (s : Nat) (w wm : Mem) (wl : MemL) : Prop :=
  (CT T (nI (tn T 15)) w ∧ RB s T wm ∧ PL T false (wm 180) 89 w ∧ CS T (wm 180)) ∧ (HR T w wm ∧ SL T w wm ∧ TO w wm ∧ TA w wm) ∧ w 0 12 = wm 150 17 ∧ KEYS wl
def REL (w wm : Mem) (wl : MemL) : Prop := ∃ T s, RELt T s w wm wl
/-- what a question to the reference may write -/
def frO2 (w w2 : Mem) : Prop := ∀ a j, ¬ scR a j → a ≠ 181 → ¬ (a = 150 ∧ (j = 49 ∨ j = 50)) → w2 a j = w a j
theorem fo_re (w : Mem) : frO2 w w := fun _ _ _ _ _ => rfl
theorem fo_tr {w w2 w3 : Mem} (h : frO2 w w2) (h2 : frO2 w2 w3) : frO2 w w3 := fun a j p q r => (h2 a j p q r).trans (h a j p q r)
theorem fo_rf {w w2 w3 : Mem} (h : frO2 w w2) (f : RF w2 w3) : frO2 w w3 := fun a j p q r => (f a j p).trans (h a j p q r)
theorem fo_fw {w w2 w3 : Mem} (h : frO2 w w2) (f : frW w2 w3) : frO2 w w3 := fo_rf h (fw_rf (rf_re w2) f)
theorem fo_fp {w w2 w3 : Mem} (h : frO2 w w2) (f : frP w2 w3) : frO2 w w3 := fun a j p q r => (f a j p q).trans (h a j p q r)
theorem rb_fo {s : Nat} {T : TX} {w w2 : Mem} (h : RB s T w) (f : frO2 w w2) (z : ∀ i, 260 ≤ i → w2 181 i = 0) : RB s T w2 := by
  obtain ⟨h1, h2, h3, h4, h5, h6, h7⟩ := h
  have e180 : w2 180 = w 180 := funext (fun j => f 180 j (by simp only [scR]; omega) (by omega) (by omega))
  refine ⟨h1, (f 150 18 (by decide) (by decide) (by decide)).trans h2, tr_rf h3 (fun b k1 k2 k3 k4 => funext (fun j => f b j (by simp only [scR]; omega) (by omega) (by omega))), h4, (f 150 61 (by decide) (by decide) (by decide)).trans h5, fun i hi => ⟨?_, z i hi⟩, ?_⟩
  · rw [e180]; exact (h6 i hi).1
  · rw [e180]; exact h7
/-- what a question to the class may write -/
def fcO (w w2 : Mem) : Prop := ∀ a j, ¬ scC a j → (a < 93 ∨ 97 ≤ a) → a ≠ 149 → w2 a j = w a j
theorem fc_re (w : Mem) : fcO w w := fun _ _ _ _ _ => rfl
theorem fc_tr {w w2 w3 : Mem} (h : fcO w w2) (h2 : fcO w2 w3) : fcO w w3 := fun a j p q r => (h2 a j p q r).trans (h a j p q r)
theorem fc_cf {w w2 w3 : Mem} (h : fcO w w2) (f : fcS w2 w3) : fcO w w3 := fun a j p q r => (f a j p).trans (h a j p q r)
theorem fs_tr {w w2 w3 : Mem} (h : fcS w w2) (f : fcS w2 w3) : fcS w w3 := fun a j p => (f a j p).trans (h a j p)
theorem fs_re (w : Mem) : fcS w w := fun _ _ _ => rfl
theorem rel_q {T : TX} {s : Nat} {w w2 wm wm2 : Mem} {wl : MemL} (h : RELt T s w wm wl) (f : fcO w w2) (g : frO2 wm wm2) (z : ∀ i, 260 ≤ i → wm2 181 i = 0) : RELt T s w2 wm2 wl := by
  obtain ⟨⟨hC, hR, hP, hS⟩, ⟨hH, hL, hT, hA⟩, h12, hK⟩ := h
  have cr : ∀ a, 89 ≤ a → (a < 93 ∨ 97 ≤ a) → a ≠ 149 → w2 a = w a := fun a h1 h2 h3 => funext (fun j => f a j (by simp only [scC]; omega) h2 h3)
  have cl : ∀ a, a < 49 → w2 a = w a := fun a h1 => funext (fun j => f a j (by simp only [scC]; omega) (by omega) (by omega))
  have rr : ∀ a, a ≠ 150 → a ≠ 178 → a ≠ 179 → a ≠ 181 → a ≠ 182 → wm2 a = wm a := fun a h1 h2 h3 h4 h5 => funext (fun j => g a j (by simp only [scR]; omega) h4 (by omega))
  have e180 := rr 180 (by decide) (by decide) (by decide) (by decide) (by decide)
  refine ⟨⟨ct_fr hC (fun a j q ha => f a j q (by omega) (by omega)), rb_fo hR g z, ?_, ?_⟩, ⟨?_, ?_, ?_, ?_⟩, ?_, hK⟩
  · rw [e180]; exact pl_fr hP (fun a h1 h2 => cr a (by omega) (by omega) (by omega))
  · rw [e180]; exact hS
  · obtain ⟨n, x, k1, k2, k3, k4, k5, k6⟩ := hH
    refine ⟨n, x, k1, k2, ?_, ?_, (g 150 64 (by decide) (by decide) (by decide)).trans k5, fun i hi => ?_⟩
    · rw [cr 97 (by decide) (by decide) (by decide)]; exact k3
    · rw [cr 97 (by decide) (by decide) (by decide)]; exact k4
    · rw [cr _ (by omega) (by omega) (by omega), rr 183 (by decide) (by decide) (by decide) (by decide) (by decide)]; exact k6 i hi
  · intro i hi
    rw [cr 144 (by decide) (by decide) (by decide), cr (141 + i) (by omega) (by omega) (by omega), rr 187 (by decide) (by decide) (by decide) (by decide) (by decide), rr 188 (by decide) (by decide) (by decide) (by decide) (by decide)]
    exact hL i hi
  · unfold TO
    rw [cr 145 (by decide) (by decide) (by decide), cr 146 (by decide) (by decide) (by decide), cr 147 (by decide) (by decide) (by decide), cr 148 (by decide) (by decide) (by decide), rr 184 (by decide) (by decide) (by decide) (by decide) (by decide), rr 185 (by decide) (by decide) (by decide) (by decide) (by decide), rr 186 (by decide) (by decide) (by decide) (by decide) (by decide), g 150 66 (by decide) (by decide) (by decide)]
    exact hT
  · unfold TA
    rw [cl 1 (by decide), cl 2 (by decide), rr 151 (by decide) (by decide) (by decide) (by decide) (by decide), g 150 2 (by decide) (by decide) (by decide)]
    exact hA
  · rw [cl 0 (by decide), g 150 17 (by decide) (by decide) (by decide)]; exact h12

/-- copying 260 cells of a row -/
theorem r_plainly {s : Nat} {T : TX} {w : Mem} {wl : MemL} {Q : Mem → MemL → Prop} (hs : s < 2) (h18 : w 150 18 = nI s) (hT : TR s T w) (K : Q (st (st w 150 49 (nI (tn T 15))) 150 50 0) wl) : wp_12_plainly w wl Q := by
  refine r_tell0 (a := 15) h18 hs (by omega) ?_
  rw [hT.2.1 15 (by omega)]
  rintro _ rfl _ rfl
  exact K
theorem r_copies {s : Nat} {T : TX} {w : Mem} {wl : MemL} {Q : Mem → MemL → Prop} (h : RB s T w) (K : ∀ w2, frO2 w w2 → w2 181 = w 180 → RP s T (nI (tn T 15)) false w2 → RB s T w2 → Q w2 wl) : wp_12_copies w wl Q := by
  refine pk_loop (fun n i (z : Mem) => wp_12_copies_b2 Q n (nI i) z wl) (fun i z => (∀ a, a ≠ 181 → z a = w a) ∧ (∀ j, j < i → z 181 j = w 180 j) ∧ ∀ j, 260 ≤ j → z 181 j = 0) 260 0 w (by omega) ⟨fun _ _ => rfl, fun j hj => absurd hj (by omega), fun j hj => (h.2.2.2.2.2.1 j hj).2⟩ (fun n z hz => ?_) (fun n i z hi hz L => ?_)
  · obtain ⟨f, e, e0⟩ := hz
    refine pk_le 260 260 (fun _ => ?_) (fun q => absurd q (by omega))
    have f0 : frO2 w z := fun a j p q r => by rw [f a q]
    have e1 : z 181 = w 180 := funext (fun j => by
      rcases Nat.lt_or_ge j 260 with c | c
      · exact e j c
      · rw [e0 j c, (h.2.2.2.2.2.1 j c).1])
    have hz := rb_fo h f0 e0
    refine r_plainly hz.1 hz.2.1 hz.2.2.1 ?_
    have f1 : frO2 w (st (st z 150 49 (nI (tn T 15))) 150 50 0) := by
      intro a j p q r
      simp only [st]
      rw [if_neg (by omega), if_neg (by omega)]
      exact f0 a j p q r
    have r1 : (st (st z 150 49 (nI (tn T 15))) 150 50 0) 181 = w 180 := by rw [st_ne 181 (by decide), st_ne 181 (by decide)]; exact e1
    have b1 := rb_fo h f1 (by rw [r1]; exact fun i hi => (h.2.2.2.2.2.1 i hi).1)
    refine K _ f1 r1 ⟨⟨b1.1, b1.2.1, b1.2.2.1, b1.2.2.2.1, ?_⟩, b1.2.2.2.2.1, ?_, ?_⟩ b1
    · rw [st_nj (by decide), st_eq]
    · exact st_eq
    · rw [r1]; exact h.2.2.2.2.2.2
  · obtain ⟨f, e, e0⟩ := hz
    refine pk_le 260 i (fun q => absurd q (by omega)) (fun _ => ⟨vp_in_nI hi (by decide), vp_in_nI hi (by decide), fun w5 e5 x6 e6 => ?_⟩)
    rw [ix_nI (by omega), f 180 (by decide)] at e5
    rw [nI_1] at e6
    subst e6
    subst e5
    refine L _ ⟨fun a ha => (st_ne a ha).trans (f a ha), fun j hj => ?_, fun j hj => ?_⟩
    · rw [st_at]
      by_cases c : j = i
      · subst c; exact pk_us
      · rw [pk_un c]; exact e j (by omega)
    · rw [st_at, pk_un (by omega)]; exact e0 j hj
/-- between two numbers -/
abbrev inR (lo hi x : Int32) : Prop := lo ≤ x ∧ x ≤ hi
theorem nlt {a b : Int32} : ¬ a < b ↔ b ≤ a := by rw [Int32.lt_iff_toInt_lt, Int32.le_iff_toInt_le]; omega
theorem c_in {x lo hi : Int32} {w : Mem} {Q : Int32 → Mem → Prop} (K : inR lo hi x → Q 1 w) (K0 : ¬ inR lo hi x → Q 0 w) : wp_11_within x lo hi w Q :=
  ⟨fun q => K0 (fun z => nlt.mpr z.1 q), fun q => ⟨fun q2 => K0 (fun z => nlt.mpr z.2 q2), fun q2 => K ⟨nlt.mp q, nlt.mp q2⟩⟩⟩
theorem r_in {x lo hi : Int32} {w : Mem} {wl : MemL} {Q : Int32 → Mem → MemL → Prop} (K : inR lo hi x → Q 1 w wl) (K0 : ¬ inR lo hi x → Q 0 w wl) : wp_12_in x lo hi w wl Q :=
  ⟨fun q => K0 (fun z => nlt.mpr z.1 q), fun q => ⟨fun q2 => K0 (fun z => nlt.mpr z.2 q2), fun q2 => K ⟨nlt.mp q, nlt.mp q2⟩⟩⟩
theorem inR_nI {x : Int32} {n : Nat} (hn : n < 2 ^ 31) (h : inR 0 (nI n) x) : ∃ a, a ≤ n ∧ x = nI a := by
  obtain ⟨h1, h2⟩ := h
  rw [Int32.le_iff_toInt_le] at h1 h2
  rw [ti_nI hn] at h2
  rw [show (0 : Int32).toInt = 0 from rfl] at h1
  exact ⟨x.toInt.toNat, by omega, nI_ti (by omega) (by omega)⟩
theorem inR_man {x : Int32} {m : Nat} (hm : m ≤ 8) (h : inR 0 (nI m - 1) x) : ∃ a, a < m ∧ x = nI a := by
  obtain ⟨h1, h2⟩ := h
  rw [Int32.le_iff_toInt_le] at h1 h2
  rw [ti_sub (by rw [ti_nI (by omega)]; simp; omega) (by rw [ti_nI (by omega)]; simp; omega), ti_nI (by omega), show (1 : Int32).toInt = 1 from rfl] at h2
  rw [show (0 : Int32).toInt = 0 from rfl] at h1
  exact ⟨x.toInt.toNat, by omega, nI_ti (by omega) (by omega)⟩
/-- a man asked for: the same question on both sides -/
abbrev isM (T : TX) (x : Int32) : Prop := inR 0 (nI (tm T) - 1) x
abbrev isJ (T : TX) (x : Int32) : Prop := inR 0 (nI (tj T) - 1) x
theorem c_isMan {T : TX} {x : Int32} {w : Mem} {Q : Int32 → Mem → Prop} (h : w 80 6 = nI (tm T)) (K : isM T x → Q 1 w) (K0 : ¬ isM T x → Q 0 w) : wp_11_isMan x w Q := by
  unfold wp_11_isMan
  rw [h]
  exact c_in (fun q => ⟨Or.inr rfl, K q⟩) (fun q => ⟨Or.inl rfl, K0 q⟩)
theorem c_isJudge {T : TX} {x : Int32} {w : Mem} {Q : Int32 → Mem → Prop} (h : w 80 7 = nI (tj T)) (K : isJ T x → Q 1 w) (K0 : ¬ isJ T x → Q 0 w) : wp_11_isJudge x w Q := by
  unfold wp_11_isJudge
  rw [h]
  exact c_in (fun q => ⟨Or.inr rfl, K q⟩) (fun q => ⟨Or.inl rfl, K0 q⟩)
theorem r_isMan {T : TX} {s : Nat} {x : Int32} {w : Mem} {wl : MemL} {Q : Int32 → Mem → MemL → Prop} (h : RB s T w) (K : isM T x → Q 1 w wl) (K0 : ¬ isM T x → Q 0 w wl) : wp_12_isMan x w wl Q := by
  have hs := h.1
  unfold wp_12_isMan
  rw [h.2.1]
  refine ⟨pk_in s 2 hs, ?_⟩
  rw [ix_nI (by omega), h.2.2.1.2.2.1.1]
  exact r_in (fun q => ⟨Or.inr rfl, K q⟩) (fun q => ⟨Or.inl rfl, K0 q⟩)
theorem r_isJudge {T : TX} {s : Nat} {x : Int32} {w : Mem} {wl : MemL} {Q : Int32 → Mem → MemL → Prop} (h : RB s T w) (K : isJ T x → Q 1 w wl) (K0 : ¬ isJ T x → Q 0 w wl) : wp_12_isJudge x w wl Q := by
  have hs := h.1
  unfold wp_12_isJudge
  rw [h.2.1]
  refine ⟨pk_in s 2 hs, ?_⟩
  rw [ix_nI (by omega), h.2.2.1.2.2.1.2]
  exact r_in (fun q => ⟨Or.inr rfl, K q⟩) (fun q => ⟨Or.inl rfl, K0 q⟩)
