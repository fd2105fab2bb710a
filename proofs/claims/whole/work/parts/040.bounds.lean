/-! layer 2: how large the numbers of a jump can be -/
theorem ti_add {a b : Int32} (h : -2147483648 ≤ a.toInt + b.toInt) (h2 : a.toInt + b.toInt ≤ 2147483647) : (a + b).toInt = a.toInt + b.toInt := by
  rw [Int32.toInt_add]
  exact Int.bmod_eq_of_le (by omega) (by omega)
theorem ti_sub {a b : Int32} (h : -2147483648 ≤ a.toInt - b.toInt) (h2 : a.toInt - b.toInt ≤ 2147483647) : (a - b).toInt = a.toInt - b.toInt := by
  rw [Int32.toInt_sub]
  exact Int.bmod_eq_of_le (by omega) (by omega)
theorem ti_mul {a b : Int32} (h : -2147483648 ≤ a.toInt * b.toInt) (h2 : a.toInt * b.toInt ≤ 2147483647) : (a * b).toInt = a.toInt * b.toInt := by
  rw [Int32.toInt_mul]
  exact Int.bmod_eq_of_le (by omega) (by omega)
theorem ti_nI {n : Nat} (h : n < 2 ^ 31) : (nI n).toInt = n := nI_toInt h
theorem ti_mx (x y : Int32) : (mx x y).toInt = max x.toInt y.toInt := by
  simp only [mx, Int32.lt_iff_toInt_lt]
  split <;> omega
theorem ti_mn (x y : Int32) : (mn x y).toInt = min x.toInt y.toInt := by
  simp only [mn, Int32.lt_iff_toInt_lt]
  split <;> omega
theorem nI_ti {x : Int32} {n : Nat} (h : x.toInt = n) (hn : n < 2 ^ 31) : x = nI n := Int32.toInt_inj.mp (by rw [h, ti_nI hn])
/-- sums of marks -/
theorem styN_b {mk : Nat → Int32} {ex : Int32} : ∀ n, n ≤ 7 → (∀ j, j < n → 0 ≤ (mk j).toInt ∧ (mk j).toInt ≤ 200) →
    (0 ≤ (styN mk ex n).2.1.toInt ∧ (styN mk ex n).2.1.toInt ≤ 200 * (styN mk ex n).1) ∧ (0 ≤ (styN mk ex n).2.2.1.toInt ∧ (styN mk ex n).2.2.1.toInt ≤ 200 ∧ 0 ≤ (styN mk ex n).2.2.2.toInt ∧ (styN mk ex n).2.2.2.toInt ≤ 200) ∧
    ((styN mk ex n).1 = 1 → (styN mk ex n).2.2.1 = (styN mk ex n).2.1 ∧ (styN mk ex n).2.2.2 = (styN mk ex n).2.1) ∧
    (2 ≤ (styN mk ex n).1 → (styN mk ex n).2.1.toInt - (styN mk ex n).2.2.1.toInt - (styN mk ex n).2.2.2.toInt ≤ 200 * ((styN mk ex n).1 - 2 : Int))
  | 0, _, _ => by
    have e : styN mk ex 0 = (0, 0, 200, 0) := rfl
    rw [e]
    exact ⟨⟨by decide, by decide⟩, ⟨by decide, by decide, by decide, by decide⟩, fun q => absurd q (by decide), fun q => absurd q (by decide)⟩
  | n + 1, h7, h => by
    obtain ⟨⟨i1, i2⟩, ⟨i3, i4, i5, i6⟩, i7, i8⟩ := styN_b (mk := mk) (ex := ex) n (by omega) (fun j hj => h j (by omega))
    obtain ⟨m0, m1⟩ := h n (by omega)
    have c := styN_le mk ex n
    simp only [styN]
    by_cases q : nI n = ex
    · rw [if_pos q]
      exact ⟨⟨i1, i2⟩, ⟨i3, i4, i5, i6⟩, i7, i8⟩
    · rw [if_neg q]
      simp only []
      have es : ((styN mk ex n).2.1 + mk n).toInt = (styN mk ex n).2.1.toInt + (mk n).toInt := ti_add (by omega) (by omega)
      rw [es, ti_mn, ti_mx]
      refine ⟨⟨by omega, by omega⟩, ⟨by omega, by omega, by omega, by omega⟩, fun z => ?_, fun z => ?_⟩
      · have z0 : (styN mk ex n).1 = 0 := by omega
        rw [styN_0 mk ex n z0]
        simp only []
        constructor
        · apply Int32.toInt_inj.mp
          rw [ti_mn, ti_add (by simp; omega) (by simp; omega)]
          simp
          omega
        · apply Int32.toInt_inj.mp
          rw [ti_mx, ti_add (by simp; omega) (by simp; omega)]
          simp
          omega
      · rcases Nat.lt_or_ge (styN mk ex n).1 2 with l | l
        · have z1 : (styN mk ex n).1 = 1 := by omega
          obtain ⟨e1, e2⟩ := i7 z1
          rw [e1, e2, z1]
          omega
        · have := i8 l
          omega
theorem styT_b {mk : Nat → Int32} {ex : Int32} {n : Nat} (h7 : n ≤ 7) (h : ∀ j, j < n → 0 ≤ (mk j).toInt ∧ (mk j).toInt ≤ 200) : -400 ≤ (styT mk ex n).toInt ∧ (styT mk ex n).toInt ≤ 1400 := by
  obtain ⟨⟨i1, i2⟩, ⟨i3, i4, i5, i6⟩, i7, i8⟩ := styN_b (mk := mk) (ex := ex) n h7 h
  have c := styN_le mk ex n
  unfold styT
  split
  · omega
  · rw [ti_sub (by rw [ti_sub (by omega) (by omega)]; omega) (by rw [ti_sub (by omega) (by omega)]; omega), ti_sub (by omega) (by omega)]
    omega
theorem styN_c (mk mk2 : Nat → Int32) (ex : Int32) : ∀ n, (styN mk ex n).1 = (styN mk2 ex n).1
  | 0 => rfl
  | n + 1 => by
    simp only [styN]
    split
    · exact styN_c mk mk2 ex n
    · simp only []; rw [styN_c mk mk2 ex n]
theorem styN_200 (ex : Int32) : ∀ n, n ≤ 7 → (styN (fun _ => 200) ex n).2.1 = nI (200 * (styN (fun _ => 200) ex n).1) ∧ (styN (fun _ => 200) ex n).2.2.1 = 200 ∧ (0 < (styN (fun _ => 200) ex n).1 → (styN (fun _ => 200) ex n).2.2.2 = 200)
  | 0, _ => ⟨rfl, rfl, fun q => absurd q (by simp [styN])⟩
  | n + 1, h => by
    obtain ⟨a, b, c⟩ := styN_200 ex n (by omega)
    have l := styN_le (fun _ => 200) ex n
    simp only [styN]
    by_cases q : nI n = ex
    · rw [if_pos q]; exact ⟨a, b, c⟩
    · rw [if_neg q]
      simp only []
      rw [a, b]
      refine ⟨?_, rfl, fun _ => ?_⟩
      · rw [show (200 : Int32) = nI 200 from rfl, nI_add]
        rfl
      · rcases Nat.eq_zero_or_pos (styN (fun _ => 200) ex n).1 with z | z
        · rw [styN_0 _ _ _ z]; rfl
        · rw [c z]; rfl
/-- no marks give more than the highest ones -/
theorem styT_most {mk : Nat → Int32} {ex : Int32} {n : Nat} (h7 : n ≤ 7) (h : ∀ j, j < n → 0 ≤ (mk j).toInt ∧ (mk j).toInt ≤ 200) : (styT mk ex n).toInt ≤ (styT (fun _ => 200) ex n).toInt := by
  obtain ⟨⟨i1, i2⟩, ⟨i3, i4, i5, i6⟩, i7, i8⟩ := styN_b (mk := mk) (ex := ex) n h7 h
  obtain ⟨a, b, c⟩ := styN_200 ex n h7
  have e := styN_c mk (fun _ => 200) ex n
  have l := styN_le (fun _ => 200) ex n
  unfold styT
  rw [e]
  split
  · rw [a, ti_nI (by omega)]
    omega
  · have i8 := fun z => i8 z
    rw [e] at i8
    rw [a, b, c (by omega)]
    generalize (styN (fun _ => 200) ex n).1 = k at *
    rw [ti_sub (by rw [ti_sub (by omega) (by omega)]; omega) (by rw [ti_sub (by omega) (by omega)]; omega), ti_sub (by omega) (by omega), show (200 : Int32) = nI 200 from rfl, pk_sub (by omega), pk_sub (by omega), ti_nI (by omega)]
    have := i8 (by omega)
    omega
theorem td10 (X : Int) (h : -989901 ≤ X) (h2 : X ≤ 989901) : -99000 ≤ X.tdiv 10 ∧ X.tdiv 10 ≤ 99000 := by
  rcases Int.le_total 0 X with c | c
  · rw [Int.tdiv_eq_ediv_of_nonneg c]; omega
  · have e : X = -(-X) := by omega
    rw [e, Int.neg_tdiv, Int.tdiv_eq_ediv_of_nonneg (by omega)]; omega
theorem hl_ti (lo hi x : Int32) (h : lo.toInt ≤ hi.toInt) : lo.toInt ≤ (mx lo (mn hi x)).toInt ∧ (mx lo (mn hi x)).toInt ≤ hi.toInt := by
  rw [ti_mx, ti_mn]
  omega
theorem markT_b (T : TX) (a : Nat) (tw la ln : Int32) (j : Nat) : 0 ≤ (markT T a tw la ln j).toInt ∧ (markT T a tw la ln j).toInt ≤ 200 := hl_ti 0 200 _ (by decide)
theorem lenT_b (T : TX) (tw we sk la ah g : Int32) : 0 ≤ (lenT T tw we sk la ah g).toInt ∧ (lenT T tw we sk la ah g).toInt ≤ 9999 := hl_ti 0 9999 _ (by decide)
theorem givT_b (T : TX) (m : Int32) : -999 ≤ (givT T m).toInt ∧ (givT T m).toInt ≤ 999 := hl_ti (-999) 999 _ (by decide)
theorem mul_b {a b A B : Int} (ha : 0 ≤ a) (ha2 : a ≤ A) (hb : -B ≤ b) (hb2 : b ≤ B) (hB : 0 ≤ B) : -(A * B) ≤ a * b ∧ a * b ≤ A * B := by
  have h1 : a * b ≤ a * B := Int.mul_le_mul_of_nonneg_left hb2 ha
  have h2 : a * (-B) ≤ a * b := Int.mul_le_mul_of_nonneg_left hb ha
  have h3 : a * B ≤ A * B := Int.mul_le_mul_of_nonneg_right ha2 hB
  rw [Int.mul_neg] at h2
  omega
/-- points as whole numbers -/
theorem ptsT_i {T : TX} (hB : BT T) {ln sy gi : Int32} {g : Nat} (h1 : 0 ≤ ln.toInt) (h2 : ln.toInt ≤ 9999) (h3 : -400 ≤ sy.toInt) (h4 : sy.toInt ≤ 1400) (h5 : -999 ≤ gi.toInt) (h6 : gi.toInt ≤ 999) (hg : g ≤ 40) :
    ∃ c : Int, -200000 ≤ c ∧ c ≤ 150000 ∧ (∀ sy2 : Int32, -400 ≤ sy2.toInt → sy2.toInt ≤ 1400 → (ptsT T ln sy2 gi (nI g)).toInt = max 0 (c + sy2.toInt)) := by
  obtain ⟨⟨b1, b2, b3, b4, b5⟩, ⟨c1, c2, c3, c4, c5, c6⟩, _⟩ := hB
  have e1 : (ln - nI (tn T 0)).toInt = ln.toInt - tn T 0 := by rw [ti_sub (by rw [ti_nI (by omega)]; omega) (by rw [ti_nI (by omega)]; omega), ti_nI (by omega)]
  have m1 := mul_b (a := (tn T 2 : Int)) (b := ln.toInt - tn T 0) (A := 99) (B := 9999) (by omega) (by omega) (by omega) (by omega) (by omega)
  have e2 : (nI (tn T 2) * (ln - nI (tn T 0))).toInt = tn T 2 * (ln.toInt - tn T 0) := by
    rw [ti_mul (by rw [e1, ti_nI (by omega)]; omega) (by rw [e1, ti_nI (by omega)]; omega), e1, ti_nI (by omega)]
  have e3 : ∃ d : Int, (nI (tn T 2) * (ln - nI (tn T 0)) / 10).toInt = d ∧ -99000 ≤ d ∧ d ≤ 99000 := by
    refine ⟨_, rfl, ?_⟩
    rw [Int32.toInt_div, e2]
    have t10 : (Int32.toInt 10) = 10 := rfl
    rw [t10]
    have k := td10 _ (by omega) m1.2
    rw [Int.bmod_eq_of_le (by omega) (by omega)]
    exact k
  obtain ⟨d, e3, d1, d2⟩ := e3
  have e4 : (nI (tn T 12) - nI g).toInt = (tn T 12 : Int) - g := pk_sub_toInt (by omega) (by omega)
  have m2 := mul_b (a := (tn T 13 : Int)) (b := (tn T 12 : Int) - g) (A := 99) (B := 40) (by omega) (by omega) (by omega) (by omega) (by omega)
  have e5 : (nI (tn T 13) * (nI (tn T 12) - nI g)).toInt = tn T 13 * ((tn T 12 : Int) - g) := by
    rw [ti_mul (by rw [e4, ti_nI (by omega)]; omega) (by rw [e4, ti_nI (by omega)]; omega), e4, ti_nI (by omega)]
  refine ⟨600 + d + gi.toInt + tn T 13 * ((tn T 12 : Int) - g), by omega, by omega, fun sy2 k1 k2 => ?_⟩
  unfold ptsT
  have f1 : ((600 : Int32) + nI (tn T 2) * (ln - nI (tn T 0)) / 10).toInt = 600 + d := by rw [ti_add (by rw [e3]; simp; omega) (by rw [e3]; simp; omega), e3]; rfl
  have f2 : ((600 : Int32) + nI (tn T 2) * (ln - nI (tn T 0)) / 10 + sy2).toInt = 600 + d + sy2.toInt := by rw [ti_add (by rw [f1]; omega) (by rw [f1]; omega), f1]
  have f3 : ((600 : Int32) + nI (tn T 2) * (ln - nI (tn T 0)) / 10 + sy2 + gi).toInt = 600 + d + sy2.toInt + gi.toInt := by rw [ti_add (by rw [f2]; omega) (by rw [f2]; omega), f2]
  rw [ti_mx, ti_add (by rw [f3, e5]; omega) (by rw [f3, e5]; omega), f3, e5]
  simp
  omega
theorem ptsT_b {T : TX} (hB : BT T) {ln sy gi : Int32} {g : Nat} (h1 : 0 ≤ ln.toInt) (h2 : ln.toInt ≤ 9999) (h3 : -400 ≤ sy.toInt) (h4 : sy.toInt ≤ 1400) (h5 : -999 ≤ gi.toInt) (h6 : gi.toInt ≤ 999) (hg : g ≤ 40) :
    ∃ p, ptsT T ln sy gi (nI g) = nI p ∧ p ≤ 200000 := by
  obtain ⟨c, c1, c2, h⟩ := ptsT_i hB h1 h2 h3 h4 h5 h6 hg
  have e := h sy h3 h4
  exact ⟨(max 0 (c + sy.toInt)).toNat, nI_ti (by rw [e]; omega) (by omega), by omega⟩
