/-! layer 2, the tools: small numbers as nI, and what the smallest methods do -/
theorem ix_nI {n : Nat} (h : n < 2 ^ 31) : ix (nI n) = n := nI_clamp h
theorem st_eq {w : Mem} {k i : Nat} {v : Int32} : st w k i v k i = v := by simp [st]
theorem st_nk {w : Mem} {k i a j : Nat} {v : Int32} (h : a ≠ k) : st w k i v a j = w a j := by simp [st, h]
theorem st_nj {w : Mem} {k i a j : Nat} {v : Int32} (h : j ≠ i) : st w k i v a j = w a j := by simp [st, h]

theorem s_set {k n : Nat} {v : Int32} {w : Mem} {Q : Mem → Prop} (h : n < 11) (K : Q (st w (k + 4) n v)) : wp_2_set k (nI n) v w Q := by
  unfold wp_2_set
  refine pk_lt n 0 (fun q => absurd q (by omega)) (fun _ => ?_)
  refine pk_le 11 n (fun q => absurd q (by omega)) (fun _ => ?_)
  refine ⟨pk_in n 11 h, fun w2 e => ?_⟩
  subst e
  rw [ix_nI (by omega)]
  exact K

/-- one mixing of two numbers -/
def mxd (a c : Int32) : Int32 := (((a ^^^ c) * (1103515245 : Int32)) + (12345 : Int32)) ^^^ (ushr (((a ^^^ c) * (1103515245 : Int32)) + (12345 : Int32)) (15 : Int32))
theorem s_mixed {a c : Int32} {w : Mem} {Q : Int32 → Mem → Prop} (K : Q (mxd a c) w) : wp_0_mixed a c w Q := by
  intro x1 e
  subst e
  exact K
theorem s_mixedR {a c : Int32} {w : Mem} {wl : MemL} {Q : Int32 → Mem → MemL → Prop} (K : Q (mxd a c) w wl) : wp_12_mixed a c w wl Q := by
  intro x1 e
  subst e
  exact K
/-- the lot: of the seed s, at the place p, below n -/
def lotN (s p n : Int32) : Int32 := irm (ushr (mxd (mxd s 47) p) (1 : Int32)) n
theorem s_lotR {a n : Int32} {w : Mem} {wl : MemL} {Q : Int32 → Mem → MemL → Prop} (h : ¬ n = 0) (K : Q (lotN (w 150 49) a n) w wl) : wp_12_lotOf a n w wl Q :=
  s_mixedR (s_mixedR ⟨h, K⟩)
theorem s_lot {a n : Int32} {w : Mem} {Q : Int32 → Mem → Prop} (K1 : 1 < n → Q (lotN (w 87 2) a n) w) (K0 : ¬ 1 < n → Q 0 w) : wp_0_lot n a w Q := by
  refine ⟨fun h => s_mixed (s_mixed ⟨?_, K1 h⟩), K0⟩
  rintro rfl
  exact absurd h (by decide)

theorem s_held {a lo hi : Int32} {w : Mem} {Q : Int32 → Mem → Prop} (K : Q (mx lo (mn hi a)) w) : wp_11_held a lo hi w Q := K
theorem mn_le {a hi : Int32} (h : a ≤ hi) : mn hi a = a := by
  simp only [mn]
  split
  · rfl
  · rename_i q
    rw [Int32.lt_iff_toInt_lt] at q
    rw [Int32.le_iff_toInt_le] at h
    exact Int32.toInt_inj.mp (by omega)
theorem mn_gt {a hi : Int32} (h : ¬ a ≤ hi) : mn hi a = hi := by
  simp only [mn]
  rw [if_neg]
  rw [Int32.lt_iff_toInt_lt]
  rw [Int32.le_iff_toInt_le] at h
  omega
theorem mx_le {a lo : Int32} (h : lo ≤ a) : mx lo a = a := by
  simp only [mx]
  split
  · rfl
  · rename_i q
    rw [Int32.lt_iff_toInt_lt] at q
    rw [Int32.le_iff_toInt_le] at h
    exact Int32.toInt_inj.mp (by omega)
theorem mx_ge {a lo : Int32} (h : a ≤ lo) : mx lo a = lo := by
  simp only [mx]
  rw [if_neg]
  rw [Int32.lt_iff_toInt_lt]
  rw [Int32.le_iff_toInt_le] at h
  omega
theorem s_heldR {a lo hi : Int32} {w : Mem} {wl : MemL} {Q : Int32 → Mem → MemL → Prop} (hl : lo ≤ hi) (K : Q (mx lo (mn hi a)) w wl) : wp_12_held a lo hi w wl Q := by
  refine ⟨fun h => ⟨fun h2 => ?_, fun h2 => ?_⟩, fun h => ?_⟩
  · rw [mn_le h2, mx_le h] at K
    exact K
  · rw [mn_gt h2, mx_le hl] at K
    exact K
  · rw [Int32.le_iff_toInt_le] at h hl
    rw [mn_le (by rw [Int32.le_iff_toInt_le]; omega), mx_ge (by rw [Int32.le_iff_toInt_le]; omega)] at K
    exact K
