/-! the words of the plain part: a memory of ints by cell and place, one of longs -/
abbrev Mem : Type := Nat → Nat → Int32
abbrev MemL : Type := Nat → Nat → Int64
def st (w : Mem) (k i : Nat) (v : Int32) : Mem := fun a j => if a = k ∧ j = i then v else w a j
def stL (w : MemL) (k i : Nat) (v : Int64) : MemL := fun a j => if a = k ∧ j = i then v else w a j
/-- n places of the row k1, from p1 on, become those of the row k0 from p0 on -/
def cpy (w : Mem) (k0 p0 k1 p1 n : Nat) : Mem := fun a j => if a = k1 ∧ p1 ≤ j ∧ j < p1 + n then w k0 (p0 + (j - p1)) else w a j
def ix (i : Int32) : Nat := i.toNatClampNeg
theorem st_ne {w : Mem} {k i : Nat} {v : Int32} (j : Nat) (hj : j ≠ k) : st w k i v j = w j := by
  funext q
  simp [st, hj]
theorem st_at {w : Mem} {k i : Nat} {v : Int32} : st w k i v k = upd (w k) i v := by
  funext q
  simp [st, upd]
theorem stL_ne {w : MemL} {k i : Nat} {v : Int64} (j : Nat) (hj : j ≠ k) : stL w k i v j = w j := by
  funext q
  simp [stL, hj]
theorem stL_at {w : MemL} {k i : Nat} {v : Int64} : stL w k i v k = vp_updL (w k) i v := by
  funext q
  simp [stL, vp_updL]
theorem cpy_ne {w : Mem} {k0 p0 k1 p1 n : Nat} (j : Nat) (hj : j ≠ k1) : cpy w k0 p0 k1 p1 n j = w j := by
  funext q
  simp [cpy, hj]
theorem cpy_at {w : Mem} {k0 p0 k1 p1 n : Nat} : cpy w k0 p0 k1 p1 n k1 = va_cpy (w k0) (w k1) p0 p1 n := by
  funext q
  simp [cpy, va_cpy]
def lenS : List Nat := [153, 9]
def bytS : List (List Int32) := [[104, 105, 108, 108, 32, 119, 105, 110, 100, 32, 102, 97, 114, 32, 103, 105, 118, 101, 115, 32, 115, 116, 121, 108, 101, 32, 103, 111, 101, 115, 32, 112, 97, 114, 116, 115, 32, 109, 97, 110, 32, 106, 117, 100, 103, 101, 32, 115, 110, 111, 119, 32, 103, 117, 115, 116, 115, 32, 119, 97, 105, 116, 115, 32, 103, 97, 116, 101, 32, 115, 101, 99, 111, 110, 100, 32, 115, 101, 101, 100, 32, 105, 102, 32, 116, 104, 101, 110, 32, 101, 108, 115, 101, 32, 97, 116, 32, 115, 101, 99, 116, 105, 111, 110, 32, 103, 117, 115, 116, 32, 119, 101, 105, 103, 104, 116, 32, 115, 107, 105, 32, 108, 97, 116, 101, 32, 119, 104, 105, 116, 101, 32, 98, 97, 114, 32, 108, 101, 110, 103, 116, 104, 32, 108, 101, 97, 110, 32, 104, 111, 109, 101, 32], [59, 61, 43, 45, 42, 47, 60, 40, 41]]
abbrev irm (x y : Int32) : Int32 := x - x / y * y
abbrev ushr (x y : Int32) : Int32 := (x.toUInt32 >>> (y.toUInt32 &&& Int32.toUInt32 31)).toInt32
abbrev mx (x y : Int32) : Int32 := if x < y then y else x
abbrev mn (x y : Int32) : Int32 := if y < x then y else x
abbrev ab (x : Int32) : Int32 := if 0 ≤ x then x else 0 - x
