/-! layer 2: the values of a jump -/
def sumN (f : Nat → Int32) : Nat → Int32
  | 0 => 0
  | n + 1 => sumN f n + f n
theorem up_c {f g : Nat → Int32} {k j : Nat} {x : Int32} (h : j ≠ k → f j = g j) : upd f k x j = upd g k x j := by
  unfold upd
  split
  · rfl
  · exact h ‹_›
def zV : Nat → Int32 := fun _ => 0
def wiV (sec t : Int32) : Nat → Int32 := upd (upd zV 0 t) 1 sec
def faV (tw we sk la wh ba : Int32) : Nat → Int32 := upd (upd (upd (upd (upd (upd zV 2 tw) 3 we) 4 sk) 5 la) 6 wh) 7 ba
def sbV (tw la ln : Int32) : Nat → Int32 := upd (upd (upd zV 2 tw) 5 la) 8 ln
def syV (tw la ln le ho : Int32) : Nat → Int32 := upd (upd (sbV tw la ln) 9 le) 10 ho
def giV (m : Int32) : Nat → Int32 := upd zV 2 m
def goV (n m we sk : Int32) : Nat → Int32 := upd (upd (upd (upd zV 0 n) 2 m) 3 we) 4 sk
def windT (T : TX) (sd sec t : Int32) : Int32 := mx (-99) (mn 99 (tl T 0 (wiV sec t))) + lotN sd (8 * t + sec) (2 * nI (tn T 9) + 1) - nI (tn T 9)
def meanT (T : TX) (sd t : Int32) : Int32 := sumN (fun i => windT T sd (nI i) (t + nI i)) 5 / 5
def partsT (T : TX) : Int32 := sumN (fun i => nI (tn T (3 + i))) 5
def trueT (T : TX) (sd t : Int32) : Int32 := if partsT T = 0 then 0 else sumN (fun i => nI (tn T (3 + i)) * windT T sd (nI i) (t + nI i)) 5 / partsT T
def lenT (T : TX) (tw we sk la ah g : Int32) : Int32 := mx 0 (mn 9999 (tl T 1 (faV tw we sk la (nI (tn T 8) * ah) (g - nI (tn T 12)))))
def hmT (T : TX) (a j : Nat) : Int32 := if ta T 4 j = ta T 3 a then 1 else 0
def markT (T : TX) (a : Nat) (tw la ln : Int32) (j : Nat) : Int32 := mx 0 (mn 200 (tl T 3 (syV tw la ln (te T j) (hmT T a j))))
def givT (T : TX) (m : Int32) : Int32 := mx (-999) (mn 999 (tl T 2 (giV m)))
def ptsT (T : TX) (ln sy gi g : Int32) : Int32 := mx 0 (((((600 : Int32) + (nI (tn T 2) * (ln - nI (tn T 0))) / 10) + sy) + gi) + nI (tn T 13) * (nI (tn T 12) - g))
/-- how many marks count, their sum, the lowest, the highest -/
def styN (mk : Nat → Int32) (ex : Int32) : Nat → Nat × Int32 × Int32 × Int32
  | 0 => (0, 0, 200, 0)
  | n + 1 => if nI n = ex then styN mk ex n else ((styN mk ex n).1 + 1, (styN mk ex n).2.1 + mk n, mn (styN mk ex n).2.2.1 (mk n), mx (styN mk ex n).2.2.2 (mk n))
def styT (mk : Nat → Int32) (ex : Int32) (n : Nat) : Int32 := if (styN mk ex n).1 ≤ 2 then (styN mk ex n).2.1 else (styN mk ex n).2.1 - (styN mk ex n).2.2.1 - (styN mk ex n).2.2.2
def slipT (T : TX) (sd : Int32) (a : Nat) (t : Int32) : Int32 := lotN sd (100000 + t) (2 * nI (ta T 2 a) + 1) - nI (ta T 2 a)
abbrev goesT (T : TX) (n m : Int32) (a : Nat) : Prop := 0 < tl T 4 (goV n m (nI (ta T 0 a)) (nI (ta T 1 a)))
theorem styN_le (mk : Nat → Int32) (ex : Int32) : ∀ n, (styN mk ex n).1 ≤ n
  | 0 => Nat.le_refl _
  | n + 1 => by
    have := styN_le mk ex n
    simp only [styN]
    split <;> omega
theorem styN_cg {mk mk2 : Nat → Int32} (ex : Int32) : ∀ n, (∀ j, j < n → mk j = mk2 j) → styN mk ex n = styN mk2 ex n
  | 0, _ => rfl
  | n + 1, h => by
    simp only [styN]
    rw [styN_cg ex n (fun j hj => h j (by omega)), h n (by omega)]
theorem styT_cg {mk mk2 : Nat → Int32} (ex : Int32) (n : Nat) (h : ∀ j, j < n → mk j = mk2 j) : styT mk ex n = styT mk2 ex n := by
  unfold styT
  rw [styN_cg ex n h]
theorem mx_br {a x : Int32} {P : Int32 → Prop} (K : P (mx a x)) : (x ≤ a → P a) ∧ (¬ x ≤ a → P x) := by
  refine ⟨fun h => ?_, fun h => ?_⟩
  · rwa [mx_ge h] at K
  · have q : mx a x = x := mx_le (by rw [Int32.le_iff_toInt_le] at h ⊢; omega)
    rwa [q] at K
theorem mn_br {a x : Int32} {P : Int32 → Prop} (K : P (mn a x)) : (a ≤ x → P a) ∧ (¬ a ≤ x → P x) := by
  have q : ∀ x y : Int32, x ≤ y ↔ ¬ y < x := fun x y => by rw [Int32.le_iff_toInt_le, Int32.lt_iff_toInt_lt]; omega
  refine ⟨fun h => ?_, fun h => ?_⟩
  · have e : mn a x = a := if_neg ((q a x).mp h)
    rwa [e] at K
  · have e : mn a x = x := if_pos (Classical.not_not.mp (fun z => h ((q a x).mpr z)))
    rwa [e] at K
theorem mx_0 {x : Int32} {P : Int32 → Prop} (K : P (mx 0 x)) : (0 ≤ x → P x) ∧ (¬ 0 ≤ x → P 0) := by
  refine ⟨fun h => ?_, fun h => ?_⟩
  · rwa [mx_le h] at K
  · have q : mx 0 x = 0 := mx_ge (by rw [Int32.le_iff_toInt_le] at h ⊢; omega)
    rwa [q] at K

/-- what the laws of the reference leave as it was -/
def frW (w w2 : Mem) : Prop := ∀ a j, a ≠ 178 → a ≠ 179 → ¬ (a = 150 ∧ j = 46) → w2 a j = w a j
theorem fw_re (w : Mem) : frW w w := fun _ _ _ _ _ => rfl
theorem fw_tr {w w2 w3 : Mem} (h : frW w w2) (h2 : frW w2 w3) : frW w w3 := fun a j p q r => (h2 a j p q r).trans (h a j p q r)
theorem fw_row {w w2 : Mem} (f : frW w w2) (a : Nat) (h : a ≠ 178) (h1 : a ≠ 179) (h2 : a ≠ 150) : w2 a = w a := funext (fun j => f a j h h1 (by omega))
theorem fw_rf {w0 w w2 : Mem} (h : RF w0 w) (f : frW w w2) : RF w0 w2 := fun a j q => (f a j (by simp only [scR] at q; omega) (by simp only [scR] at q; omega) (by simp only [scR] at q; omega)).trans (h a j q)
theorem fw_fr {w w2 w3 : Mem} (h : frW w w2) (f : frR w2 w3) : frW w w3 := fun a j p q r => (f a q j r).trans (h a j p q r)
theorem fw_fo {w w2 w3 : Mem} (h : frW w w2) (f : frO 178 w2 w3) : frW w w3 := fun a j p q r => (congrFun (f a p) j).trans (h a j p q r)
theorem fw_st {w w2 : Mem} {j : Nat} {v : Int32} (h : frW w w2) : frW w (st w2 178 j v) := fun a i p q r => (st_nk p).trans (h a i p q r)
/-- the reference holds the text T at its live side s; its lots are of the seed sd -/
def RT (s : Nat) (T : TX) (sd : Int32) (w : Mem) : Prop := s < 2 ∧ w 150 18 = nI s ∧ TR s T w ∧ BT T ∧ w 150 49 = sd
theorem rt_fw {s : Nat} {T : TX} {sd : Int32} {w w2 : Mem} (h : RT s T sd w) (f : frW w w2) : RT s T sd w2 :=
  ⟨h.1, (f 150 18 (by decide) (by decide) (by decide)).trans h.2.1, tr_rf h.2.2.1 (fun b h1 h2 h3 h4 => fw_row f b h2 h3 h1), h.2.2.2.1, (f 150 49 (by decide) (by decide) (by decide)).trans h.2.2.2.2⟩
theorem rt_rf {s : Nat} {T : TX} {sd : Int32} {w w2 : Mem} (h : RT s T sd w) (f : RF w w2) : RT s T sd w2 :=
  ⟨h.1, (f 150 18 (by decide)).trans h.2.1, rf_text h.2.2.1 f, h.2.2.2.1, (f 150 49 (by decide)).trans h.2.2.2.2⟩
theorem r_tell {s a : Nat} {T : TX} {sd : Int32} {w : Mem} {wl : MemL} {Q : Int32 → Mem → MemL → Prop} (h : RT s T sd w) (ha : a < 16) (K : Q (nI (tn T a)) w wl) : wp_12_tell0 (nI a) w wl Q := by
  refine r_tell0 (a := a) h.2.1 h.1 (by omega) ?_
  rw [h.2.2.1.2.1 a ha]
  exact K
/-- a law of the reference, asked -/
theorem r_law {s : Nat} {T : TX} {sd lo hi d : Int32} {w : Mem} {wl : MemL} {V : Nat → Int32} {Q : Int32 → Mem → MemL → Prop} (a : Nat) (h : RT s T sd w) (ha : a < 5) (hl : lo ≤ hi) (hV : ∀ j, j < 11 → w 178 j = V j) (hd : d = dfT T a V)
    (K : ∀ w2, frW w w2 → Q (mx lo (mn hi (tl T a V))) w2 wl) : wp_12_tells (nI a) d lo hi w wl Q :=
  r_ask a ha hl h.1 h.2.1 h.2.2.1 hV hd (fun w2 f => K w2 (fw_fr (fw_re w) f))
