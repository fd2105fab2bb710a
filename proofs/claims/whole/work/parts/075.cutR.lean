/-- the reference's kind -/
def rcF (k : Nat) : Nat := if k = 0 then 0 else if k = 1 then 3 else if k = 2 then 1 else if k = 3 then 2 else if k = 59 then 4 else if k = 61 then 5 else if k = 40 then 6 else if k = 41 then 7 else if k = 43 then 8 else if k = 45 then 9 else if k = 42 then 10 else if k = 60 then 13 else if k = 47 then 15 else k - 108
theorem nvF_a (c : Nat) : ∀ (l : List Nat) (x : Nat), nvF x (l ++ [c]) = 27 * nvF x l + (c - 96)
  | [], x => rfl
  | d :: l, x => nvF_a c l _
theorem ltF_a (B : Nat → Nat) : ∀ (k p : Nat), ltF B (k + 1) p = ltF B k p ++ [B (p + k)]
  | 0, p => rfl
  | k + 1, p => by
    show B p :: ltF B (k + 1) (p + 1) = B p :: (ltF B k (p + 1) ++ [B (p + (k + 1))])
    rw [ltF_a B k (p + 1), show p + 1 + k = p + (k + 1) by omega]
def nvR : List Nat → Nat
  | [] => 0
  | c :: r => 27 * nvR r + (c - 96)
theorem nvF_R (l : List Nat) : ∀ (r : List Nat), nvF (nvR r) l = nvR (l.reverse ++ r) := by
  induction l with
  | nil => intro r; rfl
  | cons c l ih =>
    intro r
    show nvF (27 * nvR r + (c - 96)) l = _
    rw [show 27 * nvR r + (c - 96) = nvR (c :: r) from rfl, ih (c :: r)]
    simp
theorem nvR_inj : ∀ (a b : List Nat), (∀ c, c ∈ a → 97 ≤ c ∧ c ≤ 122) → (∀ c, c ∈ b → 97 ≤ c ∧ c ≤ 122) → nvR a = nvR b → a = b
  | [], [], _, _, _ => rfl
  | [], d :: b, _, h2, e => by
    have := h2 d (by simp)
    simp only [nvR] at e
    omega
  | c :: a, [], h1, _, e => by
    have := h1 c (by simp)
    simp only [nvR] at e
    omega
  | c :: a, d :: b, h1, h2, e => by
    have hc := h1 c (by simp)
    have hd := h2 d (by simp)
    simp only [nvR] at e
    have e1 : c = d := by omega
    have e2 : nvR a = nvR b := by omega
    rw [e1, nvR_inj a b (fun x hx => h1 x (by simp [hx])) (fun x hx => h2 x (by simp [hx])) e2]
theorem nvF_inj {a b : List Nat} (h1 : ∀ c, c ∈ a → 97 ≤ c ∧ c ≤ 122) (h2 : ∀ c, c ∈ b → 97 ≤ c ∧ c ≤ 122) (e : nvF 0 a = nvF 0 b) : a = b := by
  have ea := nvF_R a []
  have eb := nvF_R b []
  rw [List.append_nil] at ea eb
  have e2 : nvR a.reverse = nvR b.reverse := by rw [← ea, ← eb]; exact e
  have := nvR_inj a.reverse b.reverse (fun c hc => h1 c (List.mem_reverse.mp hc)) (fun c hc => h2 c (List.mem_reverse.mp hc)) e2
  exact List.reverse_inj.mp this
theorem nvF_b : ∀ (l : List Nat) (x : Nat), (∀ c, c ∈ l → 97 ≤ c ∧ c ≤ 122) → nvF x l ≤ (x + 1) * 27 ^ l.length
  | [], x, _ => by show x ≤ (x + 1) * 27 ^ 0; rw [Nat.pow_zero, Nat.mul_one]; exact Nat.le_succ x
  | c :: l, x, h => by
    have hc := h c (by simp)
    have := nvF_b l (27 * x + (c - 96)) (fun d hd => h d (by simp [hd]))
    show nvF (27 * x + (c - 96)) l ≤ _
    refine Nat.le_trans this ?_
    rw [List.length_cons, Nat.pow_succ, Nat.mul_comm (27 ^ l.length) 27, ← Nat.mul_assoc]
    exact Nat.mul_le_mul_right _ (by omega)
theorem nvF_63 {l : List Nat} (h : ∀ c, c ∈ l → 97 ≤ c ∧ c ≤ 122) (hl : l.length ≤ 8) : nvF 0 l < 2 ^ 63 := by
  have := nvF_b l 0 h
  have h2 : 27 ^ l.length ≤ 27 ^ 8 := Nat.pow_le_pow_right (by omega) hl
  have h3 : (27 : Nat) ^ 8 < 2 ^ 62 := by decide
  omega
theorem wd_let : ∀ u, u ∈ wdL → (∀ c, c ∈ u → 97 ≤ c ∧ c ≤ 122) ∧ u.length ≤ 7 := by decide +kernel
theorem wd_ne : wdL.Nodup := by decide +kernel
theorem kwF_at : ∀ (ws : List (List Nat)) (k j : Nat) (l : List Nat), ws.Nodup → ws[j]? = some l → kwF ws k l = k + j
  | [], k, j, l, _, h => by simp at h
  | u :: r, k, 0, l, _, h => by
    simp only [List.getElem?_cons_zero, Option.some.injEq] at h
    simp only [kwF]
    rw [if_pos h.symm]
    omega
  | u :: r, k, j + 1, l, hn, h => by
    simp only [List.getElem?_cons_succ] at h
    rw [List.nodup_cons] at hn
    simp only [kwF]
    rw [if_neg, kwF_at r (k + 1) j l hn.2 h]
    · omega
    · rintro rfl
      exact hn.1 (List.mem_of_getElem? h)
theorem kwF_no : ∀ (ws : List (List Nat)) (k : Nat) (l : List Nat), ¬ l ∈ ws → kwF ws k l = 2
  | [], _, _, _ => rfl
  | u :: r, k, l, h => by
    rw [List.mem_cons, not_or] at h
    simp only [kwF]
    rw [if_neg h.1]
    exact kwF_no r (k + 1) l h.2
/-- a tape being read by the reference -/
def RB2 (B : Nat → Nat) (n : Nat) (w : Mem) : Prop := n ≤ 2000 ∧ w 150 4 = nI n ∧ ∀ i, i < n → (w 152 i) &&& (255 : Int32) = nI (B i) ∧ B i < 256
theorem r_byte {B : Nat → Nat} {n i : Nat} {w : Mem} {wl : MemL} {Q : Int32 → Mem → MemL → Prop} (h : RB2 B n w) (hi : i < 2 ^ 20) (K : Q (nI (if i < n then B i else 0)) w wl) : wp_12_byteAt (nI i) w wl Q := by
  obtain ⟨h1, h2, h3⟩ := h
  unfold wp_12_byteAt
  rw [h2]
  refine pk_le n i (fun q => ?_) (fun q => ⟨vp_in_nI (by omega) (by decide), ?_⟩)
  · rw [if_neg (by omega)] at K
    exact K
  · rw [ix_nI (by omega), (h3 i q).1]
    rw [if_pos q] at K
    exact K
theorem r_letter {c : Nat} {w : Mem} {wl : MemL} {Q : Int32 → Mem → MemL → Prop} (hc : c < 2 ^ 20) (K1 : isL c = true → Q 1 w wl) (K0 : ¬ isL c = true → Q 0 w wl) : wp_12_isLetter (nI c) w wl Q := by
  unfold wp_12_isLetter
  refine pk_lt c 97 (fun q => K0 (fun z => by have := isL_d.mp z; omega)) (fun q => ?_)
  exact pk_lt 122 c (fun q2 => K0 (fun z => by have := isL_d.mp z; omega)) (fun q2 => K1 (isL_d.mpr ⟨q, q2⟩))
theorem r_digit {c : Nat} {w : Mem} {wl : MemL} {Q : Int32 → Mem → MemL → Prop} (hc : c < 2 ^ 20) (K1 : isD c = true → Q 1 w wl) (K0 : ¬ isD c = true → Q 0 w wl) : wp_12_isDigit (nI c) w wl Q := by
  unfold wp_12_isDigit
  refine pk_lt c 48 (fun q => K0 (fun z => by have := isD_d.mp z; omega)) (fun q => ?_)
  exact pk_lt 57 c (fun q2 => K0 (fun z => by have := isD_d.mp z; omega)) (fun q2 => K1 (isD_d.mpr ⟨q, q2⟩))
/-- what one more token leaves -/
def TO1 (i : Nat) (k p v : Int32) (nm : Int64) (w w2 : Mem) (wl wl2 : MemL) : Prop :=
  (∀ a j, ¬ (153 ≤ a ∧ a ≤ 155) → ¬ (a = 150 ∧ j = 10) → w2 a j = w a j) ∧ w2 150 10 = nI (i + 1) ∧ w2 153 = upd (w 153) i k ∧ w2 154 = upd (w 154) i p ∧ w2 155 = upd (w 155) i v ∧ (∀ a, a ≠ 156 → wl2 a = wl a) ∧ wl2 156 = vp_updL (wl 156) i nm
theorem r_token {i : Nat} {k p v : Int32} {nm : Int64} {w : Mem} {wl : MemL} {Q : Mem → MemL → Prop} (hi : i < 403) (h : w 150 10 = nI i) (K : ∀ w2 wl2, TO1 i k p v nm w w2 wl wl2 → Q w2 wl2) : wp_12_token k p v nm w wl Q := by
  have iv : vp_in (nI i) 403 := vp_in_nI hi (by decide)
  unfold wp_12_token
  rw [h, ix_nI (by omega)]
  refine ⟨iv, fun w2 e2 => ?_⟩
  have g2 : w2 150 10 = nI i := by subst e2; rw [st_nk (by decide)]; exact h
  rw [g2, ix_nI (by omega)]
  refine ⟨iv, fun w4 e4 => ?_⟩
  have g4 : w4 150 10 = nI i := by subst e4; rw [st_nk (by decide)]; exact g2
  rw [g4, ix_nI (by omega)]
  refine ⟨iv, fun w6 e6 => ?_⟩
  have g6 : w6 150 10 = nI i := by subst e6; rw [st_nk (by decide)]; exact g4
  rw [g6, ix_nI (by omega), nI_1]
  refine ⟨iv, fun v8 e8 w9 e9 => K w9 v8 ?_⟩
  subst e9
  subst e6
  subst e4
  subst e2
  subst e8
  refine ⟨fun a j h1 h2 => ?_, st_eq, ?_, ?_, ?_, fun a ha => stL_ne a ha, stL_at⟩
  · simp only [st]
    rw [if_neg h2, if_neg (by omega), if_neg (by omega), if_neg (by omega)]
  · rw [st_ne 153 (by decide), st_ne 153 (by decide), st_ne 153 (by decide), st_at]
  · rw [st_ne 154 (by decide), st_ne 154 (by decide), st_at, st_ne 154 (by decide)]
  · rw [st_ne 155 (by decide), st_at, st_ne 155 (by decide), st_ne 155 (by decide)]
theorem r_app {x c : Nat} {w : Mem} {wl : MemL} {Q : Int64 → Mem → MemL → Prop} (hc : 97 ≤ c ∧ c ≤ 122) (K : Q (lN (27 * x + (c - 96))) w wl) : wp_12_appends (lN x) (nI c) w wl Q := by
  refine ⟨fun _ => ?_, fun q => absurd (Classical.not_not.mp q) (nI_ne0 (by omega) (by omega))⟩
  rw [show (97 : Int32) = nI 97 from rfl, pk_sub hc.1, nI_1, nI_l (by omega), show (27 : Int64) = lN 27 from rfl, lN_mul, lN_add, show c - 97 + 1 = c - 96 by omega]
  exact K
