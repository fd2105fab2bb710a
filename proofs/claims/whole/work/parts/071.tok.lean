/-! layer 2: the tokens of a tape -/
def isL (c : Nat) : Bool := decide (97 ≤ c ∧ c ≤ 122)
def isD (c : Nat) : Bool := decide (48 ≤ c ∧ c ≤ 57)
def isB (c : Nat) : Bool := decide (c = 9 ∨ c = 10 ∨ c = 13 ∨ c = 32)
def isS (c : Nat) : Bool := decide (c = 59 ∨ c = 61 ∨ c = 43 ∨ c = 45 ∨ c = 42 ∨ c = 47 ∨ c = 60 ∨ c = 40 ∨ c = 41)
def spF (pr : Nat → Bool) (B : Nat → Nat) : Nat → Nat → Nat
  | 0, p => p
  | k + 1, p => if pr (B p) = true then spF pr B k (p + 1) else p
/-- the first place from p on that isn't such a one -/
def spN (pr : Nat → Bool) (B : Nat → Nat) (n p : Nat) : Nat := spF pr B (n - p) p
theorem spN_y {pr : Nat → Bool} {B : Nat → Nat} {n p : Nat} (h : p < n) (hp : pr (B p) = true) : spN pr B n p = spN pr B n (p + 1) := by
  unfold spN
  rw [show n - p = (n - (p + 1)) + 1 by omega]
  simp only [spF]
  rw [if_pos hp]
theorem spN_n {pr : Nat → Bool} {B : Nat → Nat} {n p : Nat} (h : p < n) (hp : ¬ pr (B p) = true) : spN pr B n p = p := by
  unfold spN
  rw [show n - p = (n - (p + 1)) + 1 by omega]
  simp only [spF]
  rw [if_neg hp]
theorem spN_e {pr : Nat → Bool} {B : Nat → Nat} {n p : Nat} (h : n ≤ p) : spN pr B n p = p := by
  unfold spN
  rw [show n - p = 0 by omega]
  rfl
theorem spF_b {pr : Nat → Bool} {B : Nat → Nat} : ∀ (k p : Nat), p ≤ spF pr B k p ∧ spF pr B k p ≤ p + k
  | 0, p => ⟨Nat.le_refl _, Nat.le_refl _⟩
  | k + 1, p => by
    simp only [spF]
    split
    · have := spF_b (pr := pr) (B := B) k (p + 1)
      omega
    · omega
theorem spN_b {pr : Nat → Bool} {B : Nat → Nat} {n p : Nat} (h : p ≤ n) : p ≤ spN pr B n p ∧ spN pr B n p ≤ n := by
  have := spF_b (pr := pr) (B := B) (n - p) p
  unfold spN
  omega
theorem spF_s {pr : Nat → Bool} {B : Nat → Nat} : ∀ (k p : Nat), spF pr B k p < p + k → ¬ pr (B (spF pr B k p)) = true
  | 0, p, h => by simp only [spF] at h; omega
  | k + 1, p, h => by
    simp only [spF] at h ⊢
    split
    · rename_i c
      rw [if_pos c] at h
      exact spF_s k (p + 1) (by omega)
    · assumption
theorem spN_s {pr : Nat → Bool} {B : Nat → Nat} {n p : Nat} (h : spN pr B n p < n) (hp : p ≤ n) : ¬ pr (B (spN pr B n p)) = true := spF_s (n - p) p (by unfold spN at h; omega)
theorem spF_a {pr : Nat → Bool} {B : Nat → Nat} : ∀ (k p i : Nat), p ≤ i → i < spF pr B k p → pr (B i) = true
  | 0, p, i, h1, h2 => by simp only [spF] at h2; omega
  | k + 1, p, i, h1, h2 => by
    simp only [spF] at h2
    split at h2
    · rename_i c
      rcases Nat.lt_or_ge p i with d | d
      · exact spF_a k (p + 1) i (by omega) h2
      · rw [show i = p by omega]; exact c
    · omega
theorem spN_a {pr : Nat → Bool} {B : Nat → Nat} {n p i : Nat} (h1 : p ≤ i) (h2 : i < spN pr B n p) : pr (B i) = true := spF_a _ _ _ h1 h2
/-- k bytes from p on -/
def ltF (B : Nat → Nat) : Nat → Nat → List Nat
  | 0, _ => []
  | k + 1, p => B p :: ltF B k (p + 1)
theorem ltF_len (B : Nat → Nat) : ∀ k p, (ltF B k p).length = k
  | 0, _ => rfl
  | k + 1, p => by simp only [ltF, List.length_cons, ltF_len B k]
theorem ltF_get (B : Nat → Nat) : ∀ k p i, i < k → (ltF B k p)[i]? = some (B (p + i))
  | 0, _, i, h => absurd h (by omega)
  | k + 1, p, 0, _ => rfl
  | k + 1, p, i + 1, h => by
    simp only [ltF, List.getElem?_cons_succ]
    rw [ltF_get B k (p + 1) i (by omega), show p + 1 + i = p + (i + 1) by omega]
/-- the number of a word among these, from k on; 2: it is a name -/
def kwF : List (List Nat) → Nat → List Nat → Nat
  | [], _, _ => 2
  | u :: r, k, l => if l = u then k else kwF r (k + 1) l
/-- the kind of the token at p: 0 end, 1 none, 2 name, 3 number, a sign's byte, 128 and on the words -/
def knF (B : Nat → Nat) (n p : Nat) : Nat :=
  if n ≤ p then 0 else if isL (B p) = true then (if 8 < spN isL B n p - p then 1 else kwF wdL 128 (ltF B (spN isL B n p - p) p)) else
  if isD (B p) = true then (if 4 < spN isD B n p - p then 1 else 3) else if isS (B p) = true then B p else 1
def enF (B : Nat → Nat) (n p : Nat) : Nat := if n ≤ p then p else if isL (B p) = true then spN isL B n p else if isD (B p) = true then spN isD B n p else p + 1
def psF (B : Nat → Nat) (n : Nat) : Nat → Nat
  | 0 => spN isB B n 0
  | i + 1 => spN isB B n (enF B n (psF B n i))
/-- the number of k digits from p on -/
def vlF (B : Nat → Nat) : Nat → Nat → Nat → Nat
  | 0, _, v => v
  | k + 1, p, v => vlF B k (p + 1) (v * 10 + B p - 48)
/-- a tape -/
def TB (B : Nat → Nat) (n : Nat) (w : Mem) : Prop := n ≤ 2000 ∧ w 1 1 = nI n ∧ ∀ i, i < n → (w 2 i) &&& (255 : Int32) = nI (B i) ∧ B i < 256
theorem enF_b {B : Nat → Nat} {n p : Nat} (h : p ≤ n) : p ≤ enF B n p ∧ enF B n p ≤ n ∧ (p < n → p < enF B n p) := by
  unfold enF
  split
  · omega
  · have a := spN_b (pr := isL) (B := B) h
    have b := spN_b (pr := isD) (B := B) h
    split
    · rename_i c
      refine ⟨a.1, a.2, fun q => ?_⟩
      rw [spN_y q c]
      have := (spN_b (pr := isL) (B := B) (show p + 1 ≤ n by omega)).1
      omega
    · split
      · rename_i c
        refine ⟨b.1, b.2, fun q => ?_⟩
        rw [spN_y q c]
        have := (spN_b (pr := isD) (B := B) (show p + 1 ≤ n by omega)).1
        omega
      · omega
theorem psF_b {B : Nat → Nat} {n : Nat} : ∀ i, psF B n i ≤ n
  | 0 => (spN_b (Nat.zero_le _)).2
  | i + 1 => (spN_b (enF_b (psF_b i)).2.1).2
theorem c_byte {B : Nat → Nat} {n i : Nat} {w : Mem} {Q : Int32 → Mem → Prop} (h : TB B n w) (hi : i < 2 ^ 20) (K1 : i < n → Q (nI (B i)) w) (K0 : n ≤ i → Q (-1) w) : wp_7_byteAt (nI i) w Q := by
  obtain ⟨h1, h2, h3⟩ := h
  unfold wp_7_byteAt
  refine ⟨fun q => absurd q (nI_pos (by omega)), fun _ => ?_⟩
  rw [h2]
  refine pk_le n i K0 (fun q => ⟨vp_in_nI (by omega) (by decide), ?_⟩)
  rw [ix_nI (by omega), (h3 i q).1]
  exact K1 q
theorem c_blank {c : Nat} {w : Mem} {Q : Int32 → Mem → Prop} (hc : c < 2 ^ 20) (K1 : isB c = true → Q 1 w) (K0 : ¬ isB c = true → Q 0 w) : wp_9_isBlank (nI c) w Q := by
  have e : ∀ k, k < 2 ^ 20 → (nI c = nI k ↔ c = k) := fun k hk => nI_eq (by omega) (by omega)
  have e9 : nI c = 9 ↔ c = 9 := e 9 (by omega)
  have e10 : nI c = 10 ↔ c = 10 := e 10 (by omega)
  have e13 : nI c = 13 ↔ c = 13 := e 13 (by omega)
  have e32 : nI c = 32 ↔ c = 32 := e 32 (by omega)
  have d : isB c = true ↔ c = 9 ∨ c = 10 ∨ c = 13 ∨ c = 32 := by unfold isB; exact decide_eq_true_iff
  refine ⟨fun q => K1 (d.mpr (Or.inl (e9.mp q))), fun n9 => ⟨fun q => K1 (d.mpr (Or.inr (Or.inl (e10.mp q)))), fun n10 => ⟨fun q => K1 (d.mpr (Or.inr (Or.inr (Or.inl (e13.mp q))))), fun n13 => ⟨fun q => K0 (fun z => ?_), fun q => K1 (d.mpr (Or.inr (Or.inr (Or.inr (e32.mp (Classical.not_not.mp q))))))⟩⟩⟩⟩
  rcases d.mp z with z | z | z | z
  · exact n9 (e9.mpr z)
  · exact n10 (e10.mpr z)
  · exact n13 (e13.mpr z)
  · exact q (e32.mpr z)
theorem isL_d {c : Nat} : isL c = true ↔ 97 ≤ c ∧ c ≤ 122 := by unfold isL; exact decide_eq_true_iff
theorem isD_d {c : Nat} : isD c = true ↔ 48 ≤ c ∧ c ≤ 57 := by unfold isD; exact decide_eq_true_iff
theorem c_letter {c : Nat} {w : Mem} {Q : Int32 → Mem → Prop} (hc : c < 2 ^ 20) (K1 : isL c = true → Q 1 w) (K0 : ¬ isL c = true → Q 0 w) : wp_9_isLetter (nI c) w Q := by
  unfold wp_9_isLetter
  refine pk_lt c 97 (fun q => K0 (fun z => by have := isL_d.mp z; omega)) (fun q => ?_)
  exact pk_lt 122 c (fun q2 => K0 (fun z => by have := isL_d.mp z; omega)) (fun q2 => K1 (isL_d.mpr ⟨q, q2⟩))
theorem c_digit {c : Nat} {w : Mem} {Q : Int32 → Mem → Prop} (hc : c < 2 ^ 20) (K1 : isD c = true → Q 1 w) (K0 : ¬ isD c = true → Q 0 w) : wp_9_isDigit (nI c) w Q := by
  unfold wp_9_isDigit
  refine pk_lt c 48 (fun q => K0 (fun z => by have := isD_d.mp z; omega)) (fun q => ?_)
  exact pk_lt 57 c (fun q2 => K0 (fun z => by have := isD_d.mp z; omega)) (fun q2 => K1 (isD_d.mpr ⟨q, q2⟩))
/-- what the class's tokens may write -/
def frT (w w2 : Mem) : Prop := ∀ a j, ¬ (3 ≤ a ∧ a ≤ 6) → w2 a j = w a j
theorem ft_row {w w2 : Mem} (f : frT w w2) (a : Nat) (h : ¬ (3 ≤ a ∧ a ≤ 6)) : w2 a = w a := funext (fun j => f a j h)
theorem tb_ft {B : Nat → Nat} {n : Nat} {w w2 : Mem} (h : TB B n w) (f : frT w w2) : TB B n w2 := by
  unfold TB
  rw [ft_row f 1 (by omega), ft_row f 2 (by omega)]
  exact h
theorem c_skip {B : Nat → Nat} {n : Nat} {Q : Mem → Prop} : ∀ (k p : Nat) (w : Mem), n - p = k → p ≤ n → TB B n w → w 3 4 = nI p → Q (st w 3 4 (nI (spN isB B n p))) → wp_9_skipBlanks_b0 Q (k + 1) w := by
  intro k
  induction k with
  | zero =>
    intro p w hk hp h h4 K
    have h20 := h.1
    unfold wp_9_skipBlanks_b0
    rw [h4, h.2.1]
    refine pk_le n p (fun _ => ?_) (fun q => absurd q (by omega))
    rw [spN_e (by omega)] at K
    have : st w 3 4 (nI p) = w := by
      funext a j
      simp only [st]
      split
      · rename_i c; rw [c.1, c.2, h4]
      · rfl
    rw [this] at K
    exact K
  | succ k ih =>
    intro p w hk hp h h4 K
    have h20 := h.1
    unfold wp_9_skipBlanks_b0
    rw [h4, h.2.1]
    refine pk_le n p (fun q => absurd q (by omega)) (fun q => ?_)
    have hb := (h.2.2 p q).2
    refine c_byte h (by have := h.1; omega) (fun _ => c_blank (by omega) (fun c => t1 (fun w5 e5 => ?_)) (fun c => t0 ?_)) (fun z => absurd q (by omega))
    · rw [h4, nI_1] at e5
      subst e5
      rw [spN_y q c] at K
      refine ih (p + 1) _ (by omega) (by omega) ?_ st_eq ?_
      · exact tb_ft h (fun a j ha => st_nk (by omega))
      · have : st (st w 3 4 (nI (p + 1))) 3 4 (nI (spN isB B n (p + 1))) = st w 3 4 (nI (spN isB B n (p + 1))) := by
          funext a j
          simp only [st]
          split <;> rfl
        rw [this]
        exact K
    · rw [spN_n q c] at K
      have : st w 3 4 (nI p) = w := by
        funext a j
        simp only [st]
        split
        · rename_i c; rw [c.1, c.2, h4]
        · rfl
      rw [this] at K
      exact K
