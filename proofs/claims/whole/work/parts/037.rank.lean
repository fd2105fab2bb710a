theorem s_fill {b1 nb1 : Nat} {v : Int32} {w : Mem} {Q : Mem → Prop} (hn : nb1 < 2 ^ 20) (K : ∀ w2, (∀ a, a ≠ b1 → w2 a = w a) → (∀ j, j < nb1 → w2 b1 j = v) → Q w2) : wp_J7_fill_53178 b1 nb1 v w Q := by
  intro x1 e1
  subst e1
  refine pk_loop (fun n i (z : Mem) => wp_J7_fill_53178_b5 b1 nb1 Q n v (nI i) (nI nb1) z) (fun i z => (∀ a, a ≠ b1 → z a = w a) ∧ ∀ j, j < i → z b1 j = v) nb1 0 w (by omega) ⟨fun _ _ => rfl, fun j hj => absurd hj (by omega)⟩ (fun n z hz => ?_) (fun n i z hi hz L => ?_)
  · exact pk_le nb1 nb1 (fun _ => K z hz.1 hz.2) (fun q => absurd q (by omega))
  · refine pk_le nb1 i (fun q => absurd q (by omega)) (fun _ => ⟨vp_in_nI hi (by omega), fun w2 e2 x3 e3 => ?_⟩)
    rw [ix_nI (by omega)] at e2
    rw [nI_1] at e3
    subst e2
    subst e3
    refine L _ ⟨fun a ha => (st_ne a ha).trans (hz.1 a ha), fun j hj => ?_⟩
    rw [st_at]
    by_cases c : j = i
    · subst c; exact pk_us
    · rw [pk_un c]; exact hz.2 j (by omega)
theorem c_most {T : TX} {sd : Int32} {w0 w : Mem} {tw mw ln sy po : Int32} {mk : Nat → Int32} {Q : Int32 → Mem → Prop} (hT : CT T sd w0) (h : CF w0 tw mw ln sy po mk w) (K : ∀ w2, CF w0 tw mw ln sy po (fun _ => 200) w2 → Q (styT (fun _ => 200) (-1) (tj T)) w2) : wp_0_mostStyle w Q := by
  refine s_fill (by decide) (fun w2 f e => ?_)
  have h2 : CF w0 tw mw ln sy po (fun _ => 200) w2 := ⟨fun a j q => by rw [f a (fun z => q (by rw [z]; simp only [scC]; omega))]; exact h.1 a j q, by rw [f 87 (by decide)]; exact h.2.1, e⟩
  rw [(cf_j hT h2).2]
  refine c_style (fr := 0) (mk := fun _ => 200) hT.2.1.2.2.1.2.2.2.2 (by omega) (by omega) (fun j hj => ?_) (fun j hj => by decide) (K w2 h2)
  rw [Nat.zero_add]
  exact e j (by have := hT.2.1.2.2.1.2.2.2.2; omega)

/-- o is ahead of a by f: more, or alike with a smaller number -/
abbrev ahd (f : Nat → Int32) (o a : Nat) : Prop := f a < f o ∨ (f o = f a ∧ o < a)
/-- how many of the first n are ahead of a -/
def rkN (f : Nat → Int32) (a : Nat) : Nat → Nat
  | 0 => 0
  | n + 1 => if ahd f n a then rkN f a n + 1 else rkN f a n
theorem ahd_tr {f : Nat → Int32} {a b c : Nat} (h : ahd f a b) (h2 : ahd f b c) : ahd f a c := by
  simp only [ahd, Int32.lt_iff_toInt_lt, ← Int32.toInt_inj] at *
  omega
theorem ahd_ir {f : Nat → Int32} {a : Nat} : ¬ ahd f a a := by
  simp only [ahd, Int32.lt_iff_toInt_lt, ← Int32.toInt_inj]
  omega
theorem ahd_or {f : Nat → Int32} {a b : Nat} (h : a ≠ b) (h2 : ¬ ahd f a b) : ahd f b a := by
  simp only [ahd, Int32.lt_iff_toInt_lt, ← Int32.toInt_inj] at *
  omega
theorem rkN_le (f : Nat → Int32) (a : Nat) : ∀ n, rkN f a n ≤ n
  | 0 => Nat.le_refl _
  | n + 1 => by
    have := rkN_le f a n
    simp only [rkN]
    split <;> omega
theorem rkN_mono {f : Nat → Int32} {a b : Nat} (h : ahd f a b) : ∀ n, rkN f a n ≤ rkN f b n
  | 0 => Nat.le_refl _
  | n + 1 => by
    have := rkN_mono h n
    simp only [rkN]
    by_cases c : ahd f n a
    · rw [if_pos c, if_pos (ahd_tr c h)]; omega
    · rw [if_neg c]; split <;> omega
theorem rkN_lt {f : Nat → Int32} {a b : Nat} (h : ahd f a b) : ∀ n, a < n → rkN f a n < rkN f b n
  | 0, q => absurd q (by omega)
  | n + 1, q => by
    simp only [rkN]
    by_cases c : a = n
    · subst c
      rw [if_pos h, if_neg ahd_ir]
      have := rkN_mono h a
      omega
    · have := rkN_lt h n (by omega)
      by_cases c2 : ahd f n a
      · rw [if_pos c2, if_pos (ahd_tr c2 h)]; omega
      · rw [if_neg c2]; split <;> omega
theorem rkN_inj {f : Nat → Int32} {a b n : Nat} (ha : a < n) (hb : b < n) (h : rkN f a n = rkN f b n) : a = b := by
  rcases Classical.em (a = b) with e | e
  · exact e
  · rcases Classical.em (ahd f a b) with c | c
    · have := rkN_lt c n ha; omega
    · have := rkN_lt (ahd_or e c) n hb; omega
theorem rkN_self {f : Nat → Int32} {a : Nat} : ∀ n, a < n → rkN f a n < n
  | 0, q => absurd q (by omega)
  | n + 1, q => by
    simp only [rkN]
    by_cases c : a = n
    · subst c
      rw [if_neg ahd_ir]
      have := rkN_le f a a
      omega
    · have := rkN_self (f := f) n (show a < n by omega)
      split <;> omega
theorem rkN_ex (f : Nat → Int32) : ∀ n r, r < n → ∃ a, a < n ∧ rkN f a n = r
  | 0, r, q => absurd q (by omega)
  | n + 1, r, q => by
    have hn : rkN f n (n + 1) = rkN f n n := by simp only [rkN]; rw [if_neg ahd_ir]
    rcases Nat.lt_trichotomy r (rkN f n n) with c | c | c
    · obtain ⟨a, ha, e⟩ := rkN_ex f n r (by have := rkN_le f n n; omega)
      refine ⟨a, by omega, ?_⟩
      have na : ¬ ahd f n a := fun z => by have := rkN_mono z n; omega
      simp only [rkN]
      rw [if_neg na]
      exact e
    · exact ⟨n, by omega, hn.trans c.symm⟩
    · obtain ⟨a, ha, e⟩ := rkN_ex f n (r - 1) (by omega)
      refine ⟨a, by omega, ?_⟩
      have na : ahd f n a := by
        refine ahd_or (by omega) (fun z => ?_)
        have := rkN_lt z n ha
        omega
      simp only [rkN]
      rw [if_pos na, e]
      omega
theorem rkN_cg {f g : Nat → Int32} {a : Nat} : ∀ n, (∀ o, o < n → f o = g o) → f a = g a → rkN f a n = rkN g a n
  | 0, _, _ => rfl
  | n + 1, h, ha => by
    simp only [rkN, ahd]
    rw [rkN_cg n (fun o ho => h o (by omega)) ha, h n (by omega), ha]
/-- the one of the first n that has the rank r among m -/
def manS (f : Nat → Int32) (m r : Nat) : Nat → Nat
  | 0 => 0
  | n + 1 => if rkN f n m = r then n else manS f m r n
theorem manS_eq {f : Nat → Int32} {m r a : Nat} (ha : a < m) (hr : rkN f a m = r) : ∀ n, a < n → n ≤ m → manS f m r n = a
  | 0, q, _ => absurd q (by omega)
  | n + 1, q, q2 => by
    simp only [manS]
    by_cases c : rkN f n m = r
    · rw [if_pos c]
      exact rkN_inj (by omega) ha (c.trans hr.symm)
    · rw [if_neg c]
      refine manS_eq ha hr n ?_ (by omega)
      rcases Nat.lt_or_ge a n with z | z
      · exact z
      · exact absurd (by rw [show n = a by omega]; exact hr) c
theorem manS_sp (f : Nat → Int32) {m r : Nat} (h : r < m) : manS f m r m < m ∧ rkN f (manS f m r m) m = r := by
  obtain ⟨a, ha, e⟩ := rkN_ex f m r h
  rw [manS_eq ha e m ha (Nat.le_refl _)]
  exact ⟨ha, e⟩
/-- the class's rank -/
theorem c_rankAmong {b1 nb1 m a : Nat} {f : Nat → Int32} {w : Mem} {Q : Int32 → Mem → Prop} (hm : m ≤ 8) (hb : nb1 = 8) (ha : a < 8) (hf : ∀ o, o < 8 → w b1 o = f o) (K : Q (nI (rkN f a m)) w) : wp_11_rankAmong b1 nb1 (nI m) (nI a) w Q := by
  subst hb
  refine pk_loop (fun n i (z : Int32) => wp_11_rankAmong_b5 b1 8 Q n (nI m) (nI a) z (nI i) w) (fun i z => z = nI (rkN f a i)) m 0 0 (by omega) rfl (fun n z hz => ?_) (fun n i z hi hz L => ?_)
  · subst hz
    exact pk_le m m (fun _ => K) (fun q => absurd q (by omega))
  · subst hz
    refine pk_le m i (fun q => absurd q (by omega)) (fun _ => ⟨pk_in i 8 (by omega), pk_in a 8 ha, ?_⟩)
    rw [ix_nI (by omega), ix_nI (by omega), hf i (by omega), hf a ha]
    have yes : ahd f i a → wp_11_rankAmong_b37 b1 8 Q (wp_11_rankAmong_b5 b1 8 Q n) (nI m) (nI a) (nI (rkN f a i)) (nI i) w := by
      intro c
      refine ⟨fun q => absurd q (by decide), fun _ x1 e1 x2 e2 => ?_⟩
      rw [nI_1] at e1 e2
      subst e1
      subst e2
      exact L _ (by simp only [rkN]; rw [if_pos c])
    have no : ¬ ahd f i a → wp_11_rankAmong_b41 b1 8 Q (wp_11_rankAmong_b5 b1 8 Q n) (nI m) (nI a) (nI (rkN f a i)) (nI i) w := by
      intro c
      refine ⟨fun _ x2 e2 => ?_, fun q => absurd rfl q⟩
      rw [nI_1] at e2
      subst e2
      exact L _ (by simp only [rkN]; rw [if_neg c])
    refine ⟨fun q => yes (Or.inl q), fun q => ⟨pk_in i 8 (by omega), pk_in a 8 ha, fun q2 => no (fun z => ?_), fun q2 => ?_⟩⟩
    · rcases z with z | z
      · exact q z
      · exact q2 z.1
    · refine pk_le a i (fun q3 => no (fun z => ?_)) (fun q3 => yes (Or.inr ⟨Classical.not_not.mp q2, q3⟩))
      rcases z with z | z
      · exact q z
      · omega
theorem c_manOf {k m r : Nat} {f : Nat → Int32} {w : Mem} {Q : Int32 → Mem → Prop} (hm : m ≤ 8) (h80 : w 80 6 = nI m) (hf : ∀ o, o < 8 → w (k + 2) o = f o) (hr : r < m) (K : Q (nI (manS f m r m)) w) : wp_5_manOfRank k (nI r) w Q := by
  obtain ⟨s1, s2⟩ := manS_sp f hr
  refine pk_loop (fun n i (_ : Unit) => wp_5_manOfRank_b2 k Q n (nI r) (nI i) w) (fun i _ => i ≤ manS f m r m) m 0 () (by omega) (by omega) (fun n z hz => absurd hz (by omega)) (fun n i z hi hz L => ?_)
  unfold wp_5_manOfRank_b2
  rw [h80]
  refine pk_le m i (fun q => absurd q (by omega)) (fun _ => ?_)
  unfold wp_5_rankOf
  rw [h80]
  refine c_rankAmong hm rfl (by omega) hf ?_
  have := rkN_le f i m
  refine ⟨fun q x3 e3 => ?_, fun q => ?_⟩
  · rw [nI_1] at e3
    subst e3
    refine L () ?_
    rcases Nat.lt_or_ge i (manS f m r m) with c | c
    · exact c
    · exact absurd (by rw [show i = manS f m r m by omega, s2]) q
  · rw [rkN_inj hi s1 (((nI_eq (by omega) (by omega)).mp (Classical.not_not.mp q)).trans s2.symm)]
    exact K
