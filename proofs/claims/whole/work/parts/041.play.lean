/-! layer 2: what goes on, as a row of numbers (laid out as the reference's) -/
def rd (P : Nat → Int32) : Nat := ix (P 1)
def sn (P : Nat → Int32) : Nat := ix (P 3)
def n2 (T : TX) : Nat := if tm T ≤ tn T 14 then tm T else tn T 14
def f1 (P : Nat → Int32) : Nat → Int32 := fun a => P (36 + a)
def f2 (P : Nat → Int32) : Nat → Int32 := fun a => P (36 + a) + P (44 + a)
def szP (T : TX) (P : Nat → Int32) : Nat := if rd P = 1 then tm T else if rd P = 2 then n2 T else 0
/-- the i-th of the round -/
def odP (T : TX) (lf : Bool) (P : Nat → Int32) (i : Nat) : Nat := if rd P = 1 then (if lf = true then tm T - 1 - i else i) else manS (f1 P) (tm T) (n2 T - 1 - i) (tm T)
def qP (P : Nat → Int32) : Nat := rd P - 1
/-- the cells of one jump: was, length, points, style, late, second, gate, mean wind, ahead -/
def ceP (P v : Nat → Int32) (u k : Nat) : Nat → Int32 := fun i => if 4 ≤ i ∧ (i - 4) % 16 = u ∧ (i - 4) / 16 < k then v ((i - 4) / 16) else P i
def mkP (P v : Nat → Int32) (b n : Nat) : Nat → Int32 := fun i => if b ≤ i ∧ i < b + n then v (i - b) else P i
theorem ceP_s {P v : Nat → Int32} {u k : Nat} (h : u < 16) : upd (ceP P v u k) (4 + 16 * k + u) (v k) = ceP P v u (k + 1) := by
  funext i
  unfold upd ceP
  by_cases c : i = 4 + 16 * k + u
  · subst c
    rw [if_pos rfl, if_pos (by omega)]
    congr 1
    omega
  · rw [if_neg c]
    by_cases d : 4 ≤ i ∧ (i - 4) % 16 = u ∧ (i - 4) / 16 < k
    · rw [if_pos d, if_pos (by omega)]
    · rw [if_neg d, if_neg (by omega)]
theorem mkP_s {P v : Nat → Int32} {b n : Nat} : upd (mkP P v b n) (b + n) (v n) = mkP P v b (n + 1) := by
  funext i
  unfold upd mkP
  by_cases c : i = b + n
  · subst c
    rw [if_pos rfl, if_pos (by omega)]
    congr 1
    omega
  · rw [if_neg c]
    by_cases d : b ≤ i ∧ i < b + n
    · rw [if_pos d, if_pos (by omega)]
    · rw [if_neg d, if_neg (by omega)]
/-- a jump's length, marks, style, points: late la, gate g, so many ahead ah -/
def jL (T : TX) (sd : Int32) (a : Nat) (t la g ah : Int32) : Int32 := lenT T (trueT T sd t) (nI (ta T 0 a)) (nI (ta T 1 a)) la ah g
def jM (T : TX) (sd : Int32) (a : Nat) (t la g ah : Int32) : Nat → Int32 := markT T a (trueT T sd t) la (jL T sd a t la g ah)
def jS (T : TX) (sd : Int32) (a : Nat) (t la g ah : Int32) : Int32 := styT (jM T sd a t la g ah) (-1) (tj T)
def jP (T : TX) (sd : Int32) (a : Nat) (t la g ah : Int32) : Int32 := ptsT T (jL T sd a t la g ah) (jS T sd a t la g ah) (givT T (meanT T sd t)) g
def vP (T : TX) (sd : Int32) (P : Nat → Int32) (a : Nat) (t : Int32) : Nat → Int32 := fun c =>
  if c = 0 then 1 else if c = 1 then jL T sd a t (slipT T sd a t) (P 2) (P 3) else if c = 2 then jP T sd a t (slipT T sd a t) (P 2) (P 3) else if c = 3 then jS T sd a t (slipT T sd a t) (P 2) (P 3) else
  if c = 4 then slipT T sd a t else if c = 5 then t else if c = 6 then P 2 else if c = 7 then meanT T sd t else P 3
def stM (T : TX) (sd : Int32) (P : Nat → Int32) (a : Nat) (t : Int32) : Nat → Int32 :=
  mkP (ceP P (vP T sd P a t) (8 * qP P + a) 9) (jM T sd a t (slipT T sd a t) (P 2) (P 3)) (148 + 7 * (8 * qP P + a)) (tj T)
def st0 (T : TX) (sd : Int32) (P : Nat → Int32) (a : Nat) (t : Int32) : Nat → Int32 := upd (upd (stM T sd P a t) 0 (t + nI (tn T 11))) 3 (nI (sn P + 1))
/-- what goes on after the man a was let go in the second t -/
def stP (T : TX) (sd : Int32) (P : Nat → Int32) (a : Nat) (t : Int32) : Nat → Int32 :=
  if sn P + 1 < szP T P then st0 T sd P a t else upd (upd (st0 T sd P a t) 1 (nI (rd P + 1))) 3 0
theorem stM_lo {T : TX} {sd t : Int32} {P : Nat → Int32} {a i : Nat} (hi : i < 4) : stM T sd P a t i = P i := by
  unfold stM mkP ceP
  rw [if_neg (by omega), if_neg (by omega)]
theorem stP_hi {T : TX} {sd t : Int32} {P : Nat → Int32} {a i : Nat} (hi : 4 ≤ i) : stP T sd P a t i = stM T sd P a t i := by
  unfold stP st0
  split
  · rw [pk_un (by omega), pk_un (by omega)]
  · rw [pk_un (by omega), pk_un (by omega), pk_un (by omega), pk_un (by omega)]
theorem stP_0 {T : TX} {sd t : Int32} {P : Nat → Int32} {a : Nat} : stP T sd P a t 0 = t + nI (tn T 11) := by
  unfold stP st0
  split
  · rw [pk_un (by decide), pk_us]
  · rw [pk_un (by decide), pk_un (by decide), pk_un (by decide), pk_us]
theorem stP_2 {T : TX} {sd t : Int32} {P : Nat → Int32} {a : Nat} : stP T sd P a t 2 = P 2 := by
  unfold stP st0
  split
  · rw [pk_un (by decide), pk_un (by decide), stM_lo (by decide)]
  · rw [pk_un (by decide), pk_un (by decide), pk_un (by decide), pk_un (by decide), stM_lo (by decide)]
theorem stP_1 {T : TX} {sd t : Int32} {P : Nat → Int32} {a : Nat} : stP T sd P a t 1 = if sn P + 1 < szP T P then P 1 else nI (rd P + 1) := by
  unfold stP st0
  split
  · rw [pk_un (by decide), pk_un (by decide), stM_lo (by decide)]
  · rw [pk_un (by decide), pk_us]
theorem stP_3 {T : TX} {sd t : Int32} {P : Nat → Int32} {a : Nat} : stP T sd P a t 3 = if sn P + 1 < szP T P then nI (sn P + 1) else 0 := by
  unfold stP st0
  split
  · rw [pk_us]
  · rw [pk_us]
/-- the cell c of the jump u (8 * round + man) -/
theorem stM_c {T : TX} {sd t : Int32} {P : Nat → Int32} {a c u : Nat} (hc : c < 9) (hu : u < 16) : stM T sd P a t (4 + 16 * c + u) = if u = 8 * qP P + a then vP T sd P a t c else P (4 + 16 * c + u) := by
  unfold stM mkP
  rw [if_neg (by omega)]
  unfold ceP
  by_cases d : u = 8 * qP P + a
  · rw [if_pos d, if_pos (by omega)]
    congr 1
    omega
  · rw [if_neg d, if_neg (by omega)]
theorem stM_m {T : TX} {sd t : Int32} {P : Nat → Int32} {a u j : Nat} (hq : 8 * qP P + a < 16) (hu : u < 16) (hj : j < tj T) (h7 : tj T ≤ 7) : stM T sd P a t (148 + 7 * u + j) = if u = 8 * qP P + a then jM T sd a t (slipT T sd a t) (P 2) (P 3) j else P (148 + 7 * u + j) := by
  unfold stM mkP
  by_cases d : u = 8 * qP P + a
  · rw [if_pos d, if_pos (by omega)]
    congr 1
    omega
  · rw [if_neg d, if_neg (by omega)]
    unfold ceP
    rw [if_neg (by omega)]
theorem n2_b {T : TX} (hB : BT T) (h : 0 < tm T) : 0 < n2 T ∧ n2 T ≤ tm T := by
  have := hB.2.2.1
  unfold n2
  split <;> omega
/-- what always holds of what goes on -/
def GW (T : TX) (lf : Bool) (P : Nat → Int32) : Prop :=
  (P 1 = nI (rd P) ∧ P 3 = nI (sn P) ∧ 1 ≤ rd P ∧ rd P ≤ 3 ∧ sn P ≤ 8 ∧ (sn P < szP T P ∨ (szP T P = 0 ∧ sn P = 0)) ∧ ∃ g, P 2 = nI g ∧ g ≤ 40) ∧
  (rd P < 3 → ∀ a, a < tm T → (P (4 + (8 * qP P + a)) = 1 ↔ ∃ i, i < sn P ∧ odP T lf P i = a)) ∧
  (rd P = 1 → ∀ a, a < 8 → P (12 + a) = 0) ∧
  (∀ u, u < 16 → (P (4 + u) = 0 ∨ P (4 + u) = 1) ∧ (P (4 + u) = 0 → P (36 + u) = 0 ∧ P (20 + u) = 0) ∧ (∃ p, P (36 + u) = nI p ∧ p ≤ 200000) ∧ 0 ≤ (P (20 + u)).toInt ∧ (P (20 + u)).toInt ≤ 9999) ∧
  (∀ a, tm T ≤ a → a < 8 → P (4 + a) = 0 ∧ P (12 + a) = 0)
theorem odP_lt {T : TX} {lf : Bool} {P : Nat → Int32} {i : Nat} (hB : BT T) (h1 : 1 ≤ rd P) (h : i < szP T P) : odP T lf P i < tm T := by
  unfold szP at h
  unfold odP
  split
  · rename_i c
    rw [if_pos c] at h
    split <;> omega
  · rename_i c
    rw [if_neg c] at h
    have h0 : 0 < tm T := by
      rcases Nat.eq_zero_or_pos (tm T) with z | z
      · exfalso
        split at h
        · unfold n2 at h; rw [z] at h; simp at h
        · omega
      · exact z
    have := n2_b hB h0
    exact (manS_sp (f1 P) (r := n2 T - 1 - i) (by omega)).1
theorem odP_inj {T : TX} {lf : Bool} {P : Nat → Int32} {i j : Nat} (hB : BT T) (h1 : 1 ≤ rd P) (h : i < szP T P) (h2 : j < szP T P) (e : odP T lf P i = odP T lf P j) : i = j := by
  have hl := odP_lt (lf := lf) hB h1 h
  unfold szP at h h2
  unfold odP at e
  split at e
  · rename_i c
    rw [if_pos c] at h h2
    split at e <;> omega
  · rename_i c
    rw [if_neg c] at h h2
    split at h
    · rename_i c2
      rw [if_pos c2] at h2
      have := n2_b hB (by omega)
      have a1 := (manS_sp (f1 P) (r := n2 T - 1 - i) (m := tm T) (by omega)).2
      have a2 := (manS_sp (f1 P) (r := n2 T - 1 - j) (m := tm T) (by omega)).2
      rw [e, a2] at a1
      omega
    · omega
/-- the next one -/
def nxP (T : TX) (lf : Bool) (P : Nat → Int32) : Nat := odP T lf P (sn P)
theorem szP_q {T : TX} {P : Nat → Int32} (h : 0 < szP T P) : rd P < 3 := by
  unfold szP at h
  split at h
  · omega
  · split at h <;> omega
theorem rd_of {P : Nat → Int32} {n : Nat} (h : P 1 = nI n) (hn : n < 2 ^ 31) : rd P = n := by unfold rd; rw [h, ix_nI hn]
theorem sn_of {P : Nat → Int32} {n : Nat} (h : P 3 = nI n) (hn : n < 2 ^ 31) : sn P = n := by unfold sn; rw [h, ix_nI hn]
theorem jP_b {T : TX} (hB : BT T) {sd t la ah : Int32} {a g : Nat} (hg : g ≤ 40) : ∃ p, jP T sd a t la (nI g) ah = nI p ∧ p ≤ 200000 := by
  unfold jP
  have s := styT_b (mk := jM T sd a t la (nI g) ah) (ex := -1) (n := tj T) hB.2.2.1.2.2.2.2 (fun j _ => markT_b T a _ _ _ j)
  have l := lenT_b T (trueT T sd t) (nI (ta T 0 a)) (nI (ta T 1 a)) la ah (nI g)
  have gv := givT_b T (meanT T sd t)
  exact ptsT_b hB l.1 l.2 s.1 s.2 gv.1 gv.2 hg
theorem f1_st {T : TX} {sd t : Int32} {P : Nat → Int32} {a : Nat} (h : qP P = 1) (o : Nat) (ho : o < 8) : f1 (stP T sd P a t) o = f1 P o := by
  unfold f1
  rw [stP_hi (by omega), show 36 + o = 4 + 16 * 2 + o by omega, stM_c (by omega) (by omega), if_neg (by omega)]
theorem gw_st {T : TX} {lf : Bool} {sd t : Int32} {P : Nat → Int32} (hB : BT T) (h : GW T lf P) (hs : sn P < szP T P) : GW T lf (stP T sd P (nxP T lf P) t) := by
  obtain ⟨⟨g1, g3, r1, r3, s8, gs, g, gg, hg⟩, gw, g12, gu, gm⟩ := h
  have h8 : tm T ≤ 8 := hB.2.2.1.2.2.2.1
  have ha : nxP T lf P < tm T := odP_lt hB r1 hs
  have hq : rd P < 3 := szP_q (T := T) (by omega)
  have hqq : qP P < 2 := by unfold qP; omega
  have hnn := n2_b hB (by omega)
  generalize hA : nxP T lf P = a at ha
  have cell : ∀ c u, c < 9 → u < 16 → stP T sd P a t (4 + 16 * c + u) = if u = 8 * qP P + a then vP T sd P a t c else P (4 + 16 * c + u) := fun c u hc hu => by rw [stP_hi (by omega)]; exact stM_c hc hu
  have was : ∀ u, u < 16 → stP T sd P a t (4 + u) = if u = 8 * qP P + a then 1 else P (4 + u) := fun u hu => by
    have := cell 0 u (by omega) hu
    rw [show 4 + 16 * 0 + u = 4 + u by omega] at this
    exact this
  refine ⟨?_, ?_, ?_, fun u hu => ?_, fun b hb hb2 => ?_⟩
  · rw [stP_2]
    rcases Nat.lt_or_ge (sn P + 1) (szP T P) with c | c
    · have e1 : stP T sd P a t 1 = nI (rd P) := by rw [stP_1, if_pos c]; exact g1
      have e3 : stP T sd P a t 3 = nI (sn P + 1) := by rw [stP_3, if_pos c]
      have d1 := rd_of e1 (by omega)
      have d3 := sn_of e3 (by omega)
      have ez : szP T (stP T sd P a t) = szP T P := by unfold szP; rw [d1]
      have : szP T P ≤ 8 := by unfold szP; split; omega; split <;> omega
      rw [d1, d3, ez]
      exact ⟨e1, e3, r1, r3, by omega, Or.inl c, g, gg, hg⟩
    · have e1 : stP T sd P a t 1 = nI (rd P + 1) := by rw [stP_1, if_neg (by omega)]
      have e3 : stP T sd P a t 3 = nI 0 := by rw [stP_3, if_neg (by omega)]; rfl
      have d1 := rd_of e1 (by omega)
      have d3 := sn_of e3 (by omega)
      rw [d1, d3]
      refine ⟨e1, e3, by omega, by omega, by omega, ?_, g, gg, hg⟩
      unfold szP
      rw [d1, if_neg (by omega)]
      split
      · exact Or.inl (by omega)
      · exact Or.inr ⟨rfl, rfl⟩
  · intro hr b hb
    rcases Nat.lt_or_ge (sn P + 1) (szP T P) with c | c
    · have e1 : stP T sd P a t 1 = nI (rd P) := by rw [stP_1, if_pos c]; exact g1
      have e3 : stP T sd P a t 3 = nI (sn P + 1) := by rw [stP_3, if_pos c]
      have d1 := rd_of e1 (by omega)
      have d3 := sn_of e3 (by omega)
      have dq : qP (stP T sd P a t) = qP P := by unfold qP; rw [d1]
      have eo : ∀ i, odP T lf (stP T sd P a t) i = odP T lf P i := by
        intro i
        unfold odP
        rw [d1]
        split
        · rfl
        · rename_i z
          have q1 : qP P = 1 := by unfold qP; omega
          have em : ∀ n m r, m ≤ 8 → n ≤ m → manS (f1 (stP T sd P a t)) m r n = manS (f1 P) m r n := by
            intro n m r hm
            induction n with
            | zero => intro _; rfl
            | succ n ih =>
              intro hn
              simp only [manS]
              rw [ih (by omega), rkN_cg m (fun o ho => f1_st q1 o (by omega)) (f1_st q1 n (by omega))]
          exact em _ _ _ h8 (Nat.le_refl _)
      rw [dq, d3, was _ (by omega)]
      constructor
      · intro z
        by_cases ab : b = a
        · exact ⟨sn P, by omega, by rw [eo, ab, ← hA]; rfl⟩
        · rw [if_neg (by omega)] at z
          obtain ⟨i, hi, e⟩ := (gw hq b hb).mp z
          exact ⟨i, by omega, by rw [eo]; exact e⟩
      · rintro ⟨i, hi, e⟩
        rw [eo] at e
        by_cases ab : b = a
        · rw [if_pos (by omega)]
        · rw [if_neg (by omega)]
          refine (gw hq b hb).mpr ⟨i, ?_, e⟩
          rcases Nat.lt_or_ge i (sn P) with z | z
          · exact z
          · exfalso
            apply ab
            rw [← e, show i = sn P by omega, ← hA]
            rfl
    · have e1 : stP T sd P a t 1 = nI (rd P + 1) := by rw [stP_1, if_neg (by omega)]
      have e3 : stP T sd P a t 3 = nI 0 := by rw [stP_3, if_neg (by omega)]; rfl
      have d1 := rd_of e1 (by omega)
      have d3 := sn_of e3 (by omega)
      rw [d1] at hr
      have q0 : qP P = 0 := by unfold qP; omega
      have dq : qP (stP T sd P a t) = 1 := by unfold qP; rw [d1]; omega
      rw [dq, d3, was _ (by omega), if_neg (by omega)]
      constructor
      · intro z
        have := g12 (by omega) b (by omega)
        rw [show 4 + (8 * 1 + b) = 12 + b by omega, this] at z
        exact absurd z (by decide)
      · rintro ⟨i, hi, e⟩
        omega
  · intro hr b hb
    rcases Nat.lt_or_ge (sn P + 1) (szP T P) with c | c
    · have e1 : stP T sd P a t 1 = nI (rd P) := by rw [stP_1, if_pos c]; exact g1
      have d1 := rd_of e1 (by omega)
      rw [d1] at hr
      rw [show 12 + b = 4 + (8 + b) by omega, was _ (by omega), if_neg (by unfold qP; omega), show 4 + (8 + b) = 12 + b by omega]
      exact g12 hr b hb
    · have e1 : stP T sd P a t 1 = nI (rd P + 1) := by rw [stP_1, if_neg (by omega)]
      have d1 := rd_of e1 (by omega)
      omega
  · have c2 := cell 2 u (by omega) hu
    have c1 := cell 1 u (by omega) hu
    rw [show 4 + 16 * 2 + u = 36 + u by omega] at c2
    rw [show 4 + 16 * 1 + u = 20 + u by omega] at c1
    rw [was u hu, c2, c1]
    by_cases z : u = 8 * qP P + a
    · rw [if_pos z, if_pos z, if_pos z]
      refine ⟨Or.inr rfl, fun q => absurd q (by decide), ?_, ?_⟩
      · show ∃ p, jP T sd a t (slipT T sd a t) (P 2) (P 3) = nI p ∧ p ≤ 200000
        rw [gg]
        exact jP_b hB hg
      · exact lenT_b T _ _ _ _ _ _
    · rw [if_neg z, if_neg z, if_neg z]
      exact gu u hu
  · have w1 := was b (by omega)
    have w2 := was (8 + b) (by omega)
    rw [if_neg (by omega)] at w1 w2
    rw [w1, show 12 + b = 4 + (8 + b) by omega, w2]
    have := gm b hb hb2
    rw [show 4 + (8 + b) = 12 + b by omega]
    exact this
