theorem rc_law : ∀ k, k < 157 → kdB k = true → (21 ≤ rcF k ∧ rcF k ≤ 25 ↔ 129 ≤ k ∧ k ≤ 133) ∧ (129 ≤ k → rcF k = k - 108) := by decide +kernel
/-- a TELL of numbers in the reference, its word read -/
theorem r_nums {K P V NM : Nat → Nat} {M s t k : Nat} {S : PS} {w0 w : Mem} {wl0 wl : MemL} {Q : Mem → MemL → Prop} (hV : ∀ j, K j = 3 → V j < 2 ^ 20) (hP : ∀ i j, i < j → j ≤ M → P i < P j) (hP2 : ∀ i, P i < 2 ^ 20) (hk : K t = k) (hk2 : k = 128 ∨ 137 ≤ k) (hL : okL (nsL k)) (g : GR K P V NM M s w0 wl0 t S w wl)
    (hX : RGX K P V NM M s w0 wl0 Q (bnd (tkP K (K t) t) fun t1 => bnd (bodP K V NM (K t) t1 S) fun x => bnd (tkP K 59 x.1) fun t2 => .ok (t2, x.2))) : wp_12_goesOn w wl (chW (nsL k) Q) := by
  refine gr_goes g (by omega) (fun c4 w2 _ g2 => ?_) (fun c4 w2 h2 => ?_)
  · rw [show tkP K (K t) t = .ok (t + 1) by unfold tkP; rw [if_pos rfl, if_pos c4]] at hX
    have hb : bodP K V NM (K t) (t + 1) S = numP K V (nsL k) (t + 1) S := by
      unfold bodP
      rw [if_neg (by omega), if_neg (by omega), if_neg (by omega), hk]
    simp only [bnd] at hX
    rw [hb] at hX
    exact r_ch hV hP hP2 (nsL k) (t + 1) S w2 wl hL g2 hX
  · rw [show tkP K (K t) t = .error (2, t) by unfold tkP; rw [if_pos rfl, if_neg c4]] at hX
    exact er_ch h2 (hX w2 wl h2) (nsL k)
/-- a TELL in the reference -/
theorem r_one {K P V NM : Nat → Nat} {M s t : Nat} {S : PS} {w0 w : Mem} {wl0 wl : MemL} {Q : Mem → MemL → Prop} (hV : ∀ j, K j = 3 → V j < 2 ^ 20) (hP : ∀ i j, i < j → j ≤ M → P i < P j) (hP2 : ∀ i, P i < 2 ^ 20) (hS : SI S) (g : GR K P V NM M s w0 wl0 t S w wl) (hX : RGX K P V NM M s w0 wl0 Q (telP K V NM t S)) : wp_12_tellOne w wl Q := by
  obtain ⟨s1, s2, s3⟩ := hS
  have h19 : w 150 19 = nI s := by obtain ⟨_, _, _, ⟨⟨_, _, _, _, _, b6⟩, _⟩, _⟩ := g; exact b6
  have hs : s ≤ 1 := by obtain ⟨_, _, ⟨_, _, a3⟩, _⟩ := g; exact a3
  have h11 : w 150 11 = nI t := by obtain ⟨_, _, _, ⟨⟨b1, _⟩, _⟩, _⟩ := g; exact b1
  have h13 : w 150 13 = 0 := by obtain ⟨_, _, _, ⟨⟨_, _, b3, _⟩, _⟩, _⟩ := g; exact b3
  have tk : TKM K P V M w := by obtain ⟨_, _, ⟨q, _⟩, _⟩ := g; exact q
  have ht : t ≤ M := by obtain ⟨_, _, ⟨_, q, _⟩, _⟩ := g; exact q
  have h160 : w 160 s = nI (sN S 1 0) ∧ w 165 s = nI (sN S 1 1) := by obtain ⟨_, _, _, _, ⟨_, _, h3, _⟩, _⟩ := g; exact h3
  have hm := tk.1
  obtain ⟨kd0, q3, q4, _⟩ := tk.2.2 t ht
  have kl := kd_lt kd0
  have rl := rc_lt (K t) kl
  have rcl := rc_law (K t) kl kd0
  have iv : vp_in (nI t) 403 := vp_in_nI (by omega) (by decide)
  have d2 : ∀ c z, kdB c = true → rcF c = z → z < 157 → (nI (rcF (K t)) = nI z ↔ K t = c) := by
    intro c z hc hz hz2
    rw [← hz]
    exact (nI_eq (by omega) (by rw [hz]; omega)).trans (rc_inj kd0 hc)
  unfold telP at hX
  unfold wp_12_tellOne
  rw [h11, ix_nI (by omega), q3, h19, ix_nI (by omega), h160.1, h160.2]
  -- a fault at the word
  have erf : ∀ kd, (kd = 1 ∨ kd = 2) → ER P s w0 wl0 kd t (st (st w 150 13 (nI kd)) 150 14 (nI (P t))) wl := by
    intro kd hk
    refine er_new g hk (fun a j q => ?_) ?_ (by omega) ?_ st_eq
    · simp only [st]
      rw [if_neg (by omega), if_neg (by omega)]
    · rw [st_nj (by decide), st_nj (by decide)]; exact h11
    · rw [st_nj (by decide), st_eq]
  have failE : ∀ kd (Q2 : Mem → MemL → Prop), (kd = 1 ∨ kd = 2) → (∀ w2, ER P s w0 wl0 kd t w2 wl → Q2 w2 wl) → wp_12_fail (nI kd) w wl Q2 := by
    intro kd Q2 hk k
    refine r_fail (by omega) h11 h13 ?_
    rw [q4]
    exact k _ (erf kd hk)
  have syn : ¬ (128 ≤ K t ∧ K t ≤ 142) → ∀ l1, wp_12_tellOne_b401 Q l1 w wl := by
    intro nn l1
    rw [if_neg nn] at hX
    exact failE 1 _ (Or.inl rfl) (fun w2 h2 => er_end h2 (hX w2 wl h2))
  have nums : ∀ k, K t = k → (k = 128 ∨ 137 ≤ k ∧ k ≤ 142) → okL (nsL k) → wp_12_goesOn w wl (chW (nsL k) Q) := by
    intro k hk hk2 hL
    rw [if_pos (by omega), if_neg (by omega)] at hX
    exact r_nums hV hP hP2 hk (by omega) hL g hX
  refine ⟨iv, fun q => ?_, fun n0 => ⟨fun q => ?_, fun n1 => ⟨fun q => ?_, fun n2 => ⟨fun q => ?_, fun n3 => ⟨fun q => ?_, fun n4 => ⟨fun q => ?_, fun n5 => ⟨fun q => ?_, fun n6 => ⟨fun q => ?_, fun n7 => ⟨fun q => ?_, fun n8 => ⟨fun q => ?_, fun n9 => ?_⟩⟩⟩⟩⟩⟩⟩⟩⟩⟩
  · have k := (d2 128 20 (by decide) (by decide) (by decide)).mp q
    exact nums 128 k (Or.inl rfl) (by unfold okL; decide)
  · have k := (d2 134 26 (by decide) (by decide) (by decide)).mp q
    rw [if_pos (by omega), if_neg (by omega)] at hX
    refine gr_goes g (by omega) (fun c4 w2 _ g2 => ?_) (fun c4 w2 h2 => ?_)
    · rw [show tkP K (K t) t = .ok (t + 1) by unfold tkP; rw [if_pos rfl, if_pos c4], k] at hX
      exact ⟨6, r_parts hV hP hP2 5 0 (t + 1) S w2 wl (by omega) g2 hX⟩
    · rw [show tkP K (K t) t = .error (2, t) by unfold tkP; rw [if_pos rfl, if_neg c4]] at hX
      exact ⟨6, er_parts h2 (hX w2 wl h2) 5 0 (by omega)⟩
  · have k := (d2 135 27 (by decide) (by decide) (by decide)).mp q
    rw [if_pos (by omega)] at hX
    have e8 : nI (sN S 1 0) = 8 ↔ sN S 1 0 = 8 := nI_eq (b := 8) (by omega) (by omega)
    refine ⟨vp_in_nI (by omega) (by decide), fun n8 => ?_, fun y8 => ?_⟩
    · have m8 : ¬ sN S 1 0 = 8 := fun z => n8 (e8.mpr z)
      rw [if_neg (by omega)] at hX
      have hb : ∀ t1, bodP K V NM (K t) t1 S = manP K V NM t1 S := fun t1 => by unfold bodP; rw [if_neg (by omega), if_pos (by omega)]
      simp only [hb] at hX
      exact ⟨fun z => absurd h13 z, fun _ => r_man hV hP hP2 (by omega) (by omega) (by omega) g hX⟩
    · have m8 : sN S 1 0 = 8 := e8.mp (Classical.not_not.mp y8)
      rw [if_pos (Or.inl ⟨k, m8⟩)] at hX
      exact failE 2 _ (Or.inr rfl) (fun w2 h2 => ⟨fun _ => hX w2 wl h2, fun z => absurd (Classical.not_not.mp z) (er_13 h2)⟩)
  · have k := (d2 136 28 (by decide) (by decide) (by decide)).mp q
    rw [if_pos (by omega)] at hX
    have e7 : nI (sN S 1 1) = 7 ↔ sN S 1 1 = 7 := nI_eq (b := 7) (by omega) (by omega)
    refine ⟨vp_in_nI (by omega) (by decide), fun n8 => ?_, fun y8 => ?_⟩
    · have m8 : ¬ sN S 1 1 = 7 := fun z => n8 (e7.mpr z)
      rw [if_neg (by omega)] at hX
      have hb : ∀ t1, bodP K V NM (K t) t1 S = judP K V NM t1 S := fun t1 => by unfold bodP; rw [if_neg (by omega), if_neg (by omega), if_pos (by omega)]
      simp only [hb] at hX
      exact ⟨fun z => absurd h13 z, fun _ => r_jud hV hP hP2 (by omega) (by omega) (by omega) g hX⟩
    · have m8 : sN S 1 1 = 7 := e7.mp (Classical.not_not.mp y8)
      rw [if_pos (Or.inr ⟨k, m8⟩)] at hX
      exact failE 2 _ (Or.inr rfl) (fun w2 h2 => ⟨fun _ => hX w2 wl h2, fun z => absurd (Classical.not_not.mp z) (er_13 h2)⟩)
  · exact nums 137 ((d2 137 29 (by decide) (by decide) (by decide)).mp q) (by omega) (by unfold okL; decide)
  · exact nums 138 ((d2 138 30 (by decide) (by decide) (by decide)).mp q) (by omega) (by unfold okL; decide)
  · exact nums 139 ((d2 139 31 (by decide) (by decide) (by decide)).mp q) (by omega) (by unfold okL; decide)
  · exact nums 140 ((d2 140 32 (by decide) (by decide) (by decide)).mp q) (by omega) (by unfold okL; decide)
  · exact nums 141 ((d2 141 33 (by decide) (by decide) (by decide)).mp q) (by omega) (by unfold okL; decide)
  · exact nums 142 ((d2 142 34 (by decide) (by decide) (by decide)).mp q) (by omega) (by unfold okL; decide)
  · have y0 : ¬ K t = 128 := fun y => n0 ((d2 128 20 (by decide) (by decide) (by decide)).mpr y)
    have y1 : ¬ K t = 134 := fun y => n1 ((d2 134 26 (by decide) (by decide) (by decide)).mpr y)
    have y2 : ¬ K t = 135 := fun y => n2 ((d2 135 27 (by decide) (by decide) (by decide)).mpr y)
    have y3 : ¬ K t = 136 := fun y => n3 ((d2 136 28 (by decide) (by decide) (by decide)).mpr y)
    have y4 : ¬ K t = 137 := fun y => n4 ((d2 137 29 (by decide) (by decide) (by decide)).mpr y)
    have y5 : ¬ K t = 138 := fun y => n5 ((d2 138 30 (by decide) (by decide) (by decide)).mpr y)
    have y6 : ¬ K t = 139 := fun y => n6 ((d2 139 31 (by decide) (by decide) (by decide)).mpr y)
    have y7 : ¬ K t = 140 := fun y => n7 ((d2 140 32 (by decide) (by decide) (by decide)).mpr y)
    have y8 : ¬ K t = 141 := fun y => n8 ((d2 141 33 (by decide) (by decide) (by decide)).mpr y)
    have y9 : ¬ K t = 142 := fun y => n9 ((d2 142 34 (by decide) (by decide) (by decide)).mpr y)
    clear n0 n1 n2 n3 n4 n5 n6 n7 n8 n9
    refine ⟨iv, fun x61 e61 => ?_⟩
    have ti : x61.toInt = (rcF (K t) : Int) - 21 := by
      rw [e61, ti_sub (by rw [ti_nI (by omega)]; simp; omega) (by rw [ti_nI (by omega)]; simp; omega), ti_nI (by omega)]
      rfl
    refine ⟨fun q => syn (fun z => ?_) _, fun q => ⟨iv, fun q2 => ?_, fun q2 => syn (fun z => ?_) _⟩⟩
    · rw [Int32.lt_iff_toInt_lt, ti, show (0 : Int32).toInt = 0 from rfl] at q
      have := rcl.1
      omega
    · rw [Int32.lt_iff_toInt_lt, ti, show (0 : Int32).toInt = 0 from rfl] at q
      have q3 := (nI_leI (b := 25) (by omega) (by omega)).mp q2
      have r1 := rcl.1.mp ⟨by omega, q3⟩
      have r2 := rcl.2 r1.1
      have ex : x61 = nI (K t - 129) := by
        rw [e61, show (21 : Int32) = nI 21 from rfl, pk_sub (by omega)]
        exact congrArg nI (by omega)
      rw [if_pos (by omega), if_neg (by omega)] at hX
      have hb : ∀ t1, bodP K V NM (K t) t1 S = bnd (lawP K V t1) (fun x => .ok (x.1, upL (sL S) (K t - 129) x.2, sN S, sE S, sM S, sF S)) := fun t1 => by unfold bodP; rw [if_pos (by omega)]
      simp only [hb] at hX
      unfold wp_12_tellOne_b406
      rw [h13, ex]
      exact ⟨fun _ => r_lawT (by omega) (by omega) g hX, fun z => absurd (by decide) z⟩
    · have r1 := rcl.1
      have r2 := rcl.2
      exact q2 ((nI_leI (b := 25) (by omega) (by omega)).mpr (by omega))
