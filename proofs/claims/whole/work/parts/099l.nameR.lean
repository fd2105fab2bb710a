/-- a fault that counts later, noted again at the same token -/
theorem r_wrongS {K P V : Nat → Nat} {M t k : Nat} {w : Mem} {wl : MemL} {Q : Mem → MemL → Prop} (tk : TKM K P V M w) (ht : t ≤ M) (h13 : w 150 13 = 0) (hl : LFr P (some (k, t)) w) (K1 : Q w wl) : wp_12_wrong (nI k) (nI t) w wl Q := by
  have hm := tk.1
  have e4 : w 154 t = nI (P t) := (tk.2.2 t ht).2.2.1
  obtain ⟨q0, q1, q2⟩ := hl
  unfold wp_12_wrong
  rw [ix_nI (by omega), e4, h13]
  refine ⟨vp_in_nI (by omega) (by decide), fun x2 ex => ?_⟩
  subst ex
  refine ⟨fun q => absurd q (by decide), fun _ => ?_⟩
  rw [q1, q2]
  have n7 : ¬ nI k = 0 := nI_ne0 (by omega) (by omega)
  refine ⟨fun q => absurd q n7, fun _ => ⟨fun _ => K1, fun _ => ⟨fun q => absurd rfl q, fun _ => ⟨fun q => absurd q (nlt.mpr (Int32.le_iff_toInt_le.mpr (Int.le_refl _))), fun _ => K1⟩⟩⟩⟩
/-- the reference compares a NAME with those before -/
theorem r_nm {K P V NM : Nat → Nat} {M t : Nat} {lf : LFt} {w0 : Mem} {wl : MemL} {Q : Int32 → Mem → MemL → Prop} (ht : t ≤ M) (hlt : ∀ k0 t0, lf = some (k0, t0) → P t0 < P t) (hP2 : ∀ i, P i < 2 ^ 20) (h156 : wl 156 t = lN (NM t) ∧ NM t < 2 ^ 63) : ∀ (r : List Nat) (i : Nat) (b : Bool) (w : Mem), TKM K P V M w → (∀ x, x ∈ r → NM x < 2 ^ 63) → (∀ j x, r[j]? = some x → wl 158 (i + j) = lN (NM x)) → w 150 20 = nI (i + r.length) → i + r.length ≤ 15 → w 150 13 = 0 → LFr P (if b = true then noP lf 3 t else lf) w → (∀ a j, ¬ (a = 150 ∧ (j = 15 ∨ j = 16)) → w a j = w0 a j) →
    (∀ w2, (∀ a j, ¬ (a = 150 ∧ (j = 15 ∨ j = 16)) → w2 a j = w0 a j) → LFr P (if (b || sameB NM r t) = true then noP lf 3 t else lf) w2 → Q (nI t) w2 wl) → wp_12_named_b16 Q (r.length + 1) (nI t) (nI i) w wl
  | [], i, b, w, tk, hr, h8, h20, h15, h13, hl, f, k => by
    simp only [List.length_nil, Nat.add_zero] at h20
    unfold wp_12_named_b16
    rw [h20]
    refine ⟨fun _ => k w f ?_, fun q => absurd ((nI_leI (by simp at h15; omega) (by simp at h15; omega)).mpr (Nat.le_refl i)) q⟩
    rw [show (b || sameB NM [] t) = b by cases b <;> rfl]
    exact hl
  | x :: r, i, b, w, tk, hr, h8, h20, h15, h13, hl, f, k => by
    simp only [List.length_cons] at h20 h15
    have hm := tk.1
    have ii : ix (nI i) = i := ix_nI (by omega)
    have e8 : wl 158 i = lN (NM x) := h8 0 x rfl
    have hx := hr x (List.mem_cons_self ..)
    have cmp : lg_cmp (lN (NM x)) (lN (NM t)) = 0 ↔ NM x = NM t := by
      rw [lg_cmp_eq, pk_lEQ hx h156.2]
    unfold wp_12_named_b16
    rw [h20]
    refine ⟨fun q => absurd ((nI_leI (by omega) (by omega)).mp q) (by omega), fun _ => ⟨fun q => absurd h13 q, fun _ => ⟨vp_in_nI (by omega) (by decide), vp_in_nI (by omega) (by decide), ?_⟩⟩⟩
    rw [ii, ix_nI (by omega), e8, h156.1]
    have on : ∀ (b2 : Bool) (w7 : Mem), (b2 || sameB NM r t) = (b || sameB NM (x :: r) t) → (∀ a j, ¬ (a = 150 ∧ (j = 15 ∨ j = 16)) → w7 a j = w a j) → LFr P (if b2 = true then noP lf 3 t else lf) w7 → wp_12_named_b53 Q (wp_12_named_b16 Q (r.length + 1)) (nI t) (nI i) w7 wl := by
      intro b2 w7 hb f7 l7 x1 e1
      rw [nI_1] at e1
      subst e1
      refine r_nm ht hlt hP2 h156 r (i + 1) b2 w7 (tkm_i tk (fun a q1 q2 => funext (fun j => f7 a j (by omega)))) (fun y hy => hr y (List.mem_cons_of_mem _ hy)) (fun j y hy => ?_) ?_ (by omega) ((f7 150 13 (by omega)).trans h13) l7 (fun a j q => (f7 a j q).trans (f a j q)) (fun w9 f9 l9 => k w9 f9 ?_)
      · rw [show i + 1 + j = i + (j + 1) by omega]
        exact h8 (j + 1) y hy
      · rw [f7 150 20 (by omega), h20, show i + 1 + r.length = i + (r.length + 1) by omega]
      · rw [← hb]
        exact l9
    refine ⟨fun q => ?_, fun q => ?_⟩
    · have ne : ¬ NM x = NM t := fun z => q (cmp.mpr z)
      exact on b w (by simp [sameB, ne]) (fun _ _ _ => rfl) hl
    · have e : NM x = NM t := cmp.mp (Classical.not_not.mp q)
      have fin : ∀ w7, (∀ a j, ¬ (a = 150 ∧ (j = 15 ∨ j = 16)) → w7 a j = w a j) → LFr P (noP lf 3 t) w7 → wp_12_named_b53 Q (wp_12_named_b16 Q (r.length + 1)) (nI t) (nI i) w7 wl := fun w7 f7 l7 => on true w7 (by simp [sameB, e]) f7 (by simpa using l7)
      cases b with
      | false => exact r_wrong (k := 3) tk ht h13 (by omega) (lf := lf) (by simpa using hl) hlt (hP2 t) (fun w7 f7 l7 => fin w7 f7 l7)
      | true =>
        have hl2 : LFr P (noP lf 3 t) w := by simpa using hl
        cases lf with
        | none => exact r_wrongS tk ht h13 hl2 (fin w (fun _ _ _ => rfl) hl2)
        | some y => exact r_wrong (k := 3) tk ht h13 (by omega) (lf := some y) hl2 hlt (hP2 t) (fun w7 f7 l7 => fin w7 f7 l7)
/-- a NAME behind its word -/
theorem r_named {K P V NM : Nat → Nat} {M s t : Nat} {S : PS} {w0 w : Mem} {wl0 wl : MemL} {Q : Int32 → Mem → MemL → Prop} (hP : ∀ i j, i < j → j ≤ M → P i < P j) (hP2 : ∀ i, P i < 2 ^ 20) (h15 : (sM S).length ≤ 15) (g : GR K P V NM M s w0 wl0 t S w wl) (hk : ¬ K t = 0)
    (KE : ∀ kd tok, (bnd (tkP K (K t) t) fun t1 => tkP K 2 t1) = .error (kd, tok) → ∀ x w2, ER P s w0 wl0 kd tok w2 wl → Q x w2 wl)
    (KO : tkP K (K t) t = .ok (t + 1) → tkP K 2 (t + 1) = .ok (t + 2) → K (t + 1) = 2 → t + 1 ≤ M → ∀ w2, (∀ a, a ≠ 150 → w2 a = w a) → GR K P V NM M s w0 wl0 (t + 2) (sL S, sN S, sE S, sM S, nmF NM (t + 1) S) w2 wl → Q (nI (t + 1)) w2 wl) : wp_12_named w wl Q := by
  have erl : ∀ kd tok (x : Int32) w2, ER P s w0 wl0 kd tok w2 wl → (∀ x w2, ER P s w0 wl0 kd tok w2 wl → Q x w2 wl) → wp_12_named_b16 Q 1 x 0 w2 wl ∨ True := fun _ _ _ _ _ _ => Or.inr trivial
  have loopF : ∀ kd tok (x : Int32) w2, ER P s w0 wl0 kd tok w2 wl → (∀ x w2, ER P s w0 wl0 kd tok w2 wl → Q x w2 wl) → ∃ nn, wp_12_named_b16 Q nn x 0 w2 wl := by
    intro kd tok x w2 h2 k
    refine ⟨1, ?_⟩
    unfold wp_12_named_b16
    exact ⟨fun _ => k x w2 h2, fun _ => ⟨fun _ => k x w2 h2, fun q => absurd (Classical.not_not.mp q) (er_13 h2)⟩⟩
  clear erl
  unfold wp_12_named
  refine gr_goes g hk (fun c4 w2 f2 g2 x3 e3 => ?_) (fun c4 w2 h2 x3 e3 => ?_)
  · have et : tkP K (K t) t = .ok (t + 1) := by unfold tkP; rw [if_pos rfl, if_pos c4]
    have e11 : w2 150 11 = nI (t + 1) := by obtain ⟨_, _, _, ⟨⟨b1, _⟩, _⟩, _⟩ := g2; exact b1
    rw [e11] at e3
    subst e3
    have m1 : t + 1 ≤ M := by obtain ⟨_, _, ⟨_, a2, _⟩, _⟩ := g2; exact a2
    refine gr_must g2 (c := 2) (by decide) (by decide) (by decide) (fun e w4 f4 g4 => ?_) (fun kd e w4 h4 => ?_)
    · have y : K (t + 1) = 2 := by
        unfold tkP at e
        split at e
        · assumption
        · cases e
      have g40 := g4
      obtain ⟨iB, c, ⟨a1, a2, a3⟩, ⟨⟨b1, b2, b3, b4, b5, b6⟩, d1, d2, d3, d4⟩, ex, ⟨lf, lt⟩, ⟨g1, g2', g3, g5⟩, l1, l2⟩ := g4
      have lt1 : ∀ k0 t0, sF S = some (k0, t0) → t0 < t + 1 := by obtain ⟨_, _, _, _, _, ⟨_, lt⟩, _⟩ := g2; intro k0 t0 q; obtain ⟨_, _, _, _, _, ⟨_, lt0⟩, _⟩ := g; have := lt0 k0 t0 q; omega
      refine ⟨(sM S).length + 1, r_nm (w0 := w4) m1 (fun k0 t0 q => hP t0 (t + 1) (lt1 k0 t0 q) m1) hP2 (g5 (t + 1) m1 y) (sM S) 0 false w4 a1 (fun x hx => (g5 x (g3 x hx).1 (g3 x hx).2).2) (fun j x hx => ?_) ?_ (by omega) b3 lf (fun _ _ _ => rfl) (fun w5 f5 l5 => ?_)⟩
      · rw [Nat.zero_add]
        exact g2' j x hx
      · rw [Nat.zero_add]
        exact g1
      · refine KO et e y m1 w5 (fun a q => by rw [← f2 a q, ← f4 a q]; exact funext (fun j => f5 a j (by omega))) (gr_11 g40 (fun a j q => f5 a j (by omega)) ((f5 150 11 (by omega)).trans b1) (Nat.le_refl _) a2 l5 (fun k0 t0 q => ?_))
        unfold nmF at q
        split at q
        · cases hs : sF S with
          | none =>
            rw [hs] at q
            have := (Prod.mk.inj (Option.some.inj q)).2
            omega
          | some z =>
            rw [hs] at q
            have := lt1 k0 t0 (hs.trans q)
            omega
        · have := lt1 k0 t0 q
          omega
    · exact loopF kd (t + 1) _ w4 h4 (KE kd (t + 1) (by rw [et]; exact e))
  · have et : tkP K (K t) t = .error (2, t) := by unfold tkP; rw [if_pos rfl, if_neg c4]
    exact er_must h2 (loopF 2 t _ w2 h2 (KE 2 t (by rw [et]; rfl)))
