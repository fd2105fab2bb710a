-- printed by wip/whole/gen6.py out of the decode rows and the tables
section
variable {p : Program} {l : Launch} {e : Env} {R : Room} {s : State} {m : MethodId} {args : Array Value} {below : List Frame} {meth : Method} {c : Code} {cc : ByteArray} {nL : Nat} {ad : Nat → Nat} {cy : Nat → ClassId} {D : va_G} {A : Nat → Prop} {H0 : Heap} {ce sl : Nat} {Qs : State → Prop} {wc wm : Mem} {wl0 : MemL} {pc : Nat} {ls : List (Nat × Value)} {st1 : List Value}
def wp_2_set (k : Nat) (a1 : Int32) (a2 : Int32) (w : Mem) (Q : Mem → Prop) : Prop := ((a1 < 0 → (Q w)) ∧ (¬ (a1 < 0) → (((11 : Int32) ≤ a1 → (Q w)) ∧ (¬ ((11 : Int32) ≤ a1) → (vp_in a1 11 ∧ (∀ w2 : Mem, w2 = st w (k + 4) (ix a1) a2 → (Q w2)))))))
set_option maxRecDepth 20000 in
theorem v_2_set {k : Nat} {a1 : Int32} {a2 : Int32} (X : CX p s m args meth c cX2_set 3 yX2_set.cls ad cy D (AW ad)) (hr : meth.sig.returnType = none) (hk : isLaw k) {w : Mem} {Q : Mem → Prop} (h : wp_2_set k a1 a2 w Q) : V p l e (RM 0) s m args below meth c 3 ad cy D (AW ad) s.heap 0 0 (MQ below (va_Qv Q (BC ad cy D wm wl0) (AW ad)) args s 0 0 (AW ad)) w wm wl0 0 [(0, .ref (ad k)), (1, .int a1), (2, .int a2)] [] := by
  unfold wp_2_set at h
  refine V_iload_n X (i := 1) 1 dX2_set_0 rfl rfl ?_
  obtain ⟨ht, hf⟩ := h
  refine V_if_lt X (tgt := 20) dX2_set_1 (by decide) (fun c => ?_) (fun c => ?_)
  · have h := ht c
    exact V_vret_c X hr dX2_set_20 h
  · have h := hf c
    refine V_iload_n X (i := 1) 1 dX2_set_4 rfl rfl ?_
    refine V_aload_n X (i := 0) 0 dX2_set_5 rfl rfl ?_
    refine G_2_21 X (hk).1 (hk).2.1 (Law_r3 hk) dX2_set_6 ?_
    refine V_alenL_c X (v := (11 : Int32)) ((Law_s3 hk)).2.1 ((Law_s3 hk)).2.2 (by decide) ((Law_s3 hk)).1 (by decide) dX2_set_9 ?_
    obtain ⟨ht, hf⟩ := h
    refine V_icmp_ge X (tgt := 20) dX2_set_10 (by decide) (fun c => ?_) (fun c => ?_)
    · have h := ht c
      exact V_vret_c X hr dX2_set_20 h
    · have h := hf c
      refine V_aload_n X (i := 0) 0 dX2_set_13 rfl rfl ?_
      refine G_2_21 X (hk).1 (hk).2.1 (Law_r3 hk) dX2_set_14 ?_
      refine V_iload_n X (i := 1) 1 dX2_set_17 rfl rfl ?_
      refine V_iload_n X (i := 2) 2 dX2_set_18 rfl rfl ?_
      obtain ⟨g1, h⟩ := h
      obtain ⟨w2, ew2⟩ : ∃ y : Mem, y = st w (k + 4) (ix a1) a2 := ⟨_, rfl⟩
      have h := h w2 ew2
      refine V_iast_c X ((Law_s3 hk)).2.1 ((Law_s3 hk)).2.2 ((Law_s3 hk)).1 g1 dX2_set_19 ew2 ?_
      exact V_vret_c X hr dX2_set_20 h
theorem c_2_set {k : Nat} {a1 : Int32} {a2 : Int32} (hinj : INJ ad) (hk : isLaw k) {w : Mem} {Q : Mem → Prop} (h : wp_2_set k a1 a2 w Q) : Met l yX2_set (TB yX2_set cX2_set 3 none) (RM 0) (va_Pc [.ref (ad k), .int a1, .int a2] (PB ad cy D (cmb w wm) wl0)) (va_Qv Q (BC ad cy D wm wl0) (AW ad)) 0 0 (AW ad) := M_enter (by decide) (Nat.le_of_ble_eq_true rfl) hinj (fun p e s m args below meth c X hr => v_2_set X hr hk h)
theorem mf_2_set : MFV yX2_set cX2_set 3 none yX2_set.cls 2 := ⟨q_794, q_792, q_793, q_6, by decide⟩
theorem K_2_set {own : String} {idx : Nat} {k : Nat} {a1 : Int32} {a2 : Int32} (X : CX p s m args meth c cc nL own ad cy D A) (hL : LK own idx yX2_set) (hk : isLaw k) {w : Mem} {Q : Mem → Prop} (h : wp_2_set k a1 a2 w Q) (hR : (RM 0).frames + 1 ≤ R.frames ∧ 8 + (3 + 11) + (RM 0).locals ≤ R.locals) (hce : ce ≤ R.cells ∧ sl ≤ R.slots) (hcat : (st1.map fun v => v.category).sum ≤ 8) (hd : decode cc pc = .ok (.invokevirtual idx, 3)) (kk : ∀ (u : Mem), Q u → V p l e R s m args below meth c nL ad cy D A H0 ce sl Qs u wm wl0 (pc + 3) ls st1) : V p l e R s m args below meth c nL ad cy D A H0 ce sl Qs w wm wl0 pc ls (.int a2 :: .int a1 :: .ref (ad k) :: st1) := V_callVV_c X mf_2_set hL (rfl : vwCl[2]? = some (RX2, TX2, 8)) (by decide) (hk).1 (Nat.lt_trans (hk).2.1 (by decide)) (c_2_set X.2.2.2.2.2.2.2.1 hk h) (As := [.int a1, .int a2]) rfl ⟨rfl, rfl⟩ hR hce st1 rfl hcat hd kk
def wp_2_joined (k : Nat) (a1 : Int32) (a2 : Int32) (a3 : Int32) (w : Mem) (Q : Int32 → Mem → Prop) : Prop := ((a1 = (42 : Int32) → (Q (a2 * a3) w)) ∧ (¬ a1 = (42 : Int32) → ((a1 = (43 : Int32) → (Q (a2 + a3) w)) ∧ (¬ a1 = (43 : Int32) → ((a1 = (45 : Int32) → (Q (a2 - a3) w)) ∧ (¬ a1 = (45 : Int32) → ((¬ a3 = 0 → (¬ a3 = 0 ∧ (Q (a2 / a3) w))) ∧ (¬ (¬ a3 = 0) → (∀ w2 : Mem, w2 = st w k 7 (1 : Int32) → (Q (0 : Int32) w2))))))))))
set_option maxRecDepth 20000 in
theorem v_2_joined {k : Nat} {a1 : Int32} {a2 : Int32} {a3 : Int32} (X : CX p s m args meth c cX2_joined 4 yX2_joined.cls ad cy D (AW ad)) (hr : meth.sig.returnType = (some .int)) (hk : isLaw k) {w : Mem} {Q : Int32 → Mem → Prop} (h : wp_2_joined k a1 a2 a3 w Q) : V p l e (RM 0) s m args below meth c 4 ad cy D (AW ad) s.heap 0 0 (MQ below (va_Qi Q (BC ad cy D wm wl0) (AW ad)) args s 0 0 (AW ad)) w wm wl0 0 [(0, .ref (ad k)), (1, .int a1), (2, .int a2), (3, .int a3)] [] := by
  unfold wp_2_joined at h
  refine V_iload_n X (i := 1) 1 dX2_joined_0 rfl rfl ?_
  obtain ⟨ht, h⟩ := h
  by_cases c0 : a1 = (42 : Int32)
  · have h := ht c0
    refine V_tableIn X (tgt := 40) dX2_joined_1 (by rw [c0]; decide) (by rw [c0]; decide) (off := 39) (by rw [c0]; decide) (by decide) ?_
    refine V_iload_n X (i := 2) 2 dX2_joined_40 rfl rfl ?_
    refine V_iload_n X (i := 3) 3 dX2_joined_41 rfl rfl ?_
    refine V_imul X dX2_joined_42 ?_
    exact V_iret_c X hr dX2_joined_43 h
  have h := h c0
  obtain ⟨ht, h⟩ := h
  by_cases c1 : a1 = (43 : Int32)
  · have h := ht c1
    refine V_tableIn X (tgt := 32) dX2_joined_1 (by rw [c1]; decide) (by rw [c1]; decide) (off := 31) (by rw [c1]; decide) (by decide) ?_
    refine V_iload_n X (i := 2) 2 dX2_joined_32 rfl rfl ?_
    refine V_iload_n X (i := 3) 3 dX2_joined_33 rfl rfl ?_
    refine V_iadd X dX2_joined_34 ?_
    exact V_iret_c X hr dX2_joined_35 h
  have h := h c1
  obtain ⟨ht, h⟩ := h
  by_cases c3 : a1 = (45 : Int32)
  · have h := ht c3
    refine V_tableIn X (tgt := 36) dX2_joined_1 (by rw [c3]; decide) (by rw [c3]; decide) (off := 35) (by rw [c3]; decide) (by decide) ?_
    refine V_iload_n X (i := 2) 2 dX2_joined_36 rfl rfl ?_
    refine V_iload_n X (i := 3) 3 dX2_joined_37 rfl rfl ?_
    refine V_isub X dX2_joined_38 ?_
    exact V_iret_c X hr dX2_joined_39 h
  have h := h c3
  by_cases cO : a1.toInt < 42 ∨ 45 < a1.toInt
  · refine V_tableOut X (tgt := 44) dX2_joined_1 cO (by decide) ?_
    refine V_iload_n X (i := 3) 3 dX2_joined_44 rfl rfl ?_
    obtain ⟨ht, hf⟩ := h
    refine V_if_ne X (tgt := 55) dX2_joined_45 (by decide) (fun c => ?_) (fun c => ?_)
    · have h := ht c
      refine V_iload_n X (i := 2) 2 dX2_joined_55 rfl rfl ?_
      refine V_iload_n X (i := 3) 3 dX2_joined_56 rfl rfl ?_
      obtain ⟨g1, h⟩ := h
      refine V_idiv X dX2_joined_57 g1 ?_
      exact V_iret_c X hr dX2_joined_58 h
    · have h := hf c
      refine V_aload_n X (i := 0) 0 dX2_joined_48 rfl rfl ?_
      refine V_iconst X (v := (1 : Int32)) dX2_joined_49 (by decide) ?_
      obtain ⟨w2, ew2⟩ : ∃ y : Mem, y = st w k 7 (1 : Int32) := ⟨_, rfl⟩
      have h := h w2 ew2
      refine U_2_41 X (hk).1 (hk).2.1 (Law_r7 hk) rfl rfl dX2_joined_50 ew2 ?_
      refine V_iconst X (v := (0 : Int32)) dX2_joined_53 (by decide) ?_
      exact V_iret_c X hr dX2_joined_54 h
  · have g1 : a1.toInt = 44 := by
      have z0 := tne c0 (z := 42) (by decide)
      have z1 := tne c1 (z := 43) (by decide)
      have z3 := tne c3 (z := 45) (by decide)
      omega
    rcases g1 with g1
    · refine V_tableIn X (tgt := 44) dX2_joined_1 (by rw [g1]; decide) (by rw [g1]; decide) (off := 43) (by rw [g1]; decide) (by decide) ?_
      refine V_iload_n X (i := 3) 3 dX2_joined_44 rfl rfl ?_
      obtain ⟨ht, hf⟩ := h
      refine V_if_ne X (tgt := 55) dX2_joined_45 (by decide) (fun c => ?_) (fun c => ?_)
      · have h := ht c
        refine V_iload_n X (i := 2) 2 dX2_joined_55 rfl rfl ?_
        refine V_iload_n X (i := 3) 3 dX2_joined_56 rfl rfl ?_
        obtain ⟨g1, h⟩ := h
        refine V_idiv X dX2_joined_57 g1 ?_
        exact V_iret_c X hr dX2_joined_58 h
      · have h := hf c
        refine V_aload_n X (i := 0) 0 dX2_joined_48 rfl rfl ?_
        refine V_iconst X (v := (1 : Int32)) dX2_joined_49 (by decide) ?_
        obtain ⟨w2, ew2⟩ : ∃ y : Mem, y = st w k 7 (1 : Int32) := ⟨_, rfl⟩
        have h := h w2 ew2
        refine U_2_41 X (hk).1 (hk).2.1 (Law_r7 hk) rfl rfl dX2_joined_50 ew2 ?_
        refine V_iconst X (v := (0 : Int32)) dX2_joined_53 (by decide) ?_
        exact V_iret_c X hr dX2_joined_54 h
theorem c_2_joined {k : Nat} {a1 : Int32} {a2 : Int32} {a3 : Int32} (hinj : INJ ad) (hk : isLaw k) {w : Mem} {Q : Int32 → Mem → Prop} (h : wp_2_joined k a1 a2 a3 w Q) : Met l yX2_joined (TB yX2_joined cX2_joined 4 (some .int)) (RM 0) (va_Pc [.ref (ad k), .int a1, .int a2, .int a3] (PB ad cy D (cmb w wm) wl0)) (va_Qi Q (BC ad cy D wm wl0) (AW ad)) 0 0 (AW ad) := M_enter (by decide) (Nat.le_of_ble_eq_true rfl) hinj (fun p e s m args below meth c X hr => v_2_joined X hr hk h)
theorem mf_2_joined : MFV yX2_joined cX2_joined 4 (some .int) yX2_joined.cls 3 := ⟨q_814, q_813, qs_23, q_6, by decide⟩
theorem K_2_joined {own : String} {idx : Nat} {k : Nat} {a1 : Int32} {a2 : Int32} {a3 : Int32} (X : CX p s m args meth c cc nL own ad cy D A) (hL : LK own idx yX2_joined) (hk : isLaw k) {w : Mem} {Q : Int32 → Mem → Prop} (h : wp_2_joined k a1 a2 a3 w Q) (hR : (RM 0).frames + 1 ≤ R.frames ∧ 8 + (4 + 11) + (RM 0).locals ≤ R.locals) (hce : ce ≤ R.cells ∧ sl ≤ R.slots) (hcat : (st1.map fun v => v.category).sum ≤ 8) (hd : decode cc pc = .ok (.invokevirtual idx, 3)) (kk : ∀ (r : Int32) (u : Mem), Q r u → V p l e R s m args below meth c nL ad cy D A H0 ce sl Qs u wm wl0 (pc + 3) ls (.int r :: st1)) : V p l e R s m args below meth c nL ad cy D A H0 ce sl Qs w wm wl0 pc ls (.int a3 :: .int a2 :: .int a1 :: .ref (ad k) :: st1) := V_callVI_c X mf_2_joined hL (rfl : vwCl[2]? = some (RX2, TX2, 8)) (by decide) (hk).1 (Nat.lt_trans (hk).2.1 (by decide)) (c_2_joined X.2.2.2.2.2.2.2.1 hk h) (As := [.int a1, .int a2, .int a3]) rfl ⟨rfl, rfl⟩ hR hce st1 rfl hcat hd kk
def wp_2_worth_b161 (k : Nat) (Q : Int32 → Mem → Prop) (L42 : Int32 → Int32 → Int32 → Mem → Prop) (l1 : Int32) (l2 : Int32) (l3 : Int32) (w : Mem) : Prop := (∀ x1 : Int32, x1 = l3 + (1 : Int32) → (L42 l1 l2 x1 w))
def wp_2_worth_b114 (k : Nat) (Q : Int32 → Mem → Prop) (L42 : Int32 → Int32 → Int32 → Mem → Prop) (l1 : Int32) (l2 : Int32) (l3 : Int32) (s1 : Int32) (s2 : Int32) (w : Mem) : Prop := (vp_in s1 16 ∧ (∀ w2 : Mem, w2 = st w (k + 5) (ix s1) s2 → (∀ x3 : Int32, x3 = l2 + (1 : Int32) → (wp_2_worth_b161 k Q L42 l1 x3 l3 w2))))
def wp_2_worth_b71 (k : Nat) (Q : Int32 → Mem → Prop) (L42 : Int32 → Int32 → Int32 → Mem → Prop) (l1 : Int32) (l2 : Int32) (l3 : Int32) (w : Mem) : Prop := (((16 : Int32) ≤ l2 → (wp_2_worth_b161 k Q L42 l1 l2 l3 w)) ∧ (¬ ((16 : Int32) ≤ l2) → (vp_in l3 400 ∧ ((¬ (w (k + 1) (ix l3)) = 0 → (vp_in l3 400 ∧ (vp_in (w (k + 2) (ix l3)) 11 ∧ (wp_2_worth_b114 k Q L42 l1 l2 l3 l2 (w (k + 4) (ix (w (k + 2) (ix l3)))) w)))) ∧ (¬ (¬ (w (k + 1) (ix l3)) = 0) → (vp_in l3 400 ∧ (wp_2_worth_b114 k Q L42 l1 l2 l3 l2 (w (k + 2) (ix l3)) w)))))))
def wp_2_worth_b42 (k : Nat) (Q : Int32 → Mem → Prop) : Nat → Int32 → Int32 → Int32 → Mem → Prop
  | 0, _, _, _, _ => False
  | n + 1, l1, l2, l3, w => (vp_in l1 13 ∧ (((w (k + 3) (ix l1)) ≤ l3 → ((¬ l2 = (1 : Int32) → (Q (0 : Int32) w)) ∧ (¬ (¬ l2 = (1 : Int32)) → (Q (w (k + 5) (ix (0 : Int32))) w)))) ∧ (¬ ((w (k + 3) (ix l1)) ≤ l3) → (vp_in l3 400 ∧ (((w (k + 1) (ix l3)) = 0 → (wp_2_worth_b71 k Q ((wp_2_worth_b42 k Q n)) l1 l2 l3 w)) ∧ (¬ ((w (k + 1) (ix l3)) = 0) → (vp_in l3 400 ∧ ((¬ (w (k + 1) (ix l3)) = (1 : Int32) → ((l2 < (2 : Int32) → (wp_2_worth_b161 k Q ((wp_2_worth_b42 k Q n)) l1 l2 l3 w)) ∧ (¬ (l2 < (2 : Int32)) → (∀ x4 : Int32, x4 = l2 + (-1 : Int32) → (vp_in l3 400 ∧ (vp_in (x4 - (1 : Int32)) 16 ∧ (vp_in x4 16 ∧ (wp_2_joined k (w (k + 1) (ix l3)) (w (k + 5) (ix (x4 - (1 : Int32)))) (w (k + 5) (ix x4)) w (fun (r9 : Int32) (w8 : Mem) => (vp_in (x4 - (1 : Int32)) 16 ∧ (∀ w11 : Mem, w11 = st w8 (k + 5) (ix (x4 - (1 : Int32))) r9 → (wp_2_worth_b161 k Q ((wp_2_worth_b42 k Q n)) l1 x4 l3 w11)))))))))))) ∧ (¬ (¬ (w (k + 1) (ix l3)) = (1 : Int32)) → (wp_2_worth_b71 k Q ((wp_2_worth_b42 k Q n)) l1 l2 l3 w))))))))))
def wp_2_worth_b41 (k : Nat) (Q : Int32 → Mem → Prop) (l1 : Int32) (l2 : Int32) (s0 : Int32) (w : Mem) : Prop := (∃ n, wp_2_worth_b42 k Q n l1 l2 s0 w)
def wp_2_worth (k : Nat) (a1 : Int32) (w : Mem) (Q : Int32 → Mem → Prop) : Prop := ((a1 < 0 → (Q (0 : Int32) w)) ∧ (¬ (a1 < 0) → (((w k 6) ≤ a1 → (Q (0 : Int32) w)) ∧ (¬ ((w k 6) ≤ a1) → ((a1 < (13 : Int32) → ((¬ a1 = 0 → (vp_in (a1 - (1 : Int32)) 13 ∧ (wp_2_worth_b41 k Q a1 (0 : Int32) (w (k + 3) (ix (a1 - (1 : Int32)))) w))) ∧ (¬ (¬ a1 = 0) → (wp_2_worth_b41 k Q a1 (0 : Int32) (0 : Int32) w)))) ∧ (¬ (a1 < (13 : Int32)) → (Q (0 : Int32) w)))))))
set_option maxRecDepth 20000 in
theorem v_2_worth_b161 (X : CX p s m args meth c cX2_worth 4 yX2_worth.cls ad cy D (AW ad)) (hr : meth.sig.returnType = (some .int)) {k : Nat} (hk : isLaw k) {Q : Int32 → Mem → Prop} {L42 : Int32 → Int32 → Int32 → Mem → Prop} (HL42 : ∀ (l1 : Int32) (l2 : Int32) (l3 : Int32) (w : Mem), L42 l1 l2 l3 w → V p l e (RM 1) s m args below meth c 4 ad cy D (AW ad) s.heap 0 0 (MQ below (va_Qi Q (BC ad cy D wm wl0) (AW ad)) args s 0 0 (AW ad)) w wm wl0 42 [(0, .ref (ad k)), (1, .int l1), (2, .int l2), (3, .int l3)] []) : ∀ (l1 : Int32) (l2 : Int32) (l3 : Int32) (w : Mem), wp_2_worth_b161 k Q L42 l1 l2 l3 w → V p l e (RM 1) s m args below meth c 4 ad cy D (AW ad) s.heap 0 0 (MQ below (va_Qi Q (BC ad cy D wm wl0) (AW ad)) args s 0 0 (AW ad)) w wm wl0 161 [(0, .ref (ad k)), (1, .int l1), (2, .int l2), (3, .int l3)] [] := by
  intro l1 l2 l3 w h
  unfold wp_2_worth_b161 at h
  obtain ⟨x1, ex1⟩ : ∃ y : Int32, y = l3 + (1 : Int32) := ⟨_, rfl⟩
  have h := h x1 ex1
  refine V_iinc X 3 dX2_worth_161 rfl (by decide) (by rw [ex1]; rfl) (ls1 := [(3, .int x1), (0, .ref (ad k)), (1, .int l1), (2, .int l2)]) rfl ?_
  refine V_goto X (tgt := 42) dX2_worth_164 (by decide) ?_
  refine V_sub X (ls1 := [(0, .ref (ad k)), (1, .int l1), (2, .int l2), (3, .int x1)]) [1, 2, 3, 0] rfl ?_
  exact HL42 _ _ _ _ h
set_option maxRecDepth 20000 in
theorem v_2_worth_b114 (X : CX p s m args meth c cX2_worth 4 yX2_worth.cls ad cy D (AW ad)) (hr : meth.sig.returnType = (some .int)) {k : Nat} (hk : isLaw k) {Q : Int32 → Mem → Prop} {L42 : Int32 → Int32 → Int32 → Mem → Prop} (HL42 : ∀ (l1 : Int32) (l2 : Int32) (l3 : Int32) (w : Mem), L42 l1 l2 l3 w → V p l e (RM 1) s m args below meth c 4 ad cy D (AW ad) s.heap 0 0 (MQ below (va_Qi Q (BC ad cy D wm wl0) (AW ad)) args s 0 0 (AW ad)) w wm wl0 42 [(0, .ref (ad k)), (1, .int l1), (2, .int l2), (3, .int l3)] []) : ∀ (l1 : Int32) (l2 : Int32) (l3 : Int32) (s1 : Int32) (s2 : Int32) (w : Mem), wp_2_worth_b114 k Q L42 l1 l2 l3 s1 s2 w → V p l e (RM 1) s m args below meth c 4 ad cy D (AW ad) s.heap 0 0 (MQ below (va_Qi Q (BC ad cy D wm wl0) (AW ad)) args s 0 0 (AW ad)) w wm wl0 114 [(0, .ref (ad k)), (1, .int l1), (2, .int l2), (3, .int l3)] [.int s2, .int s1, .ref (ad (k + 5))] := by
  intro l1 l2 l3 s1 s2 w h
  unfold wp_2_worth_b114 at h
  obtain ⟨g1, h⟩ := h
  obtain ⟨w2, ew2⟩ : ∃ y : Mem, y = st w (k + 5) (ix s1) s2 := ⟨_, rfl⟩
  have h := h w2 ew2
  refine V_iast_c X ((Law_s4 hk)).2.1 ((Law_s4 hk)).2.2 ((Law_s4 hk)).1 g1 dX2_worth_114 ew2 ?_
  obtain ⟨x3, ex3⟩ : ∃ y : Int32, y = l2 + (1 : Int32) := ⟨_, rfl⟩
  have h := h x3 ex3
  refine V_iinc X 2 dX2_worth_115 rfl (by decide) (by rw [ex3]; rfl) (ls1 := [(2, .int x3), (0, .ref (ad k)), (1, .int l1), (3, .int l3)]) rfl ?_
  refine V_goto X (tgt := 161) dX2_worth_118 (by decide) ?_
  refine V_sub X (ls1 := [(0, .ref (ad k)), (1, .int l1), (2, .int x3), (3, .int l3)]) [1, 2, 0, 3] rfl ?_
  exact v_2_worth_b161 X hr hk HL42 _ _ _ _ h
set_option maxRecDepth 20000 in
theorem v_2_worth_b71 (X : CX p s m args meth c cX2_worth 4 yX2_worth.cls ad cy D (AW ad)) (hr : meth.sig.returnType = (some .int)) {k : Nat} (hk : isLaw k) {Q : Int32 → Mem → Prop} {L42 : Int32 → Int32 → Int32 → Mem → Prop} (HL42 : ∀ (l1 : Int32) (l2 : Int32) (l3 : Int32) (w : Mem), L42 l1 l2 l3 w → V p l e (RM 1) s m args below meth c 4 ad cy D (AW ad) s.heap 0 0 (MQ below (va_Qi Q (BC ad cy D wm wl0) (AW ad)) args s 0 0 (AW ad)) w wm wl0 42 [(0, .ref (ad k)), (1, .int l1), (2, .int l2), (3, .int l3)] []) : ∀ (l1 : Int32) (l2 : Int32) (l3 : Int32) (w : Mem), wp_2_worth_b71 k Q L42 l1 l2 l3 w → V p l e (RM 1) s m args below meth c 4 ad cy D (AW ad) s.heap 0 0 (MQ below (va_Qi Q (BC ad cy D wm wl0) (AW ad)) args s 0 0 (AW ad)) w wm wl0 71 [(0, .ref (ad k)), (1, .int l1), (2, .int l2), (3, .int l3)] [] := by
  intro l1 l2 l3 w h
  unfold wp_2_worth_b71 at h
  refine V_iload_n X (i := 2) 2 dX2_worth_71 rfl rfl ?_
  refine V_aload_n X (i := 0) 0 dX2_worth_72 rfl rfl ?_
  refine G_2_24 X (hk).1 (hk).2.1 (Law_r4 hk) dX2_worth_73 ?_
  refine V_alenL_c X (v := (16 : Int32)) ((Law_s4 hk)).2.1 ((Law_s4 hk)).2.2 (by decide) ((Law_s4 hk)).1 (by decide) dX2_worth_76 ?_
  obtain ⟨ht, hf⟩ := h
  refine V_icmp_ge X (tgt := 161) dX2_worth_77 (by decide) (fun c => ?_) (fun c => ?_)
  · have h := ht c
    refine V_sub X (ls1 := [(0, .ref (ad k)), (1, .int l1), (2, .int l2), (3, .int l3)]) [0, 1, 2, 3] rfl ?_
    exact v_2_worth_b161 X hr hk HL42 _ _ _ _ h
  · have h := hf c
    refine V_aload_n X (i := 0) 0 dX2_worth_80 rfl rfl ?_
    refine G_2_24 X (hk).1 (hk).2.1 (Law_r4 hk) dX2_worth_81 ?_
    refine V_iload_n X (i := 2) 2 dX2_worth_84 rfl rfl ?_
    refine V_aload_n X (i := 0) 0 dX2_worth_85 rfl rfl ?_
    refine G_2_9 X (hk).1 (hk).2.1 (Law_r0 hk) dX2_worth_86 ?_
    refine V_iload_n X (i := 3) 3 dX2_worth_89 rfl rfl ?_
    obtain ⟨g1, h⟩ := h
    refine V_iald_c X ((Law_s0 hk)).2.1 ((Law_s0 hk)).2.2 ((Law_s0 hk)).1 g1 dX2_worth_90 ?_
    obtain ⟨ht, hf⟩ := h
    refine V_if_ne X (tgt := 103) dX2_worth_91 (by decide) (fun c => ?_) (fun c => ?_)
    · have h := ht c
      refine V_aload_n X (i := 0) 0 dX2_worth_103 rfl rfl ?_
      refine G_2_21 X (hk).1 (hk).2.1 (Law_r3 hk) dX2_worth_104 ?_
      refine V_aload_n X (i := 0) 0 dX2_worth_107 rfl rfl ?_
      refine G_2_15 X (hk).1 (hk).2.1 (Law_r1 hk) dX2_worth_108 ?_
      refine V_iload_n X (i := 3) 3 dX2_worth_111 rfl rfl ?_
      obtain ⟨g2, h⟩ := h
      refine V_iald_c X ((Law_s1 hk)).2.1 ((Law_s1 hk)).2.2 ((Law_s1 hk)).1 g2 dX2_worth_112 ?_
      obtain ⟨g3, h⟩ := h
      refine V_iald_c X ((Law_s3 hk)).2.1 ((Law_s3 hk)).2.2 ((Law_s3 hk)).1 g3 dX2_worth_113 ?_
      refine V_sub X (ls1 := [(0, .ref (ad k)), (1, .int l1), (2, .int l2), (3, .int l3)]) [0, 1, 2, 3] rfl ?_
      exact v_2_worth_b114 X hr hk HL42 _ _ _ _ _ _ h
    · have h := hf c
      refine V_aload_n X (i := 0) 0 dX2_worth_94 rfl rfl ?_
      refine G_2_15 X (hk).1 (hk).2.1 (Law_r1 hk) dX2_worth_95 ?_
      refine V_iload_n X (i := 3) 3 dX2_worth_98 rfl rfl ?_
      obtain ⟨g4, h⟩ := h
      refine V_iald_c X ((Law_s1 hk)).2.1 ((Law_s1 hk)).2.2 ((Law_s1 hk)).1 g4 dX2_worth_99 ?_
      refine V_goto X (tgt := 114) dX2_worth_100 (by decide) ?_
      refine V_sub X (ls1 := [(0, .ref (ad k)), (1, .int l1), (2, .int l2), (3, .int l3)]) [0, 1, 2, 3] rfl ?_
      exact v_2_worth_b114 X hr hk HL42 _ _ _ _ _ _ h
set_option maxRecDepth 20000 in
theorem v_2_worth_b42 (X : CX p s m args meth c cX2_worth 4 yX2_worth.cls ad cy D (AW ad)) (hr : meth.sig.returnType = (some .int)) {k : Nat} (hk : isLaw k) {Q : Int32 → Mem → Prop} : ∀ (n : Nat) (l1 : Int32) (l2 : Int32) (l3 : Int32) (w : Mem), wp_2_worth_b42 k Q n l1 l2 l3 w → V p l e (RM 1) s m args below meth c 4 ad cy D (AW ad) s.heap 0 0 (MQ below (va_Qi Q (BC ad cy D wm wl0) (AW ad)) args s 0 0 (AW ad)) w wm wl0 42 [(0, .ref (ad k)), (1, .int l1), (2, .int l2), (3, .int l3)] [] := by
  intro n
  induction n with
  | zero =>
    intro l1 l2 l3 w h
    exact h.elim
  | succ n ih =>
    intro l1 l2 l3 w h
    unfold wp_2_worth_b42 at h
    refine V_iload_n X (i := 3) 3 dX2_worth_42 rfl rfl ?_
    refine V_aload_n X (i := 0) 0 dX2_worth_43 rfl rfl ?_
    refine G_2_18 X (hk).1 (hk).2.1 (Law_r2 hk) dX2_worth_44 ?_
    refine V_iload_n X (i := 1) 1 dX2_worth_47 rfl rfl ?_
    obtain ⟨g1, h⟩ := h
    refine V_iald_c X ((Law_s2 hk)).2.1 ((Law_s2 hk)).2.2 ((Law_s2 hk)).1 g1 dX2_worth_48 ?_
    obtain ⟨ht, hf⟩ := h
    refine V_icmp_ge X (tgt := 167) dX2_worth_49 (by decide) (fun c => ?_) (fun c => ?_)
    · have h := ht c
      refine V_iload_n X (i := 2) 2 dX2_worth_167 rfl rfl ?_
      refine V_iconst X (v := (1 : Int32)) dX2_worth_168 (by decide) ?_
      obtain ⟨ht, hf⟩ := h
      refine V_icmp_ne X (tgt := 181) dX2_worth_169 (by decide) (fun c => ?_) (fun c => ?_)
      · have h := ht c
        refine V_iconst X (v := (0 : Int32)) dX2_worth_181 (by decide) ?_
        exact V_iret_c X hr dX2_worth_182 h
      · have h := hf c
        refine V_aload_n X (i := 0) 0 dX2_worth_172 rfl rfl ?_
        refine G_2_24 X (hk).1 (hk).2.1 (Law_r4 hk) dX2_worth_173 ?_
        refine V_iconst X (v := (0 : Int32)) dX2_worth_176 (by decide) ?_
        refine V_iald_c X ((Law_s4 hk)).2.1 ((Law_s4 hk)).2.2 ((Law_s4 hk)).1 (vpl (by decide)) dX2_worth_177 ?_
        refine V_goto X (tgt := 182) dX2_worth_178 (by decide) ?_
        exact V_iret_c X hr dX2_worth_182 h
    · have h := hf c
      refine V_aload_n X (i := 0) 0 dX2_worth_52 rfl rfl ?_
      refine G_2_9 X (hk).1 (hk).2.1 (Law_r0 hk) dX2_worth_53 ?_
      refine V_iload_n X (i := 3) 3 dX2_worth_56 rfl rfl ?_
      obtain ⟨g2, h⟩ := h
      refine V_iald_c X ((Law_s0 hk)).2.1 ((Law_s0 hk)).2.2 ((Law_s0 hk)).1 g2 dX2_worth_57 ?_
      obtain ⟨ht, hf⟩ := h
      refine V_if_eq X (tgt := 71) dX2_worth_58 (by decide) (fun c => ?_) (fun c => ?_)
      · have h := ht c
        refine V_sub X (ls1 := [(0, .ref (ad k)), (1, .int l1), (2, .int l2), (3, .int l3)]) [0, 1, 2, 3] rfl ?_
        exact v_2_worth_b71 X hr hk ih _ _ _ _ h
      · have h := hf c
        refine V_aload_n X (i := 0) 0 dX2_worth_61 rfl rfl ?_
        refine G_2_9 X (hk).1 (hk).2.1 (Law_r0 hk) dX2_worth_62 ?_
        refine V_iload_n X (i := 3) 3 dX2_worth_65 rfl rfl ?_
        obtain ⟨g3, h⟩ := h
        refine V_iald_c X ((Law_s0 hk)).2.1 ((Law_s0 hk)).2.2 ((Law_s0 hk)).1 g3 dX2_worth_66 ?_
        refine V_iconst X (v := (1 : Int32)) dX2_worth_67 (by decide) ?_
        obtain ⟨ht, hf⟩ := h
        refine V_icmp_ne X (tgt := 121) dX2_worth_68 (by decide) (fun c => ?_) (fun c => ?_)
        · have h := ht c
          refine V_iload_n X (i := 2) 2 dX2_worth_121 rfl rfl ?_
          refine V_iconst X (v := (2 : Int32)) dX2_worth_122 (by decide) ?_
          obtain ⟨ht, hf⟩ := h
          refine V_icmp_lt X (tgt := 161) dX2_worth_123 (by decide) (fun c => ?_) (fun c => ?_)
          · have h := ht c
            refine V_sub X (ls1 := [(0, .ref (ad k)), (1, .int l1), (2, .int l2), (3, .int l3)]) [0, 1, 2, 3] rfl ?_
            exact v_2_worth_b161 X hr hk ih _ _ _ _ h
          · have h := hf c
            obtain ⟨x4, ex4⟩ : ∃ y : Int32, y = l2 + (-1 : Int32) := ⟨_, rfl⟩
            have h := h x4 ex4
            refine V_iinc X 2 dX2_worth_126 rfl (by decide) (by rw [ex4]; rfl) (ls1 := [(2, .int x4), (0, .ref (ad k)), (1, .int l1), (3, .int l3)]) rfl ?_
            refine V_aload_n X (i := 0) 1 dX2_worth_129 rfl rfl ?_
            refine G_2_24 X (hk).1 (hk).2.1 (Law_r4 hk) dX2_worth_130 ?_
            refine V_iload_n X (i := 2) 0 dX2_worth_133 rfl rfl ?_
            refine V_iconst X (v := (1 : Int32)) dX2_worth_134 (by decide) ?_
            refine V_isub X dX2_worth_135 ?_
            refine V_aload_n X (i := 0) 1 dX2_worth_136 rfl rfl ?_
            refine V_aload_n X (i := 0) 1 dX2_worth_137 rfl rfl ?_
            refine G_2_9 X (hk).1 (hk).2.1 (Law_r0 hk) dX2_worth_138 ?_
            refine V_iload_n X (i := 3) 3 dX2_worth_141 rfl rfl ?_
            obtain ⟨g5, h⟩ := h
            refine V_iald_c X ((Law_s0 hk)).2.1 ((Law_s0 hk)).2.2 ((Law_s0 hk)).1 g5 dX2_worth_142 ?_
            refine V_aload_n X (i := 0) 1 dX2_worth_143 rfl rfl ?_
            refine G_2_24 X (hk).1 (hk).2.1 (Law_r4 hk) dX2_worth_144 ?_
            refine V_iload_n X (i := 2) 0 dX2_worth_147 rfl rfl ?_
            refine V_iconst X (v := (1 : Int32)) dX2_worth_148 (by decide) ?_
            refine V_isub X dX2_worth_149 ?_
            obtain ⟨g6, h⟩ := h
            refine V_iald_c X ((Law_s4 hk)).2.1 ((Law_s4 hk)).2.2 ((Law_s4 hk)).1 g6 dX2_worth_150 ?_
            refine V_aload_n X (i := 0) 1 dX2_worth_151 rfl rfl ?_
            refine G_2_24 X (hk).1 (hk).2.1 (Law_r4 hk) dX2_worth_152 ?_
            refine V_iload_n X (i := 2) 0 dX2_worth_155 rfl rfl ?_
            obtain ⟨g7, h⟩ := h
            refine V_iald_c X ((Law_s4 hk)).2.1 ((Law_s4 hk)).2.2 ((Law_s4 hk)).1 g7 dX2_worth_156 ?_
            refine K_2_joined X (Or.inl q_811) hk h ⟨Nat.le_of_ble_eq_true rfl, Nat.le_of_ble_eq_true rfl⟩ ⟨Nat.zero_le _, Nat.zero_le _⟩ (st1 := [.int (x4 - (1 : Int32)), .ref (ad (k + 5))]) (Nat.le_of_ble_eq_true rfl) dX2_worth_157 (fun r9 w8 h => ?_)
            obtain ⟨g10, h⟩ := h
            obtain ⟨w11, ew11⟩ : ∃ y : Mem, y = st w8 (k + 5) (ix (x4 - (1 : Int32))) r9 := ⟨_, rfl⟩
            have h := h w11 ew11
            refine V_iast_c X ((Law_s4 hk)).2.1 ((Law_s4 hk)).2.2 ((Law_s4 hk)).1 g10 dX2_worth_160 ew11 ?_
            refine V_sub X (ls1 := [(0, .ref (ad k)), (1, .int l1), (2, .int x4), (3, .int l3)]) [1, 2, 0, 3] rfl ?_
            exact v_2_worth_b161 X hr hk ih _ _ _ _ h
        · have h := hf c
          refine V_sub X (ls1 := [(0, .ref (ad k)), (1, .int l1), (2, .int l2), (3, .int l3)]) [0, 1, 2, 3] rfl ?_
          exact v_2_worth_b71 X hr hk ih _ _ _ _ h
set_option maxRecDepth 20000 in
theorem v_2_worth_b41 (X : CX p s m args meth c cX2_worth 4 yX2_worth.cls ad cy D (AW ad)) (hr : meth.sig.returnType = (some .int)) {k : Nat} (hk : isLaw k) {Q : Int32 → Mem → Prop} : ∀ (l1 : Int32) (l2 : Int32) (s0 : Int32) (w : Mem), wp_2_worth_b41 k Q l1 l2 s0 w → V p l e (RM 1) s m args below meth c 4 ad cy D (AW ad) s.heap 0 0 (MQ below (va_Qi Q (BC ad cy D wm wl0) (AW ad)) args s 0 0 (AW ad)) w wm wl0 41 [(0, .ref (ad k)), (1, .int l1), (2, .int l2)] [.int s0] := by
  intro l1 l2 s0 w h
  unfold wp_2_worth_b41 at h
  refine V_istore_n X dX2_worth_41 rfl (by decide) rfl (ls1 := [(3, .int s0), (0, .ref (ad k)), (1, .int l1), (2, .int l2)]) rfl ?_
  refine V_sub X (ls1 := [(0, .ref (ad k)), (1, .int l1), (2, .int l2), (3, .int s0)]) [1, 2, 3, 0] rfl ?_
  obtain ⟨nn, h⟩ := h
  exact v_2_worth_b42 X hr hk nn _ _ _ _ h
set_option maxRecDepth 20000 in
theorem v_2_worth {k : Nat} {a1 : Int32} (X : CX p s m args meth c cX2_worth 4 yX2_worth.cls ad cy D (AW ad)) (hr : meth.sig.returnType = (some .int)) (hk : isLaw k) {w : Mem} {Q : Int32 → Mem → Prop} (h : wp_2_worth k a1 w Q) : V p l e (RM 1) s m args below meth c 4 ad cy D (AW ad) s.heap 0 0 (MQ below (va_Qi Q (BC ad cy D wm wl0) (AW ad)) args s 0 0 (AW ad)) w wm wl0 0 [(0, .ref (ad k)), (1, .int a1)] [] := by
  unfold wp_2_worth at h
  refine V_iload_n X (i := 1) 1 dX2_worth_0 rfl rfl ?_
  obtain ⟨ht, hf⟩ := h
  refine V_if_lt X (tgt := 21) dX2_worth_1 (by decide) (fun c => ?_) (fun c => ?_)
  · have h := ht c
    refine V_iconst X (v := (0 : Int32)) dX2_worth_21 (by decide) ?_
    exact V_iret_c X hr dX2_worth_22 h
  · have h := hf c
    refine V_iload_n X (i := 1) 1 dX2_worth_4 rfl rfl ?_
    refine V_aload_n X (i := 0) 0 dX2_worth_5 rfl rfl ?_
    refine G_2_31 X (hk).1 (hk).2.1 (Law_r6 hk) dX2_worth_6 ?_
    obtain ⟨ht, hf⟩ := h
    refine V_icmp_ge X (tgt := 21) dX2_worth_9 (by decide) (fun c => ?_) (fun c => ?_)
    · have h := ht c
      refine V_iconst X (v := (0 : Int32)) dX2_worth_21 (by decide) ?_
      exact V_iret_c X hr dX2_worth_22 h
    · have h := hf c
      refine V_iload_n X (i := 1) 1 dX2_worth_12 rfl rfl ?_
      refine V_aload_n X (i := 0) 0 dX2_worth_13 rfl rfl ?_
      refine G_2_18 X (hk).1 (hk).2.1 (Law_r2 hk) dX2_worth_14 ?_
      refine V_alenL_c X (v := (13 : Int32)) ((Law_s2 hk)).2.1 ((Law_s2 hk)).2.2 (by decide) ((Law_s2 hk)).1 (by decide) dX2_worth_17 ?_
      obtain ⟨ht, hf⟩ := h
      refine V_icmp_lt X (tgt := 23) dX2_worth_18 (by decide) (fun c => ?_) (fun c => ?_)
      · have h := ht c
        refine V_iconst X (v := (0 : Int32)) dX2_worth_23 (by decide) ?_
        refine V_istore_n X dX2_worth_24 rfl (by decide) rfl (ls1 := [(2, .int (0 : Int32)), (0, .ref (ad k)), (1, .int a1)]) rfl ?_
        refine V_iload_n X (i := 1) 2 dX2_worth_25 rfl rfl ?_
        obtain ⟨ht, hf⟩ := h
        refine V_if_ne X (tgt := 33) dX2_worth_26 (by decide) (fun c => ?_) (fun c => ?_)
        · have h := ht c
          refine V_aload_n X (i := 0) 1 dX2_worth_33 rfl rfl ?_
          refine G_2_18 X (hk).1 (hk).2.1 (Law_r2 hk) dX2_worth_34 ?_
          refine V_iload_n X (i := 1) 2 dX2_worth_37 rfl rfl ?_
          refine V_iconst X (v := (1 : Int32)) dX2_worth_38 (by decide) ?_
          refine V_isub X dX2_worth_39 ?_
          obtain ⟨g1, h⟩ := h
          refine V_iald_c X ((Law_s2 hk)).2.1 ((Law_s2 hk)).2.2 ((Law_s2 hk)).1 g1 dX2_worth_40 ?_
          refine V_sub X (ls1 := [(0, .ref (ad k)), (1, .int a1), (2, .int (0 : Int32))]) [1, 2, 0] rfl ?_
          exact v_2_worth_b41 X hr hk _ _ _ _ h
        · have h := hf c
          refine V_iconst X (v := (0 : Int32)) dX2_worth_29 (by decide) ?_
          refine V_goto X (tgt := 41) dX2_worth_30 (by decide) ?_
          refine V_sub X (ls1 := [(0, .ref (ad k)), (1, .int a1), (2, .int (0 : Int32))]) [1, 2, 0] rfl ?_
          exact v_2_worth_b41 X hr hk _ _ _ _ h
      · have h := hf c
        refine V_iconst X (v := (0 : Int32)) dX2_worth_21 (by decide) ?_
        exact V_iret_c X hr dX2_worth_22 h
theorem c_2_worth {k : Nat} {a1 : Int32} (hinj : INJ ad) (hk : isLaw k) {w : Mem} {Q : Int32 → Mem → Prop} (h : wp_2_worth k a1 w Q) : Met l yX2_worth (TB yX2_worth cX2_worth 4 (some .int)) (RM 1) (va_Pc [.ref (ad k), .int a1] (PB ad cy D (cmb w wm) wl0)) (va_Qi Q (BC ad cy D wm wl0) (AW ad)) 0 0 (AW ad) := M_enter (by decide) (Nat.le_of_ble_eq_true rfl) hinj (fun p e s m args below meth c X hr => v_2_worth X hr hk h)
theorem mf_2_worth : MFV yX2_worth cX2_worth 4 (some .int) yX2_worth.cls 1 := ⟨q_810, q_809, qs_22, q_6, by decide⟩
theorem K_2_worth {own : String} {idx : Nat} {k : Nat} {a1 : Int32} (X : CX p s m args meth c cc nL own ad cy D A) (hL : LK own idx yX2_worth) (hk : isLaw k) {w : Mem} {Q : Int32 → Mem → Prop} (h : wp_2_worth k a1 w Q) (hR : (RM 1).frames + 1 ≤ R.frames ∧ 8 + (4 + 11) + (RM 1).locals ≤ R.locals) (hce : ce ≤ R.cells ∧ sl ≤ R.slots) (hcat : (st1.map fun v => v.category).sum ≤ 8) (hd : decode cc pc = .ok (.invokevirtual idx, 3)) (kk : ∀ (r : Int32) (u : Mem), Q r u → V p l e R s m args below meth c nL ad cy D A H0 ce sl Qs u wm wl0 (pc + 3) ls (.int r :: st1)) : V p l e R s m args below meth c nL ad cy D A H0 ce sl Qs w wm wl0 pc ls (.int a1 :: .ref (ad k) :: st1) := V_callVI_c X mf_2_worth hL (rfl : vwCl[2]? = some (RX2, TX2, 8)) (by decide) (hk).1 (Nat.lt_trans (hk).2.1 (by decide)) (c_2_worth X.2.2.2.2.2.2.2.1 hk h) (As := [.int a1]) rfl ⟨rfl, rfl⟩ hR hce st1 rfl hcat hd kk
def wp_2_tells_b37 (k : Nat) (Q : Int32 → Mem → Prop) (L7 : Int32 → Mem → Prop) (l1 : Int32) (s0 : Int32) (w : Mem) : Prop := (((w k 7) = 0 → ((s0 = 0 → (∀ x1 : Int32, x1 = l1 + (3 : Int32) → (L7 x1 w))) ∧ (¬ (s0 = 0) → (wp_2_worth k (l1 + (2 : Int32)) w (fun (r3 : Int32) (w2 : Mem) => (((w2 k 7) = 0 → (Q r3 w2)) ∧ (¬ ((w2 k 7) = 0) → (Q (0 : Int32) w2)))))))) ∧ (¬ ((w k 7) = 0) → (Q (0 : Int32) w)))
def wp_2_tells_b7 (k : Nat) (Q : Int32 → Mem → Prop) : Nat → Int32 → Mem → Prop
  | 0, _, _ => False
  | n + 1, l1, w => (((w k 6) ≤ (l1 + (3 : Int32)) → (wp_2_worth k ((w k 6) - (1 : Int32)) w (fun (r2 : Int32) (w1 : Mem) => (((w1 k 7) = 0 → (Q r2 w1)) ∧ (¬ ((w1 k 7) = 0) → (Q (0 : Int32) w1)))))) ∧ (¬ ((w k 6) ≤ (l1 + (3 : Int32))) → (wp_2_worth k l1 w (fun (r4 : Int32) (w3 : Mem) => (wp_2_worth k (l1 + (1 : Int32)) w3 (fun (r6 : Int32) (w5 : Mem) => ((r6 ≤ r4 → (wp_2_tells_b37 k Q ((wp_2_tells_b7 k Q n)) l1 (0 : Int32) w5)) ∧ (¬ (r6 ≤ r4) → (wp_2_tells_b37 k Q ((wp_2_tells_b7 k Q n)) l1 (1 : Int32) w5)))))))))
def wp_2_tells (k : Nat) (w : Mem) (Q : Int32 → Mem → Prop) : Prop := (∀ w1 : Mem, w1 = st w k 7 (0 : Int32) → (∃ n, wp_2_tells_b7 k Q n (0 : Int32) w1))
set_option maxRecDepth 20000 in
theorem v_2_tells_b37 (X : CX p s m args meth c cX2_tells 4 yX2_tells.cls ad cy D (AW ad)) (hr : meth.sig.returnType = (some .int)) {k : Nat} (hk : isLaw k) {Q : Int32 → Mem → Prop} {L7 : Int32 → Mem → Prop} (HL7 : ∀ (l1 : Int32) (w : Mem), L7 l1 w → V p l e (RM 2) s m args below meth c 4 ad cy D (AW ad) s.heap 0 0 (MQ below (va_Qi Q (BC ad cy D wm wl0) (AW ad)) args s 0 0 (AW ad)) w wm wl0 7 [(0, .ref (ad k)), (1, .int l1)] []) : ∀ (l1 : Int32) (s0 : Int32) (w : Mem), wp_2_tells_b37 k Q L7 l1 s0 w → V p l e (RM 2) s m args below meth c 4 ad cy D (AW ad) s.heap 0 0 (MQ below (va_Qi Q (BC ad cy D wm wl0) (AW ad)) args s 0 0 (AW ad)) w wm wl0 37 [(0, .ref (ad k)), (1, .int l1)] [.int s0] := by
  intro l1 s0 w h
  unfold wp_2_tells_b37 at h
  refine V_istore_n X dX2_tells_37 rfl (by decide) rfl (ls1 := [(2, .int s0), (0, .ref (ad k)), (1, .int l1)]) rfl ?_
  refine V_aload_n X (i := 0) 1 dX2_tells_38 rfl rfl ?_
  refine G_2_41 X (hk).1 (hk).2.1 (Law_r7 hk) dX2_tells_39 ?_
  obtain ⟨ht, hf⟩ := h
  refine V_if_eq X (tgt := 47) dX2_tells_42 (by decide) (fun c => ?_) (fun c => ?_)
  · have h := ht c
    refine V_iload_n X (i := 2) 0 dX2_tells_47 rfl rfl ?_
    obtain ⟨ht, hf⟩ := h
    refine V_if_eq X (tgt := 72) dX2_tells_48 (by decide) (fun c => ?_) (fun c => ?_)
    · have h := ht c
      obtain ⟨x1, ex1⟩ : ∃ y : Int32, y = l1 + (3 : Int32) := ⟨_, rfl⟩
      have h := h x1 ex1
      refine V_iinc X 2 dX2_tells_72 rfl (by decide) (by rw [ex1]; rfl) (ls1 := [(1, .int x1), (2, .int s0), (0, .ref (ad k))]) rfl ?_
      refine V_goto X (tgt := 7) dX2_tells_75 (by decide) ?_
      refine V_sub X (ls1 := [(0, .ref (ad k)), (1, .int x1)]) [2, 0] rfl ?_
      exact HL7 _ _ h
    · have h := hf c
      refine V_aload_n X (i := 0) 1 dX2_tells_51 rfl rfl ?_
      refine V_iload_n X (i := 1) 2 dX2_tells_52 rfl rfl ?_
      refine V_iconst X (v := (2 : Int32)) dX2_tells_53 (by decide) ?_
      refine V_iadd X dX2_tells_54 ?_
      refine K_2_worth X (Or.inl q_807) hk h ⟨Nat.le_of_ble_eq_true rfl, Nat.le_of_ble_eq_true rfl⟩ ⟨Nat.zero_le _, Nat.zero_le _⟩ (st1 := []) (Nat.le_of_ble_eq_true rfl) dX2_tells_55 (fun r3 w2 h => ?_)
      refine V_istore_n X dX2_tells_58 rfl (by decide) rfl (ls1 := [(3, .int r3), (2, .int s0), (0, .ref (ad k)), (1, .int l1)]) rfl ?_
      refine V_aload_n X (i := 0) 2 dX2_tells_59 rfl rfl ?_
      refine G_2_41 X (hk).1 (hk).2.1 (Law_r7 hk) dX2_tells_60 ?_
      obtain ⟨ht, hf⟩ := h
      refine V_if_eq X (tgt := 70) dX2_tells_63 (by decide) (fun c => ?_) (fun c => ?_)
      · have h := ht c
        refine V_iload_n X (i := 3) 0 dX2_tells_70 rfl rfl ?_
        exact V_iret_c X hr dX2_tells_71 h
      · have h := hf c
        refine V_iconst X (v := (0 : Int32)) dX2_tells_66 (by decide) ?_
        refine V_goto X (tgt := 71) dX2_tells_67 (by decide) ?_
        exact V_iret_c X hr dX2_tells_71 h
  · have h := hf c
    refine V_iconst X (v := (0 : Int32)) dX2_tells_45 (by decide) ?_
    exact V_iret_c X hr dX2_tells_46 h
set_option maxRecDepth 20000 in
theorem v_2_tells_b7 (X : CX p s m args meth c cX2_tells 4 yX2_tells.cls ad cy D (AW ad)) (hr : meth.sig.returnType = (some .int)) {k : Nat} (hk : isLaw k) {Q : Int32 → Mem → Prop} : ∀ (n : Nat) (l1 : Int32) (w : Mem), wp_2_tells_b7 k Q n l1 w → V p l e (RM 2) s m args below meth c 4 ad cy D (AW ad) s.heap 0 0 (MQ below (va_Qi Q (BC ad cy D wm wl0) (AW ad)) args s 0 0 (AW ad)) w wm wl0 7 [(0, .ref (ad k)), (1, .int l1)] [] := by
  intro n
  induction n with
  | zero =>
    intro l1 w h
    exact h.elim
  | succ n ih =>
    intro l1 w h
    unfold wp_2_tells_b7 at h
    refine V_iload_n X (i := 1) 1 dX2_tells_7 rfl rfl ?_
    refine V_iconst X (v := (3 : Int32)) dX2_tells_8 (by decide) ?_
    refine V_iadd X dX2_tells_9 ?_
    refine V_aload_n X (i := 0) 0 dX2_tells_10 rfl rfl ?_
    refine G_2_31 X (hk).1 (hk).2.1 (Law_r6 hk) dX2_tells_11 ?_
    obtain ⟨ht, hf⟩ := h
    refine V_icmp_ge X (tgt := 78) dX2_tells_14 (by decide) (fun c => ?_) (fun c => ?_)
    · have h := ht c
      refine V_aload_n X (i := 0) 0 dX2_tells_78 rfl rfl ?_
      refine V_aload_n X (i := 0) 0 dX2_tells_79 rfl rfl ?_
      refine G_2_31 X (hk).1 (hk).2.1 (Law_r6 hk) dX2_tells_80 ?_
      refine V_iconst X (v := (1 : Int32)) dX2_tells_83 (by decide) ?_
      refine V_isub X dX2_tells_84 ?_
      refine K_2_worth X (Or.inl q_807) hk h ⟨Nat.le_of_ble_eq_true rfl, Nat.le_of_ble_eq_true rfl⟩ ⟨Nat.zero_le _, Nat.zero_le _⟩ (st1 := []) (Nat.le_of_ble_eq_true rfl) dX2_tells_85 (fun r2 w1 h => ?_)
      refine V_istore_n X dX2_tells_88 rfl (by decide) rfl (ls1 := [(1, .int r2), (0, .ref (ad k))]) rfl ?_
      refine V_aload_n X (i := 0) 1 dX2_tells_89 rfl rfl ?_
      refine G_2_41 X (hk).1 (hk).2.1 (Law_r7 hk) dX2_tells_90 ?_
      obtain ⟨ht, hf⟩ := h
      refine V_if_eq X (tgt := 100) dX2_tells_93 (by decide) (fun c => ?_) (fun c => ?_)
      · have h := ht c
        refine V_iload_n X (i := 1) 0 dX2_tells_100 rfl rfl ?_
        exact V_iret_c X hr dX2_tells_101 h
      · have h := hf c
        refine V_iconst X (v := (0 : Int32)) dX2_tells_96 (by decide) ?_
        refine V_goto X (tgt := 101) dX2_tells_97 (by decide) ?_
        exact V_iret_c X hr dX2_tells_101 h
    · have h := hf c
      refine V_aload_n X (i := 0) 0 dX2_tells_17 rfl rfl ?_
      refine V_iload_n X (i := 1) 1 dX2_tells_18 rfl rfl ?_
      refine K_2_worth X (Or.inl q_807) hk h ⟨Nat.le_of_ble_eq_true rfl, Nat.le_of_ble_eq_true rfl⟩ ⟨Nat.zero_le _, Nat.zero_le _⟩ (st1 := []) (Nat.le_of_ble_eq_true rfl) dX2_tells_19 (fun r4 w3 h => ?_)
      refine V_aload_n X (i := 0) 0 dX2_tells_22 rfl rfl ?_
      refine V_iload_n X (i := 1) 1 dX2_tells_23 rfl rfl ?_
      refine V_iconst X (v := (1 : Int32)) dX2_tells_24 (by decide) ?_
      refine V_iadd X dX2_tells_25 ?_
      refine K_2_worth X (Or.inl q_807) hk h ⟨Nat.le_of_ble_eq_true rfl, Nat.le_of_ble_eq_true rfl⟩ ⟨Nat.zero_le _, Nat.zero_le _⟩ (st1 := [.int r4]) (Nat.le_of_ble_eq_true rfl) dX2_tells_26 (fun r6 w5 h => ?_)
      obtain ⟨ht, hf⟩ := h
      refine V_icmp_ge X (tgt := 36) dX2_tells_29 (by decide) (fun c => ?_) (fun c => ?_)
      · have h := ht c
        refine V_iconst X (v := (0 : Int32)) dX2_tells_36 (by decide) ?_
        refine V_sub X (ls1 := [(0, .ref (ad k)), (1, .int l1)]) [0, 1] rfl ?_
        exact v_2_tells_b37 X hr hk ih _ _ _ h
      · have h := hf c
        refine V_iconst X (v := (1 : Int32)) dX2_tells_32 (by decide) ?_
        refine V_goto X (tgt := 37) dX2_tells_33 (by decide) ?_
        refine V_sub X (ls1 := [(0, .ref (ad k)), (1, .int l1)]) [0, 1] rfl ?_
        exact v_2_tells_b37 X hr hk ih _ _ _ h
set_option maxRecDepth 20000 in
theorem v_2_tells {k : Nat} (X : CX p s m args meth c cX2_tells 4 yX2_tells.cls ad cy D (AW ad)) (hr : meth.sig.returnType = (some .int)) (hk : isLaw k) {w : Mem} {Q : Int32 → Mem → Prop} (h : wp_2_tells k w Q) : V p l e (RM 2) s m args below meth c 4 ad cy D (AW ad) s.heap 0 0 (MQ below (va_Qi Q (BC ad cy D wm wl0) (AW ad)) args s 0 0 (AW ad)) w wm wl0 0 [(0, .ref (ad k))] [] := by
  unfold wp_2_tells at h
  refine V_aload_n X (i := 0) 0 dX2_tells_0 rfl rfl ?_
  refine V_iconst X (v := (0 : Int32)) dX2_tells_1 (by decide) ?_
  obtain ⟨w1, ew1⟩ : ∃ y : Mem, y = st w k 7 (0 : Int32) := ⟨_, rfl⟩
  have h := h w1 ew1
  refine U_2_41 X (hk).1 (hk).2.1 (Law_r7 hk) rfl rfl dX2_tells_2 ew1 ?_
  refine V_iconst X (v := (0 : Int32)) dX2_tells_5 (by decide) ?_
  refine V_istore_n X dX2_tells_6 rfl (by decide) rfl (ls1 := [(1, .int (0 : Int32)), (0, .ref (ad k))]) rfl ?_
  refine V_sub X (ls1 := [(0, .ref (ad k)), (1, .int (0 : Int32))]) [1, 0] rfl ?_
  obtain ⟨nn, h⟩ := h
  exact v_2_tells_b7 X hr hk nn _ _ h
theorem c_2_tells {k : Nat} (hinj : INJ ad) (hk : isLaw k) {w : Mem} {Q : Int32 → Mem → Prop} (h : wp_2_tells k w Q) : Met l yX2_tells (TB yX2_tells cX2_tells 4 (some .int)) (RM 2) (va_Pc [.ref (ad k)] (PB ad cy D (cmb w wm) wl0)) (va_Qi Q (BC ad cy D wm wl0) (AW ad)) 0 0 (AW ad) := M_enter (by decide) (Nat.le_of_ble_eq_true rfl) hinj (fun p e s m args below meth c X hr => v_2_tells X hr hk h)
theorem mf_2_tells : MFV yX2_tells cX2_tells 4 (some .int) yX2_tells.cls 0 := ⟨q_806, q_804, q_805, q_6, by decide⟩
theorem K_2_tells {own : String} {idx : Nat} {k : Nat} (X : CX p s m args meth c cc nL own ad cy D A) (hL : LK own idx yX2_tells) (hk : isLaw k) {w : Mem} {Q : Int32 → Mem → Prop} (h : wp_2_tells k w Q) (hR : (RM 2).frames + 1 ≤ R.frames ∧ 8 + (4 + 11) + (RM 2).locals ≤ R.locals) (hce : ce ≤ R.cells ∧ sl ≤ R.slots) (hcat : (st1.map fun v => v.category).sum ≤ 8) (hd : decode cc pc = .ok (.invokevirtual idx, 3)) (kk : ∀ (r : Int32) (u : Mem), Q r u → V p l e R s m args below meth c nL ad cy D A H0 ce sl Qs u wm wl0 (pc + 3) ls (.int r :: st1)) : V p l e R s m args below meth c nL ad cy D A H0 ce sl Qs w wm wl0 pc ls (.ref (ad k) :: st1) := V_callVI_c X mf_2_tells hL (rfl : vwCl[2]? = some (RX2, TX2, 8)) (by decide) (hk).1 (Nat.lt_trans (hk).2.1 (by decide)) (c_2_tells X.2.2.2.2.2.2.2.1 hk h) (As := []) rfl ⟨rfl, rfl⟩ hR hce st1 rfl hcat hd kk
def wp_2_clear (k : Nat) (w : Mem) (Q : Mem → Prop) : Prop := (∀ w1 : Mem, w1 = st w k 5 (0 : Int32) → (∀ w2 : Mem, w2 = st w1 k 6 (0 : Int32) → (Q w2)))
set_option maxRecDepth 20000 in
theorem v_2_clear {k : Nat} (X : CX p s m args meth c cX2_clear 1 yX2_clear.cls ad cy D (AW ad)) (hr : meth.sig.returnType = none) (hk : isLaw k) {w : Mem} {Q : Mem → Prop} (h : wp_2_clear k w Q) : V p l e (RM 0) s m args below meth c 1 ad cy D (AW ad) s.heap 0 0 (MQ below (va_Qv Q (BC ad cy D wm wl0) (AW ad)) args s 0 0 (AW ad)) w wm wl0 0 [(0, .ref (ad k))] [] := by
  unfold wp_2_clear at h
  refine V_aload_n X (i := 0) 0 dX2_clear_0 rfl rfl ?_
  refine V_iconst X (v := (0 : Int32)) dX2_clear_1 (by decide) ?_
  obtain ⟨w1, ew1⟩ : ∃ y : Mem, y = st w k 5 (0 : Int32) := ⟨_, rfl⟩
  have h := h w1 ew1
  refine U_2_27 X (hk).1 (hk).2.1 (Law_r5 hk) rfl rfl dX2_clear_2 ew1 ?_
  refine V_aload_n X (i := 0) 0 dX2_clear_5 rfl rfl ?_
  refine V_iconst X (v := (0 : Int32)) dX2_clear_6 (by decide) ?_
  obtain ⟨w2, ew2⟩ : ∃ y : Mem, y = st w1 k 6 (0 : Int32) := ⟨_, rfl⟩
  have h := h w2 ew2
  refine U_2_31 X (hk).1 (hk).2.1 (Law_r6 hk) rfl rfl dX2_clear_7 ew2 ?_
  exact V_vret_c X hr dX2_clear_10 h
theorem c_2_clear {k : Nat} (hinj : INJ ad) (hk : isLaw k) {w : Mem} {Q : Mem → Prop} (h : wp_2_clear k w Q) : Met l yX2_clear (TB yX2_clear cX2_clear 1 none) (RM 0) (va_Pc [.ref (ad k)] (PB ad cy D (cmb w wm) wl0)) (va_Qv Q (BC ad cy D wm wl0) (AW ad)) 0 0 (AW ad) := M_enter (by decide) (Nat.le_of_ble_eq_true rfl) hinj (fun p e s m args below meth c X hr => v_2_clear X hr hk h)
theorem mf_2_clear : MFV yX2_clear cX2_clear 1 none yX2_clear.cls 0 := ⟨q_432, q_430, q_431, q_6, by decide⟩
theorem K_2_clear {own : String} {idx : Nat} {k : Nat} (X : CX p s m args meth c cc nL own ad cy D A) (hL : LK own idx yX2_clear) (hk : isLaw k) {w : Mem} {Q : Mem → Prop} (h : wp_2_clear k w Q) (hR : (RM 0).frames + 1 ≤ R.frames ∧ 8 + (1 + 11) + (RM 0).locals ≤ R.locals) (hce : ce ≤ R.cells ∧ sl ≤ R.slots) (hcat : (st1.map fun v => v.category).sum ≤ 8) (hd : decode cc pc = .ok (.invokevirtual idx, 3)) (kk : ∀ (u : Mem), Q u → V p l e R s m args below meth c nL ad cy D A H0 ce sl Qs u wm wl0 (pc + 3) ls st1) : V p l e R s m args below meth c nL ad cy D A H0 ce sl Qs w wm wl0 pc ls (.ref (ad k) :: st1) := V_callVV_c X mf_2_clear hL (rfl : vwCl[2]? = some (RX2, TX2, 8)) (by decide) (hk).1 (Nat.lt_trans (hk).2.1 (by decide)) (c_2_clear X.2.2.2.2.2.2.2.1 hk h) (As := []) rfl ⟨rfl, rfl⟩ hR hce st1 rfl hcat hd kk
def wp_2_add (k : Nat) (a1 : Int32) (a2 : Int32) (w : Mem) (Q : Mem → Prop) : Prop := (((400 : Int32) ≤ (w k 5) → (Q w)) ∧ (¬ ((400 : Int32) ≤ (w k 5)) → (vp_in (w k 5) 400 ∧ (∀ w2 : Mem, w2 = st w (k + 1) (ix (w k 5)) a1 → (vp_in (w2 k 5) 400 ∧ (∀ w4 : Mem, w4 = st w2 (k + 2) (ix (w2 k 5)) a2 → (∀ w5 : Mem, w5 = st w4 k 5 ((w4 k 5) + (1 : Int32)) → (Q w5))))))))
set_option maxRecDepth 20000 in
theorem v_2_add {k : Nat} {a1 : Int32} {a2 : Int32} (X : CX p s m args meth c cX2_add 3 yX2_add.cls ad cy D (AW ad)) (hr : meth.sig.returnType = none) (hk : isLaw k) {w : Mem} {Q : Mem → Prop} (h : wp_2_add k a1 a2 w Q) : V p l e (RM 0) s m args below meth c 3 ad cy D (AW ad) s.heap 0 0 (MQ below (va_Qv Q (BC ad cy D wm wl0) (AW ad)) args s 0 0 (AW ad)) w wm wl0 0 [(0, .ref (ad k)), (1, .int a1), (2, .int a2)] [] := by
  unfold wp_2_add at h
  refine V_aload_n X (i := 0) 0 dX2_add_0 rfl rfl ?_
  refine G_2_27 X (hk).1 (hk).2.1 (Law_r5 hk) dX2_add_1 ?_
  refine V_aload_n X (i := 0) 0 dX2_add_4 rfl rfl ?_
  refine G_2_9 X (hk).1 (hk).2.1 (Law_r0 hk) dX2_add_5 ?_
  refine V_alenL_c X (v := (400 : Int32)) ((Law_s0 hk)).2.1 ((Law_s0 hk)).2.2 (by decide) ((Law_s0 hk)).1 (by decide) dX2_add_8 ?_
  obtain ⟨ht, hf⟩ := h
  refine V_icmp_ge X (tgt := 42) dX2_add_9 (by decide) (fun c => ?_) (fun c => ?_)
  · have h := ht c
    exact V_vret_c X hr dX2_add_42 h
  · have h := hf c
    refine V_aload_n X (i := 0) 0 dX2_add_12 rfl rfl ?_
    refine G_2_9 X (hk).1 (hk).2.1 (Law_r0 hk) dX2_add_13 ?_
    refine V_aload_n X (i := 0) 0 dX2_add_16 rfl rfl ?_
    refine G_2_27 X (hk).1 (hk).2.1 (Law_r5 hk) dX2_add_17 ?_
    refine V_iload_n X (i := 1) 1 dX2_add_20 rfl rfl ?_
    obtain ⟨g1, h⟩ := h
    obtain ⟨w2, ew2⟩ : ∃ y : Mem, y = st w (k + 1) (ix (w k 5)) a1 := ⟨_, rfl⟩
    have h := h w2 ew2
    refine V_iast_c X ((Law_s0 hk)).2.1 ((Law_s0 hk)).2.2 ((Law_s0 hk)).1 g1 dX2_add_21 ew2 ?_
    refine V_aload_n X (i := 0) 0 dX2_add_22 rfl rfl ?_
    refine G_2_15 X (hk).1 (hk).2.1 (Law_r1 hk) dX2_add_23 ?_
    refine V_aload_n X (i := 0) 0 dX2_add_26 rfl rfl ?_
    refine G_2_27 X (hk).1 (hk).2.1 (Law_r5 hk) dX2_add_27 ?_
    refine V_iload_n X (i := 2) 2 dX2_add_30 rfl rfl ?_
    obtain ⟨g3, h⟩ := h
    obtain ⟨w4, ew4⟩ : ∃ y : Mem, y = st w2 (k + 2) (ix (w2 k 5)) a2 := ⟨_, rfl⟩
    have h := h w4 ew4
    refine V_iast_c X ((Law_s1 hk)).2.1 ((Law_s1 hk)).2.2 ((Law_s1 hk)).1 g3 dX2_add_31 ew4 ?_
    refine V_aload_n X (i := 0) 0 dX2_add_32 rfl rfl ?_
    refine V_dup X dX2_add_33 rfl ?_
    refine G_2_27 X (hk).1 (hk).2.1 (Law_r5 hk) dX2_add_34 ?_
    refine V_iconst X (v := (1 : Int32)) dX2_add_37 (by decide) ?_
    refine V_iadd X dX2_add_38 ?_
    obtain ⟨w5, ew5⟩ : ∃ y : Mem, y = st w4 k 5 ((w4 k 5) + (1 : Int32)) := ⟨_, rfl⟩
    have h := h w5 ew5
    refine U_2_27 X (hk).1 (hk).2.1 (Law_r5 hk) rfl rfl dX2_add_39 ew5 ?_
    exact V_vret_c X hr dX2_add_42 h
theorem c_2_add {k : Nat} {a1 : Int32} {a2 : Int32} (hinj : INJ ad) (hk : isLaw k) {w : Mem} {Q : Mem → Prop} (h : wp_2_add k a1 a2 w Q) : Met l yX2_add (TB yX2_add cX2_add 3 none) (RM 0) (va_Pc [.ref (ad k), .int a1, .int a2] (PB ad cy D (cmb w wm) wl0)) (va_Qv Q (BC ad cy D wm wl0) (AW ad)) 0 0 (AW ad) := M_enter (by decide) (Nat.le_of_ble_eq_true rfl) hinj (fun p e s m args below meth c X hr => v_2_add X hr hk h)
theorem mf_2_add : MFV yX2_add cX2_add 3 none yX2_add.cls 2 := ⟨q_451, q_449, q_450, q_6, by decide⟩
theorem K_2_add {own : String} {idx : Nat} {k : Nat} {a1 : Int32} {a2 : Int32} (X : CX p s m args meth c cc nL own ad cy D A) (hL : LK own idx yX2_add) (hk : isLaw k) {w : Mem} {Q : Mem → Prop} (h : wp_2_add k a1 a2 w Q) (hR : (RM 0).frames + 1 ≤ R.frames ∧ 8 + (3 + 11) + (RM 0).locals ≤ R.locals) (hce : ce ≤ R.cells ∧ sl ≤ R.slots) (hcat : (st1.map fun v => v.category).sum ≤ 8) (hd : decode cc pc = .ok (.invokevirtual idx, 3)) (kk : ∀ (u : Mem), Q u → V p l e R s m args below meth c nL ad cy D A H0 ce sl Qs u wm wl0 (pc + 3) ls st1) : V p l e R s m args below meth c nL ad cy D A H0 ce sl Qs w wm wl0 pc ls (.int a2 :: .int a1 :: .ref (ad k) :: st1) := V_callVV_c X mf_2_add hL (rfl : vwCl[2]? = some (RX2, TX2, 8)) (by decide) (hk).1 (Nat.lt_trans (hk).2.1 (by decide)) (c_2_add X.2.2.2.2.2.2.2.1 hk h) (As := [.int a1, .int a2]) rfl ⟨rfl, rfl⟩ hR hce st1 rfl hcat hd kk
def wp_2_endPiece (k : Nat) (w : Mem) (Q : Mem → Prop) : Prop := (((13 : Int32) ≤ (w k 6) → (Q w)) ∧ (¬ ((13 : Int32) ≤ (w k 6)) → (vp_in (w k 6) 13 ∧ (∀ w2 : Mem, w2 = st w (k + 3) (ix (w k 6)) (w k 5) → (∀ w3 : Mem, w3 = st w2 k 6 ((w2 k 6) + (1 : Int32)) → (Q w3))))))
set_option maxRecDepth 20000 in
theorem v_2_endPiece {k : Nat} (X : CX p s m args meth c cX2_endPiece 1 yX2_endPiece.cls ad cy D (AW ad)) (hr : meth.sig.returnType = none) (hk : isLaw k) {w : Mem} {Q : Mem → Prop} (h : wp_2_endPiece k w Q) : V p l e (RM 0) s m args below meth c 1 ad cy D (AW ad) s.heap 0 0 (MQ below (va_Qv Q (BC ad cy D wm wl0) (AW ad)) args s 0 0 (AW ad)) w wm wl0 0 [(0, .ref (ad k))] [] := by
  unfold wp_2_endPiece at h
  refine V_aload_n X (i := 0) 0 dX2_endPiece_0 rfl rfl ?_
  refine G_2_31 X (hk).1 (hk).2.1 (Law_r6 hk) dX2_endPiece_1 ?_
  refine V_aload_n X (i := 0) 0 dX2_endPiece_4 rfl rfl ?_
  refine G_2_18 X (hk).1 (hk).2.1 (Law_r2 hk) dX2_endPiece_5 ?_
  refine V_alenL_c X (v := (13 : Int32)) ((Law_s2 hk)).2.1 ((Law_s2 hk)).2.2 (by decide) ((Law_s2 hk)).1 (by decide) dX2_endPiece_8 ?_
  obtain ⟨ht, hf⟩ := h
  refine V_icmp_ge X (tgt := 35) dX2_endPiece_9 (by decide) (fun c => ?_) (fun c => ?_)
  · have h := ht c
    exact V_vret_c X hr dX2_endPiece_35 h
  · have h := hf c
    refine V_aload_n X (i := 0) 0 dX2_endPiece_12 rfl rfl ?_
    refine G_2_18 X (hk).1 (hk).2.1 (Law_r2 hk) dX2_endPiece_13 ?_
    refine V_aload_n X (i := 0) 0 dX2_endPiece_16 rfl rfl ?_
    refine G_2_31 X (hk).1 (hk).2.1 (Law_r6 hk) dX2_endPiece_17 ?_
    refine V_aload_n X (i := 0) 0 dX2_endPiece_20 rfl rfl ?_
    refine G_2_27 X (hk).1 (hk).2.1 (Law_r5 hk) dX2_endPiece_21 ?_
    obtain ⟨g1, h⟩ := h
    obtain ⟨w2, ew2⟩ : ∃ y : Mem, y = st w (k + 3) (ix (w k 6)) (w k 5) := ⟨_, rfl⟩
    have h := h w2 ew2
    refine V_iast_c X ((Law_s2 hk)).2.1 ((Law_s2 hk)).2.2 ((Law_s2 hk)).1 g1 dX2_endPiece_24 ew2 ?_
    refine V_aload_n X (i := 0) 0 dX2_endPiece_25 rfl rfl ?_
    refine V_dup X dX2_endPiece_26 rfl ?_
    refine G_2_31 X (hk).1 (hk).2.1 (Law_r6 hk) dX2_endPiece_27 ?_
    refine V_iconst X (v := (1 : Int32)) dX2_endPiece_30 (by decide) ?_
    refine V_iadd X dX2_endPiece_31 ?_
    obtain ⟨w3, ew3⟩ : ∃ y : Mem, y = st w2 k 6 ((w2 k 6) + (1 : Int32)) := ⟨_, rfl⟩
    have h := h w3 ew3
    refine U_2_31 X (hk).1 (hk).2.1 (Law_r6 hk) rfl rfl dX2_endPiece_32 ew3 ?_
    exact V_vret_c X hr dX2_endPiece_35 h
theorem c_2_endPiece {k : Nat} (hinj : INJ ad) (hk : isLaw k) {w : Mem} {Q : Mem → Prop} (h : wp_2_endPiece k w Q) : Met l yX2_endPiece (TB yX2_endPiece cX2_endPiece 1 none) (RM 0) (va_Pc [.ref (ad k)] (PB ad cy D (cmb w wm) wl0)) (va_Qv Q (BC ad cy D wm wl0) (AW ad)) 0 0 (AW ad) := M_enter (by decide) (Nat.le_of_ble_eq_true rfl) hinj (fun p e s m args below meth c X hr => v_2_endPiece X hr hk h)
theorem mf_2_endPiece : MFV yX2_endPiece cX2_endPiece 1 none yX2_endPiece.cls 0 := ⟨q_455, q_453, q_454, q_6, by decide⟩
theorem K_2_endPiece {own : String} {idx : Nat} {k : Nat} (X : CX p s m args meth c cc nL own ad cy D A) (hL : LK own idx yX2_endPiece) (hk : isLaw k) {w : Mem} {Q : Mem → Prop} (h : wp_2_endPiece k w Q) (hR : (RM 0).frames + 1 ≤ R.frames ∧ 8 + (1 + 11) + (RM 0).locals ≤ R.locals) (hce : ce ≤ R.cells ∧ sl ≤ R.slots) (hcat : (st1.map fun v => v.category).sum ≤ 8) (hd : decode cc pc = .ok (.invokevirtual idx, 3)) (kk : ∀ (u : Mem), Q u → V p l e R s m args below meth c nL ad cy D A H0 ce sl Qs u wm wl0 (pc + 3) ls st1) : V p l e R s m args below meth c nL ad cy D A H0 ce sl Qs w wm wl0 pc ls (.ref (ad k) :: st1) := V_callVV_c X mf_2_endPiece hL (rfl : vwCl[2]? = some (RX2, TX2, 8)) (by decide) (hk).1 (Nat.lt_trans (hk).2.1 (by decide)) (c_2_endPiece X.2.2.2.2.2.2.2.1 hk h) (As := []) rfl ⟨rfl, rfl⟩ hR hce st1 rfl hcat hd kk
def wp_2_fillUntold (k : Nat) (a1 : Int32) (w : Mem) (Q : Mem → Prop) : Prop := ((¬ (w k 6) = 0 → (Q w)) ∧ (¬ (¬ (w k 6) = 0) → (wp_2_add k (0 : Int32) a1 w (fun (w1 : Mem) => (wp_2_endPiece k w1 (fun (w2 : Mem) => (Q w2)))))))
set_option maxRecDepth 20000 in
theorem v_2_fillUntold {k : Nat} {a1 : Int32} (X : CX p s m args meth c cX2_fillUntold 2 yX2_fillUntold.cls ad cy D (AW ad)) (hr : meth.sig.returnType = none) (hk : isLaw k) {w : Mem} {Q : Mem → Prop} (h : wp_2_fillUntold k a1 w Q) : V p l e (RM 1) s m args below meth c 2 ad cy D (AW ad) s.heap 0 0 (MQ below (va_Qv Q (BC ad cy D wm wl0) (AW ad)) args s 0 0 (AW ad)) w wm wl0 0 [(0, .ref (ad k)), (1, .int a1)] [] := by
  unfold wp_2_fillUntold at h
  refine V_aload_n X (i := 0) 0 dX2_fillUntold_0 rfl rfl ?_
  refine G_2_31 X (hk).1 (hk).2.1 (Law_r6 hk) dX2_fillUntold_1 ?_
  obtain ⟨ht, hf⟩ := h
  refine V_if_ne X (tgt := 17) dX2_fillUntold_4 (by decide) (fun c => ?_) (fun c => ?_)
  · have h := ht c
    exact V_vret_c X hr dX2_fillUntold_17 h
  · have h := hf c
    refine V_aload_n X (i := 0) 0 dX2_fillUntold_7 rfl rfl ?_
    refine V_iconst X (v := (0 : Int32)) dX2_fillUntold_8 (by decide) ?_
    refine V_iload_n X (i := 1) 1 dX2_fillUntold_9 rfl rfl ?_
    refine K_2_add X (Or.inl q_448) hk h ⟨Nat.le_of_ble_eq_true rfl, Nat.le_of_ble_eq_true rfl⟩ ⟨Nat.zero_le _, Nat.zero_le _⟩ (st1 := []) (Nat.le_of_ble_eq_true rfl) dX2_fillUntold_10 (fun w1 h => ?_)
    refine V_aload_n X (i := 0) 0 dX2_fillUntold_13 rfl rfl ?_
    refine K_2_endPiece X (Or.inl q_452) hk h ⟨Nat.le_of_ble_eq_true rfl, Nat.le_of_ble_eq_true rfl⟩ ⟨Nat.zero_le _, Nat.zero_le _⟩ (st1 := []) (Nat.le_of_ble_eq_true rfl) dX2_fillUntold_14 (fun w2 h => ?_)
    exact V_vret_c X hr dX2_fillUntold_17 h
theorem c_2_fillUntold {k : Nat} {a1 : Int32} (hinj : INJ ad) (hk : isLaw k) {w : Mem} {Q : Mem → Prop} (h : wp_2_fillUntold k a1 w Q) : Met l yX2_fillUntold (TB yX2_fillUntold cX2_fillUntold 2 none) (RM 1) (va_Pc [.ref (ad k), .int a1] (PB ad cy D (cmb w wm) wl0)) (va_Qv Q (BC ad cy D wm wl0) (AW ad)) 0 0 (AW ad) := M_enter (by decide) (Nat.le_of_ble_eq_true rfl) hinj (fun p e s m args below meth c X hr => v_2_fillUntold X hr hk h)
theorem mf_2_fillUntold : MFV yX2_fillUntold cX2_fillUntold 2 none yX2_fillUntold.cls 1 := ⟨q_447, q_445, q_446, q_6, by decide⟩
theorem K_2_fillUntold {own : String} {idx : Nat} {k : Nat} {a1 : Int32} (X : CX p s m args meth c cc nL own ad cy D A) (hL : LK own idx yX2_fillUntold) (hk : isLaw k) {w : Mem} {Q : Mem → Prop} (h : wp_2_fillUntold k a1 w Q) (hR : (RM 1).frames + 1 ≤ R.frames ∧ 8 + (2 + 11) + (RM 1).locals ≤ R.locals) (hce : ce ≤ R.cells ∧ sl ≤ R.slots) (hcat : (st1.map fun v => v.category).sum ≤ 8) (hd : decode cc pc = .ok (.invokevirtual idx, 3)) (kk : ∀ (u : Mem), Q u → V p l e R s m args below meth c nL ad cy D A H0 ce sl Qs u wm wl0 (pc + 3) ls st1) : V p l e R s m args below meth c nL ad cy D A H0 ce sl Qs w wm wl0 pc ls (.int a1 :: .ref (ad k) :: st1) := V_callVV_c X mf_2_fillUntold hL (rfl : vwCl[2]? = some (RX2, TX2, 8)) (by decide) (hk).1 (Nat.lt_trans (hk).2.1 (by decide)) (c_2_fillUntold X.2.2.2.2.2.2.2.1 hk h) (As := [.int a1]) rfl ⟨rfl, rfl⟩ hR hce st1 rfl hcat hd kk
def wp_4_clear (k : Nat) (w : Mem) (Q : Mem → Prop) : Prop := (∀ w1 : Mem, w1 = st w k 6 (0 : Int32) → (∀ w2 : Mem, w2 = st w1 k 7 (0 : Int32) → (Q w2)))
set_option maxRecDepth 20000 in
theorem v_4_clear {k : Nat} (X : CX p s m args meth c cX4_clear 1 yX4_clear.cls ad cy D (AW ad)) (hr : meth.sig.returnType = none) (hk : isPeople k) {w : Mem} {Q : Mem → Prop} (h : wp_4_clear k w Q) : V p l e (RM 0) s m args below meth c 1 ad cy D (AW ad) s.heap 0 0 (MQ below (va_Qv Q (BC ad cy D wm wl0) (AW ad)) args s 0 0 (AW ad)) w wm wl0 0 [(0, .ref (ad k))] [] := by
  unfold wp_4_clear at h
  refine V_aload_n X (i := 0) 0 dX4_clear_0 rfl rfl ?_
  refine V_iconst X (v := (0 : Int32)) dX4_clear_1 (by decide) ?_
  obtain ⟨w1, ew1⟩ : ∃ y : Mem, y = st w k 6 (0 : Int32) := ⟨_, rfl⟩
  have h := h w1 ew1
  refine U_4_30 X (hk).1 (hk).2.1 (People_r6 hk) rfl rfl dX4_clear_2 ew1 ?_
  refine V_aload_n X (i := 0) 0 dX4_clear_5 rfl rfl ?_
  refine V_iconst X (v := (0 : Int32)) dX4_clear_6 (by decide) ?_
  obtain ⟨w2, ew2⟩ : ∃ y : Mem, y = st w1 k 7 (0 : Int32) := ⟨_, rfl⟩
  have h := h w2 ew2
  refine U_4_34 X (hk).1 (hk).2.1 (People_r7 hk) rfl rfl dX4_clear_7 ew2 ?_
  exact V_vret_c X hr dX4_clear_10 h
theorem c_4_clear {k : Nat} (hinj : INJ ad) (hk : isPeople k) {w : Mem} {Q : Mem → Prop} (h : wp_4_clear k w Q) : Met l yX4_clear (TB yX4_clear cX4_clear 1 none) (RM 0) (va_Pc [.ref (ad k)] (PB ad cy D (cmb w wm) wl0)) (va_Qv Q (BC ad cy D wm wl0) (AW ad)) 0 0 (AW ad) := M_enter (by decide) (Nat.le_of_ble_eq_true rfl) hinj (fun p e s m args below meth c X hr => v_4_clear X hr hk h)
theorem mf_4_clear : MFV yX4_clear cX4_clear 1 none yX4_clear.cls 0 := ⟨q_439, q_437, q_438, q_7, by decide⟩
theorem K_4_clear {own : String} {idx : Nat} {k : Nat} (X : CX p s m args meth c cc nL own ad cy D A) (hL : LK own idx yX4_clear) (hk : isPeople k) {w : Mem} {Q : Mem → Prop} (h : wp_4_clear k w Q) (hR : (RM 0).frames + 1 ≤ R.frames ∧ 8 + (1 + 11) + (RM 0).locals ≤ R.locals) (hce : ce ≤ R.cells ∧ sl ≤ R.slots) (hcat : (st1.map fun v => v.category).sum ≤ 8) (hd : decode cc pc = .ok (.invokevirtual idx, 3)) (kk : ∀ (u : Mem), Q u → V p l e R s m args below meth c nL ad cy D A H0 ce sl Qs u wm wl0 (pc + 3) ls st1) : V p l e R s m args below meth c nL ad cy D A H0 ce sl Qs w wm wl0 pc ls (.ref (ad k) :: st1) := V_callVV_c X mf_4_clear hL (rfl : vwCl[4]? = some (RX4, TX4, 8)) (by decide) (hk).1 (Nat.lt_trans (hk).2.1 (by decide)) (c_4_clear X.2.2.2.2.2.2.2.1 hk h) (As := []) rfl ⟨rfl, rfl⟩ hR hce st1 rfl hcat hd kk
def wp_4_isFull_b36 (k : Nat) (Q : Int32 → Mem → Prop) (w : Mem) : Prop := (Q (0 : Int32) w)
def wp_4_isFull_b32 (k : Nat) (Q : Int32 → Mem → Prop) (w : Mem) : Prop := (Q (1 : Int32) w)
def wp_4_isFull_b16 (k : Nat) (Q : Int32 → Mem → Prop) (l1 : Int32) (w : Mem) : Prop := ((¬ l1 = (136 : Int32) → (wp_4_isFull_b36 k Q w)) ∧ (¬ (¬ l1 = (136 : Int32)) → (((w k 7) < (7 : Int32) → (wp_4_isFull_b36 k Q w)) ∧ (¬ ((w k 7) < (7 : Int32)) → (wp_4_isFull_b32 k Q w)))))
def wp_4_isFull (k : Nat) (a1 : Int32) (w : Mem) (Q : Int32 → Mem → Prop) : Prop := ((¬ a1 = (135 : Int32) → (wp_4_isFull_b16 k Q a1 w)) ∧ (¬ (¬ a1 = (135 : Int32)) → (((8 : Int32) ≤ (w k 6) → (wp_4_isFull_b32 k Q w)) ∧ (¬ ((8 : Int32) ≤ (w k 6)) → (wp_4_isFull_b16 k Q a1 w)))))
set_option maxRecDepth 20000 in
theorem v_4_isFull_b36 (X : CX p s m args meth c cX4_isFull 2 yX4_isFull.cls ad cy D (AW ad)) (hr : meth.sig.returnType = (some .boolean)) {k : Nat} (hk : isPeople k) {Q : Int32 → Mem → Prop} : ∀ (w : Mem), wp_4_isFull_b36 k Q w → V p l e (RM 0) s m args below meth c 2 ad cy D (AW ad) s.heap 0 0 (MQ below (va_Qi Q (BC ad cy D wm wl0) (AW ad)) args s 0 0 (AW ad)) w wm wl0 36 [] [] := by
  intro w h
  unfold wp_4_isFull_b36 at h
  refine V_iconst X (v := (0 : Int32)) dX4_isFull_36 (by decide) ?_
  exact V_zret_c X hr dX4_isFull_37 (by decide) h
set_option maxRecDepth 20000 in
theorem v_4_isFull_b32 (X : CX p s m args meth c cX4_isFull 2 yX4_isFull.cls ad cy D (AW ad)) (hr : meth.sig.returnType = (some .boolean)) {k : Nat} (hk : isPeople k) {Q : Int32 → Mem → Prop} : ∀ (w : Mem), wp_4_isFull_b32 k Q w → V p l e (RM 0) s m args below meth c 2 ad cy D (AW ad) s.heap 0 0 (MQ below (va_Qi Q (BC ad cy D wm wl0) (AW ad)) args s 0 0 (AW ad)) w wm wl0 32 [] [] := by
  intro w h
  unfold wp_4_isFull_b32 at h
  refine V_iconst X (v := (1 : Int32)) dX4_isFull_32 (by decide) ?_
  refine V_goto X (tgt := 37) dX4_isFull_33 (by decide) ?_
  exact V_zret_c X hr dX4_isFull_37 (by decide) h
set_option maxRecDepth 20000 in
theorem v_4_isFull_b16 (X : CX p s m args meth c cX4_isFull 2 yX4_isFull.cls ad cy D (AW ad)) (hr : meth.sig.returnType = (some .boolean)) {k : Nat} (hk : isPeople k) {Q : Int32 → Mem → Prop} : ∀ (l1 : Int32) (w : Mem), wp_4_isFull_b16 k Q l1 w → V p l e (RM 0) s m args below meth c 2 ad cy D (AW ad) s.heap 0 0 (MQ below (va_Qi Q (BC ad cy D wm wl0) (AW ad)) args s 0 0 (AW ad)) w wm wl0 16 [(0, .ref (ad k)), (1, .int l1)] [] := by
  intro l1 w h
  unfold wp_4_isFull_b16 at h
  refine V_iload_n X (i := 1) 1 dX4_isFull_16 rfl rfl ?_
  refine V_sipush X (v := (136 : Int32)) dX4_isFull_17 (by decide) ?_
  obtain ⟨ht, hf⟩ := h
  refine V_icmp_ne X (tgt := 36) dX4_isFull_20 (by decide) (fun c => ?_) (fun c => ?_)
  · have h := ht c
    refine V_sub X (ls1 := []) [] rfl ?_
    exact v_4_isFull_b36 X hr hk _ h
  · have h := hf c
    refine V_aload_n X (i := 0) 0 dX4_isFull_23 rfl rfl ?_
    refine G_4_34 X (hk).1 (hk).2.1 (People_r7 hk) dX4_isFull_24 ?_
    refine V_bipush X (v := (7 : Int32)) dX4_isFull_27 (by decide) ?_
    obtain ⟨ht, hf⟩ := h
    refine V_icmp_lt X (tgt := 36) dX4_isFull_29 (by decide) (fun c => ?_) (fun c => ?_)
    · have h := ht c
      refine V_sub X (ls1 := []) [] rfl ?_
      exact v_4_isFull_b36 X hr hk _ h
    · have h := hf c
      refine V_sub X (ls1 := []) [] rfl ?_
      exact v_4_isFull_b32 X hr hk _ h
set_option maxRecDepth 20000 in
theorem v_4_isFull {k : Nat} {a1 : Int32} (X : CX p s m args meth c cX4_isFull 2 yX4_isFull.cls ad cy D (AW ad)) (hr : meth.sig.returnType = (some .boolean)) (hk : isPeople k) {w : Mem} {Q : Int32 → Mem → Prop} (h : wp_4_isFull k a1 w Q) : V p l e (RM 0) s m args below meth c 2 ad cy D (AW ad) s.heap 0 0 (MQ below (va_Qi Q (BC ad cy D wm wl0) (AW ad)) args s 0 0 (AW ad)) w wm wl0 0 [(0, .ref (ad k)), (1, .int a1)] [] := by
  unfold wp_4_isFull at h
  refine V_iload_n X (i := 1) 1 dX4_isFull_0 rfl rfl ?_
  refine V_sipush X (v := (135 : Int32)) dX4_isFull_1 (by decide) ?_
  obtain ⟨ht, hf⟩ := h
  refine V_icmp_ne X (tgt := 16) dX4_isFull_4 (by decide) (fun c => ?_) (fun c => ?_)
  · have h := ht c
    refine V_sub X (ls1 := [(0, .ref (ad k)), (1, .int a1)]) [0, 1] rfl ?_
    exact v_4_isFull_b16 X hr hk _ _ h
  · have h := hf c
    refine V_aload_n X (i := 0) 0 dX4_isFull_7 rfl rfl ?_
    refine G_4_30 X (hk).1 (hk).2.1 (People_r6 hk) dX4_isFull_8 ?_
    refine V_bipush X (v := (8 : Int32)) dX4_isFull_11 (by decide) ?_
    obtain ⟨ht, hf⟩ := h
    refine V_icmp_ge X (tgt := 32) dX4_isFull_13 (by decide) (fun c => ?_) (fun c => ?_)
    · have h := ht c
      refine V_sub X (ls1 := []) [] rfl ?_
      exact v_4_isFull_b32 X hr hk _ h
    · have h := hf c
      refine V_sub X (ls1 := [(0, .ref (ad k)), (1, .int a1)]) [0, 1] rfl ?_
      exact v_4_isFull_b16 X hr hk _ _ h
theorem c_4_isFull {k : Nat} {a1 : Int32} (hinj : INJ ad) (hk : isPeople k) {w : Mem} {Q : Int32 → Mem → Prop} (h : wp_4_isFull k a1 w Q) : Met l yX4_isFull (TB yX4_isFull cX4_isFull 2 (some .boolean)) (RM 0) (va_Pc [.ref (ad k), .int a1] (PB ad cy D (cmb w wm) wl0)) (va_Qi Q (BC ad cy D wm wl0) (AW ad)) 0 0 (AW ad) := M_enter (by decide) (Nat.le_of_ble_eq_true rfl) hinj (fun p e s m args below meth c X hr => v_4_isFull X hr hk h)
theorem mf_4_isFull : MFV yX4_isFull cX4_isFull 2 (some .boolean) yX4_isFull.cls 1 := ⟨q_701, q_699, q_700, q_7, by decide⟩
theorem K_4_isFull {own : String} {idx : Nat} {k : Nat} {a1 : Int32} (X : CX p s m args meth c cc nL own ad cy D A) (hL : LK own idx yX4_isFull) (hk : isPeople k) {w : Mem} {Q : Int32 → Mem → Prop} (h : wp_4_isFull k a1 w Q) (hR : (RM 0).frames + 1 ≤ R.frames ∧ 8 + (2 + 11) + (RM 0).locals ≤ R.locals) (hce : ce ≤ R.cells ∧ sl ≤ R.slots) (hcat : (st1.map fun v => v.category).sum ≤ 8) (hd : decode cc pc = .ok (.invokevirtual idx, 3)) (kk : ∀ (r : Int32) (u : Mem), Q r u → V p l e R s m args below meth c nL ad cy D A H0 ce sl Qs u wm wl0 (pc + 3) ls (.int r :: st1)) : V p l e R s m args below meth c nL ad cy D A H0 ce sl Qs w wm wl0 pc ls (.int a1 :: .ref (ad k) :: st1) := V_callVI_c X mf_4_isFull hL (rfl : vwCl[4]? = some (RX4, TX4, 8)) (by decide) (hk).1 (Nat.lt_trans (hk).2.1 (by decide)) (c_4_isFull X.2.2.2.2.2.2.2.1 hk h) (As := [.int a1]) rfl ⟨rfl, rfl⟩ hR hce st1 rfl hcat hd kk
def wp_7_byteAt_b25 (Q : Int32 → Mem → Prop) (w : Mem) : Prop := (Q (-1 : Int32) w)
def wp_7_byteAt (a1 : Int32) (w : Mem) (Q : Int32 → Mem → Prop) : Prop := ((a1 < 0 → (wp_7_byteAt_b25 Q w)) ∧ (¬ (a1 < 0) → (((w 1 1) ≤ a1 → (wp_7_byteAt_b25 Q w)) ∧ (¬ ((w 1 1) ≤ a1) → (vp_in a1 2000 ∧ (Q ((w 2 (ix a1)) &&& (255 : Int32)) w))))))
set_option maxRecDepth 20000 in
theorem v_7_byteAt_b25 (X : CX p s m args meth c cX7_byteAt 2 yX7_byteAt.cls ad cy D (AW ad)) (hr : meth.sig.returnType = (some .int)) {Q : Int32 → Mem → Prop} : ∀ (w : Mem), wp_7_byteAt_b25 Q w → V p l e (RM 0) s m args below meth c 2 ad cy D (AW ad) s.heap 0 0 (MQ below (va_Qi Q (BC ad cy D wm wl0) (AW ad)) args s 0 0 (AW ad)) w wm wl0 25 [] [] := by
  intro w h
  unfold wp_7_byteAt_b25 at h
  refine V_iconst X (v := (-1 : Int32)) dX7_byteAt_25 (by decide) ?_
  exact V_iret_c X hr dX7_byteAt_26 h
set_option maxRecDepth 20000 in
theorem v_7_byteAt {a1 : Int32} (X : CX p s m args meth c cX7_byteAt 2 yX7_byteAt.cls ad cy D (AW ad)) (hr : meth.sig.returnType = (some .int)) {w : Mem} {Q : Int32 → Mem → Prop} (h : wp_7_byteAt a1 w Q) : V p l e (RM 0) s m args below meth c 2 ad cy D (AW ad) s.heap 0 0 (MQ below (va_Qi Q (BC ad cy D wm wl0) (AW ad)) args s 0 0 (AW ad)) w wm wl0 0 [(0, .ref (ad 1)), (1, .int a1)] [] := by
  unfold wp_7_byteAt at h
  refine V_iload_n X (i := 1) 1 dX7_byteAt_0 rfl rfl ?_
  obtain ⟨ht, hf⟩ := h
  refine V_if_lt X (tgt := 25) dX7_byteAt_1 (by decide) (fun c => ?_) (fun c => ?_)
  · have h := ht c
    refine V_sub X (ls1 := []) [] rfl ?_
    exact v_7_byteAt_b25 X hr _ h
  · have h := hf c
    refine V_iload_n X (i := 1) 1 dX7_byteAt_4 rfl rfl ?_
    refine V_aload_n X (i := 0) 0 dX7_byteAt_5 rfl rfl ?_
    refine G_7_15 X dX7_byteAt_6 ?_
    obtain ⟨ht, hf⟩ := h
    refine V_icmp_ge X (tgt := 25) dX7_byteAt_9 (by decide) (fun c => ?_) (fun c => ?_)
    · have h := ht c
      refine V_sub X (ls1 := []) [] rfl ?_
      exact v_7_byteAt_b25 X hr _ h
    · have h := hf c
      refine V_aload_n X (i := 0) 0 dX7_byteAt_12 rfl rfl ?_
      refine G_7_11 X dX7_byteAt_13 ?_
      refine V_iload_n X (i := 1) 1 dX7_byteAt_16 rfl rfl ?_
      obtain ⟨g1, h⟩ := h
      refine V_bald_c X (rfl : SL 2 = 2000) (by decide) (rfl : SK 2 = 13) g1 dX7_byteAt_17 ?_
      refine V_sipush X (v := (255 : Int32)) dX7_byteAt_18 (by decide) ?_
      refine V_iand X dX7_byteAt_21 ?_
      refine V_goto X (tgt := 26) dX7_byteAt_22 (by decide) ?_
      exact V_iret_c X hr dX7_byteAt_26 h
theorem c_7_byteAt {a1 : Int32} (hinj : INJ ad) {w : Mem} {Q : Int32 → Mem → Prop} (h : wp_7_byteAt a1 w Q) : Met l yX7_byteAt (TB yX7_byteAt cX7_byteAt 2 (some .int)) (RM 0) (va_Pc [.ref (ad 1), .int a1] (PB ad cy D (cmb w wm) wl0)) (va_Qi Q (BC ad cy D wm wl0) (AW ad)) 0 0 (AW ad) := M_enter (by decide) (Nat.le_of_ble_eq_true rfl) hinj (fun p e s m args below meth c X hr => v_7_byteAt X hr h)
theorem mf_7_byteAt : MFV yX7_byteAt cX7_byteAt 2 (some .int) yX7_byteAt.cls 1 := ⟨q_550, q_548, q_549, q_2, by decide⟩
theorem K_7_byteAt {own : String} {idx : Nat} {a1 : Int32} (X : CX p s m args meth c cc nL own ad cy D A) (hL : LK own idx yX7_byteAt) {w : Mem} {Q : Int32 → Mem → Prop} (h : wp_7_byteAt a1 w Q) (hR : (RM 0).frames + 1 ≤ R.frames ∧ 8 + (2 + 11) + (RM 0).locals ≤ R.locals) (hce : ce ≤ R.cells ∧ sl ≤ R.slots) (hcat : (st1.map fun v => v.category).sum ≤ 8) (hd : decode cc pc = .ok (.invokevirtual idx, 3)) (kk : ∀ (r : Int32) (u : Mem), Q r u → V p l e R s m args below meth c nL ad cy D A H0 ce sl Qs u wm wl0 (pc + 3) ls (.int r :: st1)) : V p l e R s m args below meth c nL ad cy D A H0 ce sl Qs w wm wl0 pc ls (.int a1 :: .ref (ad 1) :: st1) := V_callVI_c X mf_7_byteAt hL (rfl : vwCl[7]? = some (RX7, TX7, 2)) (by decide) (rfl : SK 1 = 7) (by decide) (c_7_byteAt X.2.2.2.2.2.2.2.1 h) (As := [.int a1]) rfl ⟨rfl, rfl⟩ hR hce st1 rfl hcat hd kk
def wp_4_addMan (k : Nat) (a1 : Int32) (a2 : Int32) (a3 : Int32) (a4 : Int32) (w : Mem) (Q : Mem → Prop) : Prop := (((8 : Int32) ≤ (w k 6) → (Q w)) ∧ (¬ ((8 : Int32) ≤ (w k 6)) → (vp_in (w k 6) 8 ∧ (∀ w2 : Mem, w2 = st w (k + 1) (ix (w k 6)) a1 → (vp_in (w2 k 6) 8 ∧ (∀ w4 : Mem, w4 = st w2 (k + 2) (ix (w2 k 6)) a2 → (vp_in (w4 k 6) 8 ∧ (∀ w6 : Mem, w6 = st w4 (k + 3) (ix (w4 k 6)) a3 → (vp_in (w6 k 6) 8 ∧ (∀ w8 : Mem, w8 = st w6 (k + 4) (ix (w6 k 6)) a4 → (∀ w9 : Mem, w9 = st w8 k 6 ((w8 k 6) + (1 : Int32)) → (Q w9))))))))))))
set_option maxRecDepth 20000 in
theorem v_4_addMan {k : Nat} {a1 : Int32} {a2 : Int32} {a3 : Int32} {a4 : Int32} (X : CX p s m args meth c cX4_addMan 5 yX4_addMan.cls ad cy D (AW ad)) (hr : meth.sig.returnType = none) (hk : isPeople k) {w : Mem} {Q : Mem → Prop} (h : wp_4_addMan k a1 a2 a3 a4 w Q) : V p l e (RM 0) s m args below meth c 5 ad cy D (AW ad) s.heap 0 0 (MQ below (va_Qv Q (BC ad cy D wm wl0) (AW ad)) args s 0 0 (AW ad)) w wm wl0 0 [(0, .ref (ad k)), (1, .int a1), (2, .int a2), (3, .int a3), (4, .int a4)] [] := by
  unfold wp_4_addMan at h
  refine V_aload_n X (i := 0) 0 dX4_addMan_0 rfl rfl ?_
  refine G_4_30 X (hk).1 (hk).2.1 (People_r6 hk) dX4_addMan_1 ?_
  refine V_bipush X (v := (8 : Int32)) dX4_addMan_4 (by decide) ?_
  obtain ⟨ht, hf⟩ := h
  refine V_icmp_ge X (tgt := 60) dX4_addMan_6 (by decide) (fun c => ?_) (fun c => ?_)
  · have h := ht c
    exact V_vret_c X hr dX4_addMan_60 h
  · have h := hf c
    refine V_aload_n X (i := 0) 0 dX4_addMan_9 rfl rfl ?_
    refine G_4_9 X (hk).1 (hk).2.1 (People_r0 hk) dX4_addMan_10 ?_
    refine V_aload_n X (i := 0) 0 dX4_addMan_13 rfl rfl ?_
    refine G_4_30 X (hk).1 (hk).2.1 (People_r6 hk) dX4_addMan_14 ?_
    refine V_iload_n X (i := 1) 1 dX4_addMan_17 rfl rfl ?_
    obtain ⟨g1, h⟩ := h
    obtain ⟨w2, ew2⟩ : ∃ y : Mem, y = st w (k + 1) (ix (w k 6)) a1 := ⟨_, rfl⟩
    have h := h w2 ew2
    refine V_iast_c X ((People_s0 hk)).2.1 ((People_s0 hk)).2.2 ((People_s0 hk)).1 g1 dX4_addMan_18 ew2 ?_
    refine V_aload_n X (i := 0) 0 dX4_addMan_19 rfl rfl ?_
    refine G_4_15 X (hk).1 (hk).2.1 (People_r1 hk) dX4_addMan_20 ?_
    refine V_aload_n X (i := 0) 0 dX4_addMan_23 rfl rfl ?_
    refine G_4_30 X (hk).1 (hk).2.1 (People_r6 hk) dX4_addMan_24 ?_
    refine V_iload_n X (i := 2) 2 dX4_addMan_27 rfl rfl ?_
    obtain ⟨g3, h⟩ := h
    obtain ⟨w4, ew4⟩ : ∃ y : Mem, y = st w2 (k + 2) (ix (w2 k 6)) a2 := ⟨_, rfl⟩
    have h := h w4 ew4
    refine V_iast_c X ((People_s1 hk)).2.1 ((People_s1 hk)).2.2 ((People_s1 hk)).1 g3 dX4_addMan_28 ew4 ?_
    refine V_aload_n X (i := 0) 0 dX4_addMan_29 rfl rfl ?_
    refine G_4_18 X (hk).1 (hk).2.1 (People_r2 hk) dX4_addMan_30 ?_
    refine V_aload_n X (i := 0) 0 dX4_addMan_33 rfl rfl ?_
    refine G_4_30 X (hk).1 (hk).2.1 (People_r6 hk) dX4_addMan_34 ?_
    refine V_iload_n X (i := 3) 3 dX4_addMan_37 rfl rfl ?_
    obtain ⟨g5, h⟩ := h
    obtain ⟨w6, ew6⟩ : ∃ y : Mem, y = st w4 (k + 3) (ix (w4 k 6)) a3 := ⟨_, rfl⟩
    have h := h w6 ew6
    refine V_iast_c X ((People_s2 hk)).2.1 ((People_s2 hk)).2.2 ((People_s2 hk)).1 g5 dX4_addMan_38 ew6 ?_
    refine V_aload_n X (i := 0) 0 dX4_addMan_39 rfl rfl ?_
    refine G_4_21 X (hk).1 (hk).2.1 (People_r3 hk) dX4_addMan_40 ?_
    refine V_aload_n X (i := 0) 0 dX4_addMan_43 rfl rfl ?_
    refine G_4_30 X (hk).1 (hk).2.1 (People_r6 hk) dX4_addMan_44 ?_
    refine V_iload X (i := 4) 4 dX4_addMan_47 rfl ?_
    obtain ⟨g7, h⟩ := h
    obtain ⟨w8, ew8⟩ : ∃ y : Mem, y = st w6 (k + 4) (ix (w6 k 6)) a4 := ⟨_, rfl⟩
    have h := h w8 ew8
    refine V_iast_c X ((People_s3 hk)).2.1 ((People_s3 hk)).2.2 ((People_s3 hk)).1 g7 dX4_addMan_49 ew8 ?_
    refine V_aload_n X (i := 0) 0 dX4_addMan_50 rfl rfl ?_
    refine V_dup X dX4_addMan_51 rfl ?_
    refine G_4_30 X (hk).1 (hk).2.1 (People_r6 hk) dX4_addMan_52 ?_
    refine V_iconst X (v := (1 : Int32)) dX4_addMan_55 (by decide) ?_
    refine V_iadd X dX4_addMan_56 ?_
    obtain ⟨w9, ew9⟩ : ∃ y : Mem, y = st w8 k 6 ((w8 k 6) + (1 : Int32)) := ⟨_, rfl⟩
    have h := h w9 ew9
    refine U_4_30 X (hk).1 (hk).2.1 (People_r6 hk) rfl rfl dX4_addMan_57 ew9 ?_
    exact V_vret_c X hr dX4_addMan_60 h
theorem c_4_addMan {k : Nat} {a1 : Int32} {a2 : Int32} {a3 : Int32} {a4 : Int32} (hinj : INJ ad) (hk : isPeople k) {w : Mem} {Q : Mem → Prop} (h : wp_4_addMan k a1 a2 a3 a4 w Q) : Met l yX4_addMan (TB yX4_addMan cX4_addMan 5 none) (RM 0) (va_Pc [.ref (ad k), .int a1, .int a2, .int a3, .int a4] (PB ad cy D (cmb w wm) wl0)) (va_Qv Q (BC ad cy D wm wl0) (AW ad)) 0 0 (AW ad) := M_enter (by decide) (Nat.le_of_ble_eq_true rfl) hinj (fun p e s m args below meth c X hr => v_4_addMan X hr hk h)
theorem mf_4_addMan : MFV yX4_addMan cX4_addMan 5 none yX4_addMan.cls 4 := ⟨q_757, q_755, q_756, q_7, by decide⟩
theorem K_4_addMan {own : String} {idx : Nat} {k : Nat} {a1 : Int32} {a2 : Int32} {a3 : Int32} {a4 : Int32} (X : CX p s m args meth c cc nL own ad cy D A) (hL : LK own idx yX4_addMan) (hk : isPeople k) {w : Mem} {Q : Mem → Prop} (h : wp_4_addMan k a1 a2 a3 a4 w Q) (hR : (RM 0).frames + 1 ≤ R.frames ∧ 8 + (5 + 11) + (RM 0).locals ≤ R.locals) (hce : ce ≤ R.cells ∧ sl ≤ R.slots) (hcat : (st1.map fun v => v.category).sum ≤ 8) (hd : decode cc pc = .ok (.invokevirtual idx, 3)) (kk : ∀ (u : Mem), Q u → V p l e R s m args below meth c nL ad cy D A H0 ce sl Qs u wm wl0 (pc + 3) ls st1) : V p l e R s m args below meth c nL ad cy D A H0 ce sl Qs w wm wl0 pc ls (.int a4 :: .int a3 :: .int a2 :: .int a1 :: .ref (ad k) :: st1) := V_callVV_c X mf_4_addMan hL (rfl : vwCl[4]? = some (RX4, TX4, 8)) (by decide) (hk).1 (Nat.lt_trans (hk).2.1 (by decide)) (c_4_addMan X.2.2.2.2.2.2.2.1 hk h) (As := [.int a1, .int a2, .int a3, .int a4]) rfl ⟨rfl, rfl⟩ hR hce st1 rfl hcat hd kk
def wp_4_addJudge (k : Nat) (a1 : Int32) (a2 : Int32) (w : Mem) (Q : Mem → Prop) : Prop := (((7 : Int32) ≤ (w k 7) → (Q w)) ∧ (¬ ((7 : Int32) ≤ (w k 7)) → (vp_in (w k 7) 7 ∧ (∀ w2 : Mem, w2 = st w (k + 5) (ix (w k 7)) a1 → (vp_in (w2 k 7) 7 ∧ (∀ w4 : Mem, w4 = st w2 (k + 6) (ix (w2 k 7)) a2 → (∀ w5 : Mem, w5 = st w4 k 7 ((w4 k 7) + (1 : Int32)) → (Q w5))))))))
set_option maxRecDepth 20000 in
theorem v_4_addJudge {k : Nat} {a1 : Int32} {a2 : Int32} (X : CX p s m args meth c cX4_addJudge 3 yX4_addJudge.cls ad cy D (AW ad)) (hr : meth.sig.returnType = none) (hk : isPeople k) {w : Mem} {Q : Mem → Prop} (h : wp_4_addJudge k a1 a2 w Q) : V p l e (RM 0) s m args below meth c 3 ad cy D (AW ad) s.heap 0 0 (MQ below (va_Qv Q (BC ad cy D wm wl0) (AW ad)) args s 0 0 (AW ad)) w wm wl0 0 [(0, .ref (ad k)), (1, .int a1), (2, .int a2)] [] := by
  unfold wp_4_addJudge at h
  refine V_aload_n X (i := 0) 0 dX4_addJudge_0 rfl rfl ?_
  refine G_4_34 X (hk).1 (hk).2.1 (People_r7 hk) dX4_addJudge_1 ?_
  refine V_bipush X (v := (7 : Int32)) dX4_addJudge_4 (by decide) ?_
  obtain ⟨ht, hf⟩ := h
  refine V_icmp_ge X (tgt := 39) dX4_addJudge_6 (by decide) (fun c => ?_) (fun c => ?_)
  · have h := ht c
    exact V_vret_c X hr dX4_addJudge_39 h
  · have h := hf c
    refine V_aload_n X (i := 0) 0 dX4_addJudge_9 rfl rfl ?_
    refine G_4_24 X (hk).1 (hk).2.1 (People_r4 hk) dX4_addJudge_10 ?_
    refine V_aload_n X (i := 0) 0 dX4_addJudge_13 rfl rfl ?_
    refine G_4_34 X (hk).1 (hk).2.1 (People_r7 hk) dX4_addJudge_14 ?_
    refine V_iload_n X (i := 1) 1 dX4_addJudge_17 rfl rfl ?_
    obtain ⟨g1, h⟩ := h
    obtain ⟨w2, ew2⟩ : ∃ y : Mem, y = st w (k + 5) (ix (w k 7)) a1 := ⟨_, rfl⟩
    have h := h w2 ew2
    refine V_iast_c X ((People_s4 hk)).2.1 ((People_s4 hk)).2.2 ((People_s4 hk)).1 g1 dX4_addJudge_18 ew2 ?_
    refine V_aload_n X (i := 0) 0 dX4_addJudge_19 rfl rfl ?_
    refine G_4_27 X (hk).1 (hk).2.1 (People_r5 hk) dX4_addJudge_20 ?_
    refine V_aload_n X (i := 0) 0 dX4_addJudge_23 rfl rfl ?_
    refine G_4_34 X (hk).1 (hk).2.1 (People_r7 hk) dX4_addJudge_24 ?_
    refine V_iload_n X (i := 2) 2 dX4_addJudge_27 rfl rfl ?_
    obtain ⟨g3, h⟩ := h
    obtain ⟨w4, ew4⟩ : ∃ y : Mem, y = st w2 (k + 6) (ix (w2 k 7)) a2 := ⟨_, rfl⟩
    have h := h w4 ew4
    refine V_iast_c X ((People_s5 hk)).2.1 ((People_s5 hk)).2.2 ((People_s5 hk)).1 g3 dX4_addJudge_28 ew4 ?_
    refine V_aload_n X (i := 0) 0 dX4_addJudge_29 rfl rfl ?_
    refine V_dup X dX4_addJudge_30 rfl ?_
    refine G_4_34 X (hk).1 (hk).2.1 (People_r7 hk) dX4_addJudge_31 ?_
    refine V_iconst X (v := (1 : Int32)) dX4_addJudge_34 (by decide) ?_
    refine V_iadd X dX4_addJudge_35 ?_
    obtain ⟨w5, ew5⟩ : ∃ y : Mem, y = st w4 k 7 ((w4 k 7) + (1 : Int32)) := ⟨_, rfl⟩
    have h := h w5 ew5
    refine U_4_34 X (hk).1 (hk).2.1 (People_r7 hk) rfl rfl dX4_addJudge_36 ew5 ?_
    exact V_vret_c X hr dX4_addJudge_39 h
theorem c_4_addJudge {k : Nat} {a1 : Int32} {a2 : Int32} (hinj : INJ ad) (hk : isPeople k) {w : Mem} {Q : Mem → Prop} (h : wp_4_addJudge k a1 a2 w Q) : Met l yX4_addJudge (TB yX4_addJudge cX4_addJudge 3 none) (RM 0) (va_Pc [.ref (ad k), .int a1, .int a2] (PB ad cy D (cmb w wm) wl0)) (va_Qv Q (BC ad cy D wm wl0) (AW ad)) 0 0 (AW ad) := M_enter (by decide) (Nat.le_of_ble_eq_true rfl) hinj (fun p e s m args below meth c X hr => v_4_addJudge X hr hk h)
theorem mf_4_addJudge : MFV yX4_addJudge cX4_addJudge 3 none yX4_addJudge.cls 2 := ⟨q_765, q_763, q_764, q_7, by decide⟩
theorem K_4_addJudge {own : String} {idx : Nat} {k : Nat} {a1 : Int32} {a2 : Int32} (X : CX p s m args meth c cc nL own ad cy D A) (hL : LK own idx yX4_addJudge) (hk : isPeople k) {w : Mem} {Q : Mem → Prop} (h : wp_4_addJudge k a1 a2 w Q) (hR : (RM 0).frames + 1 ≤ R.frames ∧ 8 + (3 + 11) + (RM 0).locals ≤ R.locals) (hce : ce ≤ R.cells ∧ sl ≤ R.slots) (hcat : (st1.map fun v => v.category).sum ≤ 8) (hd : decode cc pc = .ok (.invokevirtual idx, 3)) (kk : ∀ (u : Mem), Q u → V p l e R s m args below meth c nL ad cy D A H0 ce sl Qs u wm wl0 (pc + 3) ls st1) : V p l e R s m args below meth c nL ad cy D A H0 ce sl Qs w wm wl0 pc ls (.int a2 :: .int a1 :: .ref (ad k) :: st1) := V_callVV_c X mf_4_addJudge hL (rfl : vwCl[4]? = some (RX4, TX4, 8)) (by decide) (hk).1 (Nat.lt_trans (hk).2.1 (by decide)) (c_4_addJudge X.2.2.2.2.2.2.2.1 hk h) (As := [.int a1, .int a2]) rfl ⟨rfl, rfl⟩ hR hce st1 rfl hcat hd kk
def wp_7_hasRoom (a1 : Int32) (w : Mem) (Q : Int32 → Mem → Prop) : Prop := (((2000 : Int32) < ((w 1 1) + a1) → (Q (0 : Int32) w)) ∧ (¬ ((2000 : Int32) < ((w 1 1) + a1)) → (Q (1 : Int32) w)))
set_option maxRecDepth 20000 in
theorem v_7_hasRoom {a1 : Int32} (X : CX p s m args meth c cX7_hasRoom 2 yX7_hasRoom.cls ad cy D (AW ad)) (hr : meth.sig.returnType = (some .boolean)) {w : Mem} {Q : Int32 → Mem → Prop} (h : wp_7_hasRoom a1 w Q) : V p l e (RM 0) s m args below meth c 2 ad cy D (AW ad) s.heap 0 0 (MQ below (va_Qi Q (BC ad cy D wm wl0) (AW ad)) args s 0 0 (AW ad)) w wm wl0 0 [(0, .ref (ad 1)), (1, .int a1)] [] := by
  unfold wp_7_hasRoom at h
  refine V_aload_n X (i := 0) 0 dX7_hasRoom_0 rfl rfl ?_
  refine G_7_15 X dX7_hasRoom_1 ?_
  refine V_iload_n X (i := 1) 1 dX7_hasRoom_4 rfl rfl ?_
  refine V_iadd X dX7_hasRoom_5 ?_
  refine V_sipush X (v := (2000 : Int32)) dX7_hasRoom_6 (by decide) ?_
  obtain ⟨ht, hf⟩ := h
  refine V_icmp_gt X (tgt := 16) dX7_hasRoom_9 (by decide) (fun c => ?_) (fun c => ?_)
  · have h := ht c
    refine V_iconst X (v := (0 : Int32)) dX7_hasRoom_16 (by decide) ?_
    exact V_zret_c X hr dX7_hasRoom_17 (by decide) h
  · have h := hf c
    refine V_iconst X (v := (1 : Int32)) dX7_hasRoom_12 (by decide) ?_
    refine V_goto X (tgt := 17) dX7_hasRoom_13 (by decide) ?_
    exact V_zret_c X hr dX7_hasRoom_17 (by decide) h
theorem c_7_hasRoom {a1 : Int32} (hinj : INJ ad) {w : Mem} {Q : Int32 → Mem → Prop} (h : wp_7_hasRoom a1 w Q) : Met l yX7_hasRoom (TB yX7_hasRoom cX7_hasRoom 2 (some .boolean)) (RM 0) (va_Pc [.ref (ad 1), .int a1] (PB ad cy D (cmb w wm) wl0)) (va_Qi Q (BC ad cy D wm wl0) (AW ad)) 0 0 (AW ad) := M_enter (by decide) (Nat.le_of_ble_eq_true rfl) hinj (fun p e s m args below meth c X hr => v_7_hasRoom X hr h)
theorem mf_7_hasRoom : MFV yX7_hasRoom cX7_hasRoom 2 (some .boolean) yX7_hasRoom.cls 1 := ⟨q_522, q_520, q_521, q_2, by decide⟩
theorem K_7_hasRoom {own : String} {idx : Nat} {a1 : Int32} (X : CX p s m args meth c cc nL own ad cy D A) (hL : LK own idx yX7_hasRoom) {w : Mem} {Q : Int32 → Mem → Prop} (h : wp_7_hasRoom a1 w Q) (hR : (RM 0).frames + 1 ≤ R.frames ∧ 8 + (2 + 11) + (RM 0).locals ≤ R.locals) (hce : ce ≤ R.cells ∧ sl ≤ R.slots) (hcat : (st1.map fun v => v.category).sum ≤ 8) (hd : decode cc pc = .ok (.invokevirtual idx, 3)) (kk : ∀ (r : Int32) (u : Mem), Q r u → V p l e R s m args below meth c nL ad cy D A H0 ce sl Qs u wm wl0 (pc + 3) ls (.int r :: st1)) : V p l e R s m args below meth c nL ad cy D A H0 ce sl Qs w wm wl0 pc ls (.int a1 :: .ref (ad 1) :: st1) := V_callVI_c X mf_7_hasRoom hL (rfl : vwCl[7]? = some (RX7, TX7, 2)) (by decide) (rfl : SK 1 = 7) (by decide) (c_7_hasRoom X.2.2.2.2.2.2.2.1 h) (As := [.int a1]) rfl ⟨rfl, rfl⟩ hR hce st1 rfl hcat hd kk
def wp_7_put_b38 (Q : Mem → Prop) (L3 : Int32 → Int32 → Mem → Prop) (l1 : Int32) (l2 : Int32) (w : Mem) : Prop := (∀ x1 : Int32, x1 = l2 + (-8 : Int32) → (L3 l1 x1 w))
def wp_7_put_b3 (Q : Mem → Prop) : Nat → Int32 → Int32 → Mem → Prop
  | 0, _, _, _ => False
  | n + 1, l1, l2, w => ((l2 < 0 → (Q w)) ∧ (¬ (l2 < 0) → (wp_7_hasRoom (1 : Int32) w (fun (r2 : Int32) (w1 : Mem) => ((r2 = 0 → (wp_7_put_b38 Q ((wp_7_put_b3 Q n)) l1 l2 w1)) ∧ (¬ (r2 = 0) → (vp_in (w1 1 1) 2000 ∧ (∀ w4 : Mem, w4 = st w1 2 (ix (w1 1 1)) (vp_nar .byte ((l1 >>> (l2 &&& 31)).toInt8.toInt32)) → (∀ w5 : Mem, w5 = st w4 1 1 ((w4 1 1) + (1 : Int32)) → (wp_7_put_b38 Q ((wp_7_put_b3 Q n)) l1 l2 w5))))))))))
def wp_7_put (a1 : Int32) (w : Mem) (Q : Mem → Prop) : Prop := (∃ n, wp_7_put_b3 Q n a1 (24 : Int32) w)
set_option maxRecDepth 20000 in
theorem v_7_put_b38 (X : CX p s m args meth c cX7_put 3 yX7_put.cls ad cy D (AW ad)) (hr : meth.sig.returnType = none) {Q : Mem → Prop} {L3 : Int32 → Int32 → Mem → Prop} (HL3 : ∀ (l1 : Int32) (l2 : Int32) (w : Mem), L3 l1 l2 w → V p l e (RM 1) s m args below meth c 3 ad cy D (AW ad) s.heap 0 0 (MQ below (va_Qv Q (BC ad cy D wm wl0) (AW ad)) args s 0 0 (AW ad)) w wm wl0 3 [(0, .ref (ad 1)), (1, .int l1), (2, .int l2)] []) : ∀ (l1 : Int32) (l2 : Int32) (w : Mem), wp_7_put_b38 Q L3 l1 l2 w → V p l e (RM 1) s m args below meth c 3 ad cy D (AW ad) s.heap 0 0 (MQ below (va_Qv Q (BC ad cy D wm wl0) (AW ad)) args s 0 0 (AW ad)) w wm wl0 38 [(0, .ref (ad 1)), (1, .int l1), (2, .int l2)] [] := by
  intro l1 l2 w h
  unfold wp_7_put_b38 at h
  obtain ⟨x1, ex1⟩ : ∃ y : Int32, y = l2 + (-8 : Int32) := ⟨_, rfl⟩
  have h := h x1 ex1
  refine V_iinc X 2 dX7_put_38 rfl (by decide) (by rw [ex1]; rfl) (ls1 := [(2, .int x1), (0, .ref (ad 1)), (1, .int l1)]) rfl ?_
  refine V_goto X (tgt := 3) dX7_put_41 (by decide) ?_
  refine V_sub X (ls1 := [(0, .ref (ad 1)), (1, .int l1), (2, .int x1)]) [1, 2, 0] rfl ?_
  exact HL3 _ _ _ h
set_option maxRecDepth 20000 in
theorem v_7_put_b3 (X : CX p s m args meth c cX7_put 3 yX7_put.cls ad cy D (AW ad)) (hr : meth.sig.returnType = none) {Q : Mem → Prop} : ∀ (n : Nat) (l1 : Int32) (l2 : Int32) (w : Mem), wp_7_put_b3 Q n l1 l2 w → V p l e (RM 1) s m args below meth c 3 ad cy D (AW ad) s.heap 0 0 (MQ below (va_Qv Q (BC ad cy D wm wl0) (AW ad)) args s 0 0 (AW ad)) w wm wl0 3 [(0, .ref (ad 1)), (1, .int l1), (2, .int l2)] [] := by
  intro n
  induction n with
  | zero =>
    intro l1 l2 w h
    exact h.elim
  | succ n ih =>
    intro l1 l2 w h
    unfold wp_7_put_b3 at h
    refine V_iload_n X (i := 2) 2 dX7_put_3 rfl rfl ?_
    obtain ⟨ht, hf⟩ := h
    refine V_if_lt X (tgt := 44) dX7_put_4 (by decide) (fun c => ?_) (fun c => ?_)
    · have h := ht c
      exact V_vret_c X hr dX7_put_44 h
    · have h := hf c
      refine V_aload_n X (i := 0) 0 dX7_put_7 rfl rfl ?_
      refine V_iconst X (v := (1 : Int32)) dX7_put_8 (by decide) ?_
      refine K_7_hasRoom X (Or.inl q_527) h ⟨Nat.le_of_ble_eq_true rfl, Nat.le_of_ble_eq_true rfl⟩ ⟨Nat.zero_le _, Nat.zero_le _⟩ (st1 := []) (Nat.le_of_ble_eq_true rfl) dX7_put_9 (fun r2 w1 h => ?_)
      obtain ⟨ht, hf⟩ := h
      refine V_if_eq X (tgt := 38) dX7_put_12 (by decide) (fun c => ?_) (fun c => ?_)
      · have h := ht c
        refine V_sub X (ls1 := [(0, .ref (ad 1)), (1, .int l1), (2, .int l2)]) [0, 1, 2] rfl ?_
        exact v_7_put_b38 X hr ih _ _ _ h
      · have h := hf c
        refine V_aload_n X (i := 0) 0 dX7_put_15 rfl rfl ?_
        refine G_7_11 X dX7_put_16 ?_
        refine V_aload_n X (i := 0) 0 dX7_put_19 rfl rfl ?_
        refine G_7_15 X dX7_put_20 ?_
        refine V_iload_n X (i := 1) 1 dX7_put_23 rfl rfl ?_
        refine V_iload_n X (i := 2) 2 dX7_put_24 rfl rfl ?_
        refine V_ishr X dX7_put_25 ?_
        refine V_i2b X dX7_put_26 ?_
        obtain ⟨g3, h⟩ := h
        obtain ⟨w4, ew4⟩ : ∃ y : Mem, y = st w1 2 (ix (w1 1 1)) (vp_nar .byte ((l1 >>> (l2 &&& 31)).toInt8.toInt32)) := ⟨_, rfl⟩
        have h := h w4 ew4
        refine V_bast_c X (rfl : SL 2 = 2000) (by decide) (rfl : SK 2 = 13) g3 dX7_put_27 ew4 ?_
        refine V_aload_n X (i := 0) 0 dX7_put_28 rfl rfl ?_
        refine V_dup X dX7_put_29 rfl ?_
        refine G_7_15 X dX7_put_30 ?_
        refine V_iconst X (v := (1 : Int32)) dX7_put_33 (by decide) ?_
        refine V_iadd X dX7_put_34 ?_
        obtain ⟨w5, ew5⟩ : ∃ y : Mem, y = st w4 1 1 ((w4 1 1) + (1 : Int32)) := ⟨_, rfl⟩
        have h := h w5 ew5
        refine U_7_15 X rfl rfl dX7_put_35 ew5 ?_
        refine V_sub X (ls1 := [(0, .ref (ad 1)), (1, .int l1), (2, .int l2)]) [0, 1, 2] rfl ?_
        exact v_7_put_b38 X hr ih _ _ _ h
set_option maxRecDepth 20000 in
theorem v_7_put {a1 : Int32} (X : CX p s m args meth c cX7_put 3 yX7_put.cls ad cy D (AW ad)) (hr : meth.sig.returnType = none) {w : Mem} {Q : Mem → Prop} (h : wp_7_put a1 w Q) : V p l e (RM 1) s m args below meth c 3 ad cy D (AW ad) s.heap 0 0 (MQ below (va_Qv Q (BC ad cy D wm wl0) (AW ad)) args s 0 0 (AW ad)) w wm wl0 0 [(0, .ref (ad 1)), (1, .int a1)] [] := by
  unfold wp_7_put at h
  refine V_bipush X (v := (24 : Int32)) dX7_put_0 (by decide) ?_
  refine V_istore_n X dX7_put_2 rfl (by decide) rfl (ls1 := [(2, .int (24 : Int32)), (0, .ref (ad 1)), (1, .int a1)]) rfl ?_
  refine V_sub X (ls1 := [(0, .ref (ad 1)), (1, .int a1), (2, .int (24 : Int32))]) [1, 2, 0] rfl ?_
  obtain ⟨nn, h⟩ := h
  exact v_7_put_b3 X hr nn _ _ _ h
theorem c_7_put {a1 : Int32} (hinj : INJ ad) {w : Mem} {Q : Mem → Prop} (h : wp_7_put a1 w Q) : Met l yX7_put (TB yX7_put cX7_put 3 none) (RM 1) (va_Pc [.ref (ad 1), .int a1] (PB ad cy D (cmb w wm) wl0)) (va_Qv Q (BC ad cy D wm wl0) (AW ad)) 0 0 (AW ad) := M_enter (by decide) (Nat.le_of_ble_eq_true rfl) hinj (fun p e s m args below meth c X hr => v_7_put X hr h)
theorem mf_7_put : MFV yX7_put cX7_put 3 none yX7_put.cls 1 := ⟨q_526, q_524, q_525, q_2, by decide⟩
theorem K_7_put {own : String} {idx : Nat} {a1 : Int32} (X : CX p s m args meth c cc nL own ad cy D A) (hL : LK own idx yX7_put) {w : Mem} {Q : Mem → Prop} (h : wp_7_put a1 w Q) (hR : (RM 1).frames + 1 ≤ R.frames ∧ 8 + (3 + 11) + (RM 1).locals ≤ R.locals) (hce : ce ≤ R.cells ∧ sl ≤ R.slots) (hcat : (st1.map fun v => v.category).sum ≤ 8) (hd : decode cc pc = .ok (.invokevirtual idx, 3)) (kk : ∀ (u : Mem), Q u → V p l e R s m args below meth c nL ad cy D A H0 ce sl Qs u wm wl0 (pc + 3) ls st1) : V p l e R s m args below meth c nL ad cy D A H0 ce sl Qs w wm wl0 pc ls (.int a1 :: .ref (ad 1) :: st1) := V_callVV_c X mf_7_put hL (rfl : vwCl[7]? = some (RX7, TX7, 2)) (by decide) (rfl : SK 1 = 7) (by decide) (c_7_put X.2.2.2.2.2.2.2.1 h) (As := [.int a1]) rfl ⟨rfl, rfl⟩ hR hce st1 rfl hcat hd kk
def wp_10_add (a1 : Int32) (a2 : Int32) (a3 : Int32) (w : Mem) (Q : Int32 → Mem → Prop) : Prop := (((w 145 3) < (20 : Int32) → (vp_in (w 145 3) 20 ∧ (∀ w2 : Mem, w2 = st w 146 (ix (w 145 3)) a1 → (vp_in (w2 145 3) 20 ∧ (∀ w4 : Mem, w4 = st w2 147 (ix (w2 145 3)) a2 → (vp_in (w4 145 3) 20 ∧ (∀ w6 : Mem, w6 = st w4 148 (ix (w4 145 3)) a3 → (∀ w7 : Mem, w7 = st w6 145 3 ((w6 145 3) + (1 : Int32)) → (Q ((w7 145 3) - (1 : Int32)) w7))))))))) ∧ (¬ ((w 145 3) < (20 : Int32)) → (Q (-1 : Int32) w)))
set_option maxRecDepth 20000 in
theorem v_10_add {a1 : Int32} {a2 : Int32} {a3 : Int32} (X : CX p s m args meth c cX10_add 4 yX10_add.cls ad cy D (AW ad)) (hr : meth.sig.returnType = (some .int)) {w : Mem} {Q : Int32 → Mem → Prop} (h : wp_10_add a1 a2 a3 w Q) : V p l e (RM 0) s m args below meth c 4 ad cy D (AW ad) s.heap 0 0 (MQ below (va_Qi Q (BC ad cy D wm wl0) (AW ad)) args s 0 0 (AW ad)) w wm wl0 0 [(0, .ref (ad 145)), (1, .int a1), (2, .int a2), (3, .int a3)] [] := by
  unfold wp_10_add at h
  refine V_aload_n X (i := 0) 0 dX10_add_0 rfl rfl ?_
  refine G_10_21 X dX10_add_1 ?_
  refine V_bipush X (v := (20 : Int32)) dX10_add_4 (by decide) ?_
  obtain ⟨ht, hf⟩ := h
  refine V_icmp_lt X (tgt := 11) dX10_add_6 (by decide) (fun c => ?_) (fun c => ?_)
  · have h := ht c
    refine V_aload_n X (i := 0) 0 dX10_add_11 rfl rfl ?_
    refine G_10_11 X dX10_add_12 ?_
    refine V_aload_n X (i := 0) 0 dX10_add_15 rfl rfl ?_
    refine G_10_21 X dX10_add_16 ?_
    refine V_iload_n X (i := 1) 1 dX10_add_19 rfl rfl ?_
    obtain ⟨g1, h⟩ := h
    obtain ⟨w2, ew2⟩ : ∃ y : Mem, y = st w 146 (ix (w 145 3)) a1 := ⟨_, rfl⟩
    have h := h w2 ew2
    refine V_iast_c X (rfl : SL 146 = 20) (by decide) (rfl : SK 146 = 14) g1 dX10_add_20 ew2 ?_
    refine V_aload_n X (i := 0) 0 dX10_add_21 rfl rfl ?_
    refine G_10_15 X dX10_add_22 ?_
    refine V_aload_n X (i := 0) 0 dX10_add_25 rfl rfl ?_
    refine G_10_21 X dX10_add_26 ?_
    refine V_iload_n X (i := 2) 2 dX10_add_29 rfl rfl ?_
    obtain ⟨g3, h⟩ := h
    obtain ⟨w4, ew4⟩ : ∃ y : Mem, y = st w2 147 (ix (w2 145 3)) a2 := ⟨_, rfl⟩
    have h := h w4 ew4
    refine V_iast_c X (rfl : SL 147 = 20) (by decide) (rfl : SK 147 = 14) g3 dX10_add_30 ew4 ?_
    refine V_aload_n X (i := 0) 0 dX10_add_31 rfl rfl ?_
    refine G_10_18 X dX10_add_32 ?_
    refine V_aload_n X (i := 0) 0 dX10_add_35 rfl rfl ?_
    refine G_10_21 X dX10_add_36 ?_
    refine V_iload_n X (i := 3) 3 dX10_add_39 rfl rfl ?_
    obtain ⟨g5, h⟩ := h
    obtain ⟨w6, ew6⟩ : ∃ y : Mem, y = st w4 148 (ix (w4 145 3)) a3 := ⟨_, rfl⟩
    have h := h w6 ew6
    refine V_iast_c X (rfl : SL 148 = 20) (by decide) (rfl : SK 148 = 14) g5 dX10_add_40 ew6 ?_
    refine V_aload_n X (i := 0) 0 dX10_add_41 rfl rfl ?_
    refine V_dup X dX10_add_42 rfl ?_
    refine G_10_21 X dX10_add_43 ?_
    refine V_iconst X (v := (1 : Int32)) dX10_add_46 (by decide) ?_
    refine V_iadd X dX10_add_47 ?_
    obtain ⟨w7, ew7⟩ : ∃ y : Mem, y = st w6 145 3 ((w6 145 3) + (1 : Int32)) := ⟨_, rfl⟩
    have h := h w7 ew7
    refine U_10_21 X rfl rfl dX10_add_48 ew7 ?_
    refine V_aload_n X (i := 0) 0 dX10_add_51 rfl rfl ?_
    refine G_10_21 X dX10_add_52 ?_
    refine V_iconst X (v := (1 : Int32)) dX10_add_55 (by decide) ?_
    refine V_isub X dX10_add_56 ?_
    exact V_iret_c X hr dX10_add_57 h
  · have h := hf c
    refine V_iconst X (v := (-1 : Int32)) dX10_add_9 (by decide) ?_
    exact V_iret_c X hr dX10_add_10 h
theorem c_10_add {a1 : Int32} {a2 : Int32} {a3 : Int32} (hinj : INJ ad) {w : Mem} {Q : Int32 → Mem → Prop} (h : wp_10_add a1 a2 a3 w Q) : Met l yX10_add (TB yX10_add cX10_add 4 (some .int)) (RM 0) (va_Pc [.ref (ad 145), .int a1, .int a2, .int a3] (PB ad cy D (cmb w wm) wl0)) (va_Qi Q (BC ad cy D wm wl0) (AW ad)) 0 0 (AW ad) := M_enter (by decide) (Nat.le_of_ble_eq_true rfl) hinj (fun p e s m args below meth c X hr => v_10_add X hr h)
theorem mf_10_add : MFV yX10_add cX10_add 4 (some .int) yX10_add.cls 3 := ⟨q_1134, q_1132, q_1133, q_12, by decide⟩
theorem K_10_add {own : String} {idx : Nat} {a1 : Int32} {a2 : Int32} {a3 : Int32} (X : CX p s m args meth c cc nL own ad cy D A) (hL : LK own idx yX10_add) {w : Mem} {Q : Int32 → Mem → Prop} (h : wp_10_add a1 a2 a3 w Q) (hR : (RM 0).frames + 1 ≤ R.frames ∧ 8 + (4 + 11) + (RM 0).locals ≤ R.locals) (hce : ce ≤ R.cells ∧ sl ≤ R.slots) (hcat : (st1.map fun v => v.category).sum ≤ 8) (hd : decode cc pc = .ok (.invokevirtual idx, 3)) (kk : ∀ (r : Int32) (u : Mem), Q r u → V p l e R s m args below meth c nL ad cy D A H0 ce sl Qs u wm wl0 (pc + 3) ls (.int r :: st1)) : V p l e R s m args below meth c nL ad cy D A H0 ce sl Qs w wm wl0 pc ls (.int a3 :: .int a2 :: .int a1 :: .ref (ad 145) :: st1) := V_callVI_c X mf_10_add hL (rfl : vwCl[10]? = some (RX10, TX10, 4)) (by decide) (rfl : SK 145 = 10) (by decide) (c_10_add X.2.2.2.2.2.2.2.1 h) (As := [.int a1, .int a2, .int a3]) rfl ⟨rfl, rfl⟩ hR hce st1 rfl hcat hd kk
end
