-- printed by wip/whole/gen6.py out of the decode rows and the tables
section
variable {p : Program} {l : Launch} {e : Env} {R : Room} {s : State} {m : MethodId} {args : Array Value} {below : List Frame} {meth : Method} {c : Code} {cc : ByteArray} {nL : Nat} {ad : Nat → Nat} {cy : Nat → ClassId} {D : va_G} {A : Nat → Prop} {H0 : Heap} {ce sl : Nat} {Qs : State → Prop} {wc wm : Mem} {wl0 : MemL} {pc : Nat} {ls : List (Nat × Value)} {st1 : List Value}
set_option maxRecDepth 20000 in
theorem v_7_hasRoom {a1 : Int32} (X : CXq p s m args meth c cX7_hasRoom 2 yX7_hasRoom.cls ad cy D (AW ad) s.heap) (hr : meth.sig.returnType = (some .boolean)) {w : Mem} {Q : Int32 → Mem → Prop} (h : wp_7_hasRoom a1 w Q) : V p l e (RM 0) s m args below meth c 2 ad cy D (AW ad) s.heap 0 0 (MQ below (va_Qi Q (BC ad cy D wm wl0) (AW ad)) args s 0 0 (AW ad)) w wm wl0 0 [(0, .ref (ad 1)), (1, .int a1)] [] := by
  unfold wp_7_hasRoom at h
  refine V_aload_n X (i := 0) 0 dX7_hasRoom_0 rfl rfl ?_
  refine G_7_15 X dX7_hasRoom_1 ?_
  refine V_iload_n X (i := 1) 1 dX7_hasRoom_4 rfl rfl ?_
  refine V_iadd X dX7_hasRoom_5 ?_
  refine V_sipush X (v := (2000 : Int32)) dX7_hasRoom_6 (by decide) ?_
  obtain ⟨ht, hf⟩ := h
  refine V_icmp_gt X (tgt := 16) dX7_hasRoom_9 (by decide) (fun c => ?_) (fun c => ?_)
  · have h := ht c
    refine V_iconst X (v := (0 : Int32)) dX7_hasRoom_16 (by decide) ?_
    exact V_zret_c X hr dX7_hasRoom_17 rfl h
  · have h := hf c
    refine V_iconst X (v := (1 : Int32)) dX7_hasRoom_12 (by decide) ?_
    refine V_goto X (tgt := 17) dX7_hasRoom_13 (by decide) ?_
    exact V_zret_c X hr dX7_hasRoom_17 rfl h
theorem c_7_hasRoom {a1 : Int32} (hinj : INJ ad) {w : Mem} {Q : Int32 → Mem → Prop} (h : wp_7_hasRoom a1 w Q) : Met l yX7_hasRoom (TBq yX7_hasRoom cX7_hasRoom 2 (some .boolean)) (RM 0) (va_Pc [.ref (ad 1), .int a1] (PB ad cy D (cmb w wm) wl0)) (va_Qi Q (BC ad cy D wm wl0) (AW ad)) 0 0 (AW ad) := M_enter (by decide) (Nat.le_of_ble_eq_true rfl) hinj (fun p e s m args below meth c X hr => v_7_hasRoom X hr h)
theorem mf_7_hasRoom : MFV yX7_hasRoom cX7_hasRoom 2 (some .boolean) yX7_hasRoom.cls 1 := ⟨q_522, q_520, q_521, q_2, by decide⟩
theorem K_7_hasRoom {own : String} {idx : Nat} {a1 : Int32} (X : CXq p s m args meth c cc nL own ad cy D A H0) (hL : LK own idx yX7_hasRoom) {w : Mem} {Q : Int32 → Mem → Prop} (h : wp_7_hasRoom a1 w Q) (hR : (RM 0).frames + 1 ≤ R.frames ∧ 8 + (2 + 11) + (RM 0).locals ≤ R.locals) (hce : ce ≤ R.cells ∧ sl ≤ R.slots) (hcat : (st1.map fun v => v.category).sum ≤ 8) (hd : decode cc pc = .ok (.invokevirtual idx, 3)) (kk : ∀ (r : Int32) (u : Mem), Q r u → V p l e R s m args below meth c nL ad cy D A H0 ce sl Qs u wm wl0 (pc + 3) ls (.int r :: st1)) : V p l e R s m args below meth c nL ad cy D A H0 ce sl Qs w wm wl0 pc ls (.int a1 :: .ref (ad 1) :: st1) := V_callVI_c X mf_7_hasRoom hL (rfl : vwCl[7]? = some (RX7, TX7, 2)) (by decide) (rfl : SK 1 = 7) (Nat.lt_of_lt_of_le (by decide : 1 < 150) (CX_nn X)) (c_7_hasRoom X.2.2.2.2.2.2.2.1 h) (As := [.int a1]) rfl ⟨rfl, rfl⟩ hR hce st1 rfl hcat hd kk
set_option maxRecDepth 20000 in
theorem v_7_put_b38 (X : CXq p s m args meth c cX7_put 3 yX7_put.cls ad cy D (AW ad) s.heap) (hr : meth.sig.returnType = none) {Q : Mem → Prop} {L3 : Int32 → Int32 → Mem → Prop} (HL3 : ∀ (l1 : Int32) (l2 : Int32) (w : Mem), L3 l1 l2 w → V p l e (RM 1) s m args below meth c 3 ad cy D (AW ad) s.heap 0 0 (MQ below (va_Qv Q (BC ad cy D wm wl0) (AW ad)) args s 0 0 (AW ad)) w wm wl0 3 [(0, .ref (ad 1)), (1, .int l1), (2, .int l2)] []) : ∀ (l1 : Int32) (l2 : Int32) (w : Mem), wp_7_put_b38 Q L3 l1 l2 w → V p l e (RM 1) s m args below meth c 3 ad cy D (AW ad) s.heap 0 0 (MQ below (va_Qv Q (BC ad cy D wm wl0) (AW ad)) args s 0 0 (AW ad)) w wm wl0 38 [(0, .ref (ad 1)), (1, .int l1), (2, .int l2)] [] := by
  intro l1 l2 w h
  unfold wp_7_put_b38 at h
  obtain ⟨x1, ex1⟩ : ∃ y : Int32, y = l2 + (-8 : Int32) := ⟨_, rfl⟩
  have h := h x1 ex1
  refine V_iinc X 2 dX7_put_38 rfl (by decide) (by rw [ex1]; rfl) (ls1 := [(2, .int x1), (0, .ref (ad 1)), (1, .int l1)]) rfl ?_
  refine V_goto X (tgt := 3) dX7_put_41 (by decide) ?_
  refine V_sub X (ls1 := [(0, .ref (ad 1)), (1, .int l1), (2, .int x1)]) [1, 2, 0] rfl ?_
  exact HL3 _ _ _ h
set_option maxRecDepth 20000 in
theorem v_7_put_b3 (X : CXq p s m args meth c cX7_put 3 yX7_put.cls ad cy D (AW ad) s.heap) (hr : meth.sig.returnType = none) {Q : Mem → Prop} : ∀ (n : Nat) (l1 : Int32) (l2 : Int32) (w : Mem), wp_7_put_b3 Q n l1 l2 w → V p l e (RM 1) s m args below meth c 3 ad cy D (AW ad) s.heap 0 0 (MQ below (va_Qv Q (BC ad cy D wm wl0) (AW ad)) args s 0 0 (AW ad)) w wm wl0 3 [(0, .ref (ad 1)), (1, .int l1), (2, .int l2)] [] := by
  intro n
  induction n with
  | zero =>
    intro l1 l2 w h
    exact h.elim
  | succ n ih =>
    intro l1 l2 w h
    unfold wp_7_put_b3 at h
    refine V_iload_n X (i := 2) 2 dX7_put_3 rfl rfl ?_
    obtain ⟨ht, hf⟩ := h
    refine V_if_lt X (tgt := 44) dX7_put_4 (by decide) (fun c => ?_) (fun c => ?_)
    · have h := ht c
      exact V_vret_c X hr dX7_put_44 h
    · have h := hf c
      refine V_aload_n X (i := 0) 0 dX7_put_7 rfl rfl ?_
      refine V_iconst X (v := (1 : Int32)) dX7_put_8 (by decide) ?_
      refine K_7_hasRoom X (Or.inl q_527) h ⟨Nat.le_of_ble_eq_true rfl, Nat.le_of_ble_eq_true rfl⟩ ⟨Nat.zero_le _, Nat.zero_le _⟩ (st1 := []) (Nat.le_of_ble_eq_true rfl) dX7_put_9 (fun r2 w1 h => ?_)
      obtain ⟨ht, hf⟩ := h
      refine V_if_eq X (tgt := 38) dX7_put_12 (by decide) (fun c => ?_) (fun c => ?_)
      · have h := ht c
        refine V_sub X (ls1 := [(0, .ref (ad 1)), (1, .int l1), (2, .int l2)]) [0, 1, 2] rfl ?_
        exact v_7_put_b38 X hr ih _ _ _ h
      · have h := hf c
        refine V_aload_n X (i := 0) 0 dX7_put_15 rfl rfl ?_
        refine G_7_11 X dX7_put_16 ?_
        refine V_aload_n X (i := 0) 0 dX7_put_19 rfl rfl ?_
        refine G_7_15 X dX7_put_20 ?_
        refine V_iload_n X (i := 1) 1 dX7_put_23 rfl rfl ?_
        refine V_iload_n X (i := 2) 2 dX7_put_24 rfl rfl ?_
        refine V_ishr X dX7_put_25 ?_
        refine V_i2b X dX7_put_26 ?_
        obtain ⟨g3, h⟩ := h
        obtain ⟨w4, ew4⟩ : ∃ y : Mem, y = st w1 2 (ix (w1 1 1)) (vp_nar .byte ((l1 >>> (l2 &&& 31)).toInt8.toInt32)) := ⟨_, rfl⟩
        have h := h w4 ew4
        refine V_bast_c X (rfl : SLq 2 = 2000) (by decide) (rfl : SK 2 = 13) g3 dX7_put_27 ew4 ?_
        refine V_aload_n X (i := 0) 0 dX7_put_28 rfl rfl ?_
        refine V_dup X dX7_put_29 rfl ?_
        refine G_7_15 X dX7_put_30 ?_
        refine V_iconst X (v := (1 : Int32)) dX7_put_33 (by decide) ?_
        refine V_iadd X dX7_put_34 ?_
        obtain ⟨w5, ew5⟩ : ∃ y : Mem, y = st w4 1 1 ((w4 1 1) + (1 : Int32)) := ⟨_, rfl⟩
        have h := h w5 ew5
        refine U_7_15 X rfl rfl dX7_put_35 ew5 ?_
        refine V_sub X (ls1 := [(0, .ref (ad 1)), (1, .int l1), (2, .int l2)]) [0, 1, 2] rfl ?_
        exact v_7_put_b38 X hr ih _ _ _ h
set_option maxRecDepth 20000 in
theorem v_7_put {a1 : Int32} (X : CXq p s m args meth c cX7_put 3 yX7_put.cls ad cy D (AW ad) s.heap) (hr : meth.sig.returnType = none) {w : Mem} {Q : Mem → Prop} (h : wp_7_put a1 w Q) : V p l e (RM 1) s m args below meth c 3 ad cy D (AW ad) s.heap 0 0 (MQ below (va_Qv Q (BC ad cy D wm wl0) (AW ad)) args s 0 0 (AW ad)) w wm wl0 0 [(0, .ref (ad 1)), (1, .int a1)] [] := by
  unfold wp_7_put at h
  refine V_bipush X (v := (24 : Int32)) dX7_put_0 (by decide) ?_
  refine V_istore_n X dX7_put_2 rfl (by decide) rfl (ls1 := [(2, .int (24 : Int32)), (0, .ref (ad 1)), (1, .int a1)]) rfl ?_
  refine V_sub X (ls1 := [(0, .ref (ad 1)), (1, .int a1), (2, .int (24 : Int32))]) [1, 2, 0] rfl ?_
  obtain ⟨nn, h⟩ := h
  exact v_7_put_b3 X hr nn _ _ _ h
theorem c_7_put {a1 : Int32} (hinj : INJ ad) {w : Mem} {Q : Mem → Prop} (h : wp_7_put a1 w Q) : Met l yX7_put (TBq yX7_put cX7_put 3 none) (RM 1) (va_Pc [.ref (ad 1), .int a1] (PB ad cy D (cmb w wm) wl0)) (va_Qv Q (BC ad cy D wm wl0) (AW ad)) 0 0 (AW ad) := M_enter (by decide) (Nat.le_of_ble_eq_true rfl) hinj (fun p e s m args below meth c X hr => v_7_put X hr h)
theorem mf_7_put : MFV yX7_put cX7_put 3 none yX7_put.cls 1 := ⟨q_526, q_524, q_525, q_2, by decide⟩
theorem K_7_put {own : String} {idx : Nat} {a1 : Int32} (X : CXq p s m args meth c cc nL own ad cy D A H0) (hL : LK own idx yX7_put) {w : Mem} {Q : Mem → Prop} (h : wp_7_put a1 w Q) (hR : (RM 1).frames + 1 ≤ R.frames ∧ 8 + (3 + 11) + (RM 1).locals ≤ R.locals) (hce : ce ≤ R.cells ∧ sl ≤ R.slots) (hcat : (st1.map fun v => v.category).sum ≤ 8) (hd : decode cc pc = .ok (.invokevirtual idx, 3)) (kk : ∀ (u : Mem), Q u → V p l e R s m args below meth c nL ad cy D A H0 ce sl Qs u wm wl0 (pc + 3) ls st1) : V p l e R s m args below meth c nL ad cy D A H0 ce sl Qs w wm wl0 pc ls (.int a1 :: .ref (ad 1) :: st1) := V_callVV_c X mf_7_put hL (rfl : vwCl[7]? = some (RX7, TX7, 2)) (by decide) (rfl : SK 1 = 7) (Nat.lt_of_lt_of_le (by decide : 1 < 150) (CX_nn X)) (c_7_put X.2.2.2.2.2.2.2.1 h) (As := [.int a1]) rfl ⟨rfl, rfl⟩ hR hce st1 rfl hcat hd kk
set_option maxRecDepth 20000 in
theorem v_9_isBlank_b24 (X : CXq p s m args meth c cX9_isBlank 1 yX9_isBlank.cls ad cy D (AW ad) s.heap) (hr : meth.sig.returnType = (some .boolean)) {Q : Int32 → Mem → Prop} : ∀ (w : Mem), wp_9_isBlank_b24 Q w → V p l e (RM 0) s m args below meth c 1 ad cy D (AW ad) s.heap 0 0 (MQ below (va_Qi Q (BC ad cy D wm wl0) (AW ad)) args s 0 0 (AW ad)) w wm wl0 24 [] [] := by
  intro w h
  unfold wp_9_isBlank_b24 at h
  refine V_iconst X (v := (1 : Int32)) dX9_isBlank_24 (by decide) ?_
  refine V_goto X (tgt := 29) dX9_isBlank_25 (by decide) ?_
  exact V_zret_c X hr dX9_isBlank_29 rfl h
set_option maxRecDepth 20000 in
theorem v_9_isBlank {a1 : Int32} (X : CXq p s m args meth c cX9_isBlank 1 yX9_isBlank.cls ad cy D (AW ad) s.heap) (hr : meth.sig.returnType = (some .boolean)) {w : Mem} {Q : Int32 → Mem → Prop} (h : wp_9_isBlank a1 w Q) : V p l e (RM 0) s m args below meth c 1 ad cy D (AW ad) s.heap 0 0 (MQ below (va_Qi Q (BC ad cy D wm wl0) (AW ad)) args s 0 0 (AW ad)) w wm wl0 0 [(0, .int a1)] [] := by
  unfold wp_9_isBlank at h
  refine V_iload_n X (i := 0) 0 dX9_isBlank_0 rfl rfl ?_
  refine V_bipush X (v := (9 : Int32)) dX9_isBlank_1 (by decide) ?_
  obtain ⟨ht, hf⟩ := h
  refine V_icmp_eq X (tgt := 24) dX9_isBlank_3 (by decide) (fun c => ?_) (fun c => ?_)
  · have h := ht c
    refine V_sub X (ls1 := []) [] rfl ?_
    exact v_9_isBlank_b24 X hr _ h
  · have h := hf c
    refine V_iload_n X (i := 0) 0 dX9_isBlank_6 rfl rfl ?_
    refine V_bipush X (v := (10 : Int32)) dX9_isBlank_7 (by decide) ?_
    obtain ⟨ht, hf⟩ := h
    refine V_icmp_eq X (tgt := 24) dX9_isBlank_9 (by decide) (fun c => ?_) (fun c => ?_)
    · have h := ht c
      refine V_sub X (ls1 := []) [] rfl ?_
      exact v_9_isBlank_b24 X hr _ h
    · have h := hf c
      refine V_iload_n X (i := 0) 0 dX9_isBlank_12 rfl rfl ?_
      refine V_bipush X (v := (13 : Int32)) dX9_isBlank_13 (by decide) ?_
      obtain ⟨ht, hf⟩ := h
      refine V_icmp_eq X (tgt := 24) dX9_isBlank_15 (by decide) (fun c => ?_) (fun c => ?_)
      · have h := ht c
        refine V_sub X (ls1 := []) [] rfl ?_
        exact v_9_isBlank_b24 X hr _ h
      · have h := hf c
        refine V_iload_n X (i := 0) 0 dX9_isBlank_18 rfl rfl ?_
        refine V_bipush X (v := (32 : Int32)) dX9_isBlank_19 (by decide) ?_
        obtain ⟨ht, hf⟩ := h
        refine V_icmp_ne X (tgt := 28) dX9_isBlank_21 (by decide) (fun c => ?_) (fun c => ?_)
        · have h := ht c
          refine V_iconst X (v := (0 : Int32)) dX9_isBlank_28 (by decide) ?_
          exact V_zret_c X hr dX9_isBlank_29 rfl h
        · have h := hf c
          refine V_sub X (ls1 := []) [] rfl ?_
          exact v_9_isBlank_b24 X hr _ h
theorem c_9_isBlank {a1 : Int32} (hinj : INJ ad) {w : Mem} {Q : Int32 → Mem → Prop} (h : wp_9_isBlank a1 w Q) : Met l yX9_isBlank (TBq yX9_isBlank cX9_isBlank 1 (some .boolean)) (RM 0) (va_Pc [.int a1] (PB ad cy D (cmb w wm) wl0)) (va_Qi Q (BC ad cy D wm wl0) (AW ad)) 0 0 (AW ad) := M_enter (by decide) (Nat.le_of_ble_eq_true rfl) hinj (fun p e s m args below meth c X hr => v_9_isBlank X hr h)
theorem mf_9_isBlank : MFS yX9_isBlank cX9_isBlank 1 (some .boolean) 1 := ⟨q_553, q_552, q_3, by decide⟩
theorem K_9_isBlank {own : String} {idx : Nat} {a1 : Int32} (X : CXq p s m args meth c cc nL own ad cy D A H0) (hL : LK own idx yX9_isBlank) {w : Mem} {Q : Int32 → Mem → Prop} (h : wp_9_isBlank a1 w Q) (hR : (RM 0).frames + 1 ≤ R.frames ∧ 8 + (1 + 11) + (RM 0).locals ≤ R.locals) (hce : ce ≤ R.cells ∧ sl ≤ R.slots) (hcat : (st1.map fun v => v.category).sum ≤ 8) (hd : decode cc pc = .ok (.invokestatic idx, 3)) (kk : ∀ (r : Int32) (u : Mem), Q r u → V p l e R s m args below meth c nL ad cy D A H0 ce sl Qs u wm wl0 (pc + 3) ls (.int r :: st1)) : V p l e R s m args below meth c nL ad cy D A H0 ce sl Qs w wm wl0 pc ls (.int a1 :: st1) := V_callSI_c X mf_9_isBlank hL (c_9_isBlank X.2.2.2.2.2.2.2.1 h) (As := [.int a1]) rfl ⟨rfl, rfl⟩ hR hce st1 rfl hcat hd kk
set_option maxRecDepth 20000 in
theorem v_9_skipBlanks_b0 (X : CXq p s m args meth c cX9_skipBlanks 1 yX9_skipBlanks.cls ad cy D (AW ad) s.heap) (hr : meth.sig.returnType = none) {Q : Mem → Prop} : ∀ (n : Nat) (w : Mem), wp_9_skipBlanks_b0 Q n w → V p l e (RM 1) s m args below meth c 1 ad cy D (AW ad) s.heap 0 0 (MQ below (va_Qv Q (BC ad cy D wm wl0) (AW ad)) args s 0 0 (AW ad)) w wm wl0 0 [(0, .ref (ad 3))] [] := by
  intro n
  induction n with
  | zero =>
    intro w h
    exact h.elim
  | succ n ih =>
    intro w h
    unfold wp_9_skipBlanks_b0 at h
    refine V_aload_n X (i := 0) 0 dX9_skipBlanks_0 rfl rfl ?_
    refine G_9_25 X dX9_skipBlanks_1 ?_
    refine V_aload_n X (i := 0) 0 dX9_skipBlanks_4 rfl rfl ?_
    refine G_9_21 X dX9_skipBlanks_5 ?_
    refine G_9_42 X dX9_skipBlanks_8 ?_
    obtain ⟨ht, hf⟩ := h
    refine V_icmp_ge X (tgt := 44) dX9_skipBlanks_11 (by decide) (fun c => ?_) (fun c => ?_)
    · have h := ht c
      exact V_vret_c X hr dX9_skipBlanks_44 h
    · have h := hf c
      refine V_aload_n X (i := 0) 0 dX9_skipBlanks_14 rfl rfl ?_
      refine G_9_21 X dX9_skipBlanks_15 ?_
      refine V_aload_n X (i := 0) 0 dX9_skipBlanks_18 rfl rfl ?_
      refine G_9_25 X dX9_skipBlanks_19 ?_
      refine K_7_byteAt X (Or.inl q_547) h ⟨Nat.le_of_ble_eq_true rfl, Nat.le_of_ble_eq_true rfl⟩ ⟨Nat.zero_le _, Nat.zero_le _⟩ (st1 := []) (Nat.le_of_ble_eq_true rfl) dX9_skipBlanks_22 (fun r2 w1 h => ?_)
      refine K_9_isBlank X (Or.inl q_551) h ⟨Nat.le_of_ble_eq_true rfl, Nat.le_of_ble_eq_true rfl⟩ ⟨Nat.zero_le _, Nat.zero_le _⟩ (st1 := []) (Nat.le_of_ble_eq_true rfl) dX9_skipBlanks_25 (fun r4 w3 h => ?_)
      obtain ⟨ht, hf⟩ := h
      refine V_if_eq X (tgt := 44) dX9_skipBlanks_28 (by decide) (fun c => ?_) (fun c => ?_)
      · have h := ht c
        exact V_vret_c X hr dX9_skipBlanks_44 h
      · have h := hf c
        refine V_aload_n X (i := 0) 0 dX9_skipBlanks_31 rfl rfl ?_
        refine V_dup X dX9_skipBlanks_32 rfl ?_
        refine G_9_25 X dX9_skipBlanks_33 ?_
        refine V_iconst X (v := (1 : Int32)) dX9_skipBlanks_36 (by decide) ?_
        refine V_iadd X dX9_skipBlanks_37 ?_
        obtain ⟨w5, ew5⟩ : ∃ y : Mem, y = st w3 3 4 ((w3 3 4) + (1 : Int32)) := ⟨_, rfl⟩
        have h := h w5 ew5
        refine U_9_25 X rfl rfl dX9_skipBlanks_38 ew5 ?_
        refine V_goto X (tgt := 0) dX9_skipBlanks_41 (by decide) ?_
        refine V_sub X (ls1 := [(0, .ref (ad 3))]) [0] rfl ?_
        exact ih _ h
set_option maxRecDepth 20000 in
theorem v_9_skipBlanks (X : CXq p s m args meth c cX9_skipBlanks 1 yX9_skipBlanks.cls ad cy D (AW ad) s.heap) (hr : meth.sig.returnType = none) {w : Mem} {Q : Mem → Prop} (h : wp_9_skipBlanks w Q) : V p l e (RM 1) s m args below meth c 1 ad cy D (AW ad) s.heap 0 0 (MQ below (va_Qv Q (BC ad cy D wm wl0) (AW ad)) args s 0 0 (AW ad)) w wm wl0 0 [(0, .ref (ad 3))] [] := by
  unfold wp_9_skipBlanks at h
  refine V_sub X (ls1 := [(0, .ref (ad 3))]) [0] rfl ?_
  obtain ⟨nn, h⟩ := h
  exact v_9_skipBlanks_b0 X hr nn _ h
theorem c_9_skipBlanks (hinj : INJ ad) {w : Mem} {Q : Mem → Prop} (h : wp_9_skipBlanks w Q) : Met l yX9_skipBlanks (TBq yX9_skipBlanks cX9_skipBlanks 1 none) (RM 1) (va_Pc [.ref (ad 3)] (PB ad cy D (cmb w wm) wl0)) (va_Qv Q (BC ad cy D wm wl0) (AW ad)) 0 0 (AW ad) := M_enter (by decide) (Nat.le_of_ble_eq_true rfl) hinj (fun p e s m args below meth c X hr => v_9_skipBlanks X hr h)
theorem mf_9_skipBlanks : MFV yX9_skipBlanks cX9_skipBlanks 1 none yX9_skipBlanks.cls 0 := ⟨q_546, q_545, qs_1, q_3, by decide⟩
theorem K_9_skipBlanks {own : String} {idx : Nat} (X : CXq p s m args meth c cc nL own ad cy D A H0) (hL : LK own idx yX9_skipBlanks) {w : Mem} {Q : Mem → Prop} (h : wp_9_skipBlanks w Q) (hR : (RM 1).frames + 1 ≤ R.frames ∧ 8 + (1 + 11) + (RM 1).locals ≤ R.locals) (hce : ce ≤ R.cells ∧ sl ≤ R.slots) (hcat : (st1.map fun v => v.category).sum ≤ 8) (hd : decode cc pc = .ok (.invokevirtual idx, 3)) (kk : ∀ (u : Mem), Q u → V p l e R s m args below meth c nL ad cy D A H0 ce sl Qs u wm wl0 (pc + 3) ls st1) : V p l e R s m args below meth c nL ad cy D A H0 ce sl Qs w wm wl0 pc ls (.ref (ad 3) :: st1) := V_callVV_c X mf_9_skipBlanks hL (rfl : vwCl[9]? = some (RX9, TX9, 5)) (by decide) (rfl : SK 3 = 9) (Nat.lt_of_lt_of_le (by decide : 3 < 150) (CX_nn X)) (c_9_skipBlanks X.2.2.2.2.2.2.2.1 h) (As := []) rfl ⟨rfl, rfl⟩ hR hce st1 rfl hcat hd kk
set_option maxRecDepth 20000 in
theorem v_9_isLetter_b16 (X : CXq p s m args meth c cX9_isLetter 1 yX9_isLetter.cls ad cy D (AW ad) s.heap) (hr : meth.sig.returnType = (some .boolean)) {Q : Int32 → Mem → Prop} : ∀ (w : Mem), wp_9_isLetter_b16 Q w → V p l e (RM 0) s m args below meth c 1 ad cy D (AW ad) s.heap 0 0 (MQ below (va_Qi Q (BC ad cy D wm wl0) (AW ad)) args s 0 0 (AW ad)) w wm wl0 16 [] [] := by
  intro w h
  unfold wp_9_isLetter_b16 at h
  refine V_iconst X (v := (0 : Int32)) dX9_isLetter_16 (by decide) ?_
  exact V_zret_c X hr dX9_isLetter_17 rfl h
set_option maxRecDepth 20000 in
theorem v_9_isLetter {a1 : Int32} (X : CXq p s m args meth c cX9_isLetter 1 yX9_isLetter.cls ad cy D (AW ad) s.heap) (hr : meth.sig.returnType = (some .boolean)) {w : Mem} {Q : Int32 → Mem → Prop} (h : wp_9_isLetter a1 w Q) : V p l e (RM 0) s m args below meth c 1 ad cy D (AW ad) s.heap 0 0 (MQ below (va_Qi Q (BC ad cy D wm wl0) (AW ad)) args s 0 0 (AW ad)) w wm wl0 0 [(0, .int a1)] [] := by
  unfold wp_9_isLetter at h
  refine V_iload_n X (i := 0) 0 dX9_isLetter_0 rfl rfl ?_
  refine V_bipush X (v := (97 : Int32)) dX9_isLetter_1 (by decide) ?_
  obtain ⟨ht, hf⟩ := h
  refine V_icmp_lt X (tgt := 16) dX9_isLetter_3 (by decide) (fun c => ?_) (fun c => ?_)
  · have h := ht c
    refine V_sub X (ls1 := []) [] rfl ?_
    exact v_9_isLetter_b16 X hr _ h
  · have h := hf c
    refine V_iload_n X (i := 0) 0 dX9_isLetter_6 rfl rfl ?_
    refine V_bipush X (v := (122 : Int32)) dX9_isLetter_7 (by decide) ?_
    obtain ⟨ht, hf⟩ := h
    refine V_icmp_gt X (tgt := 16) dX9_isLetter_9 (by decide) (fun c => ?_) (fun c => ?_)
    · have h := ht c
      refine V_sub X (ls1 := []) [] rfl ?_
      exact v_9_isLetter_b16 X hr _ h
    · have h := hf c
      refine V_iconst X (v := (1 : Int32)) dX9_isLetter_12 (by decide) ?_
      refine V_goto X (tgt := 17) dX9_isLetter_13 (by decide) ?_
      exact V_zret_c X hr dX9_isLetter_17 rfl h
theorem c_9_isLetter {a1 : Int32} (hinj : INJ ad) {w : Mem} {Q : Int32 → Mem → Prop} (h : wp_9_isLetter a1 w Q) : Met l yX9_isLetter (TBq yX9_isLetter cX9_isLetter 1 (some .boolean)) (RM 0) (va_Pc [.int a1] (PB ad cy D (cmb w wm) wl0)) (va_Qi Q (BC ad cy D wm wl0) (AW ad)) 0 0 (AW ad) := M_enter (by decide) (Nat.le_of_ble_eq_true rfl) hinj (fun p e s m args below meth c X hr => v_9_isLetter X hr h)
theorem mf_9_isLetter : MFS yX9_isLetter cX9_isLetter 1 (some .boolean) 1 := ⟨q_560, q_559, q_3, by decide⟩
theorem K_9_isLetter {own : String} {idx : Nat} {a1 : Int32} (X : CXq p s m args meth c cc nL own ad cy D A H0) (hL : LK own idx yX9_isLetter) {w : Mem} {Q : Int32 → Mem → Prop} (h : wp_9_isLetter a1 w Q) (hR : (RM 0).frames + 1 ≤ R.frames ∧ 8 + (1 + 11) + (RM 0).locals ≤ R.locals) (hce : ce ≤ R.cells ∧ sl ≤ R.slots) (hcat : (st1.map fun v => v.category).sum ≤ 8) (hd : decode cc pc = .ok (.invokestatic idx, 3)) (kk : ∀ (r : Int32) (u : Mem), Q r u → V p l e R s m args below meth c nL ad cy D A H0 ce sl Qs u wm wl0 (pc + 3) ls (.int r :: st1)) : V p l e R s m args below meth c nL ad cy D A H0 ce sl Qs w wm wl0 pc ls (.int a1 :: st1) := V_callSI_c X mf_9_isLetter hL (c_9_isLetter X.2.2.2.2.2.2.2.1 h) (As := [.int a1]) rfl ⟨rfl, rfl⟩ hR hce st1 rfl hcat hd kk
set_option maxRecDepth 20000 in
theorem v_J0_coder_7d493 {i : Nat} (X : CXq p s m args meth c cJ0_coder_7d493 1 yJ0_coder_7d493.cls ad cy D (AW ad) s.heap) (hr : meth.sig.returnType = (some .byte)) (hi : i < 2) {w : Mem} {Q : Int32 → Mem → Prop} (h : wp_J0_coder_7d493 i w Q) : V p l e (RM 0) s m args below meth c 1 ad cy D (AW ad) s.heap 0 0 (MQ below (va_Qi Q (BC ad cy D wm wl0) (AW ad)) args s 0 0 (AW ad)) w wm wl0 0 [(0, .ref (ad (200 + i)))] [] := by
  unfold wp_J0_coder_7d493 at h
  refine V_gcs X q_578 dJ0_coder_7d493_0 ?_
  obtain ⟨ht, hf⟩ := h
  refine V_if_eq X (tgt := 13) dJ0_coder_7d493_3 (by decide) (fun c => ?_) (fun c => ?_)
  · have h := ht c
    refine V_iconst X (v := (1 : Int32)) dJ0_coder_7d493_13 (by decide) ?_
    exact V_zret_c X hr dJ0_coder_7d493_14 rfl h
  · have h := hf c
    refine V_aload_n X (i := 0) 0 dJ0_coder_7d493_6 rfl rfl ?_
    refine V_scod X hi q_1836 dJ0_coder_7d493_7 ?_
    refine V_goto X (tgt := 14) dJ0_coder_7d493_10 (by decide) ?_
    exact V_zret_c X hr dJ0_coder_7d493_14 rfl h
theorem c_J0_coder_7d493 {i : Nat} (hinj : INJ ad) (hi : i < 2) {w : Mem} {Q : Int32 → Mem → Prop} (h : wp_J0_coder_7d493 i w Q) : Met l yJ0_coder_7d493 (TBq yJ0_coder_7d493 cJ0_coder_7d493 1 (some .byte)) (RM 0) (va_Pc [.ref (ad (200 + i))] (PB ad cy D (cmb w wm) wl0)) (va_Qi Q (BC ad cy D wm wl0) (AW ad)) 0 0 (AW ad) := M_enter (by decide) (Nat.le_of_ble_eq_true rfl) hinj (fun p e s m args below meth c X hr => v_J0_coder_7d493 X hr hi h)
theorem mf_J0_coder_7d493 : MFV yJ0_coder_7d493 cJ0_coder_7d493 1 (some .byte) yJ0_coder_7d493.cls 0 := ⟨q_577, q_575, q_576, q_15, by decide⟩
theorem K_J0_coder_7d493 {own : String} {idx : Nat} {i : Nat} (X : CXq p s m args meth c cc nL own ad cy D (AW ad) s.heap) (hL : LK own idx yJ0_coder_7d493) (hi : i < 2) {w : Mem} {Q : Int32 → Mem → Prop} (h : wp_J0_coder_7d493 i w Q) (hR : (RM 0).frames + 1 ≤ R.frames ∧ 8 + (1 + 11) + (RM 0).locals ≤ R.locals) (hce : ce ≤ R.cells ∧ sl ≤ R.slots) (hcat : (st1.map fun v => v.category).sum ≤ 8) (hd : decode cc pc = .ok (.invokevirtual idx, 3)) (kk : ∀ (r : Int32) (u : Mem), Q r u → V p l e R s m args below meth c nL ad cy D (AW ad) s.heap ce sl Qs u wm wl0 (pc + 3) ls (.int r :: st1)) : V p l e R s m args below meth c nL ad cy D (AW ad) s.heap ce sl Qs w wm wl0 pc ls (.ref (ad (200 + i)) :: st1) := V_callStr_c X mf_J0_coder_7d493 hL hi (c_J0_coder_7d493 X.2.2.2.2.2.2.2.1 hi h) (As := []) rfl ⟨rfl, rfl⟩ hR hce st1 rfl hcat hd kk
set_option maxRecDepth 20000 in
theorem v_J0_length_8abf5 {i : Nat} (X : CXq p s m args meth c cJ0_length_8abf5 1 yJ0_length_8abf5.cls ad cy D (AW ad) s.heap) (hr : meth.sig.returnType = (some .int)) (hi : i < 2) {w : Mem} {Q : Int32 → Mem → Prop} (h : wp_J0_length_8abf5 i w Q) : V p l e (RM 1) s m args below meth c 1 ad cy D (AW ad) s.heap 0 0 (MQ below (va_Qi Q (BC ad cy D wm wl0) (AW ad)) args s 0 0 (AW ad)) w wm wl0 0 [(0, .ref (ad (200 + i)))] [] := by
  unfold wp_J0_length_8abf5 at h
  refine V_aload_n X (i := 0) 0 dJ0_length_8abf5_0 rfl rfl ?_
  refine V_sval X hi q_1835 dJ0_length_8abf5_1 ?_
  refine V_slen X hi dJ0_length_8abf5_4 ?_
  refine V_aload_n X (i := 0) 0 dJ0_length_8abf5_5 rfl rfl ?_
  refine K_J0_coder_7d493 X (Or.inl q_574) hi h ⟨Nat.le_of_ble_eq_true rfl, Nat.le_of_ble_eq_true rfl⟩ ⟨Nat.zero_le _, Nat.zero_le _⟩ (st1 := [.int (Int32.ofNat (lenS.getD i 0))]) (Nat.le_of_ble_eq_true rfl) dJ0_length_8abf5_6 (fun r2 w1 h => ?_)
  refine V_ishr X dJ0_length_8abf5_9 ?_
  exact V_iret_c X hr dJ0_length_8abf5_10 h
theorem c_J0_length_8abf5 {i : Nat} (hinj : INJ ad) (hi : i < 2) {w : Mem} {Q : Int32 → Mem → Prop} (h : wp_J0_length_8abf5 i w Q) : Met l yJ0_length_8abf5 (TBq yJ0_length_8abf5 cJ0_length_8abf5 1 (some .int)) (RM 1) (va_Pc [.ref (ad (200 + i))] (PB ad cy D (cmb w wm) wl0)) (va_Qi Q (BC ad cy D wm wl0) (AW ad)) 0 0 (AW ad) := M_enter (by decide) (Nat.le_of_ble_eq_true rfl) hinj (fun p e s m args below meth c X hr => v_J0_length_8abf5 X hr hi h)
theorem mf_J0_length_8abf5 : MFV yJ0_length_8abf5 cJ0_length_8abf5 1 (some .int) yJ0_length_8abf5.cls 0 := ⟨q_573, q_571, q_572, q_15, by decide⟩
theorem K_J0_length_8abf5 {own : String} {idx : Nat} {i : Nat} (X : CXq p s m args meth c cc nL own ad cy D (AW ad) s.heap) (hL : LK own idx yJ0_length_8abf5) (hi : i < 2) {w : Mem} {Q : Int32 → Mem → Prop} (h : wp_J0_length_8abf5 i w Q) (hR : (RM 1).frames + 1 ≤ R.frames ∧ 8 + (1 + 11) + (RM 1).locals ≤ R.locals) (hce : ce ≤ R.cells ∧ sl ≤ R.slots) (hcat : (st1.map fun v => v.category).sum ≤ 8) (hd : decode cc pc = .ok (.invokevirtual idx, 3)) (kk : ∀ (r : Int32) (u : Mem), Q r u → V p l e R s m args below meth c nL ad cy D (AW ad) s.heap ce sl Qs u wm wl0 (pc + 3) ls (.int r :: st1)) : V p l e R s m args below meth c nL ad cy D (AW ad) s.heap ce sl Qs w wm wl0 pc ls (.ref (ad (200 + i)) :: st1) := V_callStr_c X mf_J0_length_8abf5 hL hi (c_J0_length_8abf5 X.2.2.2.2.2.2.2.1 hi h) (As := []) rfl ⟨rfl, rfl⟩ hR hce st1 rfl hcat hd kk
set_option maxRecDepth 20000 in
theorem v_J0_isLatin1_aae02_b17 (X : CXq p s m args meth c cJ0_isLatin1_aae02 1 yJ0_isLatin1_aae02.cls ad cy D (AW ad) s.heap) (hr : meth.sig.returnType = (some .boolean)) {i : Nat} (hi : i < 2) {Q : Int32 → Mem → Prop} : ∀ (w : Mem), wp_J0_isLatin1_aae02_b17 i Q w → V p l e (RM 0) s m args below meth c 1 ad cy D (AW ad) s.heap 0 0 (MQ below (va_Qi Q (BC ad cy D wm wl0) (AW ad)) args s 0 0 (AW ad)) w wm wl0 17 [] [] := by
  intro w h
  unfold wp_J0_isLatin1_aae02_b17 at h
  refine V_iconst X (v := (0 : Int32)) dJ0_isLatin1_aae02_17 (by decide) ?_
  exact V_zret_c X hr dJ0_isLatin1_aae02_18 rfl h
set_option maxRecDepth 20000 in
theorem v_J0_isLatin1_aae02 {i : Nat} (X : CXq p s m args meth c cJ0_isLatin1_aae02 1 yJ0_isLatin1_aae02.cls ad cy D (AW ad) s.heap) (hr : meth.sig.returnType = (some .boolean)) (hi : i < 2) {w : Mem} {Q : Int32 → Mem → Prop} (h : wp_J0_isLatin1_aae02 i w Q) : V p l e (RM 0) s m args below meth c 1 ad cy D (AW ad) s.heap 0 0 (MQ below (va_Qi Q (BC ad cy D wm wl0) (AW ad)) args s 0 0 (AW ad)) w wm wl0 0 [(0, .ref (ad (200 + i)))] [] := by
  unfold wp_J0_isLatin1_aae02 at h
  refine V_gcs X q_578 dJ0_isLatin1_aae02_0 ?_
  obtain ⟨ht, hf⟩ := h
  refine V_if_eq X (tgt := 17) dJ0_isLatin1_aae02_3 (by decide) (fun c => ?_) (fun c => ?_)
  · have h := ht c
    refine V_sub X (ls1 := []) [] rfl ?_
    exact v_J0_isLatin1_aae02_b17 X hr hi _ h
  · have h := hf c
    refine V_aload_n X (i := 0) 0 dJ0_isLatin1_aae02_6 rfl rfl ?_
    refine V_scod X hi q_1836 dJ0_isLatin1_aae02_7 ?_
    obtain ⟨ht, hf⟩ := h
    refine V_if_ne X (tgt := 17) dJ0_isLatin1_aae02_10 (by decide) (fun c => ?_) (fun c => ?_)
    · have h := ht c
      refine V_sub X (ls1 := []) [] rfl ?_
      exact v_J0_isLatin1_aae02_b17 X hr hi _ h
    · have h := hf c
      refine V_iconst X (v := (1 : Int32)) dJ0_isLatin1_aae02_13 (by decide) ?_
      refine V_goto X (tgt := 18) dJ0_isLatin1_aae02_14 (by decide) ?_
      exact V_zret_c X hr dJ0_isLatin1_aae02_18 rfl h
theorem c_J0_isLatin1_aae02 {i : Nat} (hinj : INJ ad) (hi : i < 2) {w : Mem} {Q : Int32 → Mem → Prop} (h : wp_J0_isLatin1_aae02 i w Q) : Met l yJ0_isLatin1_aae02 (TBq yJ0_isLatin1_aae02 cJ0_isLatin1_aae02 1 (some .boolean)) (RM 0) (va_Pc [.ref (ad (200 + i))] (PB ad cy D (cmb w wm) wl0)) (va_Qi Q (BC ad cy D wm wl0) (AW ad)) 0 0 (AW ad) := M_enter (by decide) (Nat.le_of_ble_eq_true rfl) hinj (fun p e s m args below meth c X hr => v_J0_isLatin1_aae02 X hr hi h)
theorem mf_J0_isLatin1_aae02 : MFV yJ0_isLatin1_aae02 cJ0_isLatin1_aae02 1 (some .boolean) yJ0_isLatin1_aae02.cls 0 := ⟨q_587, q_585, q_586, q_15, by decide⟩
theorem K_J0_isLatin1_aae02 {own : String} {idx : Nat} {i : Nat} (X : CXq p s m args meth c cc nL own ad cy D (AW ad) s.heap) (hL : LK own idx yJ0_isLatin1_aae02) (hi : i < 2) {w : Mem} {Q : Int32 → Mem → Prop} (h : wp_J0_isLatin1_aae02 i w Q) (hR : (RM 0).frames + 1 ≤ R.frames ∧ 8 + (1 + 11) + (RM 0).locals ≤ R.locals) (hce : ce ≤ R.cells ∧ sl ≤ R.slots) (hcat : (st1.map fun v => v.category).sum ≤ 8) (hd : decode cc pc = .ok (.invokevirtual idx, 3)) (kk : ∀ (r : Int32) (u : Mem), Q r u → V p l e R s m args below meth c nL ad cy D (AW ad) s.heap ce sl Qs u wm wl0 (pc + 3) ls (.int r :: st1)) : V p l e R s m args below meth c nL ad cy D (AW ad) s.heap ce sl Qs w wm wl0 pc ls (.ref (ad (200 + i)) :: st1) := V_callStr_c X mf_J0_isLatin1_aae02 hL hi (c_J0_isLatin1_aae02 X.2.2.2.2.2.2.2.1 hi h) (As := []) rfl ⟨rfl, rfl⟩ hR hce st1 rfl hcat hd kk
set_option maxRecDepth 20000 in
theorem v_J3_checkIndex_8e157_b9 (X : CXq p s m args meth c cJ3_checkIndex_8e157 3 yJ3_checkIndex_8e157.cls ad cy D (AW ad) s.heap) (hr : meth.sig.returnType = (some .int)) {Q : Int32 → Mem → Prop} : ∀ (l0 : Int32) (l1 : Int32) (w : Mem), wp_J3_checkIndex_8e157_b9 Q l0 l1 w → V p l e (RM 0) s m args below meth c 3 ad cy D (AW ad) s.heap 0 0 (MQ below (va_Qi Q (BC ad cy D wm wl0) (AW ad)) args s 0 0 (AW ad)) w wm wl0 9 [(0, .int l0), (1, .int l1), (2, FM ad)] [] := by
  intro l0 l1 w h
  unfold wp_J3_checkIndex_8e157_b9 at h
  exact h.elim
set_option maxRecDepth 20000 in
theorem v_J3_checkIndex_8e157 {a1 : Int32} {a2 : Int32} (X : CXq p s m args meth c cJ3_checkIndex_8e157 3 yJ3_checkIndex_8e157.cls ad cy D (AW ad) s.heap) (hr : meth.sig.returnType = (some .int)) {w : Mem} {Q : Int32 → Mem → Prop} (h : wp_J3_checkIndex_8e157 a1 a2 w Q) : V p l e (RM 0) s m args below meth c 3 ad cy D (AW ad) s.heap 0 0 (MQ below (va_Qi Q (BC ad cy D wm wl0) (AW ad)) args s 0 0 (AW ad)) w wm wl0 0 [(0, .int a1), (1, .int a2), (2, FM ad)] [] := by
  unfold wp_J3_checkIndex_8e157 at h
  refine V_iload_n X (i := 0) 0 dJ3_checkIndex_8e157_0 rfl rfl ?_
  obtain ⟨ht, hf⟩ := h
  refine V_if_lt X (tgt := 9) dJ3_checkIndex_8e157_1 (by decide) (fun c => ?_) (fun c => ?_)
  · have h := ht c
    refine V_sub X (ls1 := [(0, .int a1), (1, .int a2), (2, FM ad)]) [0, 1, 2] rfl ?_
    exact v_J3_checkIndex_8e157_b9 X hr _ _ _ h
  · have h := hf c
    refine V_iload_n X (i := 0) 0 dJ3_checkIndex_8e157_4 rfl rfl ?_
    refine V_iload_n X (i := 1) 1 dJ3_checkIndex_8e157_5 rfl rfl ?_
    obtain ⟨ht, hf⟩ := h
    refine V_icmp_lt X (tgt := 16) dJ3_checkIndex_8e157_6 (by decide) (fun c => ?_) (fun c => ?_)
    · have h := ht c
      refine V_iload_n X (i := 0) 0 dJ3_checkIndex_8e157_16 rfl rfl ?_
      exact V_iret_c X hr dJ3_checkIndex_8e157_17 h
    · have h := hf c
      refine V_sub X (ls1 := [(0, .int a1), (1, .int a2), (2, FM ad)]) [0, 1, 2] rfl ?_
      exact v_J3_checkIndex_8e157_b9 X hr _ _ _ h
theorem c_J3_checkIndex_8e157 {a1 : Int32} {a2 : Int32} (hinj : INJ ad) {w : Mem} {Q : Int32 → Mem → Prop} (h : wp_J3_checkIndex_8e157 a1 a2 w Q) : Met l yJ3_checkIndex_8e157 (TBq yJ3_checkIndex_8e157 cJ3_checkIndex_8e157 3 (some .int)) (RM 0) (va_Pc [.int a1, .int a2, FM ad] (PB ad cy D (cmb w wm) wl0)) (va_Qi Q (BC ad cy D wm wl0) (AW ad)) 0 0 (AW ad) := M_enter (by decide) (by unfold FM; split <;> exact Nat.le_of_ble_eq_true rfl) hinj (fun p e s m args below meth c X hr => v_J3_checkIndex_8e157 X hr h)
theorem mf_J3_checkIndex_8e157 : MFS yJ3_checkIndex_8e157 cJ3_checkIndex_8e157 3 (some .int) 3 := ⟨q_598, q_597, q_17, by decide⟩
theorem K_J3_checkIndex_8e157 {own : String} {idx : Nat} {a1 : Int32} {a2 : Int32} (X : CXq p s m args meth c cc nL own ad cy D A H0) (hL : LK own idx yJ3_checkIndex_8e157) {w : Mem} {Q : Int32 → Mem → Prop} (h : wp_J3_checkIndex_8e157 a1 a2 w Q) (hR : (RM 0).frames + 1 ≤ R.frames ∧ 8 + (3 + 11) + (RM 0).locals ≤ R.locals) (hce : ce ≤ R.cells ∧ sl ≤ R.slots) (hcat : (st1.map fun v => v.category).sum ≤ 8) (hd : decode cc pc = .ok (.invokestatic idx, 3)) (kk : ∀ (r : Int32) (u : Mem), Q r u → V p l e R s m args below meth c nL ad cy D A H0 ce sl Qs u wm wl0 (pc + 3) ls (.int r :: st1)) : V p l e R s m args below meth c nL ad cy D A H0 ce sl Qs w wm wl0 pc ls (FM ad :: .int a2 :: .int a1 :: st1) := V_callSI_c X mf_J3_checkIndex_8e157 hL (c_J3_checkIndex_8e157 X.2.2.2.2.2.2.2.1 h) (As := [.int a1, .int a2, FM ad]) rfl ⟨rfl, rfl⟩ hR hce st1 rfl hcat hd kk
set_option maxRecDepth 20000 in
theorem v_J0_checkIndex_df160 {a1 : Int32} {a2 : Int32} (X : CXq p s m args meth c cJ0_checkIndex_df160 2 yJ0_checkIndex_df160.cls ad cy D (AW ad) s.heap) (hr : meth.sig.returnType = none) {w : Mem} {Q : Mem → Prop} (h : wp_J0_checkIndex_df160 a1 a2 w Q) : V p l e (RM 1) s m args below meth c 2 ad cy D (AW ad) s.heap 0 0 (MQ below (va_Qv Q (BC ad cy D wm wl0) (AW ad)) args s 0 0 (AW ad)) w wm wl0 0 [(0, .int a1), (1, .int a2)] [] := by
  unfold wp_J0_checkIndex_df160 at h
  refine V_iload_n X (i := 0) 0 dJ0_checkIndex_df160_0 rfl rfl ?_
  refine V_iload_n X (i := 1) 1 dJ0_checkIndex_df160_1 rfl rfl ?_
  refine V_gfm X q_594 dJ0_checkIndex_df160_2 ?_
  refine K_J3_checkIndex_8e157 X (Or.inl q_596) h ⟨Nat.le_of_ble_eq_true rfl, Nat.le_of_ble_eq_true rfl⟩ ⟨Nat.zero_le _, Nat.zero_le _⟩ (st1 := []) (Nat.le_of_ble_eq_true rfl) dJ0_checkIndex_df160_5 (fun r2 w1 h => ?_)
  refine V_pop X dJ0_checkIndex_df160_8 rfl ?_
  exact V_vret_c X hr dJ0_checkIndex_df160_9 h
theorem c_J0_checkIndex_df160 {a1 : Int32} {a2 : Int32} (hinj : INJ ad) {w : Mem} {Q : Mem → Prop} (h : wp_J0_checkIndex_df160 a1 a2 w Q) : Met l yJ0_checkIndex_df160 (TBq yJ0_checkIndex_df160 cJ0_checkIndex_df160 2 none) (RM 1) (va_Pc [.int a1, .int a2] (PB ad cy D (cmb w wm) wl0)) (va_Qv Q (BC ad cy D wm wl0) (AW ad)) 0 0 (AW ad) := M_enter (by decide) (Nat.le_of_ble_eq_true rfl) hinj (fun p e s m args below meth c X hr => v_J0_checkIndex_df160 X hr h)
theorem mf_J0_checkIndex_df160 : MFS yJ0_checkIndex_df160 cJ0_checkIndex_df160 2 none 2 := ⟨q_593, q_592, q_15, by decide⟩
theorem K_J0_checkIndex_df160 {own : String} {idx : Nat} {a1 : Int32} {a2 : Int32} (X : CXq p s m args meth c cc nL own ad cy D A H0) (hL : LK own idx yJ0_checkIndex_df160) {w : Mem} {Q : Mem → Prop} (h : wp_J0_checkIndex_df160 a1 a2 w Q) (hR : (RM 1).frames + 1 ≤ R.frames ∧ 8 + (2 + 11) + (RM 1).locals ≤ R.locals) (hce : ce ≤ R.cells ∧ sl ≤ R.slots) (hcat : (st1.map fun v => v.category).sum ≤ 8) (hd : decode cc pc = .ok (.invokestatic idx, 3)) (kk : ∀ (u : Mem), Q u → V p l e R s m args below meth c nL ad cy D A H0 ce sl Qs u wm wl0 (pc + 3) ls st1) : V p l e R s m args below meth c nL ad cy D A H0 ce sl Qs w wm wl0 pc ls (.int a2 :: .int a1 :: st1) := V_callSV_c X mf_J0_checkIndex_df160 hL (c_J0_checkIndex_df160 X.2.2.2.2.2.2.2.1 h) (As := [.int a1, .int a2]) rfl ⟨rfl, rfl⟩ hR hce st1 rfl hcat hd kk
set_option maxRecDepth 20000 in
theorem v_J1_charAt_3b067 {j1 : Nat} {a2 : Int32} (X : CXq p s m args meth c cJ1_charAt_3b067 2 yJ1_charAt_3b067.cls ad cy D (AW ad) s.heap) (hr : meth.sig.returnType = (some .char)) (hj1 : j1 < 2) {w : Mem} {Q : Int32 → Mem → Prop} (h : wp_J1_charAt_3b067 j1 a2 w Q) : V p l e (RM 2) s m args below meth c 2 ad cy D (AW ad) s.heap 0 0 (MQ below (va_Qi Q (BC ad cy D wm wl0) (AW ad)) args s 0 0 (AW ad)) w wm wl0 0 [(0, .ref (ad (210 + j1))), (1, .int a2)] [] := by
  unfold wp_J1_charAt_3b067 at h
  refine V_iload_n X (i := 1) 1 dJ1_charAt_3b067_0 rfl rfl ?_
  refine V_aload_n X (i := 0) 0 dJ1_charAt_3b067_1 rfl rfl ?_
  refine V_slen X hj1 dJ1_charAt_3b067_2 ?_
  refine K_J0_checkIndex_df160 X (Or.inl q_591) h ⟨Nat.le_of_ble_eq_true rfl, Nat.le_of_ble_eq_true rfl⟩ ⟨Nat.zero_le _, Nat.zero_le _⟩ (st1 := []) (Nat.le_of_ble_eq_true rfl) dJ1_charAt_3b067_3 (fun w1 h => ?_)
  refine V_aload_n X (i := 0) 0 dJ1_charAt_3b067_6 rfl rfl ?_
  refine V_iload_n X (i := 1) 1 dJ1_charAt_3b067_7 rfl rfl ?_
  obtain ⟨g2, h⟩ := h
  refine V_sbyt X hj1 g2 dJ1_charAt_3b067_8 ?_
  refine V_sipush X (v := (255 : Int32)) dJ1_charAt_3b067_9 (by decide) ?_
  refine V_iand X dJ1_charAt_3b067_12 ?_
  refine V_i2c X dJ1_charAt_3b067_13 ?_
  exact V_zret_c X hr dJ1_charAt_3b067_14 (pk_nc _) h
theorem c_J1_charAt_3b067 {j1 : Nat} {a2 : Int32} (hinj : INJ ad) (hj1 : j1 < 2) {w : Mem} {Q : Int32 → Mem → Prop} (h : wp_J1_charAt_3b067 j1 a2 w Q) : Met l yJ1_charAt_3b067 (TBq yJ1_charAt_3b067 cJ1_charAt_3b067 2 (some .char)) (RM 2) (va_Pc [.ref (ad (210 + j1)), .int a2] (PB ad cy D (cmb w wm) wl0)) (va_Qi Q (BC ad cy D wm wl0) (AW ad)) 0 0 (AW ad) := M_enter (by decide) (Nat.le_of_ble_eq_true rfl) hinj (fun p e s m args below meth c X hr => v_J1_charAt_3b067 X hr hj1 h)
theorem mf_J1_charAt_3b067 : MFS yJ1_charAt_3b067 cJ1_charAt_3b067 2 (some .char) 2 := ⟨q_590, q_589, q_16, by decide⟩
theorem K_J1_charAt_3b067 {own : String} {idx : Nat} {j1 : Nat} {a2 : Int32} (X : CXq p s m args meth c cc nL own ad cy D A H0) (hL : LK own idx yJ1_charAt_3b067) (hj1 : j1 < 2) {w : Mem} {Q : Int32 → Mem → Prop} (h : wp_J1_charAt_3b067 j1 a2 w Q) (hR : (RM 2).frames + 1 ≤ R.frames ∧ 8 + (2 + 11) + (RM 2).locals ≤ R.locals) (hce : ce ≤ R.cells ∧ sl ≤ R.slots) (hcat : (st1.map fun v => v.category).sum ≤ 8) (hd : decode cc pc = .ok (.invokestatic idx, 3)) (kk : ∀ (r : Int32) (u : Mem), Q r u → V p l e R s m args below meth c nL ad cy D A H0 ce sl Qs u wm wl0 (pc + 3) ls (.int r :: st1)) : V p l e R s m args below meth c nL ad cy D A H0 ce sl Qs w wm wl0 pc ls (.int a2 :: .ref (ad (210 + j1)) :: st1) := V_callSI_c X mf_J1_charAt_3b067 hL (c_J1_charAt_3b067 X.2.2.2.2.2.2.2.1 hj1 h) (As := [.ref (ad (210 + j1)), .int a2]) rfl ⟨rfl, rfl⟩ hR hce st1 rfl hcat hd kk
set_option maxRecDepth 20000 in
theorem v_J0_charAt_5068e {i : Nat} {a1 : Int32} (X : CXq p s m args meth c cJ0_charAt_5068e 2 yJ0_charAt_5068e.cls ad cy D (AW ad) s.heap) (hr : meth.sig.returnType = (some .char)) (hi : i < 2) {w : Mem} {Q : Int32 → Mem → Prop} (h : wp_J0_charAt_5068e i a1 w Q) : V p l e (RM 3) s m args below meth c 2 ad cy D (AW ad) s.heap 0 0 (MQ below (va_Qi Q (BC ad cy D wm wl0) (AW ad)) args s 0 0 (AW ad)) w wm wl0 0 [(0, .ref (ad (200 + i))), (1, .int a1)] [] := by
  unfold wp_J0_charAt_5068e at h
  refine V_aload_n X (i := 0) 0 dJ0_charAt_5068e_0 rfl rfl ?_
  refine K_J0_isLatin1_aae02 X (Or.inl q_584) hi h ⟨Nat.le_of_ble_eq_true rfl, Nat.le_of_ble_eq_true rfl⟩ ⟨Nat.zero_le _, Nat.zero_le _⟩ (st1 := []) (Nat.le_of_ble_eq_true rfl) dJ0_charAt_5068e_1 (fun r2 w1 h => ?_)
  obtain ⟨ht, hf⟩ := h
  refine V_if_eq X (tgt := 16) dJ0_charAt_5068e_4 (by decide) (fun c => ?_) (fun c => ?_)
  · have h := ht c
    refine V_aload_n X (i := 0) 0 dJ0_charAt_5068e_16 rfl rfl ?_
    refine V_sval X hi q_1835 dJ0_charAt_5068e_17 ?_
    refine V_iload_n X (i := 1) 1 dJ0_charAt_5068e_20 rfl rfl ?_
    exact h.elim
  · have h := hf c
    refine V_aload_n X (i := 0) 0 dJ0_charAt_5068e_7 rfl rfl ?_
    refine V_sval X hi q_1835 dJ0_charAt_5068e_8 ?_
    refine V_iload_n X (i := 1) 1 dJ0_charAt_5068e_11 rfl rfl ?_
    refine K_J1_charAt_3b067 X (Or.inl q_588) hi h ⟨Nat.le_of_ble_eq_true rfl, Nat.le_of_ble_eq_true rfl⟩ ⟨Nat.zero_le _, Nat.zero_le _⟩ (st1 := []) (Nat.le_of_ble_eq_true rfl) dJ0_charAt_5068e_12 (fun r4 w3 h => ?_)
    exact V_zret_c X hr dJ0_charAt_5068e_15 (ch_z h.1) h.2
theorem c_J0_charAt_5068e {i : Nat} {a1 : Int32} (hinj : INJ ad) (hi : i < 2) {w : Mem} {Q : Int32 → Mem → Prop} (h : wp_J0_charAt_5068e i a1 w Q) : Met l yJ0_charAt_5068e (TBq yJ0_charAt_5068e cJ0_charAt_5068e 2 (some .char)) (RM 3) (va_Pc [.ref (ad (200 + i)), .int a1] (PB ad cy D (cmb w wm) wl0)) (va_Qi Q (BC ad cy D wm wl0) (AW ad)) 0 0 (AW ad) := M_enter (by decide) (Nat.le_of_ble_eq_true rfl) hinj (fun p e s m args below meth c X hr => v_J0_charAt_5068e X hr hi h)
theorem mf_J0_charAt_5068e : MFV yJ0_charAt_5068e cJ0_charAt_5068e 2 (some .char) yJ0_charAt_5068e.cls 1 := ⟨q_583, q_581, q_582, q_15, by decide⟩
theorem K_J0_charAt_5068e {own : String} {idx : Nat} {i : Nat} {a1 : Int32} (X : CXq p s m args meth c cc nL own ad cy D (AW ad) s.heap) (hL : LK own idx yJ0_charAt_5068e) (hi : i < 2) {w : Mem} {Q : Int32 → Mem → Prop} (h : wp_J0_charAt_5068e i a1 w Q) (hR : (RM 3).frames + 1 ≤ R.frames ∧ 8 + (2 + 11) + (RM 3).locals ≤ R.locals) (hce : ce ≤ R.cells ∧ sl ≤ R.slots) (hcat : (st1.map fun v => v.category).sum ≤ 8) (hd : decode cc pc = .ok (.invokevirtual idx, 3)) (kk : ∀ (r : Int32) (u : Mem), Q r u → V p l e R s m args below meth c nL ad cy D (AW ad) s.heap ce sl Qs u wm wl0 (pc + 3) ls (.int r :: st1)) : V p l e R s m args below meth c nL ad cy D (AW ad) s.heap ce sl Qs w wm wl0 pc ls (.int a1 :: .ref (ad (200 + i)) :: st1) := V_callStr_c X mf_J0_charAt_5068e hL hi (c_J0_charAt_5068e X.2.2.2.2.2.2.2.1 hi h) (As := [.int a1]) rfl ⟨rfl, rfl⟩ hR hce st1 rfl hcat hd kk
set_option maxRecDepth 20000 in
theorem v_9_kindOfName_b101 (X : CXq p s m args meth c cX9_kindOfName 8 yX9_kindOfName.cls ad cy D (AW ad) s.heap) (hr : meth.sig.returnType = (some .int)) {Q : Int32 → Mem → Prop} {L13 : Int32 → Int32 → Int32 → Int32 → Int32 → Int32 → Mem → Prop} (HL13 : ∀ (l1 : Int32) (l2 : Int32) (l3 : Int32) (l4 : Int32) (l5 : Int32) (l6 : Int32) (w : Mem), L13 l1 l2 l3 l4 l5 l6 w → V p l e (RM 4) s m args below meth c 8 ad cy D (AW ad) s.heap 0 0 (MQ below (va_Qi Q (BC ad cy D wm wl0) (AW ad)) args s 0 0 (AW ad)) w wm wl0 13 [(0, .ref (ad 3)), (1, .int l1), (2, .int l2), (3, .int l3), (4, .int l4), (5, .int l5), (6, .int l6)] []) : ∀ (l1 : Int32) (l2 : Int32) (l3 : Int32) (l4 : Int32) (l5 : Int32) (l6 : Int32) (w : Mem), wp_9_kindOfName_b101 Q L13 l1 l2 l3 l4 l5 l6 w → V p l e (RM 4) s m args below meth c 8 ad cy D (AW ad) s.heap 0 0 (MQ below (va_Qi Q (BC ad cy D wm wl0) (AW ad)) args s 0 0 (AW ad)) w wm wl0 101 [(0, .ref (ad 3)), (1, .int l1), (2, .int l2), (3, .int l3), (4, .int l4), (5, .int l5), (6, .int l6)] [] := by
  intro l1 l2 l3 l4 l5 l6 w h
  unfold wp_9_kindOfName_b101 at h
  obtain ⟨x1, ex1⟩ : ∃ y : Int32, y = l6 + (1 : Int32) := ⟨_, rfl⟩
  have h := h x1 ex1
  refine V_iinc X 6 dX9_kindOfName_101 rfl (by decide) (by rw [ex1]; rfl) (ls1 := [(6, .int x1), (0, .ref (ad 3)), (1, .int l1), (2, .int l2), (3, .int l3), (4, .int l4), (5, .int l5)]) rfl ?_
  refine V_goto X (tgt := 13) dX9_kindOfName_104 (by decide) ?_
  refine V_sub X (ls1 := [(0, .ref (ad 3)), (1, .int l1), (2, .int l2), (3, .int l3), (4, .int l4), (5, .int l5), (6, .int x1)]) [1, 2, 3, 4, 5, 6, 0] rfl ?_
  exact HL13 _ _ _ _ _ _ _ h
set_option maxRecDepth 20000 in
theorem v_9_kindOfName_b92 (X : CXq p s m args meth c cX9_kindOfName 8 yX9_kindOfName.cls ad cy D (AW ad) s.heap) (hr : meth.sig.returnType = (some .int)) {Q : Int32 → Mem → Prop} {L13 : Int32 → Int32 → Int32 → Int32 → Int32 → Int32 → Mem → Prop} (HL13 : ∀ (l1 : Int32) (l2 : Int32) (l3 : Int32) (l4 : Int32) (l5 : Int32) (l6 : Int32) (w : Mem), L13 l1 l2 l3 l4 l5 l6 w → V p l e (RM 4) s m args below meth c 8 ad cy D (AW ad) s.heap 0 0 (MQ below (va_Qi Q (BC ad cy D wm wl0) (AW ad)) args s 0 0 (AW ad)) w wm wl0 13 [(0, .ref (ad 3)), (1, .int l1), (2, .int l2), (3, .int l3), (4, .int l4), (5, .int l5), (6, .int l6)] []) : ∀ (l1 : Int32) (l2 : Int32) (l3 : Int32) (l6 : Int32) (w : Mem), wp_9_kindOfName_b92 Q L13 l1 l2 l3 l6 w → V p l e (RM 4) s m args below meth c 8 ad cy D (AW ad) s.heap 0 0 (MQ below (va_Qi Q (BC ad cy D wm wl0) (AW ad)) args s 0 0 (AW ad)) w wm wl0 92 [(0, .ref (ad 3)), (1, .int l1), (2, .int l2), (3, .int l3), (6, .int l6)] [] := by
  intro l1 l2 l3 l6 w h
  unfold wp_9_kindOfName_b92 at h
  obtain ⟨x1, ex1⟩ : ∃ y : Int32, y = l3 + (1 : Int32) := ⟨_, rfl⟩
  have h := h x1 ex1
  refine V_iinc X 3 dX9_kindOfName_92 rfl (by decide) (by rw [ex1]; rfl) (ls1 := [(3, .int x1), (0, .ref (ad 3)), (1, .int l1), (2, .int l2), (6, .int l6)]) rfl ?_
  refine V_iconst X (v := (0 : Int32)) dX9_kindOfName_95 (by decide) ?_
  refine V_istore X dX9_kindOfName_96 (by decide) rfl (ls1 := [(4, .int (0 : Int32)), (3, .int x1), (0, .ref (ad 3)), (1, .int l1), (2, .int l2), (6, .int l6)]) rfl ?_
  refine V_iconst X (v := (1 : Int32)) dX9_kindOfName_98 (by decide) ?_
  refine V_istore X dX9_kindOfName_99 (by decide) rfl (ls1 := [(5, .int (1 : Int32)), (4, .int (0 : Int32)), (3, .int x1), (0, .ref (ad 3)), (1, .int l1), (2, .int l2), (6, .int l6)]) rfl ?_
  refine V_sub X (ls1 := [(0, .ref (ad 3)), (1, .int l1), (2, .int l2), (3, .int x1), (4, .int (0 : Int32)), (5, .int (1 : Int32)), (6, .int l6)]) [3, 4, 5, 2, 1, 0, 6] rfl ?_
  exact v_9_kindOfName_b101 X hr HL13 _ _ _ _ _ _ _ h
set_option maxRecDepth 20000 in
theorem v_9_kindOfName_b71 (X : CXq p s m args meth c cX9_kindOfName 8 yX9_kindOfName.cls ad cy D (AW ad) s.heap) (hr : meth.sig.returnType = (some .int)) {Q : Int32 → Mem → Prop} {L13 : Int32 → Int32 → Int32 → Int32 → Int32 → Int32 → Mem → Prop} (HL13 : ∀ (l1 : Int32) (l2 : Int32) (l3 : Int32) (l4 : Int32) (l5 : Int32) (l6 : Int32) (w : Mem), L13 l1 l2 l3 l4 l5 l6 w → V p l e (RM 4) s m args below meth c 8 ad cy D (AW ad) s.heap 0 0 (MQ below (va_Qi Q (BC ad cy D wm wl0) (AW ad)) args s 0 0 (AW ad)) w wm wl0 13 [(0, .ref (ad 3)), (1, .int l1), (2, .int l2), (3, .int l3), (4, .int l4), (5, .int l5), (6, .int l6)] []) : ∀ (l1 : Int32) (l2 : Int32) (l3 : Int32) (l4 : Int32) (l6 : Int32) (s0 : Int32) (w : Mem), wp_9_kindOfName_b71 Q L13 l1 l2 l3 l4 l6 s0 w → V p l e (RM 4) s m args below meth c 8 ad cy D (AW ad) s.heap 0 0 (MQ below (va_Qi Q (BC ad cy D wm wl0) (AW ad)) args s 0 0 (AW ad)) w wm wl0 71 [(0, .ref (ad 3)), (1, .int l1), (2, .int l2), (3, .int l3), (4, .int l4), (6, .int l6)] [.int s0] := by
  intro l1 l2 l3 l4 l6 s0 w h
  unfold wp_9_kindOfName_b71 at h
  refine V_istore X dX9_kindOfName_71 (by decide) rfl (ls1 := [(5, .int s0), (0, .ref (ad 3)), (1, .int l1), (2, .int l2), (3, .int l3), (4, .int l4), (6, .int l6)]) rfl ?_
  obtain ⟨x1, ex1⟩ : ∃ y : Int32, y = l4 + (1 : Int32) := ⟨_, rfl⟩
  have h := h x1 ex1
  refine V_iinc X 5 dX9_kindOfName_73 rfl (by decide) (by rw [ex1]; rfl) (ls1 := [(4, .int x1), (5, .int s0), (0, .ref (ad 3)), (1, .int l1), (2, .int l2), (3, .int l3), (6, .int l6)]) rfl ?_
  refine V_goto X (tgt := 101) dX9_kindOfName_76 (by decide) ?_
  refine V_sub X (ls1 := [(0, .ref (ad 3)), (1, .int l1), (2, .int l2), (3, .int l3), (4, .int x1), (5, .int s0), (6, .int l6)]) [2, 3, 4, 5, 0, 1, 6] rfl ?_
  exact v_9_kindOfName_b101 X hr HL13 _ _ _ _ _ _ _ h
set_option maxRecDepth 20000 in
theorem v_9_kindOfName_b70 (X : CXq p s m args meth c cX9_kindOfName 8 yX9_kindOfName.cls ad cy D (AW ad) s.heap) (hr : meth.sig.returnType = (some .int)) {Q : Int32 → Mem → Prop} {L13 : Int32 → Int32 → Int32 → Int32 → Int32 → Int32 → Mem → Prop} (HL13 : ∀ (l1 : Int32) (l2 : Int32) (l3 : Int32) (l4 : Int32) (l5 : Int32) (l6 : Int32) (w : Mem), L13 l1 l2 l3 l4 l5 l6 w → V p l e (RM 4) s m args below meth c 8 ad cy D (AW ad) s.heap 0 0 (MQ below (va_Qi Q (BC ad cy D wm wl0) (AW ad)) args s 0 0 (AW ad)) w wm wl0 13 [(0, .ref (ad 3)), (1, .int l1), (2, .int l2), (3, .int l3), (4, .int l4), (5, .int l5), (6, .int l6)] []) : ∀ (l1 : Int32) (l2 : Int32) (l3 : Int32) (l4 : Int32) (l6 : Int32) (w : Mem), wp_9_kindOfName_b70 Q L13 l1 l2 l3 l4 l6 w → V p l e (RM 4) s m args below meth c 8 ad cy D (AW ad) s.heap 0 0 (MQ below (va_Qi Q (BC ad cy D wm wl0) (AW ad)) args s 0 0 (AW ad)) w wm wl0 70 [(0, .ref (ad 3)), (1, .int l1), (2, .int l2), (3, .int l3), (4, .int l4), (6, .int l6)] [] := by
  intro l1 l2 l3 l4 l6 w h
  unfold wp_9_kindOfName_b70 at h
  refine V_iconst X (v := (0 : Int32)) dX9_kindOfName_70 (by decide) ?_
  refine V_sub X (ls1 := [(0, .ref (ad 3)), (1, .int l1), (2, .int l2), (3, .int l3), (4, .int l4), (6, .int l6)]) [0, 1, 2, 3, 4, 5] rfl ?_
  exact v_9_kindOfName_b71 X hr HL13 _ _ _ _ _ _ _ h
set_option maxRecDepth 20000 in
theorem v_9_kindOfName_b13 (X : CXq p s m args meth c cX9_kindOfName 8 yX9_kindOfName.cls ad cy D (AW ad) s.heap) (hr : meth.sig.returnType = (some .int)) {Q : Int32 → Mem → Prop} : ∀ (n : Nat) (l1 : Int32) (l2 : Int32) (l3 : Int32) (l4 : Int32) (l5 : Int32) (l6 : Int32) (w : Mem), wp_9_kindOfName_b13 Q n l1 l2 l3 l4 l5 l6 w → V p l e (RM 4) s m args below meth c 8 ad cy D (AW ad) s.heap 0 0 (MQ below (va_Qi Q (BC ad cy D wm wl0) (AW ad)) args s 0 0 (AW ad)) w wm wl0 13 [(0, .ref (ad 3)), (1, .int l1), (2, .int l2), (3, .int l3), (4, .int l4), (5, .int l5), (6, .int l6)] [] := by
  intro n
  induction n with
  | zero =>
    intro l1 l2 l3 l4 l5 l6 w h
    exact h.elim
  | succ n ih =>
    intro l1 l2 l3 l4 l5 l6 w h
    unfold wp_9_kindOfName_b13 at h
    refine V_iload X (i := 6) 6 dX9_kindOfName_13 rfl ?_
    refine V_ldcS0 X rfl dX9_kindOfName_15 ?_
    refine K_J0_length_8abf5 X (Or.inl q_570) (by decide : 0 < 2) h ⟨Nat.le_of_ble_eq_true rfl, Nat.le_of_ble_eq_true rfl⟩ ⟨Nat.zero_le _, Nat.zero_le _⟩ (st1 := [.int l6]) (Nat.le_of_ble_eq_true rfl) dX9_kindOfName_17 (fun r2 w1 h => ?_)
    obtain ⟨ht, hf⟩ := h
    refine V_icmp_ge X (tgt := 107) dX9_kindOfName_20 (by decide) (fun c => ?_) (fun c => ?_)
    · have h := ht c
      refine V_iconst X (v := (2 : Int32)) dX9_kindOfName_107 (by decide) ?_
      exact V_iret_c X hr dX9_kindOfName_108 h
    · have h := hf c
      refine V_ldcS0 X rfl dX9_kindOfName_23 ?_
      refine V_iload X (i := 6) 6 dX9_kindOfName_25 rfl ?_
      refine K_J0_charAt_5068e X (Or.inl q_580) (by decide : 0 < 2) h ⟨Nat.le_of_ble_eq_true rfl, Nat.le_of_ble_eq_true rfl⟩ ⟨Nat.zero_le _, Nat.zero_le _⟩ (st1 := []) (Nat.le_of_ble_eq_true rfl) dX9_kindOfName_27 (fun r4 w3 h => ?_)
      refine V_istore X dX9_kindOfName_30 (by decide) rfl (ls1 := [(7, .int r4), (0, .ref (ad 3)), (1, .int l1), (2, .int l2), (3, .int l3), (4, .int l4), (5, .int l5), (6, .int l6)]) rfl ?_
      refine V_iload X (i := 7) 0 dX9_kindOfName_32 rfl ?_
      refine V_bipush X (v := (32 : Int32)) dX9_kindOfName_34 (by decide) ?_
      obtain ⟨ht, hf⟩ := h
      refine V_icmp_eq X (tgt := 79) dX9_kindOfName_36 (by decide) (fun c => ?_) (fun c => ?_)
      · have h := ht c
        refine V_iload X (i := 5) 6 dX9_kindOfName_79 rfl ?_
        obtain ⟨ht, hf⟩ := h
        refine V_if_eq X (tgt := 92) dX9_kindOfName_81 (by decide) (fun c => ?_) (fun c => ?_)
        · have h := ht c
          refine V_sub X (ls1 := [(0, .ref (ad 3)), (1, .int l1), (2, .int l2), (3, .int l3), (6, .int l6)]) [1, 2, 3, 4, 7] rfl ?_
          exact v_9_kindOfName_b92 X hr ih _ _ _ _ _ h
        · have h := hf c
          refine V_iload X (i := 4) 5 dX9_kindOfName_84 rfl ?_
          refine V_iload_n X (i := 2) 3 dX9_kindOfName_86 rfl rfl ?_
          obtain ⟨ht, hf⟩ := h
          refine V_icmp_ne X (tgt := 92) dX9_kindOfName_87 (by decide) (fun c => ?_) (fun c => ?_)
          · have h := ht c
            refine V_sub X (ls1 := [(0, .ref (ad 3)), (1, .int l1), (2, .int l2), (3, .int l3), (6, .int l6)]) [1, 2, 3, 4, 7] rfl ?_
            exact v_9_kindOfName_b92 X hr ih _ _ _ _ _ h
          · have h := hf c
            refine V_iload_n X (i := 3) 4 dX9_kindOfName_90 rfl rfl ?_
            exact V_iret_c X hr dX9_kindOfName_91 h
      · have h := hf c
        refine V_iload X (i := 5) 6 dX9_kindOfName_39 rfl ?_
        obtain ⟨ht, hf⟩ := h
        refine V_if_eq X (tgt := 70) dX9_kindOfName_41 (by decide) (fun c => ?_) (fun c => ?_)
        · have h := ht c
          refine V_sub X (ls1 := [(0, .ref (ad 3)), (1, .int l1), (2, .int l2), (3, .int l3), (4, .int l4), (6, .int l6)]) [1, 2, 3, 4, 5, 7] rfl ?_
          exact v_9_kindOfName_b70 X hr ih _ _ _ _ _ _ h
        · have h := hf c
          refine V_iload X (i := 4) 5 dX9_kindOfName_44 rfl ?_
          refine V_iload_n X (i := 2) 3 dX9_kindOfName_46 rfl rfl ?_
          obtain ⟨ht, hf⟩ := h
          refine V_icmp_ge X (tgt := 70) dX9_kindOfName_47 (by decide) (fun c => ?_) (fun c => ?_)
          · have h := ht c
            refine V_sub X (ls1 := [(0, .ref (ad 3)), (1, .int l1), (2, .int l2), (3, .int l3), (4, .int l4), (6, .int l6)]) [1, 2, 3, 4, 5, 7] rfl ?_
            exact v_9_kindOfName_b70 X hr ih _ _ _ _ _ _ h
          · have h := hf c
            refine V_aload_n X (i := 0) 1 dX9_kindOfName_50 rfl rfl ?_
            refine G_9_21 X dX9_kindOfName_51 ?_
            refine V_iload_n X (i := 1) 2 dX9_kindOfName_54 rfl rfl ?_
            refine V_iload X (i := 4) 5 dX9_kindOfName_55 rfl ?_
            refine V_iadd X dX9_kindOfName_57 ?_
            refine K_7_byteAt X (Or.inl q_547) h ⟨Nat.le_of_ble_eq_true rfl, Nat.le_of_ble_eq_true rfl⟩ ⟨Nat.zero_le _, Nat.zero_le _⟩ (st1 := []) (Nat.le_of_ble_eq_true rfl) dX9_kindOfName_58 (fun r6 w5 h => ?_)
            refine V_iload X (i := 7) 0 dX9_kindOfName_61 rfl ?_
            obtain ⟨ht, hf⟩ := h
            refine V_icmp_ne X (tgt := 70) dX9_kindOfName_63 (by decide) (fun c => ?_) (fun c => ?_)
            · have h := ht c
              refine V_sub X (ls1 := [(0, .ref (ad 3)), (1, .int l1), (2, .int l2), (3, .int l3), (4, .int l4), (6, .int l6)]) [1, 2, 3, 4, 5, 7] rfl ?_
              exact v_9_kindOfName_b70 X hr ih _ _ _ _ _ _ h
            · have h := hf c
              refine V_iconst X (v := (1 : Int32)) dX9_kindOfName_66 (by decide) ?_
              refine V_goto X (tgt := 71) dX9_kindOfName_67 (by decide) ?_
              refine V_sub X (ls1 := [(0, .ref (ad 3)), (1, .int l1), (2, .int l2), (3, .int l3), (4, .int l4), (6, .int l6)]) [1, 2, 3, 4, 5, 7] rfl ?_
              exact v_9_kindOfName_b71 X hr ih _ _ _ _ _ _ _ h
set_option maxRecDepth 20000 in
theorem v_9_kindOfName {a1 : Int32} {a2 : Int32} (X : CXq p s m args meth c cX9_kindOfName 8 yX9_kindOfName.cls ad cy D (AW ad) s.heap) (hr : meth.sig.returnType = (some .int)) {w : Mem} {Q : Int32 → Mem → Prop} (h : wp_9_kindOfName a1 a2 w Q) : V p l e (RM 4) s m args below meth c 8 ad cy D (AW ad) s.heap 0 0 (MQ below (va_Qi Q (BC ad cy D wm wl0) (AW ad)) args s 0 0 (AW ad)) w wm wl0 0 [(0, .ref (ad 3)), (1, .int a1), (2, .int a2)] [] := by
  unfold wp_9_kindOfName at h
  refine V_sipush X (v := (128 : Int32)) dX9_kindOfName_0 (by decide) ?_
  refine V_istore_n X dX9_kindOfName_3 rfl (by decide) rfl (ls1 := [(3, .int (128 : Int32)), (0, .ref (ad 3)), (1, .int a1), (2, .int a2)]) rfl ?_
  refine V_iconst X (v := (0 : Int32)) dX9_kindOfName_4 (by decide) ?_
  refine V_istore X dX9_kindOfName_5 (by decide) rfl (ls1 := [(4, .int (0 : Int32)), (3, .int (128 : Int32)), (0, .ref (ad 3)), (1, .int a1), (2, .int a2)]) rfl ?_
  refine V_iconst X (v := (1 : Int32)) dX9_kindOfName_7 (by decide) ?_
  refine V_istore X dX9_kindOfName_8 (by decide) rfl (ls1 := [(5, .int (1 : Int32)), (4, .int (0 : Int32)), (3, .int (128 : Int32)), (0, .ref (ad 3)), (1, .int a1), (2, .int a2)]) rfl ?_
  refine V_iconst X (v := (0 : Int32)) dX9_kindOfName_10 (by decide) ?_
  refine V_istore X dX9_kindOfName_11 (by decide) rfl (ls1 := [(6, .int (0 : Int32)), (5, .int (1 : Int32)), (4, .int (0 : Int32)), (3, .int (128 : Int32)), (0, .ref (ad 3)), (1, .int a1), (2, .int a2)]) rfl ?_
  refine V_sub X (ls1 := [(0, .ref (ad 3)), (1, .int a1), (2, .int a2), (3, .int (128 : Int32)), (4, .int (0 : Int32)), (5, .int (1 : Int32)), (6, .int (0 : Int32))]) [4, 5, 6, 3, 2, 1, 0] rfl ?_
  obtain ⟨nn, h⟩ := h
  exact v_9_kindOfName_b13 X hr nn _ _ _ _ _ _ _ h
theorem c_9_kindOfName {a1 : Int32} {a2 : Int32} (hinj : INJ ad) {w : Mem} {Q : Int32 → Mem → Prop} (h : wp_9_kindOfName a1 a2 w Q) : Met l yX9_kindOfName (TBq yX9_kindOfName cX9_kindOfName 8 (some .int)) (RM 4) (va_Pc [.ref (ad 3), .int a1, .int a2] (PB ad cy D (cmb w wm) wl0)) (va_Qi Q (BC ad cy D wm wl0) (AW ad)) 0 0 (AW ad) := M_enter (by decide) (Nat.le_of_ble_eq_true rfl) hinj (fun p e s m args below meth c X hr => v_9_kindOfName X hr h)
theorem mf_9_kindOfName : MFV yX9_kindOfName cX9_kindOfName 8 (some .int) yX9_kindOfName.cls 2 := ⟨q_568, q_567, qs_4, q_3, by decide⟩
theorem K_9_kindOfName {own : String} {idx : Nat} {a1 : Int32} {a2 : Int32} (X : CXq p s m args meth c cc nL own ad cy D A H0) (hL : LK own idx yX9_kindOfName) {w : Mem} {Q : Int32 → Mem → Prop} (h : wp_9_kindOfName a1 a2 w Q) (hR : (RM 4).frames + 1 ≤ R.frames ∧ 8 + (8 + 11) + (RM 4).locals ≤ R.locals) (hce : ce ≤ R.cells ∧ sl ≤ R.slots) (hcat : (st1.map fun v => v.category).sum ≤ 8) (hd : decode cc pc = .ok (.invokevirtual idx, 3)) (kk : ∀ (r : Int32) (u : Mem), Q r u → V p l e R s m args below meth c nL ad cy D A H0 ce sl Qs u wm wl0 (pc + 3) ls (.int r :: st1)) : V p l e R s m args below meth c nL ad cy D A H0 ce sl Qs w wm wl0 pc ls (.int a2 :: .int a1 :: .ref (ad 3) :: st1) := V_callVI_c X mf_9_kindOfName hL (rfl : vwCl[9]? = some (RX9, TX9, 5)) (by decide) (rfl : SK 3 = 9) (Nat.lt_of_lt_of_le (by decide : 3 < 150) (CX_nn X)) (c_9_kindOfName X.2.2.2.2.2.2.2.1 h) (As := [.int a1, .int a2]) rfl ⟨rfl, rfl⟩ hR hce st1 rfl hcat hd kk
set_option maxRecDepth 20000 in
theorem v_9_scanName_b89 (X : CXq p s m args meth c cX9_scanName 3 yX9_scanName.cls ad cy D (AW ad) s.heap) (hr : meth.sig.returnType = none) {Q : Mem → Prop} : ∀ (s1 : Int32) (s2 : Int32) (w : Mem), wp_9_scanName_b89 Q s1 s2 w → V p l e (RM 5) s m args below meth c 3 ad cy D (AW ad) s.heap 0 0 (MQ below (va_Qv Q (BC ad cy D wm wl0) (AW ad)) args s 0 0 (AW ad)) w wm wl0 89 [] [.int s2, .int s1, .ref (ad 4)] := by
  intro s1 s2 w h
  unfold wp_9_scanName_b89 at h
  obtain ⟨g1, h⟩ := h
  obtain ⟨w2, ew2⟩ : ∃ y : Mem, y = st w 4 (ix s1) s2 := ⟨_, rfl⟩
  have h := h w2 ew2
  refine V_iast_c X (rfl : SLq 4 = 401) (by decide) (rfl : SK 4 = 14) g1 dX9_scanName_89 ew2 ?_
  exact V_vret_c X hr dX9_scanName_90 h
set_option maxRecDepth 20000 in
theorem v_9_scanName_b44 (X : CXq p s m args meth c cX9_scanName 3 yX9_scanName.cls ad cy D (AW ad) s.heap) (hr : meth.sig.returnType = none) {Q : Mem → Prop} : ∀ (l1 : Int32) (w : Mem), wp_9_scanName_b44 Q l1 w → V p l e (RM 5) s m args below meth c 3 ad cy D (AW ad) s.heap 0 0 (MQ below (va_Qv Q (BC ad cy D wm wl0) (AW ad)) args s 0 0 (AW ad)) w wm wl0 44 [(0, .ref (ad 3)), (1, .int l1)] [] := by
  intro l1 w h
  unfold wp_9_scanName_b44 at h
  refine V_aload_n X (i := 0) 0 dX9_scanName_44 rfl rfl ?_
  refine G_9_25 X dX9_scanName_45 ?_
  refine V_aload_n X (i := 0) 0 dX9_scanName_48 rfl rfl ?_
  refine G_9_15 X dX9_scanName_49 ?_
  refine V_iload_n X (i := 1) 1 dX9_scanName_52 rfl rfl ?_
  obtain ⟨g1, h⟩ := h
  refine V_iald_c X (rfl : SLq 5 = 401) (by decide) (rfl : SK 5 = 14) g1 dX9_scanName_53 ?_
  refine V_isub X dX9_scanName_54 ?_
  obtain ⟨x2, ex2⟩ : ∃ y : Int32, y = ((w 3 4) - (w 5 (ix l1))) := ⟨_, rfl⟩
  have h := h x2 ex2
  refine V_istore_n X dX9_scanName_55 rfl (by decide) ex2 (ls1 := [(2, .int x2), (0, .ref (ad 3)), (1, .int l1)]) rfl ?_
  refine V_aload_n X (i := 0) 1 dX9_scanName_56 rfl rfl ?_
  refine G_9_18 X dX9_scanName_57 ?_
  refine V_iload_n X (i := 1) 2 dX9_scanName_60 rfl rfl ?_
  refine V_iload_n X (i := 2) 0 dX9_scanName_61 rfl rfl ?_
  obtain ⟨g3, h⟩ := h
  obtain ⟨w4, ew4⟩ : ∃ y : Mem, y = st w 6 (ix l1) x2 := ⟨_, rfl⟩
  have h := h w4 ew4
  refine V_iast_c X (rfl : SLq 6 = 401) (by decide) (rfl : SK 6 = 14) g3 dX9_scanName_62 ew4 ?_
  refine V_aload_n X (i := 0) 1 dX9_scanName_63 rfl rfl ?_
  refine G_9_11 X dX9_scanName_64 ?_
  refine V_iload_n X (i := 1) 2 dX9_scanName_67 rfl rfl ?_
  refine V_iload_n X (i := 2) 0 dX9_scanName_68 rfl rfl ?_
  refine V_bipush X (v := (8 : Int32)) dX9_scanName_69 (by decide) ?_
  obtain ⟨ht, hf⟩ := h
  refine V_icmp_le X (tgt := 78) dX9_scanName_71 (by decide) (fun c => ?_) (fun c => ?_)
  · have h := ht c
    refine V_aload_n X (i := 0) 1 dX9_scanName_78 rfl rfl ?_
    refine V_aload_n X (i := 0) 1 dX9_scanName_79 rfl rfl ?_
    refine G_9_15 X dX9_scanName_80 ?_
    refine V_iload_n X (i := 1) 2 dX9_scanName_83 rfl rfl ?_
    obtain ⟨g5, h⟩ := h
    refine V_iald_c X (rfl : SLq 5 = 401) (by decide) (rfl : SK 5 = 14) g5 dX9_scanName_84 ?_
    refine V_iload_n X (i := 2) 0 dX9_scanName_85 rfl rfl ?_
    refine K_9_kindOfName X (Or.inl q_565) h ⟨Nat.le_of_ble_eq_true rfl, Nat.le_of_ble_eq_true rfl⟩ ⟨Nat.zero_le _, Nat.zero_le _⟩ (st1 := [.int l1, .ref (ad 4)]) (Nat.le_of_ble_eq_true rfl) dX9_scanName_86 (fun r7 w6 h => ?_)
    refine V_sub X (ls1 := []) [] rfl ?_
    exact v_9_scanName_b89 X hr _ _ _ h
  · have h := hf c
    refine V_iconst X (v := (1 : Int32)) dX9_scanName_74 (by decide) ?_
    refine V_goto X (tgt := 89) dX9_scanName_75 (by decide) ?_
    refine V_sub X (ls1 := []) [] rfl ?_
    exact v_9_scanName_b89 X hr _ _ _ h
set_option maxRecDepth 20000 in
theorem v_9_scanName_b0 (X : CXq p s m args meth c cX9_scanName 3 yX9_scanName.cls ad cy D (AW ad) s.heap) (hr : meth.sig.returnType = none) {Q : Mem → Prop} : ∀ (n : Nat) (l1 : Int32) (w : Mem), wp_9_scanName_b0 Q n l1 w → V p l e (RM 5) s m args below meth c 3 ad cy D (AW ad) s.heap 0 0 (MQ below (va_Qv Q (BC ad cy D wm wl0) (AW ad)) args s 0 0 (AW ad)) w wm wl0 0 [(0, .ref (ad 3)), (1, .int l1)] [] := by
  intro n
  induction n with
  | zero =>
    intro l1 w h
    exact h.elim
  | succ n ih =>
    intro l1 w h
    unfold wp_9_scanName_b0 at h
    refine V_aload_n X (i := 0) 0 dX9_scanName_0 rfl rfl ?_
    refine G_9_25 X dX9_scanName_1 ?_
    refine V_aload_n X (i := 0) 0 dX9_scanName_4 rfl rfl ?_
    refine G_9_21 X dX9_scanName_5 ?_
    refine G_9_42 X dX9_scanName_8 ?_
    obtain ⟨ht, hf⟩ := h
    refine V_icmp_ge X (tgt := 44) dX9_scanName_11 (by decide) (fun c => ?_) (fun c => ?_)
    · have h := ht c
      refine V_sub X (ls1 := [(0, .ref (ad 3)), (1, .int l1)]) [0, 1] rfl ?_
      exact v_9_scanName_b44 X hr _ _ h
    · have h := hf c
      refine V_aload_n X (i := 0) 0 dX9_scanName_14 rfl rfl ?_
      refine G_9_21 X dX9_scanName_15 ?_
      refine V_aload_n X (i := 0) 0 dX9_scanName_18 rfl rfl ?_
      refine G_9_25 X dX9_scanName_19 ?_
      refine K_7_byteAt X (Or.inl q_547) h ⟨Nat.le_of_ble_eq_true rfl, Nat.le_of_ble_eq_true rfl⟩ ⟨Nat.zero_le _, Nat.zero_le _⟩ (st1 := []) (Nat.le_of_ble_eq_true rfl) dX9_scanName_22 (fun r2 w1 h => ?_)
      refine K_9_isLetter X (Or.inl q_558) h ⟨Nat.le_of_ble_eq_true rfl, Nat.le_of_ble_eq_true rfl⟩ ⟨Nat.zero_le _, Nat.zero_le _⟩ (st1 := []) (Nat.le_of_ble_eq_true rfl) dX9_scanName_25 (fun r4 w3 h => ?_)
      obtain ⟨ht, hf⟩ := h
      refine V_if_eq X (tgt := 44) dX9_scanName_28 (by decide) (fun c => ?_) (fun c => ?_)
      · have h := ht c
        refine V_sub X (ls1 := [(0, .ref (ad 3)), (1, .int l1)]) [0, 1] rfl ?_
        exact v_9_scanName_b44 X hr _ _ h
      · have h := hf c
        refine V_aload_n X (i := 0) 0 dX9_scanName_31 rfl rfl ?_
        refine V_dup X dX9_scanName_32 rfl ?_
        refine G_9_25 X dX9_scanName_33 ?_
        refine V_iconst X (v := (1 : Int32)) dX9_scanName_36 (by decide) ?_
        refine V_iadd X dX9_scanName_37 ?_
        obtain ⟨w5, ew5⟩ : ∃ y : Mem, y = st w3 3 4 ((w3 3 4) + (1 : Int32)) := ⟨_, rfl⟩
        have h := h w5 ew5
        refine U_9_25 X rfl rfl dX9_scanName_38 ew5 ?_
        refine V_goto X (tgt := 0) dX9_scanName_41 (by decide) ?_
        refine V_sub X (ls1 := [(0, .ref (ad 3)), (1, .int l1)]) [0, 1] rfl ?_
        exact ih _ _ h
set_option maxRecDepth 20000 in
theorem v_9_scanName {a1 : Int32} (X : CXq p s m args meth c cX9_scanName 3 yX9_scanName.cls ad cy D (AW ad) s.heap) (hr : meth.sig.returnType = none) {w : Mem} {Q : Mem → Prop} (h : wp_9_scanName a1 w Q) : V p l e (RM 5) s m args below meth c 3 ad cy D (AW ad) s.heap 0 0 (MQ below (va_Qv Q (BC ad cy D wm wl0) (AW ad)) args s 0 0 (AW ad)) w wm wl0 0 [(0, .ref (ad 3)), (1, .int a1)] [] := by
  unfold wp_9_scanName at h
  refine V_sub X (ls1 := [(0, .ref (ad 3)), (1, .int a1)]) [0, 1] rfl ?_
  obtain ⟨nn, h⟩ := h
  exact v_9_scanName_b0 X hr nn _ _ h
theorem c_9_scanName {a1 : Int32} (hinj : INJ ad) {w : Mem} {Q : Mem → Prop} (h : wp_9_scanName a1 w Q) : Met l yX9_scanName (TBq yX9_scanName cX9_scanName 3 none) (RM 5) (va_Pc [.ref (ad 3), .int a1] (PB ad cy D (cmb w wm) wl0)) (va_Qv Q (BC ad cy D wm wl0) (AW ad)) 0 0 (AW ad) := M_enter (by decide) (Nat.le_of_ble_eq_true rfl) hinj (fun p e s m args below meth c X hr => v_9_scanName X hr h)
theorem mf_9_scanName : MFV yX9_scanName cX9_scanName 3 none yX9_scanName.cls 1 := ⟨q_564, q_563, qs_3, q_3, by decide⟩
theorem K_9_scanName {own : String} {idx : Nat} {a1 : Int32} (X : CXq p s m args meth c cc nL own ad cy D A H0) (hL : LK own idx yX9_scanName) {w : Mem} {Q : Mem → Prop} (h : wp_9_scanName a1 w Q) (hR : (RM 5).frames + 1 ≤ R.frames ∧ 8 + (3 + 11) + (RM 5).locals ≤ R.locals) (hce : ce ≤ R.cells ∧ sl ≤ R.slots) (hcat : (st1.map fun v => v.category).sum ≤ 8) (hd : decode cc pc = .ok (.invokevirtual idx, 3)) (kk : ∀ (u : Mem), Q u → V p l e R s m args below meth c nL ad cy D A H0 ce sl Qs u wm wl0 (pc + 3) ls st1) : V p l e R s m args below meth c nL ad cy D A H0 ce sl Qs w wm wl0 pc ls (.int a1 :: .ref (ad 3) :: st1) := V_callVV_c X mf_9_scanName hL (rfl : vwCl[9]? = some (RX9, TX9, 5)) (by decide) (rfl : SK 3 = 9) (Nat.lt_of_lt_of_le (by decide : 3 < 150) (CX_nn X)) (c_9_scanName X.2.2.2.2.2.2.2.1 h) (As := [.int a1]) rfl ⟨rfl, rfl⟩ hR hce st1 rfl hcat hd kk
set_option maxRecDepth 20000 in
theorem v_9_isDigit_b16 (X : CXq p s m args meth c cX9_isDigit 1 yX9_isDigit.cls ad cy D (AW ad) s.heap) (hr : meth.sig.returnType = (some .boolean)) {Q : Int32 → Mem → Prop} : ∀ (w : Mem), wp_9_isDigit_b16 Q w → V p l e (RM 0) s m args below meth c 1 ad cy D (AW ad) s.heap 0 0 (MQ below (va_Qi Q (BC ad cy D wm wl0) (AW ad)) args s 0 0 (AW ad)) w wm wl0 16 [] [] := by
  intro w h
  unfold wp_9_isDigit_b16 at h
  refine V_iconst X (v := (0 : Int32)) dX9_isDigit_16 (by decide) ?_
  exact V_zret_c X hr dX9_isDigit_17 rfl h
set_option maxRecDepth 20000 in
theorem v_9_isDigit {a1 : Int32} (X : CXq p s m args meth c cX9_isDigit 1 yX9_isDigit.cls ad cy D (AW ad) s.heap) (hr : meth.sig.returnType = (some .boolean)) {w : Mem} {Q : Int32 → Mem → Prop} (h : wp_9_isDigit a1 w Q) : V p l e (RM 0) s m args below meth c 1 ad cy D (AW ad) s.heap 0 0 (MQ below (va_Qi Q (BC ad cy D wm wl0) (AW ad)) args s 0 0 (AW ad)) w wm wl0 0 [(0, .int a1)] [] := by
  unfold wp_9_isDigit at h
  refine V_iload_n X (i := 0) 0 dX9_isDigit_0 rfl rfl ?_
  refine V_bipush X (v := (48 : Int32)) dX9_isDigit_1 (by decide) ?_
  obtain ⟨ht, hf⟩ := h
  refine V_icmp_lt X (tgt := 16) dX9_isDigit_3 (by decide) (fun c => ?_) (fun c => ?_)
  · have h := ht c
    refine V_sub X (ls1 := []) [] rfl ?_
    exact v_9_isDigit_b16 X hr _ h
  · have h := hf c
    refine V_iload_n X (i := 0) 0 dX9_isDigit_6 rfl rfl ?_
    refine V_bipush X (v := (57 : Int32)) dX9_isDigit_7 (by decide) ?_
    obtain ⟨ht, hf⟩ := h
    refine V_icmp_gt X (tgt := 16) dX9_isDigit_9 (by decide) (fun c => ?_) (fun c => ?_)
    · have h := ht c
      refine V_sub X (ls1 := []) [] rfl ?_
      exact v_9_isDigit_b16 X hr _ h
    · have h := hf c
      refine V_iconst X (v := (1 : Int32)) dX9_isDigit_12 (by decide) ?_
      refine V_goto X (tgt := 17) dX9_isDigit_13 (by decide) ?_
      exact V_zret_c X hr dX9_isDigit_17 rfl h
theorem c_9_isDigit {a1 : Int32} (hinj : INJ ad) {w : Mem} {Q : Int32 → Mem → Prop} (h : wp_9_isDigit a1 w Q) : Met l yX9_isDigit (TBq yX9_isDigit cX9_isDigit 1 (some .boolean)) (RM 0) (va_Pc [.int a1] (PB ad cy D (cmb w wm) wl0)) (va_Qi Q (BC ad cy D wm wl0) (AW ad)) 0 0 (AW ad) := M_enter (by decide) (Nat.le_of_ble_eq_true rfl) hinj (fun p e s m args below meth c X hr => v_9_isDigit X hr h)
theorem mf_9_isDigit : MFS yX9_isDigit cX9_isDigit 1 (some .boolean) 1 := ⟨q_620, q_619, q_3, by decide⟩
theorem K_9_isDigit {own : String} {idx : Nat} {a1 : Int32} (X : CXq p s m args meth c cc nL own ad cy D A H0) (hL : LK own idx yX9_isDigit) {w : Mem} {Q : Int32 → Mem → Prop} (h : wp_9_isDigit a1 w Q) (hR : (RM 0).frames + 1 ≤ R.frames ∧ 8 + (1 + 11) + (RM 0).locals ≤ R.locals) (hce : ce ≤ R.cells ∧ sl ≤ R.slots) (hcat : (st1.map fun v => v.category).sum ≤ 8) (hd : decode cc pc = .ok (.invokestatic idx, 3)) (kk : ∀ (r : Int32) (u : Mem), Q r u → V p l e R s m args below meth c nL ad cy D A H0 ce sl Qs u wm wl0 (pc + 3) ls (.int r :: st1)) : V p l e R s m args below meth c nL ad cy D A H0 ce sl Qs w wm wl0 pc ls (.int a1 :: st1) := V_callSI_c X mf_9_isDigit hL (c_9_isDigit X.2.2.2.2.2.2.2.1 h) (As := [.int a1]) rfl ⟨rfl, rfl⟩ hR hce st1 rfl hcat hd kk
set_option maxRecDepth 20000 in
theorem v_9_scanInt_b98 (X : CXq p s m args meth c cX9_scanInt 3 yX9_scanInt.cls ad cy D (AW ad) s.heap) (hr : meth.sig.returnType = none) {Q : Mem → Prop} : ∀ (s1 : Int32) (s2 : Int32) (w : Mem), wp_9_scanInt_b98 Q s1 s2 w → V p l e (RM 1) s m args below meth c 3 ad cy D (AW ad) s.heap 0 0 (MQ below (va_Qv Q (BC ad cy D wm wl0) (AW ad)) args s 0 0 (AW ad)) w wm wl0 98 [] [.int s2, .int s1, .ref (ad 4)] := by
  intro s1 s2 w h
  unfold wp_9_scanInt_b98 at h
  obtain ⟨g1, h⟩ := h
  obtain ⟨w2, ew2⟩ : ∃ y : Mem, y = st w 4 (ix s1) s2 := ⟨_, rfl⟩
  have h := h w2 ew2
  refine V_iast_c X (rfl : SLq 4 = 401) (by decide) (rfl : SK 4 = 14) g1 dX9_scanInt_98 ew2 ?_
  exact V_vret_c X hr dX9_scanInt_99 h
set_option maxRecDepth 20000 in
theorem v_9_scanInt_b66 (X : CXq p s m args meth c cX9_scanInt 3 yX9_scanInt.cls ad cy D (AW ad) s.heap) (hr : meth.sig.returnType = none) {Q : Mem → Prop} : ∀ (l1 : Int32) (l2 : Int32) (w : Mem), wp_9_scanInt_b66 Q l1 l2 w → V p l e (RM 1) s m args below meth c 3 ad cy D (AW ad) s.heap 0 0 (MQ below (va_Qv Q (BC ad cy D wm wl0) (AW ad)) args s 0 0 (AW ad)) w wm wl0 66 [(0, .ref (ad 3)), (1, .int l1), (2, .int l2)] [] := by
  intro l1 l2 w h
  unfold wp_9_scanInt_b66 at h
  refine V_aload_n X (i := 0) 0 dX9_scanInt_66 rfl rfl ?_
  refine G_9_18 X dX9_scanInt_67 ?_
  refine V_iload_n X (i := 1) 1 dX9_scanInt_70 rfl rfl ?_
  refine V_iload_n X (i := 2) 2 dX9_scanInt_71 rfl rfl ?_
  obtain ⟨g1, h⟩ := h
  obtain ⟨w2, ew2⟩ : ∃ y : Mem, y = st w 6 (ix l1) l2 := ⟨_, rfl⟩
  have h := h w2 ew2
  refine V_iast_c X (rfl : SLq 6 = 401) (by decide) (rfl : SK 6 = 14) g1 dX9_scanInt_72 ew2 ?_
  refine V_aload_n X (i := 0) 0 dX9_scanInt_73 rfl rfl ?_
  refine G_9_11 X dX9_scanInt_74 ?_
  refine V_iload_n X (i := 1) 1 dX9_scanInt_77 rfl rfl ?_
  refine V_aload_n X (i := 0) 0 dX9_scanInt_78 rfl rfl ?_
  refine G_9_25 X dX9_scanInt_79 ?_
  refine V_aload_n X (i := 0) 0 dX9_scanInt_82 rfl rfl ?_
  refine G_9_15 X dX9_scanInt_83 ?_
  refine V_iload_n X (i := 1) 1 dX9_scanInt_86 rfl rfl ?_
  obtain ⟨g3, h⟩ := h
  refine V_iald_c X (rfl : SLq 5 = 401) (by decide) (rfl : SK 5 = 14) g3 dX9_scanInt_87 ?_
  refine V_isub X dX9_scanInt_88 ?_
  refine V_iconst X (v := (4 : Int32)) dX9_scanInt_89 (by decide) ?_
  obtain ⟨ht, hf⟩ := h
  refine V_icmp_le X (tgt := 97) dX9_scanInt_90 (by decide) (fun c => ?_) (fun c => ?_)
  · have h := ht c
    refine V_iconst X (v := (3 : Int32)) dX9_scanInt_97 (by decide) ?_
    refine V_sub X (ls1 := []) [] rfl ?_
    exact v_9_scanInt_b98 X hr _ _ _ h
  · have h := hf c
    refine V_iconst X (v := (1 : Int32)) dX9_scanInt_93 (by decide) ?_
    refine V_goto X (tgt := 98) dX9_scanInt_94 (by decide) ?_
    refine V_sub X (ls1 := []) [] rfl ?_
    exact v_9_scanInt_b98 X hr _ _ _ h
set_option maxRecDepth 20000 in
theorem v_9_scanInt_b2 (X : CXq p s m args meth c cX9_scanInt 3 yX9_scanInt.cls ad cy D (AW ad) s.heap) (hr : meth.sig.returnType = none) {Q : Mem → Prop} : ∀ (n : Nat) (l1 : Int32) (l2 : Int32) (w : Mem), wp_9_scanInt_b2 Q n l1 l2 w → V p l e (RM 1) s m args below meth c 3 ad cy D (AW ad) s.heap 0 0 (MQ below (va_Qv Q (BC ad cy D wm wl0) (AW ad)) args s 0 0 (AW ad)) w wm wl0 2 [(0, .ref (ad 3)), (1, .int l1), (2, .int l2)] [] := by
  intro n
  induction n with
  | zero =>
    intro l1 l2 w h
    exact h.elim
  | succ n ih =>
    intro l1 l2 w h
    unfold wp_9_scanInt_b2 at h
    refine V_aload_n X (i := 0) 0 dX9_scanInt_2 rfl rfl ?_
    refine G_9_25 X dX9_scanInt_3 ?_
    refine V_aload_n X (i := 0) 0 dX9_scanInt_6 rfl rfl ?_
    refine G_9_21 X dX9_scanInt_7 ?_
    refine G_9_42 X dX9_scanInt_10 ?_
    obtain ⟨ht, hf⟩ := h
    refine V_icmp_ge X (tgt := 66) dX9_scanInt_13 (by decide) (fun c => ?_) (fun c => ?_)
    · have h := ht c
      refine V_sub X (ls1 := [(0, .ref (ad 3)), (1, .int l1), (2, .int l2)]) [0, 1, 2] rfl ?_
      exact v_9_scanInt_b66 X hr _ _ _ h
    · have h := hf c
      refine V_aload_n X (i := 0) 0 dX9_scanInt_16 rfl rfl ?_
      refine G_9_21 X dX9_scanInt_17 ?_
      refine V_aload_n X (i := 0) 0 dX9_scanInt_20 rfl rfl ?_
      refine G_9_25 X dX9_scanInt_21 ?_
      refine K_7_byteAt X (Or.inl q_547) h ⟨Nat.le_of_ble_eq_true rfl, Nat.le_of_ble_eq_true rfl⟩ ⟨Nat.zero_le _, Nat.zero_le _⟩ (st1 := []) (Nat.le_of_ble_eq_true rfl) dX9_scanInt_24 (fun r2 w1 h => ?_)
      refine K_9_isDigit X (Or.inl q_618) h ⟨Nat.le_of_ble_eq_true rfl, Nat.le_of_ble_eq_true rfl⟩ ⟨Nat.zero_le _, Nat.zero_le _⟩ (st1 := []) (Nat.le_of_ble_eq_true rfl) dX9_scanInt_27 (fun r4 w3 h => ?_)
      obtain ⟨ht, hf⟩ := h
      refine V_if_eq X (tgt := 66) dX9_scanInt_30 (by decide) (fun c => ?_) (fun c => ?_)
      · have h := ht c
        refine V_sub X (ls1 := [(0, .ref (ad 3)), (1, .int l1), (2, .int l2)]) [0, 1, 2] rfl ?_
        exact v_9_scanInt_b66 X hr _ _ _ h
      · have h := hf c
        refine V_iload_n X (i := 2) 2 dX9_scanInt_33 rfl rfl ?_
        refine V_bipush X (v := (10 : Int32)) dX9_scanInt_34 (by decide) ?_
        refine V_imul X dX9_scanInt_36 ?_
        refine V_aload_n X (i := 0) 0 dX9_scanInt_37 rfl rfl ?_
        refine G_9_21 X dX9_scanInt_38 ?_
        refine V_aload_n X (i := 0) 0 dX9_scanInt_41 rfl rfl ?_
        refine G_9_25 X dX9_scanInt_42 ?_
        refine K_7_byteAt X (Or.inl q_547) h ⟨Nat.le_of_ble_eq_true rfl, Nat.le_of_ble_eq_true rfl⟩ ⟨Nat.zero_le _, Nat.zero_le _⟩ (st1 := [.int (l2 * (10 : Int32))]) (Nat.le_of_ble_eq_true rfl) dX9_scanInt_45 (fun r6 w5 h => ?_)
        refine V_iadd X dX9_scanInt_48 ?_
        refine V_bipush X (v := (48 : Int32)) dX9_scanInt_49 (by decide) ?_
        refine V_isub X dX9_scanInt_51 ?_
        obtain ⟨x7, ex7⟩ : ∃ y : Int32, y = (((l2 * (10 : Int32)) + r6) - (48 : Int32)) := ⟨_, rfl⟩
        have h := h x7 ex7
        refine V_istore_n X dX9_scanInt_52 rfl (by decide) ex7 (ls1 := [(2, .int x7), (0, .ref (ad 3)), (1, .int l1)]) rfl ?_
        refine V_aload_n X (i := 0) 1 dX9_scanInt_53 rfl rfl ?_
        refine V_dup X dX9_scanInt_54 rfl ?_
        refine G_9_25 X dX9_scanInt_55 ?_
        refine V_iconst X (v := (1 : Int32)) dX9_scanInt_58 (by decide) ?_
        refine V_iadd X dX9_scanInt_59 ?_
        obtain ⟨w8, ew8⟩ : ∃ y : Mem, y = st w5 3 4 ((w5 3 4) + (1 : Int32)) := ⟨_, rfl⟩
        have h := h w8 ew8
        refine U_9_25 X rfl rfl dX9_scanInt_60 ew8 ?_
        refine V_goto X (tgt := 2) dX9_scanInt_63 (by decide) ?_
        refine V_sub X (ls1 := [(0, .ref (ad 3)), (1, .int l1), (2, .int x7)]) [1, 2, 0] rfl ?_
        exact ih _ _ _ h
set_option maxRecDepth 20000 in
theorem v_9_scanInt {a1 : Int32} (X : CXq p s m args meth c cX9_scanInt 3 yX9_scanInt.cls ad cy D (AW ad) s.heap) (hr : meth.sig.returnType = none) {w : Mem} {Q : Mem → Prop} (h : wp_9_scanInt a1 w Q) : V p l e (RM 1) s m args below meth c 3 ad cy D (AW ad) s.heap 0 0 (MQ below (va_Qv Q (BC ad cy D wm wl0) (AW ad)) args s 0 0 (AW ad)) w wm wl0 0 [(0, .ref (ad 3)), (1, .int a1)] [] := by
  unfold wp_9_scanInt at h
  refine V_iconst X (v := (0 : Int32)) dX9_scanInt_0 (by decide) ?_
  refine V_istore_n X dX9_scanInt_1 rfl (by decide) rfl (ls1 := [(2, .int (0 : Int32)), (0, .ref (ad 3)), (1, .int a1)]) rfl ?_
  refine V_sub X (ls1 := [(0, .ref (ad 3)), (1, .int a1), (2, .int (0 : Int32))]) [1, 2, 0] rfl ?_
  obtain ⟨nn, h⟩ := h
  exact v_9_scanInt_b2 X hr nn _ _ _ h
theorem c_9_scanInt {a1 : Int32} (hinj : INJ ad) {w : Mem} {Q : Mem → Prop} (h : wp_9_scanInt a1 w Q) : Met l yX9_scanInt (TBq yX9_scanInt cX9_scanInt 3 none) (RM 1) (va_Pc [.ref (ad 3), .int a1] (PB ad cy D (cmb w wm) wl0)) (va_Qv Q (BC ad cy D wm wl0) (AW ad)) 0 0 (AW ad) := M_enter (by decide) (Nat.le_of_ble_eq_true rfl) hinj (fun p e s m args below meth c X hr => v_9_scanInt X hr h)
theorem mf_9_scanInt : MFV yX9_scanInt cX9_scanInt 3 none yX9_scanInt.cls 1 := ⟨q_624, q_623, qs_5, q_3, by decide⟩
theorem K_9_scanInt {own : String} {idx : Nat} {a1 : Int32} (X : CXq p s m args meth c cc nL own ad cy D A H0) (hL : LK own idx yX9_scanInt) {w : Mem} {Q : Mem → Prop} (h : wp_9_scanInt a1 w Q) (hR : (RM 1).frames + 1 ≤ R.frames ∧ 8 + (3 + 11) + (RM 1).locals ≤ R.locals) (hce : ce ≤ R.cells ∧ sl ≤ R.slots) (hcat : (st1.map fun v => v.category).sum ≤ 8) (hd : decode cc pc = .ok (.invokevirtual idx, 3)) (kk : ∀ (u : Mem), Q u → V p l e R s m args below meth c nL ad cy D A H0 ce sl Qs u wm wl0 (pc + 3) ls st1) : V p l e R s m args below meth c nL ad cy D A H0 ce sl Qs w wm wl0 pc ls (.int a1 :: .ref (ad 3) :: st1) := V_callVV_c X mf_9_scanInt hL (rfl : vwCl[9]? = some (RX9, TX9, 5)) (by decide) (rfl : SK 3 = 9) (Nat.lt_of_lt_of_le (by decide : 3 < 150) (CX_nn X)) (c_9_scanInt X.2.2.2.2.2.2.2.1 h) (As := [.int a1]) rfl ⟨rfl, rfl⟩ hR hce st1 rfl hcat hd kk
set_option maxRecDepth 20000 in
theorem v_J1_canEncode_9a6ad_b15 (X : CXq p s m args meth c cJ1_canEncode_9a6ad 1 yJ1_canEncode_9a6ad.cls ad cy D (AW ad) s.heap) (hr : meth.sig.returnType = (some .boolean)) {Q : Int32 → Mem → Prop} : ∀ (w : Mem), wp_J1_canEncode_9a6ad_b15 Q w → V p l e (RM 0) s m args below meth c 1 ad cy D (AW ad) s.heap 0 0 (MQ below (va_Qi Q (BC ad cy D wm wl0) (AW ad)) args s 0 0 (AW ad)) w wm wl0 15 [] [] := by
  intro w h
  unfold wp_J1_canEncode_9a6ad_b15 at h
  refine V_iconst X (v := (0 : Int32)) dJ1_canEncode_9a6ad_15 (by decide) ?_
  exact V_zret_c X hr dJ1_canEncode_9a6ad_16 rfl h
set_option maxRecDepth 20000 in
theorem v_J1_canEncode_9a6ad {a1 : Int32} (X : CXq p s m args meth c cJ1_canEncode_9a6ad 1 yJ1_canEncode_9a6ad.cls ad cy D (AW ad) s.heap) (hr : meth.sig.returnType = (some .boolean)) {w : Mem} {Q : Int32 → Mem → Prop} (h : wp_J1_canEncode_9a6ad a1 w Q) : V p l e (RM 0) s m args below meth c 1 ad cy D (AW ad) s.heap 0 0 (MQ below (va_Qi Q (BC ad cy D wm wl0) (AW ad)) args s 0 0 (AW ad)) w wm wl0 0 [(0, .int a1)] [] := by
  unfold wp_J1_canEncode_9a6ad at h
  refine V_iload_n X (i := 0) 0 dJ1_canEncode_9a6ad_0 rfl rfl ?_
  obtain ⟨ht, hf⟩ := h
  refine V_if_lt X (tgt := 15) dJ1_canEncode_9a6ad_1 (by decide) (fun c => ?_) (fun c => ?_)
  · have h := ht c
    refine V_sub X (ls1 := []) [] rfl ?_
    exact v_J1_canEncode_9a6ad_b15 X hr _ h
  · have h := hf c
    refine V_iload_n X (i := 0) 0 dJ1_canEncode_9a6ad_4 rfl rfl ?_
    refine V_sipush X (v := (255 : Int32)) dJ1_canEncode_9a6ad_5 (by decide) ?_
    obtain ⟨ht, hf⟩ := h
    refine V_icmp_gt X (tgt := 15) dJ1_canEncode_9a6ad_8 (by decide) (fun c => ?_) (fun c => ?_)
    · have h := ht c
      refine V_sub X (ls1 := []) [] rfl ?_
      exact v_J1_canEncode_9a6ad_b15 X hr _ h
    · have h := hf c
      refine V_iconst X (v := (1 : Int32)) dJ1_canEncode_9a6ad_11 (by decide) ?_
      refine V_goto X (tgt := 16) dJ1_canEncode_9a6ad_12 (by decide) ?_
      exact V_zret_c X hr dJ1_canEncode_9a6ad_16 rfl h
theorem c_J1_canEncode_9a6ad {a1 : Int32} (hinj : INJ ad) {w : Mem} {Q : Int32 → Mem → Prop} (h : wp_J1_canEncode_9a6ad a1 w Q) : Met l yJ1_canEncode_9a6ad (TBq yJ1_canEncode_9a6ad cJ1_canEncode_9a6ad 1 (some .boolean)) (RM 0) (va_Pc [.int a1] (PB ad cy D (cmb w wm) wl0)) (va_Qi Q (BC ad cy D wm wl0) (AW ad)) 0 0 (AW ad) := M_enter (by decide) (Nat.le_of_ble_eq_true rfl) hinj (fun p e s m args below meth c X hr => v_J1_canEncode_9a6ad X hr h)
theorem mf_J1_canEncode_9a6ad : MFS yJ1_canEncode_9a6ad cJ1_canEncode_9a6ad 1 (some .boolean) 1 := ⟨q_640, q_639, q_16, by decide⟩
theorem K_J1_canEncode_9a6ad {own : String} {idx : Nat} {a1 : Int32} (X : CXq p s m args meth c cc nL own ad cy D A H0) (hL : LK own idx yJ1_canEncode_9a6ad) {w : Mem} {Q : Int32 → Mem → Prop} (h : wp_J1_canEncode_9a6ad a1 w Q) (hR : (RM 0).frames + 1 ≤ R.frames ∧ 8 + (1 + 11) + (RM 0).locals ≤ R.locals) (hce : ce ≤ R.cells ∧ sl ≤ R.slots) (hcat : (st1.map fun v => v.category).sum ≤ 8) (hd : decode cc pc = .ok (.invokestatic idx, 3)) (kk : ∀ (r : Int32) (u : Mem), Q r u → V p l e R s m args below meth c nL ad cy D A H0 ce sl Qs u wm wl0 (pc + 3) ls (.int r :: st1)) : V p l e R s m args below meth c nL ad cy D A H0 ce sl Qs w wm wl0 pc ls (.int a1 :: st1) := V_callSI_c X mf_J1_canEncode_9a6ad hL (c_J1_canEncode_9a6ad X.2.2.2.2.2.2.2.1 h) (As := [.int a1]) rfl ⟨rfl, rfl⟩ hR hce st1 rfl hcat hd kk
set_option maxRecDepth 20000 in
theorem v_J1_indexOfChar_4cfef_b7 (X : CXq p s m args meth c cJ1_indexOfChar_4cfef 6 yJ1_indexOfChar_4cfef.cls ad cy D (AW ad) s.heap) (hr : meth.sig.returnType = (some .int)) {j1 : Nat} (hj1 : j1 < 2) {Q : Int32 → Mem → Prop} : ∀ (n : Nat) (l3 : Int32) (l4 : Int32) (l5 : Int32) (w : Mem), wp_J1_indexOfChar_4cfef_b7 j1 Q n l3 l4 l5 w → V p l e (RM 0) s m args below meth c 6 ad cy D (AW ad) s.heap 0 0 (MQ below (va_Qi Q (BC ad cy D wm wl0) (AW ad)) args s 0 0 (AW ad)) w wm wl0 7 [(0, .ref (ad (210 + j1))), (3, .int l3), (4, .int l4), (5, .int l5)] [] := by
  intro n
  induction n with
  | zero =>
    intro l3 l4 l5 w h
    exact h.elim
  | succ n ih =>
    intro l3 l4 l5 w h
    unfold wp_J1_indexOfChar_4cfef_b7 at h
    refine V_iload X (i := 5) 3 dJ1_indexOfChar_4cfef_7 rfl ?_
    refine V_iload_n X (i := 3) 1 dJ1_indexOfChar_4cfef_9 rfl rfl ?_
    obtain ⟨ht, hf⟩ := h
    refine V_icmp_ge X (tgt := 31) dJ1_indexOfChar_4cfef_10 (by decide) (fun c => ?_) (fun c => ?_)
    · have h := ht c
      refine V_iconst X (v := (-1 : Int32)) dJ1_indexOfChar_4cfef_31 (by decide) ?_
      exact V_iret_c X hr dJ1_indexOfChar_4cfef_32 h
    · have h := hf c
      refine V_aload_n X (i := 0) 0 dJ1_indexOfChar_4cfef_13 rfl rfl ?_
      refine V_iload X (i := 5) 3 dJ1_indexOfChar_4cfef_14 rfl ?_
      obtain ⟨g1, h⟩ := h
      refine V_sbyt X hj1 g1 dJ1_indexOfChar_4cfef_16 ?_
      refine V_iload X (i := 4) 2 dJ1_indexOfChar_4cfef_17 rfl ?_
      obtain ⟨ht, hf⟩ := h
      refine V_icmp_ne X (tgt := 25) dJ1_indexOfChar_4cfef_19 (by decide) (fun c => ?_) (fun c => ?_)
      · have h := ht c
        obtain ⟨x2, ex2⟩ : ∃ y : Int32, y = l5 + (1 : Int32) := ⟨_, rfl⟩
        have h := h x2 ex2
        refine V_iinc X 3 dJ1_indexOfChar_4cfef_25 rfl (by decide) (by rw [ex2]; rfl) (ls1 := [(5, .int x2), (0, .ref (ad (210 + j1))), (3, .int l3), (4, .int l4)]) rfl ?_
        refine V_goto X (tgt := 7) dJ1_indexOfChar_4cfef_28 (by decide) ?_
        refine V_sub X (ls1 := [(0, .ref (ad (210 + j1))), (3, .int l3), (4, .int l4), (5, .int x2)]) [1, 2, 3, 0] rfl ?_
        exact ih _ _ _ _ h
      · have h := hf c
        refine V_iload X (i := 5) 3 dJ1_indexOfChar_4cfef_22 rfl ?_
        exact V_iret_c X hr dJ1_indexOfChar_4cfef_24 h
set_option maxRecDepth 20000 in
theorem v_J1_indexOfChar_4cfef {j1 : Nat} {a2 : Int32} {a3 : Int32} {a4 : Int32} (X : CXq p s m args meth c cJ1_indexOfChar_4cfef 6 yJ1_indexOfChar_4cfef.cls ad cy D (AW ad) s.heap) (hr : meth.sig.returnType = (some .int)) (hj1 : j1 < 2) {w : Mem} {Q : Int32 → Mem → Prop} (h : wp_J1_indexOfChar_4cfef j1 a2 a3 a4 w Q) : V p l e (RM 0) s m args below meth c 6 ad cy D (AW ad) s.heap 0 0 (MQ below (va_Qi Q (BC ad cy D wm wl0) (AW ad)) args s 0 0 (AW ad)) w wm wl0 0 [(0, .ref (ad (210 + j1))), (1, .int a2), (2, .int a3), (3, .int a4)] [] := by
  unfold wp_J1_indexOfChar_4cfef at h
  refine V_iload_n X (i := 1) 1 dJ1_indexOfChar_4cfef_0 rfl rfl ?_
  refine V_i2b X dJ1_indexOfChar_4cfef_1 ?_
  obtain ⟨x1, ex1⟩ : ∃ y : Int32, y = (a2.toInt8.toInt32) := ⟨_, rfl⟩
  have h := h x1 ex1
  refine V_istore X dJ1_indexOfChar_4cfef_2 (by decide) ex1 (ls1 := [(4, .int x1), (0, .ref (ad (210 + j1))), (1, .int a2), (2, .int a3), (3, .int a4)]) rfl ?_
  refine V_iload_n X (i := 2) 3 dJ1_indexOfChar_4cfef_4 rfl rfl ?_
  refine V_istore X dJ1_indexOfChar_4cfef_5 (by decide) rfl (ls1 := [(5, .int a3), (4, .int x1), (0, .ref (ad (210 + j1))), (1, .int a2), (2, .int a3), (3, .int a4)]) rfl ?_
  refine V_sub X (ls1 := [(0, .ref (ad (210 + j1))), (3, .int a4), (4, .int x1), (5, .int a3)]) [2, 5, 1, 0] rfl ?_
  obtain ⟨nn, h⟩ := h
  exact v_J1_indexOfChar_4cfef_b7 X hr hj1 nn _ _ _ _ h
theorem c_J1_indexOfChar_4cfef {j1 : Nat} {a2 : Int32} {a3 : Int32} {a4 : Int32} (hinj : INJ ad) (hj1 : j1 < 2) {w : Mem} {Q : Int32 → Mem → Prop} (h : wp_J1_indexOfChar_4cfef j1 a2 a3 a4 w Q) : Met l yJ1_indexOfChar_4cfef (TBq yJ1_indexOfChar_4cfef cJ1_indexOfChar_4cfef 6 (some .int)) (RM 0) (va_Pc [.ref (ad (210 + j1)), .int a2, .int a3, .int a4] (PB ad cy D (cmb w wm) wl0)) (va_Qi Q (BC ad cy D wm wl0) (AW ad)) 0 0 (AW ad) := M_enter (by decide) (Nat.le_of_ble_eq_true rfl) hinj (fun p e s m args below meth c X hr => v_J1_indexOfChar_4cfef X hr hj1 h)
theorem mf_J1_indexOfChar_4cfef : MFS yJ1_indexOfChar_4cfef cJ1_indexOfChar_4cfef 6 (some .int) 4 := ⟨q_649, q_648, q_16, by decide⟩
theorem K_J1_indexOfChar_4cfef {own : String} {idx : Nat} {j1 : Nat} {a2 : Int32} {a3 : Int32} {a4 : Int32} (X : CXq p s m args meth c cc nL own ad cy D A H0) (hL : LK own idx yJ1_indexOfChar_4cfef) (hj1 : j1 < 2) {w : Mem} {Q : Int32 → Mem → Prop} (h : wp_J1_indexOfChar_4cfef j1 a2 a3 a4 w Q) (hR : (RM 0).frames + 1 ≤ R.frames ∧ 8 + (6 + 11) + (RM 0).locals ≤ R.locals) (hce : ce ≤ R.cells ∧ sl ≤ R.slots) (hcat : (st1.map fun v => v.category).sum ≤ 8) (hd : decode cc pc = .ok (.invokestatic idx, 3)) (kk : ∀ (r : Int32) (u : Mem), Q r u → V p l e R s m args below meth c nL ad cy D A H0 ce sl Qs u wm wl0 (pc + 3) ls (.int r :: st1)) : V p l e R s m args below meth c nL ad cy D A H0 ce sl Qs w wm wl0 pc ls (.int a4 :: .int a3 :: .int a2 :: .ref (ad (210 + j1)) :: st1) := V_callSI_c X mf_J1_indexOfChar_4cfef hL (c_J1_indexOfChar_4cfef X.2.2.2.2.2.2.2.1 hj1 h) (As := [.ref (ad (210 + j1)), .int a2, .int a3, .int a4]) rfl ⟨rfl, rfl⟩ hR hce st1 rfl hcat hd kk
set_option maxRecDepth 20000 in
theorem v_J1_indexOf_4cfef {j1 : Nat} {a2 : Int32} {a3 : Int32} {a4 : Int32} (X : CXq p s m args meth c cJ1_indexOf_4cfef 4 yJ1_indexOf_4cfef.cls ad cy D (AW ad) s.heap) (hr : meth.sig.returnType = (some .int)) (hj1 : j1 < 2) {w : Mem} {Q : Int32 → Mem → Prop} (h : wp_J1_indexOf_4cfef j1 a2 a3 a4 w Q) : V p l e (RM 2) s m args below meth c 4 ad cy D (AW ad) s.heap 0 0 (MQ below (va_Qi Q (BC ad cy D wm wl0) (AW ad)) args s 0 0 (AW ad)) w wm wl0 0 [(0, .ref (ad (210 + j1))), (1, .int a2), (2, .int a3), (3, .int a4)] [] := by
  unfold wp_J1_indexOf_4cfef at h
  refine V_iload_n X (i := 1) 1 dJ1_indexOf_4cfef_0 rfl rfl ?_
  refine K_J1_canEncode_9a6ad X (Or.inl q_638) h ⟨Nat.le_of_ble_eq_true rfl, Nat.le_of_ble_eq_true rfl⟩ ⟨Nat.zero_le _, Nat.zero_le _⟩ (st1 := []) (Nat.le_of_ble_eq_true rfl) dJ1_indexOf_4cfef_1 (fun r2 w1 h => ?_)
  obtain ⟨ht, hf⟩ := h
  refine V_if_ne X (tgt := 9) dJ1_indexOf_4cfef_4 (by decide) (fun c => ?_) (fun c => ?_)
  · have h := ht c
    refine V_iload_n X (i := 2) 2 dJ1_indexOf_4cfef_9 rfl rfl ?_
    refine V_iconst X (v := (0 : Int32)) dJ1_indexOf_4cfef_10 (by decide) ?_
    refine V_mmax X dJ1_indexOf_4cfef_11 q_641 q_642 q_19 q_643 (Nat.le_of_ble_eq_true rfl) (Nat.le_of_ble_eq_true rfl) (Nat.zero_le _) (Nat.zero_le _) ?_
    obtain ⟨x3, ex3⟩ : ∃ y : Int32, y = (mx a3 (0 : Int32)) := ⟨_, rfl⟩
    have h := h x3 ex3
    refine V_istore_n X dJ1_indexOf_4cfef_14 rfl (by decide) ex3 (ls1 := [(2, .int x3), (0, .ref (ad (210 + j1))), (1, .int a2), (3, .int a4)]) rfl ?_
    refine V_iload_n X (i := 3) 3 dJ1_indexOf_4cfef_15 rfl rfl ?_
    refine V_aload_n X (i := 0) 1 dJ1_indexOf_4cfef_16 rfl rfl ?_
    refine V_slen X hj1 dJ1_indexOf_4cfef_17 ?_
    refine V_mmin X dJ1_indexOf_4cfef_18 q_644 q_645 q_19 q_646 (Nat.le_of_ble_eq_true rfl) (Nat.le_of_ble_eq_true rfl) (Nat.zero_le _) (Nat.zero_le _) ?_
    obtain ⟨x4, ex4⟩ : ∃ y : Int32, y = (mn a4 (Int32.ofNat (lenS.getD j1 0))) := ⟨_, rfl⟩
    have h := h x4 ex4
    refine V_istore_n X dJ1_indexOf_4cfef_21 rfl (by decide) ex4 (ls1 := [(3, .int x4), (2, .int x3), (0, .ref (ad (210 + j1))), (1, .int a2)]) rfl ?_
    refine V_iload_n X (i := 2) 1 dJ1_indexOf_4cfef_22 rfl rfl ?_
    refine V_iload_n X (i := 3) 0 dJ1_indexOf_4cfef_23 rfl rfl ?_
    obtain ⟨ht, hf⟩ := h
    refine V_icmp_lt X (tgt := 29) dJ1_indexOf_4cfef_24 (by decide) (fun c => ?_) (fun c => ?_)
    · have h := ht c
      refine V_aload_n X (i := 0) 2 dJ1_indexOf_4cfef_29 rfl rfl ?_
      refine V_iload_n X (i := 1) 3 dJ1_indexOf_4cfef_30 rfl rfl ?_
      refine V_iload_n X (i := 2) 1 dJ1_indexOf_4cfef_31 rfl rfl ?_
      refine V_iload_n X (i := 3) 0 dJ1_indexOf_4cfef_32 rfl rfl ?_
      refine K_J1_indexOfChar_4cfef X (Or.inl q_647) hj1 h ⟨Nat.le_of_ble_eq_true rfl, Nat.le_of_ble_eq_true rfl⟩ ⟨Nat.zero_le _, Nat.zero_le _⟩ (st1 := []) (Nat.le_of_ble_eq_true rfl) dJ1_indexOf_4cfef_33 (fun r6 w5 h => ?_)
      exact V_iret_c X hr dJ1_indexOf_4cfef_36 h
    · have h := hf c
      refine V_iconst X (v := (-1 : Int32)) dJ1_indexOf_4cfef_27 (by decide) ?_
      exact V_iret_c X hr dJ1_indexOf_4cfef_28 h
  · have h := hf c
    refine V_iconst X (v := (-1 : Int32)) dJ1_indexOf_4cfef_7 (by decide) ?_
    exact V_iret_c X hr dJ1_indexOf_4cfef_8 h
theorem c_J1_indexOf_4cfef {j1 : Nat} {a2 : Int32} {a3 : Int32} {a4 : Int32} (hinj : INJ ad) (hj1 : j1 < 2) {w : Mem} {Q : Int32 → Mem → Prop} (h : wp_J1_indexOf_4cfef j1 a2 a3 a4 w Q) : Met l yJ1_indexOf_4cfef (TBq yJ1_indexOf_4cfef cJ1_indexOf_4cfef 4 (some .int)) (RM 2) (va_Pc [.ref (ad (210 + j1)), .int a2, .int a3, .int a4] (PB ad cy D (cmb w wm) wl0)) (va_Qi Q (BC ad cy D wm wl0) (AW ad)) 0 0 (AW ad) := M_enter (by decide) (Nat.le_of_ble_eq_true rfl) hinj (fun p e s m args below meth c X hr => v_J1_indexOf_4cfef X hr hj1 h)
theorem mf_J1_indexOf_4cfef : MFS yJ1_indexOf_4cfef cJ1_indexOf_4cfef 4 (some .int) 4 := ⟨q_637, q_636, q_16, by decide⟩
theorem K_J1_indexOf_4cfef {own : String} {idx : Nat} {j1 : Nat} {a2 : Int32} {a3 : Int32} {a4 : Int32} (X : CXq p s m args meth c cc nL own ad cy D A H0) (hL : LK own idx yJ1_indexOf_4cfef) (hj1 : j1 < 2) {w : Mem} {Q : Int32 → Mem → Prop} (h : wp_J1_indexOf_4cfef j1 a2 a3 a4 w Q) (hR : (RM 2).frames + 1 ≤ R.frames ∧ 8 + (4 + 11) + (RM 2).locals ≤ R.locals) (hce : ce ≤ R.cells ∧ sl ≤ R.slots) (hcat : (st1.map fun v => v.category).sum ≤ 8) (hd : decode cc pc = .ok (.invokestatic idx, 3)) (kk : ∀ (r : Int32) (u : Mem), Q r u → V p l e R s m args below meth c nL ad cy D A H0 ce sl Qs u wm wl0 (pc + 3) ls (.int r :: st1)) : V p l e R s m args below meth c nL ad cy D A H0 ce sl Qs w wm wl0 pc ls (.int a4 :: .int a3 :: .int a2 :: .ref (ad (210 + j1)) :: st1) := V_callSI_c X mf_J1_indexOf_4cfef hL (c_J1_indexOf_4cfef X.2.2.2.2.2.2.2.1 hj1 h) (As := [.ref (ad (210 + j1)), .int a2, .int a3, .int a4]) rfl ⟨rfl, rfl⟩ hR hce st1 rfl hcat hd kk
set_option maxRecDepth 20000 in
theorem v_J0_indexOf_7cf53 {i : Nat} {a1 : Int32} {a2 : Int32} (X : CXq p s m args meth c cJ0_indexOf_7cf53 3 yJ0_indexOf_7cf53.cls ad cy D (AW ad) s.heap) (hr : meth.sig.returnType = (some .int)) (hi : i < 2) {w : Mem} {Q : Int32 → Mem → Prop} (h : wp_J0_indexOf_7cf53 i a1 a2 w Q) : V p l e (RM 3) s m args below meth c 3 ad cy D (AW ad) s.heap 0 0 (MQ below (va_Qi Q (BC ad cy D wm wl0) (AW ad)) args s 0 0 (AW ad)) w wm wl0 0 [(0, .ref (ad (200 + i))), (1, .int a1), (2, .int a2)] [] := by
  unfold wp_J0_indexOf_7cf53 at h
  refine V_aload_n X (i := 0) 0 dJ0_indexOf_7cf53_0 rfl rfl ?_
  refine K_J0_isLatin1_aae02 X (Or.inl q_584) hi h ⟨Nat.le_of_ble_eq_true rfl, Nat.le_of_ble_eq_true rfl⟩ ⟨Nat.zero_le _, Nat.zero_le _⟩ (st1 := []) (Nat.le_of_ble_eq_true rfl) dJ0_indexOf_7cf53_1 (fun r2 w1 h => ?_)
  obtain ⟨ht, hf⟩ := h
  refine V_if_eq X (tgt := 23) dJ0_indexOf_7cf53_4 (by decide) (fun c => ?_) (fun c => ?_)
  · have h := ht c
    refine V_aload_n X (i := 0) 0 dJ0_indexOf_7cf53_23 rfl rfl ?_
    refine V_sval X hi q_1835 dJ0_indexOf_7cf53_24 ?_
    refine V_iload_n X (i := 1) 1 dJ0_indexOf_7cf53_27 rfl rfl ?_
    refine V_iload_n X (i := 2) 2 dJ0_indexOf_7cf53_28 rfl rfl ?_
    refine V_aload_n X (i := 0) 0 dJ0_indexOf_7cf53_29 rfl rfl ?_
    refine K_J0_length_8abf5 X (Or.inl q_634) hi h ⟨Nat.le_of_ble_eq_true rfl, Nat.le_of_ble_eq_true rfl⟩ ⟨Nat.zero_le _, Nat.zero_le _⟩ (st1 := [.int a2, .int a1, .ref (ad (210 + i))]) (Nat.le_of_ble_eq_true rfl) dJ0_indexOf_7cf53_30 (fun r4 w3 h => ?_)
    exact h.elim
  · have h := hf c
    refine V_aload_n X (i := 0) 0 dJ0_indexOf_7cf53_7 rfl rfl ?_
    refine V_sval X hi q_1835 dJ0_indexOf_7cf53_8 ?_
    refine V_iload_n X (i := 1) 1 dJ0_indexOf_7cf53_11 rfl rfl ?_
    refine V_iload_n X (i := 2) 2 dJ0_indexOf_7cf53_12 rfl rfl ?_
    refine V_aload_n X (i := 0) 0 dJ0_indexOf_7cf53_13 rfl rfl ?_
    refine K_J0_length_8abf5 X (Or.inl q_634) hi h ⟨Nat.le_of_ble_eq_true rfl, Nat.le_of_ble_eq_true rfl⟩ ⟨Nat.zero_le _, Nat.zero_le _⟩ (st1 := [.int a2, .int a1, .ref (ad (210 + i))]) (Nat.le_of_ble_eq_true rfl) dJ0_indexOf_7cf53_14 (fun r6 w5 h => ?_)
    refine K_J1_indexOf_4cfef X (Or.inl q_635) hi h ⟨Nat.le_of_ble_eq_true rfl, Nat.le_of_ble_eq_true rfl⟩ ⟨Nat.zero_le _, Nat.zero_le _⟩ (st1 := []) (Nat.le_of_ble_eq_true rfl) dJ0_indexOf_7cf53_17 (fun r8 w7 h => ?_)
    refine V_goto X (tgt := 36) dJ0_indexOf_7cf53_20 (by decide) ?_
    exact V_iret_c X hr dJ0_indexOf_7cf53_36 h
theorem c_J0_indexOf_7cf53 {i : Nat} {a1 : Int32} {a2 : Int32} (hinj : INJ ad) (hi : i < 2) {w : Mem} {Q : Int32 → Mem → Prop} (h : wp_J0_indexOf_7cf53 i a1 a2 w Q) : Met l yJ0_indexOf_7cf53 (TBq yJ0_indexOf_7cf53 cJ0_indexOf_7cf53 3 (some .int)) (RM 3) (va_Pc [.ref (ad (200 + i)), .int a1, .int a2] (PB ad cy D (cmb w wm) wl0)) (va_Qi Q (BC ad cy D wm wl0) (AW ad)) 0 0 (AW ad) := M_enter (by decide) (Nat.le_of_ble_eq_true rfl) hinj (fun p e s m args below meth c X hr => v_J0_indexOf_7cf53 X hr hi h)
theorem mf_J0_indexOf_7cf53 : MFV yJ0_indexOf_7cf53 cJ0_indexOf_7cf53 3 (some .int) yJ0_indexOf_7cf53.cls 2 := ⟨q_633, q_631, q_632, q_15, by decide⟩
theorem K_J0_indexOf_7cf53 {own : String} {idx : Nat} {i : Nat} {a1 : Int32} {a2 : Int32} (X : CXq p s m args meth c cc nL own ad cy D (AW ad) s.heap) (hL : LK own idx yJ0_indexOf_7cf53) (hi : i < 2) {w : Mem} {Q : Int32 → Mem → Prop} (h : wp_J0_indexOf_7cf53 i a1 a2 w Q) (hR : (RM 3).frames + 1 ≤ R.frames ∧ 8 + (3 + 11) + (RM 3).locals ≤ R.locals) (hce : ce ≤ R.cells ∧ sl ≤ R.slots) (hcat : (st1.map fun v => v.category).sum ≤ 8) (hd : decode cc pc = .ok (.invokevirtual idx, 3)) (kk : ∀ (r : Int32) (u : Mem), Q r u → V p l e R s m args below meth c nL ad cy D (AW ad) s.heap ce sl Qs u wm wl0 (pc + 3) ls (.int r :: st1)) : V p l e R s m args below meth c nL ad cy D (AW ad) s.heap ce sl Qs w wm wl0 pc ls (.int a2 :: .int a1 :: .ref (ad (200 + i)) :: st1) := V_callStr_c X mf_J0_indexOf_7cf53 hL hi (c_J0_indexOf_7cf53 X.2.2.2.2.2.2.2.1 hi h) (As := [.int a1, .int a2]) rfl ⟨rfl, rfl⟩ hR hce st1 rfl hcat hd kk
set_option maxRecDepth 20000 in
theorem v_J0_indexOf_0f7a4 {i : Nat} {a1 : Int32} (X : CXq p s m args meth c cJ0_indexOf_0f7a4 2 yJ0_indexOf_0f7a4.cls ad cy D (AW ad) s.heap) (hr : meth.sig.returnType = (some .int)) (hi : i < 2) {w : Mem} {Q : Int32 → Mem → Prop} (h : wp_J0_indexOf_0f7a4 i a1 w Q) : V p l e (RM 4) s m args below meth c 2 ad cy D (AW ad) s.heap 0 0 (MQ below (va_Qi Q (BC ad cy D wm wl0) (AW ad)) args s 0 0 (AW ad)) w wm wl0 0 [(0, .ref (ad (200 + i))), (1, .int a1)] [] := by
  unfold wp_J0_indexOf_0f7a4 at h
  refine V_aload_n X (i := 0) 0 dJ0_indexOf_0f7a4_0 rfl rfl ?_
  refine V_iload_n X (i := 1) 1 dJ0_indexOf_0f7a4_1 rfl rfl ?_
  refine V_iconst X (v := (0 : Int32)) dJ0_indexOf_0f7a4_2 (by decide) ?_
  refine K_J0_indexOf_7cf53 X (Or.inl q_630) hi h ⟨Nat.le_of_ble_eq_true rfl, Nat.le_of_ble_eq_true rfl⟩ ⟨Nat.zero_le _, Nat.zero_le _⟩ (st1 := []) (Nat.le_of_ble_eq_true rfl) dJ0_indexOf_0f7a4_3 (fun r2 w1 h => ?_)
  exact V_iret_c X hr dJ0_indexOf_0f7a4_6 h
theorem c_J0_indexOf_0f7a4 {i : Nat} {a1 : Int32} (hinj : INJ ad) (hi : i < 2) {w : Mem} {Q : Int32 → Mem → Prop} (h : wp_J0_indexOf_0f7a4 i a1 w Q) : Met l yJ0_indexOf_0f7a4 (TBq yJ0_indexOf_0f7a4 cJ0_indexOf_0f7a4 2 (some .int)) (RM 4) (va_Pc [.ref (ad (200 + i)), .int a1] (PB ad cy D (cmb w wm) wl0)) (va_Qi Q (BC ad cy D wm wl0) (AW ad)) 0 0 (AW ad) := M_enter (by decide) (Nat.le_of_ble_eq_true rfl) hinj (fun p e s m args below meth c X hr => v_J0_indexOf_0f7a4 X hr hi h)
theorem mf_J0_indexOf_0f7a4 : MFV yJ0_indexOf_0f7a4 cJ0_indexOf_0f7a4 2 (some .int) yJ0_indexOf_0f7a4.cls 1 := ⟨q_629, q_627, q_628, q_15, by decide⟩
theorem K_J0_indexOf_0f7a4 {own : String} {idx : Nat} {i : Nat} {a1 : Int32} (X : CXq p s m args meth c cc nL own ad cy D (AW ad) s.heap) (hL : LK own idx yJ0_indexOf_0f7a4) (hi : i < 2) {w : Mem} {Q : Int32 → Mem → Prop} (h : wp_J0_indexOf_0f7a4 i a1 w Q) (hR : (RM 4).frames + 1 ≤ R.frames ∧ 8 + (2 + 11) + (RM 4).locals ≤ R.locals) (hce : ce ≤ R.cells ∧ sl ≤ R.slots) (hcat : (st1.map fun v => v.category).sum ≤ 8) (hd : decode cc pc = .ok (.invokevirtual idx, 3)) (kk : ∀ (r : Int32) (u : Mem), Q r u → V p l e R s m args below meth c nL ad cy D (AW ad) s.heap ce sl Qs u wm wl0 (pc + 3) ls (.int r :: st1)) : V p l e R s m args below meth c nL ad cy D (AW ad) s.heap ce sl Qs w wm wl0 pc ls (.int a1 :: .ref (ad (200 + i)) :: st1) := V_callStr_c X mf_J0_indexOf_0f7a4 hL hi (c_J0_indexOf_0f7a4 X.2.2.2.2.2.2.2.1 hi h) (As := [.int a1]) rfl ⟨rfl, rfl⟩ hR hce st1 rfl hcat hd kk
set_option maxRecDepth 20000 in
theorem v_9_scanOne_b92 (X : CXq p s m args meth c cX9_scanOne 3 yX9_scanOne.cls ad cy D (AW ad) s.heap) (hr : meth.sig.returnType = none) {Q : Mem → Prop} : ∀ (s1 : Int32) (s2 : Int32) (w : Mem), wp_9_scanOne_b92 Q s1 s2 w → V p l e (RM 6) s m args below meth c 3 ad cy D (AW ad) s.heap 0 0 (MQ below (va_Qv Q (BC ad cy D wm wl0) (AW ad)) args s 0 0 (AW ad)) w wm wl0 92 [] [.int s2, .int s1, .ref (ad 4)] := by
  intro s1 s2 w h
  unfold wp_9_scanOne_b92 at h
  obtain ⟨g1, h⟩ := h
  obtain ⟨w2, ew2⟩ : ∃ y : Mem, y = st w 4 (ix s1) s2 := ⟨_, rfl⟩
  have h := h w2 ew2
  refine V_iast_c X (rfl : SLq 4 = 401) (by decide) (rfl : SK 4 = 14) g1 dX9_scanOne_92 ew2 ?_
  exact V_vret_c X hr dX9_scanOne_93 h
set_option maxRecDepth 20000 in
theorem v_9_scanOne_b77 (X : CXq p s m args meth c cX9_scanOne 3 yX9_scanOne.cls ad cy D (AW ad) s.heap) (hr : meth.sig.returnType = none) {Q : Mem → Prop} : ∀ (l1 : Int32) (l2 : Int32) (w : Mem), wp_9_scanOne_b77 Q l1 l2 w → V p l e (RM 6) s m args below meth c 3 ad cy D (AW ad) s.heap 0 0 (MQ below (va_Qv Q (BC ad cy D wm wl0) (AW ad)) args s 0 0 (AW ad)) w wm wl0 77 [(0, .ref (ad 3)), (1, .int l1), (2, .int l2)] [] := by
  intro l1 l2 w h
  unfold wp_9_scanOne_b77 at h
  refine V_aload_n X (i := 0) 0 dX9_scanOne_77 rfl rfl ?_
  refine G_9_11 X dX9_scanOne_78 ?_
  refine V_iload_n X (i := 1) 1 dX9_scanOne_81 rfl rfl ?_
  refine V_iload_n X (i := 2) 2 dX9_scanOne_82 rfl rfl ?_
  refine V_iconst X (v := (-1 : Int32)) dX9_scanOne_83 (by decide) ?_
  obtain ⟨ht, hf⟩ := h
  refine V_icmp_ne X (tgt := 91) dX9_scanOne_84 (by decide) (fun c => ?_) (fun c => ?_)
  · have h := ht c
    refine V_iconst X (v := (1 : Int32)) dX9_scanOne_91 (by decide) ?_
    refine V_sub X (ls1 := []) [] rfl ?_
    exact v_9_scanOne_b92 X hr _ _ _ h
  · have h := hf c
    refine V_iconst X (v := (0 : Int32)) dX9_scanOne_87 (by decide) ?_
    refine V_goto X (tgt := 92) dX9_scanOne_88 (by decide) ?_
    refine V_sub X (ls1 := []) [] rfl ?_
    exact v_9_scanOne_b92 X hr _ _ _ h
set_option maxRecDepth 20000 in
theorem v_9_scanOne {a1 : Int32} (X : CXq p s m args meth c cX9_scanOne 3 yX9_scanOne.cls ad cy D (AW ad) s.heap) (hr : meth.sig.returnType = none) {w : Mem} {Q : Mem → Prop} (h : wp_9_scanOne a1 w Q) : V p l e (RM 6) s m args below meth c 3 ad cy D (AW ad) s.heap 0 0 (MQ below (va_Qv Q (BC ad cy D wm wl0) (AW ad)) args s 0 0 (AW ad)) w wm wl0 0 [(0, .ref (ad 3)), (1, .int a1)] [] := by
  unfold wp_9_scanOne at h
  refine V_aload_n X (i := 0) 0 dX9_scanOne_0 rfl rfl ?_
  refine G_9_21 X dX9_scanOne_1 ?_
  refine V_aload_n X (i := 0) 0 dX9_scanOne_4 rfl rfl ?_
  refine G_9_25 X dX9_scanOne_5 ?_
  refine K_7_byteAt X (Or.inl q_547) h ⟨Nat.le_of_ble_eq_true rfl, Nat.le_of_ble_eq_true rfl⟩ ⟨Nat.zero_le _, Nat.zero_le _⟩ (st1 := []) (Nat.le_of_ble_eq_true rfl) dX9_scanOne_8 (fun r2 w1 h => ?_)
  refine V_istore_n X dX9_scanOne_11 rfl (by decide) rfl (ls1 := [(2, .int r2), (0, .ref (ad 3)), (1, .int a1)]) rfl ?_
  refine V_iload_n X (i := 2) 0 dX9_scanOne_12 rfl rfl ?_
  refine K_9_isLetter X (Or.inl q_558) h ⟨Nat.le_of_ble_eq_true rfl, Nat.le_of_ble_eq_true rfl⟩ ⟨Nat.zero_le _, Nat.zero_le _⟩ (st1 := []) (Nat.le_of_ble_eq_true rfl) dX9_scanOne_13 (fun r4 w3 h => ?_)
  obtain ⟨ht, hf⟩ := h
  refine V_if_eq X (tgt := 27) dX9_scanOne_16 (by decide) (fun c => ?_) (fun c => ?_)
  · have h := ht c
    refine V_iload_n X (i := 2) 0 dX9_scanOne_27 rfl rfl ?_
    refine K_9_isDigit X (Or.inl q_618) h ⟨Nat.le_of_ble_eq_true rfl, Nat.le_of_ble_eq_true rfl⟩ ⟨Nat.zero_le _, Nat.zero_le _⟩ (st1 := []) (Nat.le_of_ble_eq_true rfl) dX9_scanOne_28 (fun r6 w5 h => ?_)
    obtain ⟨ht, hf⟩ := h
    refine V_if_eq X (tgt := 42) dX9_scanOne_31 (by decide) (fun c => ?_) (fun c => ?_)
    · have h := ht c
      refine V_iload_n X (i := 2) 0 dX9_scanOne_42 rfl rfl ?_
      refine V_iconst X (v := (-1 : Int32)) dX9_scanOne_43 (by decide) ?_
      obtain ⟨ht, hf⟩ := h
      refine V_icmp_eq X (tgt := 77) dX9_scanOne_44 (by decide) (fun c => ?_) (fun c => ?_)
      · have h := ht c
        refine V_sub X (ls1 := [(0, .ref (ad 3)), (1, .int a1), (2, .int r2)]) [1, 2, 0] rfl ?_
        exact v_9_scanOne_b77 X hr _ _ _ h
      · have h := hf c
        refine V_ldcS1 X rfl dX9_scanOne_47 ?_
        refine V_iload_n X (i := 2) 0 dX9_scanOne_49 rfl rfl ?_
        refine V_i2c X dX9_scanOne_50 ?_
        refine K_J0_indexOf_0f7a4 X (Or.inl q_626) (by decide : 1 < 2) h ⟨Nat.le_of_ble_eq_true rfl, Nat.le_of_ble_eq_true rfl⟩ ⟨Nat.zero_le _, Nat.zero_le _⟩ (st1 := []) (Nat.le_of_ble_eq_true rfl) dX9_scanOne_51 (fun r8 w7 h => ?_)
        obtain ⟨ht, hf⟩ := h
        refine V_if_lt X (tgt := 77) dX9_scanOne_54 (by decide) (fun c => ?_) (fun c => ?_)
        · have h := ht c
          refine V_sub X (ls1 := [(0, .ref (ad 3)), (1, .int a1), (2, .int r2)]) [1, 2, 0] rfl ?_
          exact v_9_scanOne_b77 X hr _ _ _ h
        · have h := hf c
          refine V_aload_n X (i := 0) 1 dX9_scanOne_57 rfl rfl ?_
          refine G_9_11 X dX9_scanOne_58 ?_
          refine V_iload_n X (i := 1) 2 dX9_scanOne_61 rfl rfl ?_
          refine V_iload_n X (i := 2) 0 dX9_scanOne_62 rfl rfl ?_
          obtain ⟨g9, h⟩ := h
          obtain ⟨w10, ew10⟩ : ∃ y : Mem, y = st w7 4 (ix a1) r2 := ⟨_, rfl⟩
          have h := h w10 ew10
          refine V_iast_c X (rfl : SLq 4 = 401) (by decide) (rfl : SK 4 = 14) g9 dX9_scanOne_63 ew10 ?_
          refine V_aload_n X (i := 0) 1 dX9_scanOne_64 rfl rfl ?_
          refine V_dup X dX9_scanOne_65 rfl ?_
          refine G_9_25 X dX9_scanOne_66 ?_
          refine V_iconst X (v := (1 : Int32)) dX9_scanOne_69 (by decide) ?_
          refine V_iadd X dX9_scanOne_70 ?_
          obtain ⟨w11, ew11⟩ : ∃ y : Mem, y = st w10 3 4 ((w10 3 4) + (1 : Int32)) := ⟨_, rfl⟩
          have h := h w11 ew11
          refine U_9_25 X rfl rfl dX9_scanOne_71 ew11 ?_
          refine V_goto X (tgt := 93) dX9_scanOne_74 (by decide) ?_
          exact V_vret_c X hr dX9_scanOne_93 h
    · have h := hf c
      refine V_aload_n X (i := 0) 1 dX9_scanOne_34 rfl rfl ?_
      refine V_iload_n X (i := 1) 2 dX9_scanOne_35 rfl rfl ?_
      refine K_9_scanInt X (Or.inl q_621) h ⟨Nat.le_of_ble_eq_true rfl, Nat.le_of_ble_eq_true rfl⟩ ⟨Nat.zero_le _, Nat.zero_le _⟩ (st1 := []) (Nat.le_of_ble_eq_true rfl) dX9_scanOne_36 (fun w12 h => ?_)
      refine V_goto X (tgt := 93) dX9_scanOne_39 (by decide) ?_
      exact V_vret_c X hr dX9_scanOne_93 h
  · have h := hf c
    refine V_aload_n X (i := 0) 1 dX9_scanOne_19 rfl rfl ?_
    refine V_iload_n X (i := 1) 2 dX9_scanOne_20 rfl rfl ?_
    refine K_9_scanName X (Or.inl q_561) h ⟨Nat.le_of_ble_eq_true rfl, Nat.le_of_ble_eq_true rfl⟩ ⟨Nat.zero_le _, Nat.zero_le _⟩ (st1 := []) (Nat.le_of_ble_eq_true rfl) dX9_scanOne_21 (fun w13 h => ?_)
    refine V_goto X (tgt := 93) dX9_scanOne_24 (by decide) ?_
    exact V_vret_c X hr dX9_scanOne_93 h
theorem c_9_scanOne {a1 : Int32} (hinj : INJ ad) {w : Mem} {Q : Mem → Prop} (h : wp_9_scanOne a1 w Q) : Met l yX9_scanOne (TBq yX9_scanOne cX9_scanOne 3 none) (RM 6) (va_Pc [.ref (ad 3), .int a1] (PB ad cy D (cmb w wm) wl0)) (va_Qv Q (BC ad cy D wm wl0) (AW ad)) 0 0 (AW ad) := M_enter (by decide) (Nat.le_of_ble_eq_true rfl) hinj (fun p e s m args below meth c X hr => v_9_scanOne X hr h)
theorem mf_9_scanOne : MFV yX9_scanOne cX9_scanOne 3 none yX9_scanOne.cls 1 := ⟨q_557, q_556, qs_2, q_3, by decide⟩
theorem K_9_scanOne {own : String} {idx : Nat} {a1 : Int32} (X : CXq p s m args meth c cc nL own ad cy D A H0) (hL : LK own idx yX9_scanOne) {w : Mem} {Q : Mem → Prop} (h : wp_9_scanOne a1 w Q) (hR : (RM 6).frames + 1 ≤ R.frames ∧ 8 + (3 + 11) + (RM 6).locals ≤ R.locals) (hce : ce ≤ R.cells ∧ sl ≤ R.slots) (hcat : (st1.map fun v => v.category).sum ≤ 8) (hd : decode cc pc = .ok (.invokevirtual idx, 3)) (kk : ∀ (u : Mem), Q u → V p l e R s m args below meth c nL ad cy D A H0 ce sl Qs u wm wl0 (pc + 3) ls st1) : V p l e R s m args below meth c nL ad cy D A H0 ce sl Qs w wm wl0 pc ls (.int a1 :: .ref (ad 3) :: st1) := V_callVV_c X mf_9_scanOne hL (rfl : vwCl[9]? = some (RX9, TX9, 5)) (by decide) (rfl : SK 3 = 9) (Nat.lt_of_lt_of_le (by decide : 3 < 150) (CX_nn X)) (c_9_scanOne X.2.2.2.2.2.2.2.1 h) (As := [.int a1]) rfl ⟨rfl, rfl⟩ hR hce st1 rfl hcat hd kk
set_option maxRecDepth 20000 in
theorem v_9_scan_b63 (X : CXq p s m args meth c cX9_scan 3 yX9_scan.cls ad cy D (AW ad) s.heap) (hr : meth.sig.returnType = none) {Q : Mem → Prop} {L9 : Int32 → Int32 → Mem → Prop} (HL9 : ∀ (l1 : Int32) (l2 : Int32) (w : Mem), L9 l1 l2 w → V p l e (RM 7) s m args below meth c 3 ad cy D (AW ad) s.heap 0 0 (MQ below (va_Qv Q (BC ad cy D wm wl0) (AW ad)) args s 0 0 (AW ad)) w wm wl0 9 [(0, .ref (ad 3)), (1, .int l1), (2, .int l2)] []) : ∀ (l2 : Int32) (s0 : Int32) (w : Mem), wp_9_scan_b63 Q L9 l2 s0 w → V p l e (RM 7) s m args below meth c 3 ad cy D (AW ad) s.heap 0 0 (MQ below (va_Qv Q (BC ad cy D wm wl0) (AW ad)) args s 0 0 (AW ad)) w wm wl0 63 [(0, .ref (ad 3)), (2, .int l2)] [.int s0] := by
  intro l2 s0 w h
  unfold wp_9_scan_b63 at h
  refine V_istore_n X dX9_scan_63 rfl (by decide) rfl (ls1 := [(1, .int s0), (0, .ref (ad 3)), (2, .int l2)]) rfl ?_
  obtain ⟨x1, ex1⟩ : ∃ y : Int32, y = l2 + (1 : Int32) := ⟨_, rfl⟩
  have h := h x1 ex1
  refine V_iinc X 2 dX9_scan_64 rfl (by decide) (by rw [ex1]; rfl) (ls1 := [(2, .int x1), (1, .int s0), (0, .ref (ad 3))]) rfl ?_
  refine V_goto X (tgt := 9) dX9_scan_67 (by decide) ?_
  refine V_sub X (ls1 := [(0, .ref (ad 3)), (1, .int s0), (2, .int x1)]) [2, 1, 0] rfl ?_
  exact HL9 _ _ _ h
set_option maxRecDepth 20000 in
theorem v_9_scan_b62 (X : CXq p s m args meth c cX9_scan 3 yX9_scan.cls ad cy D (AW ad) s.heap) (hr : meth.sig.returnType = none) {Q : Mem → Prop} {L9 : Int32 → Int32 → Mem → Prop} (HL9 : ∀ (l1 : Int32) (l2 : Int32) (w : Mem), L9 l1 l2 w → V p l e (RM 7) s m args below meth c 3 ad cy D (AW ad) s.heap 0 0 (MQ below (va_Qv Q (BC ad cy D wm wl0) (AW ad)) args s 0 0 (AW ad)) w wm wl0 9 [(0, .ref (ad 3)), (1, .int l1), (2, .int l2)] []) : ∀ (l2 : Int32) (w : Mem), wp_9_scan_b62 Q L9 l2 w → V p l e (RM 7) s m args below meth c 3 ad cy D (AW ad) s.heap 0 0 (MQ below (va_Qv Q (BC ad cy D wm wl0) (AW ad)) args s 0 0 (AW ad)) w wm wl0 62 [(0, .ref (ad 3)), (2, .int l2)] [] := by
  intro l2 w h
  unfold wp_9_scan_b62 at h
  refine V_iconst X (v := (0 : Int32)) dX9_scan_62 (by decide) ?_
  refine V_sub X (ls1 := [(0, .ref (ad 3)), (2, .int l2)]) [0, 1] rfl ?_
  exact v_9_scan_b63 X hr HL9 _ _ _ h
set_option maxRecDepth 20000 in
theorem v_9_scan_b9 (X : CXq p s m args meth c cX9_scan 3 yX9_scan.cls ad cy D (AW ad) s.heap) (hr : meth.sig.returnType = none) {Q : Mem → Prop} : ∀ (n : Nat) (l1 : Int32) (l2 : Int32) (w : Mem), wp_9_scan_b9 Q n l1 l2 w → V p l e (RM 7) s m args below meth c 3 ad cy D (AW ad) s.heap 0 0 (MQ below (va_Qv Q (BC ad cy D wm wl0) (AW ad)) args s 0 0 (AW ad)) w wm wl0 9 [(0, .ref (ad 3)), (1, .int l1), (2, .int l2)] [] := by
  intro n
  induction n with
  | zero =>
    intro l1 l2 w h
    exact h.elim
  | succ n ih =>
    intro l1 l2 w h
    unfold wp_9_scan_b9 at h
    refine V_iload_n X (i := 2) 2 dX9_scan_9 rfl rfl ?_
    refine V_sipush X (v := (400 : Int32)) dX9_scan_10 (by decide) ?_
    obtain ⟨ht, hf⟩ := h
    refine V_icmp_gt X (tgt := 70) dX9_scan_13 (by decide) (fun c => ?_) (fun c => ?_)
    · have h := ht c
      exact V_vret_c X hr dX9_scan_70 h
    · have h := hf c
      refine V_iload_n X (i := 1) 1 dX9_scan_16 rfl rfl ?_
      obtain ⟨ht, hf⟩ := h
      refine V_if_eq X (tgt := 70) dX9_scan_17 (by decide) (fun c => ?_) (fun c => ?_)
      · have h := ht c
        exact V_vret_c X hr dX9_scan_70 h
      · have h := hf c
        refine V_aload_n X (i := 0) 0 dX9_scan_20 rfl rfl ?_
        refine K_9_skipBlanks X (Or.inl q_543) h ⟨Nat.le_of_ble_eq_true rfl, Nat.le_of_ble_eq_true rfl⟩ ⟨Nat.zero_le _, Nat.zero_le _⟩ (st1 := []) (Nat.le_of_ble_eq_true rfl) dX9_scan_21 (fun w1 h => ?_)
        refine V_aload_n X (i := 0) 0 dX9_scan_24 rfl rfl ?_
        refine G_9_15 X dX9_scan_25 ?_
        refine V_iload_n X (i := 2) 2 dX9_scan_28 rfl rfl ?_
        refine V_aload_n X (i := 0) 0 dX9_scan_29 rfl rfl ?_
        refine G_9_25 X dX9_scan_30 ?_
        obtain ⟨g2, h⟩ := h
        obtain ⟨w3, ew3⟩ : ∃ y : Mem, y = st w1 5 (ix l2) (w1 3 4) := ⟨_, rfl⟩
        have h := h w3 ew3
        refine V_iast_c X (rfl : SLq 5 = 401) (by decide) (rfl : SK 5 = 14) g2 dX9_scan_33 ew3 ?_
        refine V_aload_n X (i := 0) 0 dX9_scan_34 rfl rfl ?_
        refine V_iload_n X (i := 2) 2 dX9_scan_35 rfl rfl ?_
        refine K_9_scanOne X (Or.inl q_554) h ⟨Nat.le_of_ble_eq_true rfl, Nat.le_of_ble_eq_true rfl⟩ ⟨Nat.zero_le _, Nat.zero_le _⟩ (st1 := []) (Nat.le_of_ble_eq_true rfl) dX9_scan_36 (fun w4 h => ?_)
        refine V_aload_n X (i := 0) 0 dX9_scan_39 rfl rfl ?_
        refine G_9_11 X dX9_scan_40 ?_
        refine V_iload_n X (i := 2) 2 dX9_scan_43 rfl rfl ?_
        obtain ⟨g5, h⟩ := h
        refine V_iald_c X (rfl : SLq 4 = 401) (by decide) (rfl : SK 4 = 14) g5 dX9_scan_44 ?_
        obtain ⟨ht, hf⟩ := h
        refine V_if_eq X (tgt := 62) dX9_scan_45 (by decide) (fun c => ?_) (fun c => ?_)
        · have h := ht c
          refine V_sub X (ls1 := [(0, .ref (ad 3)), (2, .int l2)]) [0, 2] rfl ?_
          exact v_9_scan_b62 X hr ih _ _ h
        · have h := hf c
          refine V_aload_n X (i := 0) 0 dX9_scan_48 rfl rfl ?_
          refine G_9_11 X dX9_scan_49 ?_
          refine V_iload_n X (i := 2) 2 dX9_scan_52 rfl rfl ?_
          obtain ⟨g6, h⟩ := h
          refine V_iald_c X (rfl : SLq 4 = 401) (by decide) (rfl : SK 4 = 14) g6 dX9_scan_53 ?_
          refine V_iconst X (v := (1 : Int32)) dX9_scan_54 (by decide) ?_
          obtain ⟨ht, hf⟩ := h
          refine V_icmp_eq X (tgt := 62) dX9_scan_55 (by decide) (fun c => ?_) (fun c => ?_)
          · have h := ht c
            refine V_sub X (ls1 := [(0, .ref (ad 3)), (2, .int l2)]) [0, 2] rfl ?_
            exact v_9_scan_b62 X hr ih _ _ h
          · have h := hf c
            refine V_iconst X (v := (1 : Int32)) dX9_scan_58 (by decide) ?_
            refine V_goto X (tgt := 63) dX9_scan_59 (by decide) ?_
            refine V_sub X (ls1 := [(0, .ref (ad 3)), (2, .int l2)]) [0, 2] rfl ?_
            exact v_9_scan_b63 X hr ih _ _ _ h
set_option maxRecDepth 20000 in
theorem v_9_scan (X : CXq p s m args meth c cX9_scan 3 yX9_scan.cls ad cy D (AW ad) s.heap) (hr : meth.sig.returnType = none) {w : Mem} {Q : Mem → Prop} (h : wp_9_scan w Q) : V p l e (RM 7) s m args below meth c 3 ad cy D (AW ad) s.heap 0 0 (MQ below (va_Qv Q (BC ad cy D wm wl0) (AW ad)) args s 0 0 (AW ad)) w wm wl0 0 [(0, .ref (ad 3))] [] := by
  unfold wp_9_scan at h
  refine V_aload_n X (i := 0) 0 dX9_scan_0 rfl rfl ?_
  refine V_iconst X (v := (0 : Int32)) dX9_scan_1 (by decide) ?_
  obtain ⟨w1, ew1⟩ : ∃ y : Mem, y = st w 3 4 (0 : Int32) := ⟨_, rfl⟩
  have h := h w1 ew1
  refine U_9_25 X rfl rfl dX9_scan_2 ew1 ?_
  refine V_iconst X (v := (1 : Int32)) dX9_scan_5 (by decide) ?_
  refine V_istore_n X dX9_scan_6 rfl (by decide) rfl (ls1 := [(1, .int (1 : Int32)), (0, .ref (ad 3))]) rfl ?_
  refine V_iconst X (v := (0 : Int32)) dX9_scan_7 (by decide) ?_
  refine V_istore_n X dX9_scan_8 rfl (by decide) rfl (ls1 := [(2, .int (0 : Int32)), (1, .int (1 : Int32)), (0, .ref (ad 3))]) rfl ?_
  refine V_sub X (ls1 := [(0, .ref (ad 3)), (1, .int (1 : Int32)), (2, .int (0 : Int32))]) [2, 1, 0] rfl ?_
  obtain ⟨nn, h⟩ := h
  exact v_9_scan_b9 X hr nn _ _ _ h
theorem c_9_scan (hinj : INJ ad) {w : Mem} {Q : Mem → Prop} (h : wp_9_scan w Q) : Met l yX9_scan (TBq yX9_scan cX9_scan 3 none) (RM 7) (va_Pc [.ref (ad 3)] (PB ad cy D (cmb w wm) wl0)) (va_Qv Q (BC ad cy D wm wl0) (AW ad)) 0 0 (AW ad) := M_enter (by decide) (Nat.le_of_ble_eq_true rfl) hinj (fun p e s m args below meth c X hr => v_9_scan X hr h)
theorem mf_9_scan : MFV yX9_scan cX9_scan 3 none yX9_scan.cls 0 := ⟨q_542, q_540, q_541, q_3, by decide⟩
theorem K_9_scan {own : String} {idx : Nat} (X : CXq p s m args meth c cc nL own ad cy D A H0) (hL : LK own idx yX9_scan) {w : Mem} {Q : Mem → Prop} (h : wp_9_scan w Q) (hR : (RM 7).frames + 1 ≤ R.frames ∧ 8 + (3 + 11) + (RM 7).locals ≤ R.locals) (hce : ce ≤ R.cells ∧ sl ≤ R.slots) (hcat : (st1.map fun v => v.category).sum ≤ 8) (hd : decode cc pc = .ok (.invokevirtual idx, 3)) (kk : ∀ (u : Mem), Q u → V p l e R s m args below meth c nL ad cy D A H0 ce sl Qs u wm wl0 (pc + 3) ls st1) : V p l e R s m args below meth c nL ad cy D A H0 ce sl Qs w wm wl0 pc ls (.ref (ad 3) :: st1) := V_callVV_c X mf_9_scan hL (rfl : vwCl[9]? = some (RX9, TX9, 5)) (by decide) (rfl : SK 3 = 9) (Nat.lt_of_lt_of_le (by decide : 3 < 150) (CX_nn X)) (c_9_scan X.2.2.2.2.2.2.2.1 h) (As := []) rfl ⟨rfl, rfl⟩ hR hce st1 rfl hcat hd kk
set_option maxRecDepth 20000 in
theorem v_10_add {a1 : Int32} {a2 : Int32} {a3 : Int32} (X : CXq p s m args meth c cX10_add 4 yX10_add.cls ad cy D (AW ad) s.heap) (hr : meth.sig.returnType = (some .int)) {w : Mem} {Q : Int32 → Mem → Prop} (h : wp_10_add a1 a2 a3 w Q) : V p l e (RM 0) s m args below meth c 4 ad cy D (AW ad) s.heap 0 0 (MQ below (va_Qi Q (BC ad cy D wm wl0) (AW ad)) args s 0 0 (AW ad)) w wm wl0 0 [(0, .ref (ad 145)), (1, .int a1), (2, .int a2), (3, .int a3)] [] := by
  unfold wp_10_add at h
  refine V_aload_n X (i := 0) 0 dX10_add_0 rfl rfl ?_
  refine G_10_21 X dX10_add_1 ?_
  refine V_bipush X (v := (20 : Int32)) dX10_add_4 (by decide) ?_
  obtain ⟨ht, hf⟩ := h
  refine V_icmp_lt X (tgt := 11) dX10_add_6 (by decide) (fun c => ?_) (fun c => ?_)
  · have h := ht c
    refine V_aload_n X (i := 0) 0 dX10_add_11 rfl rfl ?_
    refine G_10_11 X dX10_add_12 ?_
    refine V_aload_n X (i := 0) 0 dX10_add_15 rfl rfl ?_
    refine G_10_21 X dX10_add_16 ?_
    refine V_iload_n X (i := 1) 1 dX10_add_19 rfl rfl ?_
    obtain ⟨g1, h⟩ := h
    obtain ⟨w2, ew2⟩ : ∃ y : Mem, y = st w 146 (ix (w 145 3)) a1 := ⟨_, rfl⟩
    have h := h w2 ew2
    refine V_iast_c X (rfl : SLq 146 = 20) (by decide) (rfl : SK 146 = 14) g1 dX10_add_20 ew2 ?_
    refine V_aload_n X (i := 0) 0 dX10_add_21 rfl rfl ?_
    refine G_10_15 X dX10_add_22 ?_
    refine V_aload_n X (i := 0) 0 dX10_add_25 rfl rfl ?_
    refine G_10_21 X dX10_add_26 ?_
    refine V_iload_n X (i := 2) 2 dX10_add_29 rfl rfl ?_
    obtain ⟨g3, h⟩ := h
    obtain ⟨w4, ew4⟩ : ∃ y : Mem, y = st w2 147 (ix (w2 145 3)) a2 := ⟨_, rfl⟩
    have h := h w4 ew4
    refine V_iast_c X (rfl : SLq 147 = 20) (by decide) (rfl : SK 147 = 14) g3 dX10_add_30 ew4 ?_
    refine V_aload_n X (i := 0) 0 dX10_add_31 rfl rfl ?_
    refine G_10_18 X dX10_add_32 ?_
    refine V_aload_n X (i := 0) 0 dX10_add_35 rfl rfl ?_
    refine G_10_21 X dX10_add_36 ?_
    refine V_iload_n X (i := 3) 3 dX10_add_39 rfl rfl ?_
    obtain ⟨g5, h⟩ := h
    obtain ⟨w6, ew6⟩ : ∃ y : Mem, y = st w4 148 (ix (w4 145 3)) a3 := ⟨_, rfl⟩
    have h := h w6 ew6
    refine V_iast_c X (rfl : SLq 148 = 20) (by decide) (rfl : SK 148 = 14) g5 dX10_add_40 ew6 ?_
    refine V_aload_n X (i := 0) 0 dX10_add_41 rfl rfl ?_
    refine V_dup X dX10_add_42 rfl ?_
    refine G_10_21 X dX10_add_43 ?_
    refine V_iconst X (v := (1 : Int32)) dX10_add_46 (by decide) ?_
    refine V_iadd X dX10_add_47 ?_
    obtain ⟨w7, ew7⟩ : ∃ y : Mem, y = st w6 145 3 ((w6 145 3) + (1 : Int32)) := ⟨_, rfl⟩
    have h := h w7 ew7
    refine U_10_21 X rfl rfl dX10_add_48 ew7 ?_
    refine V_aload_n X (i := 0) 0 dX10_add_51 rfl rfl ?_
    refine G_10_21 X dX10_add_52 ?_
    refine V_iconst X (v := (1 : Int32)) dX10_add_55 (by decide) ?_
    refine V_isub X dX10_add_56 ?_
    exact V_iret_c X hr dX10_add_57 h
  · have h := hf c
    refine V_iconst X (v := (-1 : Int32)) dX10_add_9 (by decide) ?_
    exact V_iret_c X hr dX10_add_10 h
theorem c_10_add {a1 : Int32} {a2 : Int32} {a3 : Int32} (hinj : INJ ad) {w : Mem} {Q : Int32 → Mem → Prop} (h : wp_10_add a1 a2 a3 w Q) : Met l yX10_add (TBq yX10_add cX10_add 4 (some .int)) (RM 0) (va_Pc [.ref (ad 145), .int a1, .int a2, .int a3] (PB ad cy D (cmb w wm) wl0)) (va_Qi Q (BC ad cy D wm wl0) (AW ad)) 0 0 (AW ad) := M_enter (by decide) (Nat.le_of_ble_eq_true rfl) hinj (fun p e s m args below meth c X hr => v_10_add X hr h)
theorem mf_10_add : MFV yX10_add cX10_add 4 (some .int) yX10_add.cls 3 := ⟨q_1134, q_1132, q_1133, q_12, by decide⟩
theorem K_10_add {own : String} {idx : Nat} {a1 : Int32} {a2 : Int32} {a3 : Int32} (X : CXq p s m args meth c cc nL own ad cy D A H0) (hL : LK own idx yX10_add) {w : Mem} {Q : Int32 → Mem → Prop} (h : wp_10_add a1 a2 a3 w Q) (hR : (RM 0).frames + 1 ≤ R.frames ∧ 8 + (4 + 11) + (RM 0).locals ≤ R.locals) (hce : ce ≤ R.cells ∧ sl ≤ R.slots) (hcat : (st1.map fun v => v.category).sum ≤ 8) (hd : decode cc pc = .ok (.invokevirtual idx, 3)) (kk : ∀ (r : Int32) (u : Mem), Q r u → V p l e R s m args below meth c nL ad cy D A H0 ce sl Qs u wm wl0 (pc + 3) ls (.int r :: st1)) : V p l e R s m args below meth c nL ad cy D A H0 ce sl Qs w wm wl0 pc ls (.int a3 :: .int a2 :: .int a1 :: .ref (ad 145) :: st1) := V_callVI_c X mf_10_add hL (rfl : vwCl[10]? = some (RX10, TX10, 4)) (by decide) (rfl : SK 145 = 10) (Nat.lt_of_lt_of_le (by decide : 145 < 150) (CX_nn X)) (c_10_add X.2.2.2.2.2.2.2.1 h) (As := [.int a1, .int a2, .int a3]) rfl ⟨rfl, rfl⟩ hR hce st1 rfl hcat hd kk
set_option maxRecDepth 20000 in
theorem v_11_feed {a1 : Int32} {a2 : Int32} {a3 : Int32} {a4 : Int32} {a5 : Int32} (X : CXq p s m args meth c cX11_feed 6 yX11_feed.cls ad cy D (AW ad) s.heap) (hr : meth.sig.returnType = (some .int)) {w : Mem} {Q : Int32 → Mem → Prop} (h : wp_11_feed a1 a2 a3 a4 a5 w Q) : V p l e (RM 2) s m args below meth c 6 ad cy D (AW ad) s.heap 0 0 (MQ below (va_Qi Q (BC ad cy D wm wl0) (AW ad)) args s 0 0 (AW ad)) w wm wl0 0 [(0, .ref (ad 0)), (1, .int a1), (2, .int a2), (3, .int a3), (4, .int a4), (5, .int a5)] [] := by
  unfold wp_11_feed at h
  refine V_aload_n X (i := 0) 0 dX11_feed_0 rfl rfl ?_
  refine G_11_10 X dX11_feed_1 ?_
  refine V_bipush X (v := (20 : Int32)) dX11_feed_4 (by decide) ?_
  refine K_7_hasRoom X (Or.inl q_519) h ⟨Nat.le_of_ble_eq_true rfl, Nat.le_of_ble_eq_true rfl⟩ ⟨Nat.zero_le _, Nat.zero_le _⟩ (st1 := []) (Nat.le_of_ble_eq_true rfl) dX11_feed_6 (fun r2 w1 h => ?_)
  obtain ⟨ht, hf⟩ := h
  refine V_if_ne X (tgt := 14) dX11_feed_9 (by decide) (fun c => ?_) (fun c => ?_)
  · have h := ht c
    refine V_aload_n X (i := 0) 0 dX11_feed_14 rfl rfl ?_
    refine G_11_10 X dX11_feed_15 ?_
    refine V_iload_n X (i := 1) 1 dX11_feed_18 rfl rfl ?_
    refine K_7_put X (Or.inl q_523) h ⟨Nat.le_of_ble_eq_true rfl, Nat.le_of_ble_eq_true rfl⟩ ⟨Nat.zero_le _, Nat.zero_le _⟩ (st1 := []) (Nat.le_of_ble_eq_true rfl) dX11_feed_19 (fun w3 h => ?_)
    refine V_aload_n X (i := 0) 0 dX11_feed_22 rfl rfl ?_
    refine G_11_10 X dX11_feed_23 ?_
    refine V_iload_n X (i := 2) 2 dX11_feed_26 rfl rfl ?_
    refine K_7_put X (Or.inl q_523) h ⟨Nat.le_of_ble_eq_true rfl, Nat.le_of_ble_eq_true rfl⟩ ⟨Nat.zero_le _, Nat.zero_le _⟩ (st1 := []) (Nat.le_of_ble_eq_true rfl) dX11_feed_27 (fun w4 h => ?_)
    refine V_aload_n X (i := 0) 0 dX11_feed_30 rfl rfl ?_
    refine G_11_10 X dX11_feed_31 ?_
    refine V_iload_n X (i := 3) 3 dX11_feed_34 rfl rfl ?_
    refine K_7_put X (Or.inl q_523) h ⟨Nat.le_of_ble_eq_true rfl, Nat.le_of_ble_eq_true rfl⟩ ⟨Nat.zero_le _, Nat.zero_le _⟩ (st1 := []) (Nat.le_of_ble_eq_true rfl) dX11_feed_35 (fun w5 h => ?_)
    refine V_aload_n X (i := 0) 0 dX11_feed_38 rfl rfl ?_
    refine G_11_10 X dX11_feed_39 ?_
    refine V_iload X (i := 4) 4 dX11_feed_42 rfl ?_
    refine K_7_put X (Or.inl q_523) h ⟨Nat.le_of_ble_eq_true rfl, Nat.le_of_ble_eq_true rfl⟩ ⟨Nat.zero_le _, Nat.zero_le _⟩ (st1 := []) (Nat.le_of_ble_eq_true rfl) dX11_feed_44 (fun w6 h => ?_)
    refine V_aload_n X (i := 0) 0 dX11_feed_47 rfl rfl ?_
    refine G_11_10 X dX11_feed_48 ?_
    refine V_iload X (i := 5) 5 dX11_feed_51 rfl ?_
    refine K_7_put X (Or.inl q_523) h ⟨Nat.le_of_ble_eq_true rfl, Nat.le_of_ble_eq_true rfl⟩ ⟨Nat.zero_le _, Nat.zero_le _⟩ (st1 := []) (Nat.le_of_ble_eq_true rfl) dX11_feed_53 (fun w7 h => ?_)
    refine V_aload_n X (i := 0) 0 dX11_feed_56 rfl rfl ?_
    refine G_11_10 X dX11_feed_57 ?_
    refine G_11_109 X dX11_feed_60 ?_
    exact V_iret_c X hr dX11_feed_63 h
  · have h := hf c
    refine V_iconst X (v := (-1 : Int32)) dX11_feed_12 (by decide) ?_
    exact V_iret_c X hr dX11_feed_13 h
theorem c_11_feed {a1 : Int32} {a2 : Int32} {a3 : Int32} {a4 : Int32} {a5 : Int32} (hinj : INJ ad) {w : Mem} {Q : Int32 → Mem → Prop} (h : wp_11_feed a1 a2 a3 a4 a5 w Q) : Met l yX11_feed (TBq yX11_feed cX11_feed 6 (some .int)) (RM 2) (va_Pc [.ref (ad 0), .int a1, .int a2, .int a3, .int a4, .int a5] (PB ad cy D (cmb w wm) wl0)) (va_Qi Q (BC ad cy D wm wl0) (AW ad)) 0 0 (AW ad) := M_enter (by decide) (Nat.le_of_ble_eq_true rfl) hinj (fun p e s m args below meth c X hr => v_11_feed X hr h)
theorem mf_11_feed : MFV yX11_feed cX11_feed 6 (some .int) yX11_feed.cls 5 := ⟨q_518, q_516, q_517, q_1, by decide⟩
theorem K_11_feed {own : String} {idx : Nat} {a1 : Int32} {a2 : Int32} {a3 : Int32} {a4 : Int32} {a5 : Int32} (X : CXq p s m args meth c cc nL own ad cy D A H0) (hL : LK own idx yX11_feed) {w : Mem} {Q : Int32 → Mem → Prop} (h : wp_11_feed a1 a2 a3 a4 a5 w Q) (hR : (RM 2).frames + 1 ≤ R.frames ∧ 8 + (6 + 11) + (RM 2).locals ≤ R.locals) (hce : ce ≤ R.cells ∧ sl ≤ R.slots) (hcat : (st1.map fun v => v.category).sum ≤ 8) (hd : decode cc pc = .ok (.invokevirtual idx, 3)) (kk : ∀ (r : Int32) (u : Mem), Q r u → V p l e R s m args below meth c nL ad cy D A H0 ce sl Qs u wm wl0 (pc + 3) ls (.int r :: st1)) : V p l e R s m args below meth c nL ad cy D A H0 ce sl Qs w wm wl0 pc ls (.int a5 :: .int a4 :: .int a3 :: .int a2 :: .int a1 :: .ref (ad 0) :: st1) := V_callVI_c X mf_11_feed hL (rfl : vwCl[11]? = some (RX11, TX11, 13)) (by decide) (rfl : SK 0 = 11) (Nat.lt_of_lt_of_le (by decide : 0 < 150) (CX_nn X)) (c_11_feed X.2.2.2.2.2.2.2.1 h) (As := [.int a1, .int a2, .int a3, .int a4, .int a5]) rfl ⟨rfl, rfl⟩ hR hce st1 rfl hcat hd kk
set_option maxRecDepth 20000 in
theorem v_11_back {a1 : Int32} (X : CXq p s m args meth c cX11_back 2 yX11_back.cls ad cy D (AW ad) s.heap) (hr : meth.sig.returnType = (some .int)) {w : Mem} {Q : Int32 → Mem → Prop} (h : wp_11_back a1 w Q) : V p l e (RM 1) s m args below meth c 2 ad cy D (AW ad) s.heap 0 0 (MQ below (va_Qi Q (BC ad cy D wm wl0) (AW ad)) args s 0 0 (AW ad)) w wm wl0 0 [(0, .ref (ad 0)), (1, .int a1)] [] := by
  unfold wp_11_back at h
  refine V_iload_n X (i := 1) 1 dX11_back_0 rfl rfl ?_
  refine V_iconst X (v := (0 : Int32)) dX11_back_1 (by decide) ?_
  refine V_aload_n X (i := 0) 0 dX11_back_2 rfl rfl ?_
  refine G_11_10 X dX11_back_3 ?_
  refine G_11_109 X dX11_back_6 ?_
  refine K_11_within X (Or.inl q_532) h ⟨Nat.le_of_ble_eq_true rfl, Nat.le_of_ble_eq_true rfl⟩ ⟨Nat.zero_le _, Nat.zero_le _⟩ (st1 := []) (Nat.le_of_ble_eq_true rfl) dX11_back_9 (fun r2 w1 h => ?_)
  obtain ⟨ht, hf⟩ := h
  refine V_if_ne X (tgt := 17) dX11_back_12 (by decide) (fun c => ?_) (fun c => ?_)
  · have h := ht c
    refine V_aload_n X (i := 0) 0 dX11_back_17 rfl rfl ?_
    refine G_11_10 X dX11_back_18 ?_
    refine V_dup X dX11_back_21 rfl ?_
    refine G_11_109 X dX11_back_22 ?_
    refine V_iload_n X (i := 1) 1 dX11_back_25 rfl rfl ?_
    refine V_isub X dX11_back_26 ?_
    obtain ⟨w3, ew3⟩ : ∃ y : Mem, y = st w1 1 1 ((w1 1 1) - a1) := ⟨_, rfl⟩
    have h := h w3 ew3
    refine U_11_109 X rfl rfl dX11_back_27 ew3 ?_
    refine V_aload_n X (i := 0) 0 dX11_back_30 rfl rfl ?_
    refine G_11_10 X dX11_back_31 ?_
    refine G_11_109 X dX11_back_34 ?_
    exact V_iret_c X hr dX11_back_37 h
  · have h := hf c
    refine V_iconst X (v := (-1 : Int32)) dX11_back_15 (by decide) ?_
    exact V_iret_c X hr dX11_back_16 h
theorem c_11_back {a1 : Int32} (hinj : INJ ad) {w : Mem} {Q : Int32 → Mem → Prop} (h : wp_11_back a1 w Q) : Met l yX11_back (TBq yX11_back cX11_back 2 (some .int)) (RM 1) (va_Pc [.ref (ad 0), .int a1] (PB ad cy D (cmb w wm) wl0)) (va_Qi Q (BC ad cy D wm wl0) (AW ad)) 0 0 (AW ad) := M_enter (by decide) (Nat.le_of_ble_eq_true rfl) hinj (fun p e s m args below meth c X hr => v_11_back X hr h)
theorem mf_11_back : MFV yX11_back cX11_back 2 (some .int) yX11_back.cls 1 := ⟨q_531, q_529, q_530, q_1, by decide⟩
theorem K_11_back {own : String} {idx : Nat} {a1 : Int32} (X : CXq p s m args meth c cc nL own ad cy D A H0) (hL : LK own idx yX11_back) {w : Mem} {Q : Int32 → Mem → Prop} (h : wp_11_back a1 w Q) (hR : (RM 1).frames + 1 ≤ R.frames ∧ 8 + (2 + 11) + (RM 1).locals ≤ R.locals) (hce : ce ≤ R.cells ∧ sl ≤ R.slots) (hcat : (st1.map fun v => v.category).sum ≤ 8) (hd : decode cc pc = .ok (.invokevirtual idx, 3)) (kk : ∀ (r : Int32) (u : Mem), Q r u → V p l e R s m args below meth c nL ad cy D A H0 ce sl Qs u wm wl0 (pc + 3) ls (.int r :: st1)) : V p l e R s m args below meth c nL ad cy D A H0 ce sl Qs w wm wl0 pc ls (.int a1 :: .ref (ad 0) :: st1) := V_callVI_c X mf_11_back hL (rfl : vwCl[11]? = some (RX11, TX11, 13)) (by decide) (rfl : SK 0 = 11) (Nat.lt_of_lt_of_le (by decide : 0 < 150) (CX_nn X)) (c_11_back X.2.2.2.2.2.2.2.1 h) (As := [.int a1]) rfl ⟨rfl, rfl⟩ hR hce st1 rfl hcat hd kk
set_option maxRecDepth 20000 in
theorem v_11_beginAnew (X : CXq p s m args meth c cX11_beginAnew 1 yX11_beginAnew.cls ad cy D (AW ad) s.heap) (hr : meth.sig.returnType = none) {w : Mem} {Q : Mem → Prop} (h : wp_11_beginAnew w Q) : V p l e (RM 2) s m args below meth c 1 ad cy D (AW ad) s.heap 0 0 (MQ below (va_Qv Q (BC ad cy D wm wl0) (AW ad)) args s 0 0 (AW ad)) w wm wl0 0 [(0, .ref (ad 0))] [] := by
  unfold wp_11_beginAnew at h
  refine V_aload_n X (i := 0) 0 dX11_beginAnew_0 rfl rfl ?_
  refine G_11_49 X dX11_beginAnew_1 ?_
  refine V_aload_n X (i := 0) 0 dX11_beginAnew_4 rfl rfl ?_
  refine G_11_41 X dX11_beginAnew_5 ?_
  refine G_11_249 X (inst_Text_48).1 (inst_Text_48).2.1 (Text_r17 inst_Text_48) dX11_beginAnew_8 ?_
  obtain ⟨w1, ew1⟩ : ∃ y : Mem, y = st w 87 2 (w 48 17) := ⟨_, rfl⟩
  have h := h w1 ew1
  refine U_11_252 X rfl rfl dX11_beginAnew_11 ew1 ?_
  refine V_aload_n X (i := 0) 0 dX11_beginAnew_14 rfl rfl ?_
  refine G_11_56 X dX11_beginAnew_15 ?_
  refine K_5_begin X (Or.inl q_462) inst_Play_89 h ⟨Nat.le_of_ble_eq_true rfl, Nat.le_of_ble_eq_true rfl⟩ ⟨Nat.zero_le _, Nat.zero_le _⟩ (st1 := []) (Nat.le_of_ble_eq_true rfl) dX11_beginAnew_18 (fun w2 h => ?_)
  refine V_aload_n X (i := 0) 0 dX11_beginAnew_21 rfl rfl ?_
  refine G_11_66 X dX11_beginAnew_22 ?_
  refine K_1_clear X (Or.inl q_467) h ⟨Nat.le_of_ble_eq_true rfl, Nat.le_of_ble_eq_true rfl⟩ ⟨Nat.zero_le _, Nat.zero_le _⟩ (st1 := []) (Nat.le_of_ble_eq_true rfl) dX11_beginAnew_25 (fun w3 h => ?_)
  refine V_aload_n X (i := 0) 0 dX11_beginAnew_28 rfl rfl ?_
  refine G_11_73 X dX11_beginAnew_29 ?_
  refine K_6_clear X (Or.inl q_471) h ⟨Nat.le_of_ble_eq_true rfl, Nat.le_of_ble_eq_true rfl⟩ ⟨Nat.zero_le _, Nat.zero_le _⟩ (st1 := []) (Nat.le_of_ble_eq_true rfl) dX11_beginAnew_32 (fun w4 h => ?_)
  refine V_aload_n X (i := 0) 0 dX11_beginAnew_35 rfl rfl ?_
  refine G_11_80 X dX11_beginAnew_36 ?_
  refine V_iconst X (v := (0 : Int32)) dX11_beginAnew_39 (by decide) ?_
  obtain ⟨w5, ew5⟩ : ∃ y : Mem, y = st w4 145 3 (0 : Int32) := ⟨_, rfl⟩
  have h := h w5 ew5
  refine U_11_314 X rfl rfl dX11_beginAnew_40 ew5 ?_
  exact V_vret_c X hr dX11_beginAnew_43 h
theorem c_11_beginAnew (hinj : INJ ad) {w : Mem} {Q : Mem → Prop} (h : wp_11_beginAnew w Q) : Met l yX11_beginAnew (TBq yX11_beginAnew cX11_beginAnew 1 none) (RM 2) (va_Pc [.ref (ad 0)] (PB ad cy D (cmb w wm) wl0)) (va_Qv Q (BC ad cy D wm wl0) (AW ad)) 0 0 (AW ad) := M_enter (by decide) (Nat.le_of_ble_eq_true rfl) hinj (fun p e s m args below meth c X hr => v_11_beginAnew X hr h)
theorem mf_11_beginAnew : MFV yX11_beginAnew cX11_beginAnew 1 none yX11_beginAnew.cls 0 := ⟨q_461, q_460, qs_0, q_1, by decide⟩
theorem K_11_beginAnew {own : String} {idx : Nat} (X : CXq p s m args meth c cc nL own ad cy D A H0) (hL : LK own idx yX11_beginAnew) {w : Mem} {Q : Mem → Prop} (h : wp_11_beginAnew w Q) (hR : (RM 2).frames + 1 ≤ R.frames ∧ 8 + (1 + 11) + (RM 2).locals ≤ R.locals) (hce : ce ≤ R.cells ∧ sl ≤ R.slots) (hcat : (st1.map fun v => v.category).sum ≤ 8) (hd : decode cc pc = .ok (.invokevirtual idx, 3)) (kk : ∀ (u : Mem), Q u → V p l e R s m args below meth c nL ad cy D A H0 ce sl Qs u wm wl0 (pc + 3) ls st1) : V p l e R s m args below meth c nL ad cy D A H0 ce sl Qs w wm wl0 pc ls (.ref (ad 0) :: st1) := V_callVV_c X mf_11_beginAnew hL (rfl : vwCl[11]? = some (RX11, TX11, 13)) (by decide) (rfl : SK 0 = 11) (Nat.lt_of_lt_of_le (by decide : 0 < 150) (CX_nn X)) (c_11_beginAnew X.2.2.2.2.2.2.2.1 h) (As := []) rfl ⟨rfl, rfl⟩ hR hce st1 rfl hcat hd kk
set_option maxRecDepth 20000 in
theorem v_11_read_b50 (X : CXq p s m args meth c cX11_read 2 yX11_read.cls ad cy D (AW ad) s.heap) (hr : meth.sig.returnType = (some .int)) {Q : Int32 → Mem → Prop} : ∀ (l1 : Int32) (w : Mem), wp_11_read_b50 Q l1 w → V p l e (RM 30) s m args below meth c 2 ad cy D (AW ad) s.heap 0 0 (MQ below (va_Qi Q (BC ad cy D wm wl0) (AW ad)) args s 0 0 (AW ad)) w wm wl0 50 [(0, .ref (ad 0)), (1, .int l1)] [] := by
  intro l1 w h
  unfold wp_11_read_b50 at h
  refine V_aload_n X (i := 0) 0 dX11_read_50 rfl rfl ?_
  refine G_11_10 X dX11_read_51 ?_
  refine V_iconst X (v := (0 : Int32)) dX11_read_54 (by decide) ?_
  obtain ⟨w1, ew1⟩ : ∃ y : Mem, y = st w 1 1 (0 : Int32) := ⟨_, rfl⟩
  have h := h w1 ew1
  refine U_11_109 X rfl rfl dX11_read_55 ew1 ?_
  refine V_iload_n X (i := 1) 1 dX11_read_58 rfl rfl ?_
  exact V_iret_c X hr dX11_read_59 h
set_option maxRecDepth 20000 in
theorem v_11_read (X : CXq p s m args meth c cX11_read 2 yX11_read.cls ad cy D (AW ad) s.heap) (hr : meth.sig.returnType = (some .int)) {w : Mem} {Q : Int32 → Mem → Prop} (h : wp_11_read w Q) : V p l e (RM 30) s m args below meth c 2 ad cy D (AW ad) s.heap 0 0 (MQ below (va_Qi Q (BC ad cy D wm wl0) (AW ad)) args s 0 0 (AW ad)) w wm wl0 0 [(0, .ref (ad 0))] [] := by
  unfold wp_11_read at h
  refine V_aload_n X (i := 0) 0 dX11_read_0 rfl rfl ?_
  refine G_11_21 X dX11_read_1 ?_
  refine K_9_scan X (Or.inl q_539) h ⟨Nat.le_of_ble_eq_true rfl, Nat.le_of_ble_eq_true rfl⟩ ⟨Nat.zero_le _, Nat.zero_le _⟩ (st1 := []) (Nat.le_of_ble_eq_true rfl) dX11_read_4 (fun w1 h => ?_)
  refine V_aload_n X (i := 0) 0 dX11_read_7 rfl rfl ?_
  refine G_11_30 X dX11_read_8 ?_
  refine V_aload_n X (i := 0) 0 dX11_read_11 rfl rfl ?_
  refine G_11_37 X dX11_read_12 ?_
  refine K_3_parse X (Or.inl q_685) inst_Text_9 h ⟨Nat.le_of_ble_eq_true rfl, Nat.le_of_ble_eq_true rfl⟩ ⟨Nat.zero_le _, Nat.zero_le _⟩ (st1 := []) (Nat.le_of_ble_eq_true rfl) dX11_read_15 (fun r3 w2 h => ?_)
  refine V_istore_n X dX11_read_18 rfl (by decide) rfl (ls1 := [(1, .int r3), (0, .ref (ad 0))]) rfl ?_
  refine V_aload_n X (i := 0) 1 dX11_read_19 rfl rfl ?_
  refine V_aload_n X (i := 0) 1 dX11_read_20 rfl rfl ?_
  refine G_11_30 X dX11_read_21 ?_
  refine G_11_123 X dX11_read_24 ?_
  obtain ⟨w4, ew4⟩ : ∃ y : Mem, y = st w2 0 12 (w2 7 6) := ⟨_, rfl⟩
  have h := h w4 ew4
  refine U_11_88 X rfl rfl dX11_read_27 ew4 ?_
  refine V_iload_n X (i := 1) 0 dX11_read_30 rfl rfl ?_
  obtain ⟨ht, hf⟩ := h
  refine V_if_ne X (tgt := 50) dX11_read_31 (by decide) (fun c => ?_) (fun c => ?_)
  · have h := ht c
    refine V_sub X (ls1 := [(0, .ref (ad 0)), (1, .int r3)]) [1, 0] rfl ?_
    exact v_11_read_b50 X hr _ _ h
  · have h := hf c
    refine V_aload_n X (i := 0) 1 dX11_read_34 rfl rfl ?_
    refine G_11_30 X dX11_read_35 ?_
    refine V_aload_n X (i := 0) 1 dX11_read_38 rfl rfl ?_
    refine G_11_41 X dX11_read_39 ?_
    refine K_3_parse X (Or.inl q_685) inst_Text_48 h ⟨Nat.le_of_ble_eq_true rfl, Nat.le_of_ble_eq_true rfl⟩ ⟨Nat.zero_le _, Nat.zero_le _⟩ (st1 := []) (Nat.le_of_ble_eq_true rfl) dX11_read_42 (fun r6 w5 h => ?_)
    refine V_pop X dX11_read_45 rfl ?_
    refine V_aload_n X (i := 0) 1 dX11_read_46 rfl rfl ?_
    refine K_11_beginAnew X (Or.inl q_458) h ⟨Nat.le_of_ble_eq_true rfl, Nat.le_of_ble_eq_true rfl⟩ ⟨Nat.zero_le _, Nat.zero_le _⟩ (st1 := []) (Nat.le_of_ble_eq_true rfl) dX11_read_47 (fun w7 h => ?_)
    refine V_sub X (ls1 := [(0, .ref (ad 0)), (1, .int r3)]) [1, 0] rfl ?_
    exact v_11_read_b50 X hr _ _ h
theorem c_11_read (hinj : INJ ad) {w : Mem} {Q : Int32 → Mem → Prop} (h : wp_11_read w Q) : Met l yX11_read (TBq yX11_read cX11_read 2 (some .int)) (RM 30) (va_Pc [.ref (ad 0)] (PB ad cy D (cmb w wm) wl0)) (va_Qi Q (BC ad cy D wm wl0) (AW ad)) 0 0 (AW ad) := M_enter (by decide) (Nat.le_of_ble_eq_true rfl) hinj (fun p e s m args below meth c X hr => v_11_read X hr h)
theorem mf_11_read : MFV yX11_read cX11_read 2 (some .int) yX11_read.cls 0 := ⟨q_538, q_536, q_537, q_1, by decide⟩
theorem K_11_read {own : String} {idx : Nat} (X : CXq p s m args meth c cc nL own ad cy D A H0) (hL : LK own idx yX11_read) {w : Mem} {Q : Int32 → Mem → Prop} (h : wp_11_read w Q) (hR : (RM 30).frames + 1 ≤ R.frames ∧ 8 + (2 + 11) + (RM 30).locals ≤ R.locals) (hce : ce ≤ R.cells ∧ sl ≤ R.slots) (hcat : (st1.map fun v => v.category).sum ≤ 8) (hd : decode cc pc = .ok (.invokevirtual idx, 3)) (kk : ∀ (r : Int32) (u : Mem), Q r u → V p l e R s m args below meth c nL ad cy D A H0 ce sl Qs u wm wl0 (pc + 3) ls (.int r :: st1)) : V p l e R s m args below meth c nL ad cy D A H0 ce sl Qs w wm wl0 pc ls (.ref (ad 0) :: st1) := V_callVI_c X mf_11_read hL (rfl : vwCl[11]? = some (RX11, TX11, 13)) (by decide) (rfl : SK 0 = 11) (Nat.lt_of_lt_of_le (by decide : 0 < 150) (CX_nn X)) (c_11_read X.2.2.2.2.2.2.2.1 h) (As := []) rfl ⟨rfl, rfl⟩ hR hce st1 rfl hcat hd kk
set_option maxRecDepth 20000 in
theorem v_11_place (X : CXq p s m args meth c cX11_place 1 yX11_place.cls ad cy D (AW ad) s.heap) (hr : meth.sig.returnType = (some .int)) {w : Mem} {Q : Int32 → Mem → Prop} (h : wp_11_place w Q) : V p l e (RM 0) s m args below meth c 1 ad cy D (AW ad) s.heap 0 0 (MQ below (va_Qi Q (BC ad cy D wm wl0) (AW ad)) args s 0 0 (AW ad)) w wm wl0 0 [(0, .ref (ad 0))] [] := by
  unfold wp_11_place at h
  refine V_aload_n X (i := 0) 0 dX11_place_0 rfl rfl ?_
  refine G_11_88 X dX11_place_1 ?_
  exact V_iret_c X hr dX11_place_4 h
theorem c_11_place (hinj : INJ ad) {w : Mem} {Q : Int32 → Mem → Prop} (h : wp_11_place w Q) : Met l yX11_place (TBq yX11_place cX11_place 1 (some .int)) (RM 0) (va_Pc [.ref (ad 0)] (PB ad cy D (cmb w wm) wl0)) (va_Qi Q (BC ad cy D wm wl0) (AW ad)) 0 0 (AW ad) := M_enter (by decide) (Nat.le_of_ble_eq_true rfl) hinj (fun p e s m args below meth c X hr => v_11_place X hr h)
theorem mf_11_place : MFV yX11_place cX11_place 1 (some .int) yX11_place.cls 0 := ⟨q_774, q_772, q_773, q_1, by decide⟩
theorem K_11_place {own : String} {idx : Nat} (X : CXq p s m args meth c cc nL own ad cy D A H0) (hL : LK own idx yX11_place) {w : Mem} {Q : Int32 → Mem → Prop} (h : wp_11_place w Q) (hR : (RM 0).frames + 1 ≤ R.frames ∧ 8 + (1 + 11) + (RM 0).locals ≤ R.locals) (hce : ce ≤ R.cells ∧ sl ≤ R.slots) (hcat : (st1.map fun v => v.category).sum ≤ 8) (hd : decode cc pc = .ok (.invokevirtual idx, 3)) (kk : ∀ (r : Int32) (u : Mem), Q r u → V p l e R s m args below meth c nL ad cy D A H0 ce sl Qs u wm wl0 (pc + 3) ls (.int r :: st1)) : V p l e R s m args below meth c nL ad cy D A H0 ce sl Qs w wm wl0 pc ls (.ref (ad 0) :: st1) := V_callVI_c X mf_11_place hL (rfl : vwCl[11]? = some (RX11, TX11, 13)) (by decide) (rfl : SK 0 = 11) (Nat.lt_of_lt_of_le (by decide : 0 < 150) (CX_nn X)) (c_11_place X.2.2.2.2.2.2.2.1 h) (As := []) rfl ⟨rfl, rfl⟩ hR hce st1 rfl hcat hd kk
set_option maxRecDepth 20000 in
theorem v_11_now {a1 : Int32} (X : CXq p s m args meth c cX11_now 2 yX11_now.cls ad cy D (AW ad) s.heap) (hr : meth.sig.returnType = (some .int)) {w : Mem} {Q : Int32 → Mem → Prop} (h : wp_11_now a1 w Q) : V p l e (RM 5) s m args below meth c 2 ad cy D (AW ad) s.heap 0 0 (MQ below (va_Qi Q (BC ad cy D wm wl0) (AW ad)) args s 0 0 (AW ad)) w wm wl0 0 [(0, .ref (ad 0)), (1, .int a1)] [] := by
  unfold wp_11_now at h
  refine V_iload_n X (i := 1) 1 dX11_now_0 rfl rfl ?_
  obtain ⟨ht, h⟩ := h
  by_cases c0 : a1 = (0 : Int32)
  · have h := ht c0
    refine V_tableIn X (tgt := 44) dX11_now_1 (by rw [c0]; decide) (by rw [c0]; decide) (off := 43) (by rw [c0]; decide) (by decide) ?_
    refine V_aload_n X (i := 0) 0 dX11_now_44 rfl rfl ?_
    refine G_11_56 X dX11_now_45 ?_
    refine G_11_126 X (inst_Play_89).1 (inst_Play_89).2.1 (Play_r4 inst_Play_89) dX11_now_48 ?_
    exact V_iret_c X hr dX11_now_51 h
  have h := h c0
  obtain ⟨ht, h⟩ := h
  by_cases c1 : a1 = (1 : Int32)
  · have h := ht c1
    refine V_tableIn X (tgt := 52) dX11_now_1 (by rw [c1]; decide) (by rw [c1]; decide) (off := 51) (by rw [c1]; decide) (by decide) ?_
    refine V_aload_n X (i := 0) 0 dX11_now_52 rfl rfl ?_
    refine G_11_56 X dX11_now_53 ?_
    refine G_11_129 X (inst_Play_89).1 (inst_Play_89).2.1 (Play_r5 inst_Play_89) dX11_now_56 ?_
    exact V_iret_c X hr dX11_now_59 h
  have h := h c1
  obtain ⟨ht, h⟩ := h
  by_cases c2 : a1 = (2 : Int32)
  · have h := ht c2
    refine V_tableIn X (tgt := 60) dX11_now_1 (by rw [c2]; decide) (by rw [c2]; decide) (off := 59) (by rw [c2]; decide) (by decide) ?_
    refine V_aload_n X (i := 0) 0 dX11_now_60 rfl rfl ?_
    refine G_11_56 X dX11_now_61 ?_
    refine G_11_132 X (inst_Play_89).1 (inst_Play_89).2.1 (Play_r6 inst_Play_89) dX11_now_64 ?_
    exact V_iret_c X hr dX11_now_67 h
  have h := h c2
  obtain ⟨ht, h⟩ := h
  by_cases c3 : a1 = (3 : Int32)
  · have h := ht c3
    refine V_tableIn X (tgt := 68) dX11_now_1 (by rw [c3]; decide) (by rw [c3]; decide) (off := 67) (by rw [c3]; decide) (by decide) ?_
    refine V_aload_n X (i := 0) 0 dX11_now_68 rfl rfl ?_
    refine G_11_56 X dX11_now_69 ?_
    refine K_5_nextMan X (Or.inl q_779) inst_Play_89 h ⟨Nat.le_of_ble_eq_true rfl, Nat.le_of_ble_eq_true rfl⟩ ⟨Nat.zero_le _, Nat.zero_le _⟩ (st1 := []) (Nat.le_of_ble_eq_true rfl) dX11_now_72 (fun r2 w1 h => ?_)
    exact V_iret_c X hr dX11_now_75 h
  have h := h c3
  obtain ⟨ht, h⟩ := h
  by_cases c4 : a1 = (4 : Int32)
  · have h := ht c4
    refine V_tableIn X (tgt := 76) dX11_now_1 (by rw [c4]; decide) (by rw [c4]; decide) (off := 75) (by rw [c4]; decide) (by decide) ?_
    refine V_aload_n X (i := 0) 0 dX11_now_76 rfl rfl ?_
    refine G_11_56 X dX11_now_77 ?_
    refine G_11_139 X (inst_Play_89).1 (inst_Play_89).2.1 (Play_r7 inst_Play_89) dX11_now_80 ?_
    exact V_iret_c X hr dX11_now_83 h
  have h := h c4
  obtain ⟨ht, h⟩ := h
  by_cases c5 : a1 = (5 : Int32)
  · have h := ht c5
    refine V_tableIn X (tgt := 84) dX11_now_1 (by rw [c5]; decide) (by rw [c5]; decide) (off := 83) (by rw [c5]; decide) (by decide) ?_
    refine V_aload_n X (i := 0) 0 dX11_now_84 rfl rfl ?_
    refine G_11_49 X dX11_now_85 ?_
    refine V_aload_n X (i := 0) 0 dX11_now_88 rfl rfl ?_
    refine G_11_56 X dX11_now_89 ?_
    refine G_11_126 X (inst_Play_89).1 (inst_Play_89).2.1 (Play_r4 inst_Play_89) dX11_now_92 ?_
    refine K_0_blow X (Or.inl q_783) h ⟨Nat.le_of_ble_eq_true rfl, Nat.le_of_ble_eq_true rfl⟩ ⟨Nat.zero_le _, Nat.zero_le _⟩ (st1 := []) (Nat.le_of_ble_eq_true rfl) dX11_now_95 (fun w3 h => ?_)
    refine V_aload_n X (i := 0) 0 dX11_now_98 rfl rfl ?_
    refine G_11_49 X dX11_now_99 ?_
    refine G_11_145 X dX11_now_102 ?_
    exact V_iret_c X hr dX11_now_105 h
  have h := h c5
  obtain ⟨ht, h⟩ := h
  by_cases c6 : a1 = (6 : Int32)
  · have h := ht c6
    refine V_tableIn X (tgt := 106) dX11_now_1 (by rw [c6]; decide) (by rw [c6]; decide) (off := 105) (by rw [c6]; decide) (by decide) ?_
    refine V_aload_n X (i := 0) 0 dX11_now_106 rfl rfl ?_
    refine G_11_49 X dX11_now_107 ?_
    refine V_aload_n X (i := 0) 0 dX11_now_110 rfl rfl ?_
    refine G_11_56 X dX11_now_111 ?_
    refine G_11_126 X (inst_Play_89).1 (inst_Play_89).2.1 (Play_r4 inst_Play_89) dX11_now_114 ?_
    refine K_0_blow X (Or.inl q_783) h ⟨Nat.le_of_ble_eq_true rfl, Nat.le_of_ble_eq_true rfl⟩ ⟨Nat.zero_le _, Nat.zero_le _⟩ (st1 := []) (Nat.le_of_ble_eq_true rfl) dX11_now_117 (fun w4 h => ?_)
    refine V_aload_n X (i := 0) 0 dX11_now_120 rfl rfl ?_
    refine G_11_49 X dX11_now_121 ?_
    refine G_11_148 X dX11_now_124 ?_
    exact V_iret_c X hr dX11_now_127 h
  have h := h c6
  have z0 := tne c0 (z := 0) (by decide)
  have z1 := tne c1 (z := 1) (by decide)
  have z2 := tne c2 (z := 2) (by decide)
  have z3 := tne c3 (z := 3) (by decide)
  have z4 := tne c4 (z := 4) (by decide)
  have z5 := tne c5 (z := 5) (by decide)
  have z6 := tne c6 (z := 6) (by decide)
  refine V_tableOut X (tgt := 128) dX11_now_1 (by omega) (by decide) ?_
  refine V_sipush X (v := (-10000 : Int32)) dX11_now_128 (by decide) ?_
  exact V_iret_c X hr dX11_now_131 h
theorem c_11_now {a1 : Int32} (hinj : INJ ad) {w : Mem} {Q : Int32 → Mem → Prop} (h : wp_11_now a1 w Q) : Met l yX11_now (TBq yX11_now cX11_now 2 (some .int)) (RM 5) (va_Pc [.ref (ad 0), .int a1] (PB ad cy D (cmb w wm) wl0)) (va_Qi Q (BC ad cy D wm wl0) (AW ad)) 0 0 (AW ad) := M_enter (by decide) (Nat.le_of_ble_eq_true rfl) hinj (fun p e s m args below meth c X hr => v_11_now X hr h)
theorem mf_11_now : MFV yX11_now cX11_now 2 (some .int) yX11_now.cls 1 := ⟨q_778, q_776, q_777, q_1, by decide⟩
theorem K_11_now {own : String} {idx : Nat} {a1 : Int32} (X : CXq p s m args meth c cc nL own ad cy D A H0) (hL : LK own idx yX11_now) {w : Mem} {Q : Int32 → Mem → Prop} (h : wp_11_now a1 w Q) (hR : (RM 5).frames + 1 ≤ R.frames ∧ 8 + (2 + 11) + (RM 5).locals ≤ R.locals) (hce : ce ≤ R.cells ∧ sl ≤ R.slots) (hcat : (st1.map fun v => v.category).sum ≤ 8) (hd : decode cc pc = .ok (.invokevirtual idx, 3)) (kk : ∀ (r : Int32) (u : Mem), Q r u → V p l e R s m args below meth c nL ad cy D A H0 ce sl Qs u wm wl0 (pc + 3) ls (.int r :: st1)) : V p l e R s m args below meth c nL ad cy D A H0 ce sl Qs w wm wl0 pc ls (.int a1 :: .ref (ad 0) :: st1) := V_callVI_c X mf_11_now hL (rfl : vwCl[11]? = some (RX11, TX11, 13)) (by decide) (rfl : SK 0 = 11) (Nat.lt_of_lt_of_le (by decide : 0 < 150) (CX_nn X)) (c_11_now X.2.2.2.2.2.2.2.1 h) (As := [.int a1]) rfl ⟨rfl, rfl⟩ hR hce st1 rfl hcat hd kk
set_option maxRecDepth 20000 in
theorem v_11_wind {a1 : Int32} {a2 : Int32} (X : CXq p s m args meth c cX11_wind 3 yX11_wind.cls ad cy D (AW ad) s.heap) (hr : meth.sig.returnType = (some .int)) {w : Mem} {Q : Int32 → Mem → Prop} (h : wp_11_wind a1 a2 w Q) : V p l e (RM 4) s m args below meth c 3 ad cy D (AW ad) s.heap 0 0 (MQ below (va_Qi Q (BC ad cy D wm wl0) (AW ad)) args s 0 0 (AW ad)) w wm wl0 0 [(0, .ref (ad 0)), (1, .int a1), (2, .int a2)] [] := by
  unfold wp_11_wind at h
  refine V_iload_n X (i := 1) 1 dX11_wind_0 rfl rfl ?_
  refine V_iconst X (v := (0 : Int32)) dX11_wind_1 (by decide) ?_
  refine V_iconst X (v := (4 : Int32)) dX11_wind_2 (by decide) ?_
  refine K_11_within X (Or.inl q_532) h ⟨Nat.le_of_ble_eq_true rfl, Nat.le_of_ble_eq_true rfl⟩ ⟨Nat.zero_le _, Nat.zero_le _⟩ (st1 := []) (Nat.le_of_ble_eq_true rfl) dX11_wind_3 (fun r2 w1 h => ?_)
  obtain ⟨ht, hf⟩ := h
  refine V_if_eq X (tgt := 19) dX11_wind_6 (by decide) (fun c => ?_) (fun c => ?_)
  · have h := ht c
    refine V_sipush X (v := (-10000 : Int32)) dX11_wind_19 (by decide) ?_
    exact V_iret_c X hr dX11_wind_22 h
  · have h := hf c
    refine V_iload_n X (i := 2) 2 dX11_wind_9 rfl rfl ?_
    refine V_iconst X (v := (0 : Int32)) dX11_wind_10 (by decide) ?_
    refine V_ldc X (v := (99999 : Int32)) dX11_wind_11 q_824 ?_
    refine K_11_within X (Or.inl q_532) h ⟨Nat.le_of_ble_eq_true rfl, Nat.le_of_ble_eq_true rfl⟩ ⟨Nat.zero_le _, Nat.zero_le _⟩ (st1 := []) (Nat.le_of_ble_eq_true rfl) dX11_wind_13 (fun r4 w3 h => ?_)
    obtain ⟨ht, hf⟩ := h
    refine V_if_ne X (tgt := 23) dX11_wind_16 (by decide) (fun c => ?_) (fun c => ?_)
    · have h := ht c
      refine V_aload_n X (i := 0) 0 dX11_wind_23 rfl rfl ?_
      refine G_11_49 X dX11_wind_24 ?_
      refine V_iload_n X (i := 1) 1 dX11_wind_27 rfl rfl ?_
      refine V_iload_n X (i := 2) 2 dX11_wind_28 rfl rfl ?_
      refine K_0_windAt X (Or.inl q_825) h ⟨Nat.le_of_ble_eq_true rfl, Nat.le_of_ble_eq_true rfl⟩ ⟨Nat.zero_le _, Nat.zero_le _⟩ (st1 := []) (Nat.le_of_ble_eq_true rfl) dX11_wind_29 (fun r6 w5 h => ?_)
      exact V_iret_c X hr dX11_wind_32 h
    · have h := hf c
      refine V_sipush X (v := (-10000 : Int32)) dX11_wind_19 (by decide) ?_
      exact V_iret_c X hr dX11_wind_22 h
theorem c_11_wind {a1 : Int32} {a2 : Int32} (hinj : INJ ad) {w : Mem} {Q : Int32 → Mem → Prop} (h : wp_11_wind a1 a2 w Q) : Met l yX11_wind (TBq yX11_wind cX11_wind 3 (some .int)) (RM 4) (va_Pc [.ref (ad 0), .int a1, .int a2] (PB ad cy D (cmb w wm) wl0)) (va_Qi Q (BC ad cy D wm wl0) (AW ad)) 0 0 (AW ad) := M_enter (by decide) (Nat.le_of_ble_eq_true rfl) hinj (fun p e s m args below meth c X hr => v_11_wind X hr h)
theorem mf_11_wind : MFV yX11_wind cX11_wind 3 (some .int) yX11_wind.cls 2 := ⟨q_823, q_821, q_822, q_1, by decide⟩
theorem K_11_wind {own : String} {idx : Nat} {a1 : Int32} {a2 : Int32} (X : CXq p s m args meth c cc nL own ad cy D A H0) (hL : LK own idx yX11_wind) {w : Mem} {Q : Int32 → Mem → Prop} (h : wp_11_wind a1 a2 w Q) (hR : (RM 4).frames + 1 ≤ R.frames ∧ 8 + (3 + 11) + (RM 4).locals ≤ R.locals) (hce : ce ≤ R.cells ∧ sl ≤ R.slots) (hcat : (st1.map fun v => v.category).sum ≤ 8) (hd : decode cc pc = .ok (.invokevirtual idx, 3)) (kk : ∀ (r : Int32) (u : Mem), Q r u → V p l e R s m args below meth c nL ad cy D A H0 ce sl Qs u wm wl0 (pc + 3) ls (.int r :: st1)) : V p l e R s m args below meth c nL ad cy D A H0 ce sl Qs w wm wl0 pc ls (.int a2 :: .int a1 :: .ref (ad 0) :: st1) := V_callVI_c X mf_11_wind hL (rfl : vwCl[11]? = some (RX11, TX11, 13)) (by decide) (rfl : SK 0 = 11) (Nat.lt_of_lt_of_le (by decide : 0 < 150) (CX_nn X)) (c_11_wind X.2.2.2.2.2.2.2.1 h) (As := [.int a1, .int a2]) rfl ⟨rfl, rfl⟩ hR hce st1 rfl hcat hd kk
set_option maxRecDepth 20000 in
theorem v_11_jump {a1 : Int32} {a2 : Int32} {a3 : Int32} (X : CXq p s m args meth c cX11_jump 4 yX11_jump.cls ad cy D (AW ad) s.heap) (hr : meth.sig.returnType = (some .int)) {w : Mem} {Q : Int32 → Mem → Prop} (h : wp_11_jump a1 a2 a3 w Q) : V p l e (RM 3) s m args below meth c 4 ad cy D (AW ad) s.heap 0 0 (MQ below (va_Qi Q (BC ad cy D wm wl0) (AW ad)) args s 0 0 (AW ad)) w wm wl0 0 [(0, .ref (ad 0)), (1, .int a1), (2, .int a2), (3, .int a3)] [] := by
  unfold wp_11_jump at h
  refine V_aload_n X (i := 0) 0 dX11_jump_0 rfl rfl ?_
  refine G_11_56 X dX11_jump_1 ?_
  refine V_iload_n X (i := 1) 1 dX11_jump_4 rfl rfl ?_
  refine V_iload_n X (i := 2) 2 dX11_jump_5 rfl rfl ?_
  refine K_5_hasJump X (Or.inl q_830) inst_Play_89 h ⟨Nat.le_of_ble_eq_true rfl, Nat.le_of_ble_eq_true rfl⟩ ⟨Nat.zero_le _, Nat.zero_le _⟩ (st1 := []) (Nat.le_of_ble_eq_true rfl) dX11_jump_6 (fun r2 w1 h => ?_)
  obtain ⟨ht, hf⟩ := h
  refine V_if_eq X (tgt := 22) dX11_jump_9 (by decide) (fun c => ?_) (fun c => ?_)
  · have h := ht c
    refine V_sipush X (v := (-10000 : Int32)) dX11_jump_22 (by decide) ?_
    exact V_iret_c X hr dX11_jump_25 h
  · have h := hf c
    refine V_iload_n X (i := 3) 3 dX11_jump_12 rfl rfl ?_
    refine V_iconst X (v := (0 : Int32)) dX11_jump_13 (by decide) ?_
    refine V_bipush X (v := (7 : Int32)) dX11_jump_14 (by decide) ?_
    refine K_11_within X (Or.inl q_532) h ⟨Nat.le_of_ble_eq_true rfl, Nat.le_of_ble_eq_true rfl⟩ ⟨Nat.zero_le _, Nat.zero_le _⟩ (st1 := []) (Nat.le_of_ble_eq_true rfl) dX11_jump_16 (fun r4 w3 h => ?_)
    obtain ⟨ht, hf⟩ := h
    refine V_if_ne X (tgt := 26) dX11_jump_19 (by decide) (fun c => ?_) (fun c => ?_)
    · have h := ht c
      refine V_aload_n X (i := 0) 0 dX11_jump_26 rfl rfl ?_
      refine G_11_56 X dX11_jump_27 ?_
      refine V_iload_n X (i := 1) 1 dX11_jump_30 rfl rfl ?_
      refine V_iload_n X (i := 2) 2 dX11_jump_31 rfl rfl ?_
      refine V_iload_n X (i := 3) 3 dX11_jump_32 rfl rfl ?_
      refine K_5_cell X (Or.inl q_842) inst_Play_89 h ⟨Nat.le_of_ble_eq_true rfl, Nat.le_of_ble_eq_true rfl⟩ ⟨Nat.zero_le _, Nat.zero_le _⟩ (st1 := []) (Nat.le_of_ble_eq_true rfl) dX11_jump_33 (fun r6 w5 h => ?_)
      exact V_iret_c X hr dX11_jump_36 h
    · have h := hf c
      refine V_sipush X (v := (-10000 : Int32)) dX11_jump_22 (by decide) ?_
      exact V_iret_c X hr dX11_jump_25 h
theorem c_11_jump {a1 : Int32} {a2 : Int32} {a3 : Int32} (hinj : INJ ad) {w : Mem} {Q : Int32 → Mem → Prop} (h : wp_11_jump a1 a2 a3 w Q) : Met l yX11_jump (TBq yX11_jump cX11_jump 4 (some .int)) (RM 3) (va_Pc [.ref (ad 0), .int a1, .int a2, .int a3] (PB ad cy D (cmb w wm) wl0)) (va_Qi Q (BC ad cy D wm wl0) (AW ad)) 0 0 (AW ad) := M_enter (by decide) (Nat.le_of_ble_eq_true rfl) hinj (fun p e s m args below meth c X hr => v_11_jump X hr h)
theorem mf_11_jump : MFV yX11_jump cX11_jump 4 (some .int) yX11_jump.cls 3 := ⟨q_829, q_827, q_828, q_1, by decide⟩
theorem K_11_jump {own : String} {idx : Nat} {a1 : Int32} {a2 : Int32} {a3 : Int32} (X : CXq p s m args meth c cc nL own ad cy D A H0) (hL : LK own idx yX11_jump) {w : Mem} {Q : Int32 → Mem → Prop} (h : wp_11_jump a1 a2 a3 w Q) (hR : (RM 3).frames + 1 ≤ R.frames ∧ 8 + (4 + 11) + (RM 3).locals ≤ R.locals) (hce : ce ≤ R.cells ∧ sl ≤ R.slots) (hcat : (st1.map fun v => v.category).sum ≤ 8) (hd : decode cc pc = .ok (.invokevirtual idx, 3)) (kk : ∀ (r : Int32) (u : Mem), Q r u → V p l e R s m args below meth c nL ad cy D A H0 ce sl Qs u wm wl0 (pc + 3) ls (.int r :: st1)) : V p l e R s m args below meth c nL ad cy D A H0 ce sl Qs w wm wl0 pc ls (.int a3 :: .int a2 :: .int a1 :: .ref (ad 0) :: st1) := V_callVI_c X mf_11_jump hL (rfl : vwCl[11]? = some (RX11, TX11, 13)) (by decide) (rfl : SK 0 = 11) (Nat.lt_of_lt_of_le (by decide : 0 < 150) (CX_nn X)) (c_11_jump X.2.2.2.2.2.2.2.1 h) (As := [.int a1, .int a2, .int a3]) rfl ⟨rfl, rfl⟩ hR hce st1 rfl hcat hd kk
set_option maxRecDepth 20000 in
theorem v_11_isJudge {a1 : Int32} (X : CXq p s m args meth c cX11_isJudge 2 yX11_isJudge.cls ad cy D (AW ad) s.heap) (hr : meth.sig.returnType = (some .boolean)) {w : Mem} {Q : Int32 → Mem → Prop} (h : wp_11_isJudge a1 w Q) : V p l e (RM 1) s m args below meth c 2 ad cy D (AW ad) s.heap 0 0 (MQ below (va_Qi Q (BC ad cy D wm wl0) (AW ad)) args s 0 0 (AW ad)) w wm wl0 0 [(0, .ref (ad 0)), (1, .int a1)] [] := by
  unfold wp_11_isJudge at h
  refine V_iload_n X (i := 1) 1 dX11_isJudge_0 rfl rfl ?_
  refine V_iconst X (v := (0 : Int32)) dX11_isJudge_1 (by decide) ?_
  refine V_aload_n X (i := 0) 0 dX11_isJudge_2 rfl rfl ?_
  refine G_11_41 X dX11_isJudge_3 ?_
  refine G_11_216 X (inst_Text_48).1 (inst_Text_48).2.1 (Text_r6 inst_Text_48) dX11_isJudge_6 ?_
  refine G_11_299 X (inst_People_80).1 (inst_People_80).2.1 (People_r7 inst_People_80) dX11_isJudge_9 ?_
  refine V_iconst X (v := (1 : Int32)) dX11_isJudge_12 (by decide) ?_
  refine V_isub X dX11_isJudge_13 ?_
  refine K_11_within X (Or.inl q_532) h ⟨Nat.le_of_ble_eq_true rfl, Nat.le_of_ble_eq_true rfl⟩ ⟨Nat.zero_le _, Nat.zero_le _⟩ (st1 := []) (Nat.le_of_ble_eq_true rfl) dX11_isJudge_14 (fun r2 w1 h => ?_)
  exact V_zret_c X hr dX11_isJudge_17 (bo_z h.1) h.2
theorem c_11_isJudge {a1 : Int32} (hinj : INJ ad) {w : Mem} {Q : Int32 → Mem → Prop} (h : wp_11_isJudge a1 w Q) : Met l yX11_isJudge (TBq yX11_isJudge cX11_isJudge 2 (some .boolean)) (RM 1) (va_Pc [.ref (ad 0), .int a1] (PB ad cy D (cmb w wm) wl0)) (va_Qi Q (BC ad cy D wm wl0) (AW ad)) 0 0 (AW ad) := M_enter (by decide) (Nat.le_of_ble_eq_true rfl) hinj (fun p e s m args below meth c X hr => v_11_isJudge X hr h)
theorem mf_11_isJudge : MFV yX11_isJudge cX11_isJudge 2 (some .boolean) yX11_isJudge.cls 1 := ⟨q_850, q_849, qs_24, q_1, by decide⟩
theorem K_11_isJudge {own : String} {idx : Nat} {a1 : Int32} (X : CXq p s m args meth c cc nL own ad cy D A H0) (hL : LK own idx yX11_isJudge) {w : Mem} {Q : Int32 → Mem → Prop} (h : wp_11_isJudge a1 w Q) (hR : (RM 1).frames + 1 ≤ R.frames ∧ 8 + (2 + 11) + (RM 1).locals ≤ R.locals) (hce : ce ≤ R.cells ∧ sl ≤ R.slots) (hcat : (st1.map fun v => v.category).sum ≤ 8) (hd : decode cc pc = .ok (.invokevirtual idx, 3)) (kk : ∀ (r : Int32) (u : Mem), Q r u → V p l e R s m args below meth c nL ad cy D A H0 ce sl Qs u wm wl0 (pc + 3) ls (.int r :: st1)) : V p l e R s m args below meth c nL ad cy D A H0 ce sl Qs w wm wl0 pc ls (.int a1 :: .ref (ad 0) :: st1) := V_callVI_c X mf_11_isJudge hL (rfl : vwCl[11]? = some (RX11, TX11, 13)) (by decide) (rfl : SK 0 = 11) (Nat.lt_of_lt_of_le (by decide : 0 < 150) (CX_nn X)) (c_11_isJudge X.2.2.2.2.2.2.2.1 h) (As := [.int a1]) rfl ⟨rfl, rfl⟩ hR hce st1 rfl hcat hd kk
set_option maxRecDepth 20000 in
theorem v_11_mark {a1 : Int32} {a2 : Int32} {a3 : Int32} (X : CXq p s m args meth c cX11_mark 4 yX11_mark.cls ad cy D (AW ad) s.heap) (hr : meth.sig.returnType = (some .int)) {w : Mem} {Q : Int32 → Mem → Prop} (h : wp_11_mark a1 a2 a3 w Q) : V p l e (RM 3) s m args below meth c 4 ad cy D (AW ad) s.heap 0 0 (MQ below (va_Qi Q (BC ad cy D wm wl0) (AW ad)) args s 0 0 (AW ad)) w wm wl0 0 [(0, .ref (ad 0)), (1, .int a1), (2, .int a2), (3, .int a3)] [] := by
  unfold wp_11_mark at h
  refine V_aload_n X (i := 0) 0 dX11_mark_0 rfl rfl ?_
  refine G_11_56 X dX11_mark_1 ?_
  refine V_iload_n X (i := 1) 1 dX11_mark_4 rfl rfl ?_
  refine V_iload_n X (i := 2) 2 dX11_mark_5 rfl rfl ?_
  refine K_5_hasJump X (Or.inl q_830) inst_Play_89 h ⟨Nat.le_of_ble_eq_true rfl, Nat.le_of_ble_eq_true rfl⟩ ⟨Nat.zero_le _, Nat.zero_le _⟩ (st1 := []) (Nat.le_of_ble_eq_true rfl) dX11_mark_6 (fun r2 w1 h => ?_)
  obtain ⟨ht, hf⟩ := h
  refine V_if_eq X (tgt := 20) dX11_mark_9 (by decide) (fun c => ?_) (fun c => ?_)
  · have h := ht c
    refine V_sipush X (v := (-10000 : Int32)) dX11_mark_20 (by decide) ?_
    exact V_iret_c X hr dX11_mark_23 h
  · have h := hf c
    refine V_aload_n X (i := 0) 0 dX11_mark_12 rfl rfl ?_
    refine V_iload_n X (i := 3) 3 dX11_mark_13 rfl rfl ?_
    refine K_11_isJudge X (Or.inl q_847) h ⟨Nat.le_of_ble_eq_true rfl, Nat.le_of_ble_eq_true rfl⟩ ⟨Nat.zero_le _, Nat.zero_le _⟩ (st1 := []) (Nat.le_of_ble_eq_true rfl) dX11_mark_14 (fun r4 w3 h => ?_)
    obtain ⟨ht, hf⟩ := h
    refine V_if_ne X (tgt := 24) dX11_mark_17 (by decide) (fun c => ?_) (fun c => ?_)
    · have h := ht c
      refine V_aload_n X (i := 0) 0 dX11_mark_24 rfl rfl ?_
      refine G_11_56 X dX11_mark_25 ?_
      refine V_iload_n X (i := 1) 1 dX11_mark_28 rfl rfl ?_
      refine V_iload_n X (i := 2) 2 dX11_mark_29 rfl rfl ?_
      refine V_bipush X (v := (9 : Int32)) dX11_mark_30 (by decide) ?_
      refine V_iload_n X (i := 3) 3 dX11_mark_32 rfl rfl ?_
      refine V_iadd X dX11_mark_33 ?_
      refine K_5_cell X (Or.inl q_842) inst_Play_89 h ⟨Nat.le_of_ble_eq_true rfl, Nat.le_of_ble_eq_true rfl⟩ ⟨Nat.zero_le _, Nat.zero_le _⟩ (st1 := []) (Nat.le_of_ble_eq_true rfl) dX11_mark_34 (fun r6 w5 h => ?_)
      exact V_iret_c X hr dX11_mark_37 h
    · have h := hf c
      refine V_sipush X (v := (-10000 : Int32)) dX11_mark_20 (by decide) ?_
      exact V_iret_c X hr dX11_mark_23 h
theorem c_11_mark {a1 : Int32} {a2 : Int32} {a3 : Int32} (hinj : INJ ad) {w : Mem} {Q : Int32 → Mem → Prop} (h : wp_11_mark a1 a2 a3 w Q) : Met l yX11_mark (TBq yX11_mark cX11_mark 4 (some .int)) (RM 3) (va_Pc [.ref (ad 0), .int a1, .int a2, .int a3] (PB ad cy D (cmb w wm) wl0)) (va_Qi Q (BC ad cy D wm wl0) (AW ad)) 0 0 (AW ad) := M_enter (by decide) (Nat.le_of_ble_eq_true rfl) hinj (fun p e s m args below meth c X hr => v_11_mark X hr h)
theorem mf_11_mark : MFV yX11_mark cX11_mark 4 (some .int) yX11_mark.cls 3 := ⟨q_846, q_844, q_845, q_1, by decide⟩
theorem K_11_mark {own : String} {idx : Nat} {a1 : Int32} {a2 : Int32} {a3 : Int32} (X : CXq p s m args meth c cc nL own ad cy D A H0) (hL : LK own idx yX11_mark) {w : Mem} {Q : Int32 → Mem → Prop} (h : wp_11_mark a1 a2 a3 w Q) (hR : (RM 3).frames + 1 ≤ R.frames ∧ 8 + (4 + 11) + (RM 3).locals ≤ R.locals) (hce : ce ≤ R.cells ∧ sl ≤ R.slots) (hcat : (st1.map fun v => v.category).sum ≤ 8) (hd : decode cc pc = .ok (.invokevirtual idx, 3)) (kk : ∀ (r : Int32) (u : Mem), Q r u → V p l e R s m args below meth c nL ad cy D A H0 ce sl Qs u wm wl0 (pc + 3) ls (.int r :: st1)) : V p l e R s m args below meth c nL ad cy D A H0 ce sl Qs w wm wl0 pc ls (.int a3 :: .int a2 :: .int a1 :: .ref (ad 0) :: st1) := V_callVI_c X mf_11_mark hL (rfl : vwCl[11]? = some (RX11, TX11, 13)) (by decide) (rfl : SK 0 = 11) (Nat.lt_of_lt_of_le (by decide : 0 < 150) (CX_nn X)) (c_11_mark X.2.2.2.2.2.2.2.1 h) (As := [.int a1, .int a2, .int a3]) rfl ⟨rfl, rfl⟩ hR hce st1 rfl hcat hd kk
set_option maxRecDepth 20000 in
theorem v_11_isMan {a1 : Int32} (X : CXq p s m args meth c cX11_isMan 2 yX11_isMan.cls ad cy D (AW ad) s.heap) (hr : meth.sig.returnType = (some .boolean)) {w : Mem} {Q : Int32 → Mem → Prop} (h : wp_11_isMan a1 w Q) : V p l e (RM 1) s m args below meth c 2 ad cy D (AW ad) s.heap 0 0 (MQ below (va_Qi Q (BC ad cy D wm wl0) (AW ad)) args s 0 0 (AW ad)) w wm wl0 0 [(0, .ref (ad 0)), (1, .int a1)] [] := by
  unfold wp_11_isMan at h
  refine V_iload_n X (i := 1) 1 dX11_isMan_0 rfl rfl ?_
  refine V_iconst X (v := (0 : Int32)) dX11_isMan_1 (by decide) ?_
  refine V_aload_n X (i := 0) 0 dX11_isMan_2 rfl rfl ?_
  refine G_11_41 X dX11_isMan_3 ?_
  refine G_11_216 X (inst_Text_48).1 (inst_Text_48).2.1 (Text_r6 inst_Text_48) dX11_isMan_6 ?_
  refine G_11_239 X (inst_People_80).1 (inst_People_80).2.1 (People_r6 inst_People_80) dX11_isMan_9 ?_
  refine V_iconst X (v := (1 : Int32)) dX11_isMan_12 (by decide) ?_
  refine V_isub X dX11_isMan_13 ?_
  refine K_11_within X (Or.inl q_532) h ⟨Nat.le_of_ble_eq_true rfl, Nat.le_of_ble_eq_true rfl⟩ ⟨Nat.zero_le _, Nat.zero_le _⟩ (st1 := []) (Nat.le_of_ble_eq_true rfl) dX11_isMan_14 (fun r2 w1 h => ?_)
  exact V_zret_c X hr dX11_isMan_17 (bo_z h.1) h.2
theorem c_11_isMan {a1 : Int32} (hinj : INJ ad) {w : Mem} {Q : Int32 → Mem → Prop} (h : wp_11_isMan a1 w Q) : Met l yX11_isMan (TBq yX11_isMan cX11_isMan 2 (some .boolean)) (RM 1) (va_Pc [.ref (ad 0), .int a1] (PB ad cy D (cmb w wm) wl0)) (va_Qi Q (BC ad cy D wm wl0) (AW ad)) 0 0 (AW ad) := M_enter (by decide) (Nat.le_of_ble_eq_true rfl) hinj (fun p e s m args below meth c X hr => v_11_isMan X hr h)
theorem mf_11_isMan : MFV yX11_isMan cX11_isMan 2 (some .boolean) yX11_isMan.cls 1 := ⟨q_858, q_857, qs_25, q_1, by decide⟩
theorem K_11_isMan {own : String} {idx : Nat} {a1 : Int32} (X : CXq p s m args meth c cc nL own ad cy D A H0) (hL : LK own idx yX11_isMan) {w : Mem} {Q : Int32 → Mem → Prop} (h : wp_11_isMan a1 w Q) (hR : (RM 1).frames + 1 ≤ R.frames ∧ 8 + (2 + 11) + (RM 1).locals ≤ R.locals) (hce : ce ≤ R.cells ∧ sl ≤ R.slots) (hcat : (st1.map fun v => v.category).sum ≤ 8) (hd : decode cc pc = .ok (.invokevirtual idx, 3)) (kk : ∀ (r : Int32) (u : Mem), Q r u → V p l e R s m args below meth c nL ad cy D A H0 ce sl Qs u wm wl0 (pc + 3) ls (.int r :: st1)) : V p l e R s m args below meth c nL ad cy D A H0 ce sl Qs w wm wl0 pc ls (.int a1 :: .ref (ad 0) :: st1) := V_callVI_c X mf_11_isMan hL (rfl : vwCl[11]? = some (RX11, TX11, 13)) (by decide) (rfl : SK 0 = 11) (Nat.lt_of_lt_of_le (by decide : 0 < 150) (CX_nn X)) (c_11_isMan X.2.2.2.2.2.2.2.1 h) (As := [.int a1]) rfl ⟨rfl, rfl⟩ hR hce st1 rfl hcat hd kk
end
