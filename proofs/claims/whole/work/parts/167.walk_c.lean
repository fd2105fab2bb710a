-- printed by wip/whole/gen6.py out of the decode rows and the tables
section
variable {p : Program} {l : Launch} {e : Env} {R : Room} {s : State} {m : MethodId} {args : Array Value} {below : List Frame} {meth : Method} {c : Code} {cc : ByteArray} {nL : Nat} {ad : Nat → Nat} {cy : Nat → ClassId} {D : va_G} {A : Nat → Prop} {H0 : Heap} {ce sl : Nat} {Qs : State → Prop} {wc wm : Mem} {wl0 : MemL} {pc : Nat} {ls : List (Nat × Value)} {st1 : List Value}
set_option maxRecDepth 20000 in
theorem v_11_atGate {a1 : Int32} {a2 : Int32} {a3 : Int32} (X : CXq p s m args meth c cX11_atGate 4 yX11_atGate.cls ad cy D (AW ad) s.heap) (hr : meth.sig.returnType = (some .int)) {w : Mem} {Q : Int32 → Mem → Prop} (h : wp_11_atGate a1 a2 a3 w Q) : V p l e (RM 6) s m args below meth c 4 ad cy D (AW ad) s.heap 0 0 (MQ below (va_Qi Q (BC ad cy D wm wl0) (AW ad)) args s 0 0 (AW ad)) w wm wl0 0 [(0, .ref (ad 0)), (1, .int a1), (2, .int a2), (3, .int a3)] [] := by
  unfold wp_11_atGate at h
  refine V_aload_n X (i := 0) 0 dX11_atGate_0 rfl rfl ?_
  refine V_iload_n X (i := 1) 1 dX11_atGate_1 rfl rfl ?_
  refine K_11_isMan X (Or.inl q_855) h ⟨Nat.le_of_ble_eq_true rfl, Nat.le_of_ble_eq_true rfl⟩ ⟨Nat.zero_le _, Nat.zero_le _⟩ (st1 := []) (Nat.le_of_ble_eq_true rfl) dX11_atGate_2 (fun r2 w1 h => ?_)
  obtain ⟨ht, hf⟩ := h
  refine V_if_eq X (tgt := 15) dX11_atGate_5 (by decide) (fun c => ?_) (fun c => ?_)
  · have h := ht c
    refine V_sipush X (v := (-10000 : Int32)) dX11_atGate_15 (by decide) ?_
    exact V_iret_c X hr dX11_atGate_18 h
  · have h := hf c
    refine V_iload_n X (i := 2) 2 dX11_atGate_8 rfl rfl ?_
    refine K_11_isGate X (Or.inl q_958) h ⟨Nat.le_of_ble_eq_true rfl, Nat.le_of_ble_eq_true rfl⟩ ⟨Nat.zero_le _, Nat.zero_le _⟩ (st1 := []) (Nat.le_of_ble_eq_true rfl) dX11_atGate_9 (fun r4 w3 h => ?_)
    obtain ⟨ht, hf⟩ := h
    refine V_if_ne X (tgt := 19) dX11_atGate_12 (by decide) (fun c => ?_) (fun c => ?_)
    · have h := ht c
      refine V_aload_n X (i := 0) 0 dX11_atGate_19 rfl rfl ?_
      refine G_11_49 X dX11_atGate_20 ?_
      refine V_aload_n X (i := 0) 0 dX11_atGate_23 rfl rfl ?_
      refine G_11_56 X dX11_atGate_24 ?_
      refine G_11_126 X (inst_Play_89).1 (inst_Play_89).2.1 (Play_r4 inst_Play_89) dX11_atGate_27 ?_
      refine K_0_blow X (Or.inl q_783) h ⟨Nat.le_of_ble_eq_true rfl, Nat.le_of_ble_eq_true rfl⟩ ⟨Nat.zero_le _, Nat.zero_le _⟩ (st1 := []) (Nat.le_of_ble_eq_true rfl) dX11_atGate_30 (fun w5 h => ?_)
      refine V_aload_n X (i := 0) 0 dX11_atGate_33 rfl rfl ?_
      refine V_iload_n X (i := 1) 1 dX11_atGate_34 rfl rfl ?_
      refine V_iconst X (v := (0 : Int32)) dX11_atGate_35 (by decide) ?_
      refine V_iload_n X (i := 2) 2 dX11_atGate_36 rfl rfl ?_
      refine V_aload_n X (i := 0) 0 dX11_atGate_37 rfl rfl ?_
      refine G_11_56 X dX11_atGate_38 ?_
      refine G_11_139 X (inst_Play_89).1 (inst_Play_89).2.1 (Play_r7 inst_Play_89) dX11_atGate_41 ?_
      refine V_iload_n X (i := 3) 3 dX11_atGate_44 rfl rfl ?_
      refine K_11_jumpNow X (Or.inl q_988) h ⟨Nat.le_of_ble_eq_true rfl, Nat.le_of_ble_eq_true rfl⟩ ⟨Nat.zero_le _, Nat.zero_le _⟩ (st1 := []) (Nat.le_of_ble_eq_true rfl) dX11_atGate_45 (fun r7 w6 h => ?_)
      exact V_iret_c X hr dX11_atGate_48 h
    · have h := hf c
      refine V_sipush X (v := (-10000 : Int32)) dX11_atGate_15 (by decide) ?_
      exact V_iret_c X hr dX11_atGate_18 h
theorem c_11_atGate {a1 : Int32} {a2 : Int32} {a3 : Int32} (hinj : INJ ad) {w : Mem} {Q : Int32 → Mem → Prop} (h : wp_11_atGate a1 a2 a3 w Q) : Met l yX11_atGate (TBq yX11_atGate cX11_atGate 4 (some .int)) (RM 6) (va_Pc [.ref (ad 0), .int a1, .int a2, .int a3] (PB ad cy D (cmb w wm) wl0)) (va_Qi Q (BC ad cy D wm wl0) (AW ad)) 0 0 (AW ad) := M_enter (by decide) (Nat.le_of_ble_eq_true rfl) hinj (fun p e s m args below meth c X hr => v_11_atGate X hr h)
theorem mf_11_atGate : MFV yX11_atGate cX11_atGate 4 (some .int) yX11_atGate.cls 3 := ⟨q_1078, q_1076, q_1077, q_1, by decide⟩
theorem K_11_atGate {own : String} {idx : Nat} {a1 : Int32} {a2 : Int32} {a3 : Int32} (X : CXq p s m args meth c cc nL own ad cy D A H0) (hL : LK own idx yX11_atGate) {w : Mem} {Q : Int32 → Mem → Prop} (h : wp_11_atGate a1 a2 a3 w Q) (hR : (RM 6).frames + 1 ≤ R.frames ∧ 8 + (4 + 11) + (RM 6).locals ≤ R.locals) (hce : ce ≤ R.cells ∧ sl ≤ R.slots) (hcat : (st1.map fun v => v.category).sum ≤ 8) (hd : decode cc pc = .ok (.invokevirtual idx, 3)) (kk : ∀ (r : Int32) (u : Mem), Q r u → V p l e R s m args below meth c nL ad cy D A H0 ce sl Qs u wm wl0 (pc + 3) ls (.int r :: st1)) : V p l e R s m args below meth c nL ad cy D A H0 ce sl Qs w wm wl0 pc ls (.int a3 :: .int a2 :: .int a1 :: .ref (ad 0) :: st1) := V_callVI_c X mf_11_atGate hL (rfl : vwCl[11]? = some (RX11, TX11, 13)) (by decide) (rfl : SK 0 = 11) (Nat.lt_of_lt_of_le (by decide : 0 < 150) (CX_nn X)) (c_11_atGate X.2.2.2.2.2.2.2.1 h) (As := [.int a1, .int a2, .int a3]) rfl ⟨rfl, rfl⟩ hR hce st1 rfl hcat hd kk
set_option maxRecDepth 20000 in
theorem v_11_lead {a1 : Int32} (X : CXq p s m args meth c cX11_lead 2 yX11_lead.cls ad cy D (AW ad) s.heap) (hr : meth.sig.returnType = (some .int)) {w : Mem} {Q : Int32 → Mem → Prop} (h : wp_11_lead a1 w Q) : V p l e (RM 3) s m args below meth c 2 ad cy D (AW ad) s.heap 0 0 (MQ below (va_Qi Q (BC ad cy D wm wl0) (AW ad)) args s 0 0 (AW ad)) w wm wl0 0 [(0, .ref (ad 0)), (1, .int a1)] [] := by
  unfold wp_11_lead at h
  refine V_aload_n X (i := 0) 0 dX11_lead_0 rfl rfl ?_
  refine V_iload_n X (i := 1) 1 dX11_lead_1 rfl rfl ?_
  refine K_11_isMan X (Or.inl q_855) h ⟨Nat.le_of_ble_eq_true rfl, Nat.le_of_ble_eq_true rfl⟩ ⟨Nat.zero_le _, Nat.zero_le _⟩ (st1 := []) (Nat.le_of_ble_eq_true rfl) dX11_lead_2 (fun r2 w1 h => ?_)
  obtain ⟨ht, hf⟩ := h
  refine V_if_eq X (tgt := 29) dX11_lead_5 (by decide) (fun c => ?_) (fun c => ?_)
  · have h := ht c
    refine V_sipush X (v := (-10000 : Int32)) dX11_lead_29 (by decide) ?_
    exact V_iret_c X hr dX11_lead_32 h
  · have h := hf c
    refine V_aload_n X (i := 0) 0 dX11_lead_8 rfl rfl ?_
    refine G_11_56 X dX11_lead_9 ?_
    refine G_11_170 X (inst_Play_89).1 (inst_Play_89).2.1 (Play_r2 inst_Play_89) dX11_lead_12 ?_
    refine V_iload_n X (i := 1) 1 dX11_lead_15 rfl rfl ?_
    obtain ⟨g3, h⟩ := h
    refine V_iald_c X (rfl : SLq 91 = 8) (by decide) (rfl : SK 91 = 14) g3 dX11_lead_16 ?_
    refine V_aload_n X (i := 0) 0 dX11_lead_17 rfl rfl ?_
    refine G_11_56 X dX11_lead_18 ?_
    refine V_iload_n X (i := 1) 1 dX11_lead_21 rfl rfl ?_
    refine K_5_mostOfOthers X (Or.inl q_1083) inst_Play_89 h ⟨Nat.le_of_ble_eq_true rfl, Nat.le_of_ble_eq_true rfl⟩ ⟨Nat.zero_le _, Nat.zero_le _⟩ (st1 := [.int (w1 91 (ix a1))]) (Nat.le_of_ble_eq_true rfl) dX11_lead_22 (fun r5 w4 h => ?_)
    refine V_isub X dX11_lead_25 ?_
    refine V_goto X (tgt := 32) dX11_lead_26 (by decide) ?_
    exact V_iret_c X hr dX11_lead_32 h
theorem c_11_lead {a1 : Int32} (hinj : INJ ad) {w : Mem} {Q : Int32 → Mem → Prop} (h : wp_11_lead a1 w Q) : Met l yX11_lead (TBq yX11_lead cX11_lead 2 (some .int)) (RM 3) (va_Pc [.ref (ad 0), .int a1] (PB ad cy D (cmb w wm) wl0)) (va_Qi Q (BC ad cy D wm wl0) (AW ad)) 0 0 (AW ad) := M_enter (by decide) (Nat.le_of_ble_eq_true rfl) hinj (fun p e s m args below meth c X hr => v_11_lead X hr h)
theorem mf_11_lead : MFV yX11_lead cX11_lead 2 (some .int) yX11_lead.cls 1 := ⟨q_1082, q_1080, q_1081, q_1, by decide⟩
theorem K_11_lead {own : String} {idx : Nat} {a1 : Int32} (X : CXq p s m args meth c cc nL own ad cy D A H0) (hL : LK own idx yX11_lead) {w : Mem} {Q : Int32 → Mem → Prop} (h : wp_11_lead a1 w Q) (hR : (RM 3).frames + 1 ≤ R.frames ∧ 8 + (2 + 11) + (RM 3).locals ≤ R.locals) (hce : ce ≤ R.cells ∧ sl ≤ R.slots) (hcat : (st1.map fun v => v.category).sum ≤ 8) (hd : decode cc pc = .ok (.invokevirtual idx, 3)) (kk : ∀ (r : Int32) (u : Mem), Q r u → V p l e R s m args below meth c nL ad cy D A H0 ce sl Qs u wm wl0 (pc + 3) ls (.int r :: st1)) : V p l e R s m args below meth c nL ad cy D A H0 ce sl Qs w wm wl0 pc ls (.int a1 :: .ref (ad 0) :: st1) := V_callVI_c X mf_11_lead hL (rfl : vwCl[11]? = some (RX11, TX11, 13)) (by decide) (rfl : SK 0 = 11) (Nat.lt_of_lt_of_le (by decide : 0 < 150) (CX_nn X)) (c_11_lead X.2.2.2.2.2.2.2.1 h) (As := [.int a1]) rfl ⟨rfl, rfl⟩ hR hce st1 rfl hcat hd kk
set_option maxRecDepth 20000 in
theorem v_11_reversed {a1 : Int32} (X : CXq p s m args meth c cX11_reversed 2 yX11_reversed.cls ad cy D (AW ad) s.heap) (hr : meth.sig.returnType = (some .int)) {w : Mem} {Q : Int32 → Mem → Prop} (h : wp_11_reversed a1 w Q) : V p l e (RM 7) s m args below meth c 2 ad cy D (AW ad) s.heap 0 0 (MQ below (va_Qi Q (BC ad cy D wm wl0) (AW ad)) args s 0 0 (AW ad)) w wm wl0 0 [(0, .ref (ad 0)), (1, .int a1)] [] := by
  unfold wp_11_reversed at h
  refine V_aload_n X (i := 0) 0 dX11_reversed_0 rfl rfl ?_
  refine V_iload_n X (i := 1) 1 dX11_reversed_1 rfl rfl ?_
  refine K_11_isMan X (Or.inl q_855) h ⟨Nat.le_of_ble_eq_true rfl, Nat.le_of_ble_eq_true rfl⟩ ⟨Nat.zero_le _, Nat.zero_le _⟩ (st1 := []) (Nat.le_of_ble_eq_true rfl) dX11_reversed_2 (fun r2 w1 h => ?_)
  obtain ⟨ht, hf⟩ := h
  refine V_if_ne X (tgt := 10) dX11_reversed_5 (by decide) (fun c => ?_) (fun c => ?_)
  · have h := ht c
    refine V_aload_n X (i := 0) 0 dX11_reversed_10 rfl rfl ?_
    refine G_11_60 X dX11_reversed_11 ?_
    refine K_5_begin X (Or.inl q_462) inst_Play_93 h ⟨Nat.le_of_ble_eq_true rfl, Nat.le_of_ble_eq_true rfl⟩ ⟨Nat.zero_le _, Nat.zero_le _⟩ (st1 := []) (Nat.le_of_ble_eq_true rfl) dX11_reversed_14 (fun w3 h => ?_)
    refine V_aload_n X (i := 0) 0 dX11_reversed_17 rfl rfl ?_
    refine G_11_60 X dX11_reversed_18 ?_
    refine K_5_turnOrder X (Or.inl q_1091) inst_Play_93 h ⟨Nat.le_of_ble_eq_true rfl, Nat.le_of_ble_eq_true rfl⟩ ⟨Nat.zero_le _, Nat.zero_le _⟩ (st1 := []) (Nat.le_of_ble_eq_true rfl) dX11_reversed_21 (fun w4 h => ?_)
    refine V_aload_n X (i := 0) 0 dX11_reversed_24 rfl rfl ?_
    refine V_aload_n X (i := 0) 0 dX11_reversed_25 rfl rfl ?_
    refine G_11_60 X dX11_reversed_26 ?_
    refine V_bipush X (v := (16 : Int32)) dX11_reversed_29 (by decide) ?_
    refine K_11_startByGoes X (Or.inl q_895) inst_Play_93 h ⟨Nat.le_of_ble_eq_true rfl, Nat.le_of_ble_eq_true rfl⟩ ⟨Nat.zero_le _, Nat.zero_le _⟩ (st1 := []) (Nat.le_of_ble_eq_true rfl) dX11_reversed_31 (fun r6 w5 h => ?_)
    refine V_pop X dX11_reversed_34 rfl ?_
    refine V_aload_n X (i := 0) 0 dX11_reversed_35 rfl rfl ?_
    refine G_11_60 X dX11_reversed_36 ?_
    refine V_iload_n X (i := 1) 1 dX11_reversed_39 rfl rfl ?_
    refine K_5_rankOf X (Or.inl q_863) inst_Play_93 h ⟨Nat.le_of_ble_eq_true rfl, Nat.le_of_ble_eq_true rfl⟩ ⟨Nat.zero_le _, Nat.zero_le _⟩ (st1 := []) (Nat.le_of_ble_eq_true rfl) dX11_reversed_40 (fun r8 w7 h => ?_)
    exact V_iret_c X hr dX11_reversed_43 h
  · have h := hf c
    refine V_iconst X (v := (-1 : Int32)) dX11_reversed_8 (by decide) ?_
    exact V_iret_c X hr dX11_reversed_9 h
theorem c_11_reversed {a1 : Int32} (hinj : INJ ad) {w : Mem} {Q : Int32 → Mem → Prop} (h : wp_11_reversed a1 w Q) : Met l yX11_reversed (TBq yX11_reversed cX11_reversed 2 (some .int)) (RM 7) (va_Pc [.ref (ad 0), .int a1] (PB ad cy D (cmb w wm) wl0)) (va_Qi Q (BC ad cy D wm wl0) (AW ad)) 0 0 (AW ad) := M_enter (by decide) (Nat.le_of_ble_eq_true rfl) hinj (fun p e s m args below meth c X hr => v_11_reversed X hr h)
theorem mf_11_reversed : MFV yX11_reversed cX11_reversed 2 (some .int) yX11_reversed.cls 1 := ⟨q_1090, q_1088, q_1089, q_1, by decide⟩
theorem K_11_reversed {own : String} {idx : Nat} {a1 : Int32} (X : CXq p s m args meth c cc nL own ad cy D A H0) (hL : LK own idx yX11_reversed) {w : Mem} {Q : Int32 → Mem → Prop} (h : wp_11_reversed a1 w Q) (hR : (RM 7).frames + 1 ≤ R.frames ∧ 8 + (2 + 11) + (RM 7).locals ≤ R.locals) (hce : ce ≤ R.cells ∧ sl ≤ R.slots) (hcat : (st1.map fun v => v.category).sum ≤ 8) (hd : decode cc pc = .ok (.invokevirtual idx, 3)) (kk : ∀ (r : Int32) (u : Mem), Q r u → V p l e R s m args below meth c nL ad cy D A H0 ce sl Qs u wm wl0 (pc + 3) ls (.int r :: st1)) : V p l e R s m args below meth c nL ad cy D A H0 ce sl Qs w wm wl0 pc ls (.int a1 :: .ref (ad 0) :: st1) := V_callVI_c X mf_11_reversed hL (rfl : vwCl[11]? = some (RX11, TX11, 13)) (by decide) (rfl : SK 0 = 11) (Nat.lt_of_lt_of_le (by decide : 0 < 150) (CX_nn X)) (c_11_reversed X.2.2.2.2.2.2.2.1 h) (As := [.int a1]) rfl ⟨rfl, rfl⟩ hR hce st1 rfl hcat hd kk
set_option maxRecDepth 20000 in
theorem v_11_harsh_b81 (X : CXq p s m args meth c cX11_harsh 7 yX11_harsh.cls ad cy D (AW ad) s.heap) (hr : meth.sig.returnType = (some .int)) {Q : Int32 → Mem → Prop} {L21 : Int32 → Int32 → Int32 → Int32 → Int32 → Mem → Prop} (HL21 : ∀ (l1 : Int32) (l2 : Int32) (l3 : Int32) (l4 : Int32) (l5 : Int32) (w : Mem), L21 l1 l2 l3 l4 l5 w → V p l e (RM 4) s m args below meth c 7 ad cy D (AW ad) s.heap 0 0 (MQ below (va_Qi Q (BC ad cy D wm wl0) (AW ad)) args s 0 0 (AW ad)) w wm wl0 21 [(0, .ref (ad 0)), (1, .int l1), (2, .int l2), (3, .int l3), (4, .int l4), (5, .int l5)] []) : ∀ (l1 : Int32) (l2 : Int32) (l3 : Int32) (l4 : Int32) (l5 : Int32) (w : Mem), wp_11_harsh_b81 Q L21 l1 l2 l3 l4 l5 w → V p l e (RM 4) s m args below meth c 7 ad cy D (AW ad) s.heap 0 0 (MQ below (va_Qi Q (BC ad cy D wm wl0) (AW ad)) args s 0 0 (AW ad)) w wm wl0 81 [(0, .ref (ad 0)), (1, .int l1), (2, .int l2), (3, .int l3), (4, .int l4), (5, .int l5)] [] := by
  intro l1 l2 l3 l4 l5 w h
  unfold wp_11_harsh_b81 at h
  obtain ⟨x1, ex1⟩ : ∃ y : Int32, y = l5 + (1 : Int32) := ⟨_, rfl⟩
  have h := h x1 ex1
  refine V_iinc X 5 dX11_harsh_81 rfl (by decide) (by rw [ex1]; rfl) (ls1 := [(5, .int x1), (0, .ref (ad 0)), (1, .int l1), (2, .int l2), (3, .int l3), (4, .int l4)]) rfl ?_
  refine V_goto X (tgt := 21) dX11_harsh_84 (by decide) ?_
  refine V_sub X (ls1 := [(0, .ref (ad 0)), (1, .int l1), (2, .int l2), (3, .int l3), (4, .int l4), (5, .int x1)]) [1, 2, 3, 4, 5, 0] rfl ?_
  exact HL21 _ _ _ _ _ _ h
set_option maxRecDepth 20000 in
theorem v_11_harsh_b74 (X : CXq p s m args meth c cX11_harsh 7 yX11_harsh.cls ad cy D (AW ad) s.heap) (hr : meth.sig.returnType = (some .int)) {Q : Int32 → Mem → Prop} {L21 : Int32 → Int32 → Int32 → Int32 → Int32 → Mem → Prop} (HL21 : ∀ (l1 : Int32) (l2 : Int32) (l3 : Int32) (l4 : Int32) (l5 : Int32) (w : Mem), L21 l1 l2 l3 l4 l5 w → V p l e (RM 4) s m args below meth c 7 ad cy D (AW ad) s.heap 0 0 (MQ below (va_Qi Q (BC ad cy D wm wl0) (AW ad)) args s 0 0 (AW ad)) w wm wl0 21 [(0, .ref (ad 0)), (1, .int l1), (2, .int l2), (3, .int l3), (4, .int l4), (5, .int l5)] []) : ∀ (l1 : Int32) (l2 : Int32) (l5 : Int32) (l6 : Int32) (w : Mem), wp_11_harsh_b74 Q L21 l1 l2 l5 l6 w → V p l e (RM 4) s m args below meth c 7 ad cy D (AW ad) s.heap 0 0 (MQ below (va_Qi Q (BC ad cy D wm wl0) (AW ad)) args s 0 0 (AW ad)) w wm wl0 74 [(0, .ref (ad 0)), (1, .int l1), (2, .int l2), (5, .int l5), (6, .int l6)] [] := by
  intro l1 l2 l5 l6 w h
  unfold wp_11_harsh_b74 at h
  refine V_iload X (i := 5) 3 dX11_harsh_74 rfl ?_
  refine V_istore_n X dX11_harsh_76 rfl (by decide) rfl (ls1 := [(3, .int l5), (0, .ref (ad 0)), (1, .int l1), (2, .int l2), (5, .int l5), (6, .int l6)]) rfl ?_
  refine V_iload X (i := 6) 5 dX11_harsh_77 rfl ?_
  refine V_istore X dX11_harsh_79 (by decide) rfl (ls1 := [(4, .int l6), (3, .int l5), (0, .ref (ad 0)), (1, .int l1), (2, .int l2), (5, .int l5), (6, .int l6)]) rfl ?_
  refine V_sub X (ls1 := [(0, .ref (ad 0)), (1, .int l1), (2, .int l2), (3, .int l5), (4, .int l6), (5, .int l5)]) [2, 3, 4, 1, 0, 5] rfl ?_
  exact v_11_harsh_b81 X hr HL21 _ _ _ _ _ _ h
set_option maxRecDepth 20000 in
theorem v_11_harsh_b21 (X : CXq p s m args meth c cX11_harsh 7 yX11_harsh.cls ad cy D (AW ad) s.heap) (hr : meth.sig.returnType = (some .int)) {Q : Int32 → Mem → Prop} : ∀ (n : Nat) (l1 : Int32) (l2 : Int32) (l3 : Int32) (l4 : Int32) (l5 : Int32) (w : Mem), wp_11_harsh_b21 Q n l1 l2 l3 l4 l5 w → V p l e (RM 4) s m args below meth c 7 ad cy D (AW ad) s.heap 0 0 (MQ below (va_Qi Q (BC ad cy D wm wl0) (AW ad)) args s 0 0 (AW ad)) w wm wl0 21 [(0, .ref (ad 0)), (1, .int l1), (2, .int l2), (3, .int l3), (4, .int l4), (5, .int l5)] [] := by
  intro n
  induction n with
  | zero =>
    intro l1 l2 l3 l4 l5 w h
    exact h.elim
  | succ n ih =>
    intro l1 l2 l3 l4 l5 w h
    unfold wp_11_harsh_b21 at h
    refine V_iload X (i := 5) 5 dX11_harsh_21 rfl ?_
    refine V_aload_n X (i := 0) 0 dX11_harsh_23 rfl rfl ?_
    refine G_11_41 X dX11_harsh_24 ?_
    refine G_11_216 X (inst_Text_48).1 (inst_Text_48).2.1 (Text_r6 inst_Text_48) dX11_harsh_27 ?_
    refine G_11_299 X (inst_People_80).1 (inst_People_80).2.1 (People_r7 inst_People_80) dX11_harsh_30 ?_
    obtain ⟨ht, hf⟩ := h
    refine V_icmp_ge X (tgt := 87) dX11_harsh_33 (by decide) (fun c => ?_) (fun c => ?_)
    · have h := ht c
      refine V_iload_n X (i := 2) 2 dX11_harsh_87 rfl rfl ?_
      obtain ⟨ht, hf⟩ := h
      refine V_if_ne X (tgt := 95) dX11_harsh_88 (by decide) (fun c => ?_) (fun c => ?_)
      · have h := ht c
        refine V_iload X (i := 4) 4 dX11_harsh_95 rfl ?_
        exact V_iret_c X hr dX11_harsh_97 h
      · have h := hf c
        refine V_iload_n X (i := 3) 3 dX11_harsh_91 rfl rfl ?_
        refine V_goto X (tgt := 97) dX11_harsh_92 (by decide) ?_
        exact V_iret_c X hr dX11_harsh_97 h
    · have h := hf c
      refine V_aload_n X (i := 0) 0 dX11_harsh_36 rfl rfl ?_
      refine G_11_56 X dX11_harsh_37 ?_
      refine V_iload X (i := 5) 5 dX11_harsh_40 rfl ?_
      refine K_5_givenBy X (Or.inl q_1099) inst_Play_89 h ⟨Nat.le_of_ble_eq_true rfl, Nat.le_of_ble_eq_true rfl⟩ ⟨Nat.zero_le _, Nat.zero_le _⟩ (st1 := []) (Nat.le_of_ble_eq_true rfl) dX11_harsh_42 (fun r2 w1 h => ?_)
      refine V_istore X dX11_harsh_45 (by decide) rfl (ls1 := [(6, .int r2), (0, .ref (ad 0)), (1, .int l1), (2, .int l2), (3, .int l3), (4, .int l4), (5, .int l5)]) rfl ?_
      refine V_iload_n X (i := 3) 4 dX11_harsh_47 rfl rfl ?_
      refine V_bipush X (v := (-2 : Int32)) dX11_harsh_48 (by decide) ?_
      obtain ⟨ht, hf⟩ := h
      refine V_icmp_eq X (tgt := 74) dX11_harsh_50 (by decide) (fun c => ?_) (fun c => ?_)
      · have h := ht c
        refine V_sub X (ls1 := [(0, .ref (ad 0)), (1, .int l1), (2, .int l2), (5, .int l5), (6, .int r2)]) [1, 2, 3, 6, 0] rfl ?_
        exact v_11_harsh_b74 X hr ih _ _ _ _ _ h
      · have h := hf c
        refine V_iload_n X (i := 1) 2 dX11_harsh_53 rfl rfl ?_
        obtain ⟨ht, hf⟩ := h
        refine V_if_eq X (tgt := 67) dX11_harsh_54 (by decide) (fun c => ?_) (fun c => ?_)
        · have h := ht c
          refine V_iload X (i := 6) 0 dX11_harsh_67 rfl ?_
          refine V_iload X (i := 4) 5 dX11_harsh_69 rfl ?_
          obtain ⟨ht, hf⟩ := h
          refine V_icmp_ge X (tgt := 81) dX11_harsh_71 (by decide) (fun c => ?_) (fun c => ?_)
          · have h := ht c
            refine V_sub X (ls1 := [(0, .ref (ad 0)), (1, .int l1), (2, .int l2), (3, .int l3), (4, .int l4), (5, .int l5)]) [1, 2, 3, 4, 5, 6] rfl ?_
            exact v_11_harsh_b81 X hr ih _ _ _ _ _ _ h
          · have h := hf c
            refine V_sub X (ls1 := [(0, .ref (ad 0)), (1, .int l1), (2, .int l2), (5, .int l5), (6, .int r2)]) [1, 2, 3, 6, 0] rfl ?_
            exact v_11_harsh_b74 X hr ih _ _ _ _ _ h
        · have h := hf c
          refine V_iload X (i := 6) 0 dX11_harsh_57 rfl ?_
          refine V_iload X (i := 4) 5 dX11_harsh_59 rfl ?_
          obtain ⟨ht, hf⟩ := h
          refine V_icmp_le X (tgt := 81) dX11_harsh_61 (by decide) (fun c => ?_) (fun c => ?_)
          · have h := ht c
            refine V_sub X (ls1 := [(0, .ref (ad 0)), (1, .int l1), (2, .int l2), (3, .int l3), (4, .int l4), (5, .int l5)]) [1, 2, 3, 4, 5, 6] rfl ?_
            exact v_11_harsh_b81 X hr ih _ _ _ _ _ _ h
          · have h := hf c
            refine V_goto X (tgt := 74) dX11_harsh_64 (by decide) ?_
            refine V_sub X (ls1 := [(0, .ref (ad 0)), (1, .int l1), (2, .int l2), (5, .int l5), (6, .int r2)]) [1, 2, 3, 6, 0] rfl ?_
            exact v_11_harsh_b74 X hr ih _ _ _ _ _ h
set_option maxRecDepth 20000 in
theorem v_11_harsh {a1 : Int32} {a2 : Int32} (X : CXq p s m args meth c cX11_harsh 7 yX11_harsh.cls ad cy D (AW ad) s.heap) (hr : meth.sig.returnType = (some .int)) {w : Mem} {Q : Int32 → Mem → Prop} (h : wp_11_harsh a1 a2 w Q) : V p l e (RM 4) s m args below meth c 7 ad cy D (AW ad) s.heap 0 0 (MQ below (va_Qi Q (BC ad cy D wm wl0) (AW ad)) args s 0 0 (AW ad)) w wm wl0 0 [(0, .ref (ad 0)), (1, .int a1), (2, .int a2)] [] := by
  unfold wp_11_harsh at h
  refine V_iload_n X (i := 2) 2 dX11_harsh_0 rfl rfl ?_
  refine V_iconst X (v := (0 : Int32)) dX11_harsh_1 (by decide) ?_
  refine V_iconst X (v := (1 : Int32)) dX11_harsh_2 (by decide) ?_
  refine K_11_within X (Or.inl q_532) h ⟨Nat.le_of_ble_eq_true rfl, Nat.le_of_ble_eq_true rfl⟩ ⟨Nat.zero_le _, Nat.zero_le _⟩ (st1 := []) (Nat.le_of_ble_eq_true rfl) dX11_harsh_3 (fun r2 w1 h => ?_)
  obtain ⟨ht, hf⟩ := h
  refine V_if_ne X (tgt := 11) dX11_harsh_6 (by decide) (fun c => ?_) (fun c => ?_)
  · have h := ht c
    refine V_bipush X (v := (-2 : Int32)) dX11_harsh_11 (by decide) ?_
    refine V_istore_n X dX11_harsh_13 rfl (by decide) rfl (ls1 := [(3, .int (-2 : Int32)), (0, .ref (ad 0)), (1, .int a1), (2, .int a2)]) rfl ?_
    refine V_bipush X (v := (-2 : Int32)) dX11_harsh_14 (by decide) ?_
    refine V_istore X dX11_harsh_16 (by decide) rfl (ls1 := [(4, .int (-2 : Int32)), (3, .int (-2 : Int32)), (0, .ref (ad 0)), (1, .int a1), (2, .int a2)]) rfl ?_
    refine V_iconst X (v := (0 : Int32)) dX11_harsh_18 (by decide) ?_
    refine V_istore X dX11_harsh_19 (by decide) rfl (ls1 := [(5, .int (0 : Int32)), (4, .int (-2 : Int32)), (3, .int (-2 : Int32)), (0, .ref (ad 0)), (1, .int a1), (2, .int a2)]) rfl ?_
    refine V_sub X (ls1 := [(0, .ref (ad 0)), (1, .int a1), (2, .int a2), (3, .int (-2 : Int32)), (4, .int (-2 : Int32)), (5, .int (0 : Int32))]) [3, 4, 5, 2, 1, 0] rfl ?_
    obtain ⟨nn, h⟩ := h
    exact v_11_harsh_b21 X hr nn _ _ _ _ _ _ h
  · have h := hf c
    refine V_iconst X (v := (-1 : Int32)) dX11_harsh_9 (by decide) ?_
    exact V_iret_c X hr dX11_harsh_10 h
theorem c_11_harsh {a1 : Int32} {a2 : Int32} (hinj : INJ ad) {w : Mem} {Q : Int32 → Mem → Prop} (h : wp_11_harsh a1 a2 w Q) : Met l yX11_harsh (TBq yX11_harsh cX11_harsh 7 (some .int)) (RM 4) (va_Pc [.ref (ad 0), .int a1, .int a2] (PB ad cy D (cmb w wm) wl0)) (va_Qi Q (BC ad cy D wm wl0) (AW ad)) 0 0 (AW ad) := M_enter (by decide) (Nat.le_of_ble_eq_true rfl) hinj (fun p e s m args below meth c X hr => v_11_harsh X hr h)
theorem mf_11_harsh : MFV yX11_harsh cX11_harsh 7 (some .int) yX11_harsh.cls 2 := ⟨q_1098, q_1096, q_1097, q_1, by decide⟩
theorem K_11_harsh {own : String} {idx : Nat} {a1 : Int32} {a2 : Int32} (X : CXq p s m args meth c cc nL own ad cy D A H0) (hL : LK own idx yX11_harsh) {w : Mem} {Q : Int32 → Mem → Prop} (h : wp_11_harsh a1 a2 w Q) (hR : (RM 4).frames + 1 ≤ R.frames ∧ 8 + (7 + 11) + (RM 4).locals ≤ R.locals) (hce : ce ≤ R.cells ∧ sl ≤ R.slots) (hcat : (st1.map fun v => v.category).sum ≤ 8) (hd : decode cc pc = .ok (.invokevirtual idx, 3)) (kk : ∀ (r : Int32) (u : Mem), Q r u → V p l e R s m args below meth c nL ad cy D A H0 ce sl Qs u wm wl0 (pc + 3) ls (.int r :: st1)) : V p l e R s m args below meth c nL ad cy D A H0 ce sl Qs w wm wl0 pc ls (.int a2 :: .int a1 :: .ref (ad 0) :: st1) := V_callVI_c X mf_11_harsh hL (rfl : vwCl[11]? = some (RX11, TX11, 13)) (by decide) (rfl : SK 0 = 11) (Nat.lt_of_lt_of_le (by decide : 0 < 150) (CX_nn X)) (c_11_harsh X.2.2.2.2.2.2.2.1 h) (As := [.int a1, .int a2]) rfl ⟨rfl, rfl⟩ hR hce st1 rfl hcat hd kk
set_option maxRecDepth 20000 in
theorem v_11_calm_b105 (X : CXq p s m args meth c cX11_calm 6 yX11_calm.cls ad cy D (AW ad) s.heap) (hr : meth.sig.returnType = (some .int)) {Q : Int32 → Mem → Prop} {L52 : Int32 → Int32 → Int32 → Int32 → Int32 → Mem → Prop} (HL52 : ∀ (l1 : Int32) (l2 : Int32) (l3 : Int32) (l4 : Int32) (l5 : Int32) (w : Mem), L52 l1 l2 l3 l4 l5 w → V p l e (RM 5) s m args below meth c 6 ad cy D (AW ad) s.heap 0 0 (MQ below (va_Qi Q (BC ad cy D wm wl0) (AW ad)) args s 0 0 (AW ad)) w wm wl0 52 [(0, .ref (ad 0)), (1, .int l1), (2, .int l2), (3, .int l3), (4, .int l4), (5, .int l5)] []) : ∀ (l1 : Int32) (l2 : Int32) (l3 : Int32) (l4 : Int32) (l5 : Int32) (w : Mem), wp_11_calm_b105 Q L52 l1 l2 l3 l4 l5 w → V p l e (RM 5) s m args below meth c 6 ad cy D (AW ad) s.heap 0 0 (MQ below (va_Qi Q (BC ad cy D wm wl0) (AW ad)) args s 0 0 (AW ad)) w wm wl0 105 [(0, .ref (ad 0)), (1, .int l1), (2, .int l2), (3, .int l3), (4, .int l4), (5, .int l5)] [] := by
  intro l1 l2 l3 l4 l5 w h
  unfold wp_11_calm_b105 at h
  obtain ⟨x1, ex1⟩ : ∃ y : Int32, y = l5 + (1 : Int32) := ⟨_, rfl⟩
  have h := h x1 ex1
  refine V_iinc X 5 dX11_calm_105 rfl (by decide) (by rw [ex1]; rfl) (ls1 := [(5, .int x1), (0, .ref (ad 0)), (1, .int l1), (2, .int l2), (3, .int l3), (4, .int l4)]) rfl ?_
  refine V_goto X (tgt := 52) dX11_calm_108 (by decide) ?_
  refine V_sub X (ls1 := [(0, .ref (ad 0)), (1, .int l1), (2, .int l2), (3, .int l3), (4, .int l4), (5, .int x1)]) [1, 2, 3, 4, 5, 0] rfl ?_
  exact HL52 _ _ _ _ _ _ h
set_option maxRecDepth 20000 in
theorem v_11_calm_b52 (X : CXq p s m args meth c cX11_calm 6 yX11_calm.cls ad cy D (AW ad) s.heap) (hr : meth.sig.returnType = (some .int)) {Q : Int32 → Mem → Prop} : ∀ (n : Nat) (l1 : Int32) (l2 : Int32) (l3 : Int32) (l4 : Int32) (l5 : Int32) (w : Mem), wp_11_calm_b52 Q n l1 l2 l3 l4 l5 w → V p l e (RM 5) s m args below meth c 6 ad cy D (AW ad) s.heap 0 0 (MQ below (va_Qi Q (BC ad cy D wm wl0) (AW ad)) args s 0 0 (AW ad)) w wm wl0 52 [(0, .ref (ad 0)), (1, .int l1), (2, .int l2), (3, .int l3), (4, .int l4), (5, .int l5)] [] := by
  intro n
  induction n with
  | zero =>
    intro l1 l2 l3 l4 l5 w h
    exact h.elim
  | succ n ih =>
    intro l1 l2 l3 l4 l5 w h
    unfold wp_11_calm_b52 at h
    refine V_iload X (i := 5) 5 dX11_calm_52 rfl ?_
    refine V_iload_n X (i := 1) 1 dX11_calm_54 rfl rfl ?_
    obtain ⟨ht, hf⟩ := h
    refine V_icmp_gt X (tgt := 111) dX11_calm_55 (by decide) (fun c => ?_) (fun c => ?_)
    · have h := ht c
      refine V_iload_n X (i := 2) 2 dX11_calm_111 rfl rfl ?_
      obtain ⟨ht, hf⟩ := h
      refine V_if_ne X (tgt := 119) dX11_calm_112 (by decide) (fun c => ?_) (fun c => ?_)
      · have h := ht c
        refine V_iload X (i := 4) 4 dX11_calm_119 rfl ?_
        exact V_iret_c X hr dX11_calm_121 h
      · have h := hf c
        refine V_iload_n X (i := 3) 3 dX11_calm_115 rfl rfl ?_
        refine V_goto X (tgt := 121) dX11_calm_116 (by decide) ?_
        exact V_iret_c X hr dX11_calm_121 h
    · have h := hf c
      refine V_aload_n X (i := 0) 0 dX11_calm_58 rfl rfl ?_
      refine G_11_49 X dX11_calm_59 ?_
      refine V_aload_n X (i := 0) 0 dX11_calm_62 rfl rfl ?_
      refine G_11_56 X dX11_calm_63 ?_
      refine G_11_126 X (inst_Play_89).1 (inst_Play_89).2.1 (Play_r4 inst_Play_89) dX11_calm_66 ?_
      refine V_iload X (i := 5) 5 dX11_calm_69 rfl ?_
      refine V_iadd X dX11_calm_71 ?_
      refine K_0_blow X (Or.inl q_783) h ⟨Nat.le_of_ble_eq_true rfl, Nat.le_of_ble_eq_true rfl⟩ ⟨Nat.zero_le _, Nat.zero_le _⟩ (st1 := []) (Nat.le_of_ble_eq_true rfl) dX11_calm_72 (fun w1 h => ?_)
      refine V_aload_n X (i := 0) 0 dX11_calm_75 rfl rfl ?_
      refine G_11_49 X dX11_calm_76 ?_
      refine G_11_145 X dX11_calm_79 ?_
      refine V_mabs X dX11_calm_82 q_1108 q_1109 q_19 q_1110 (Nat.le_of_ble_eq_true rfl) (Nat.le_of_ble_eq_true rfl) (Nat.zero_le _) (Nat.zero_le _) ?_
      refine V_iload X (i := 4) 4 dX11_calm_85 rfl ?_
      refine V_mabs X dX11_calm_87 q_1108 q_1109 q_19 q_1110 (Nat.le_of_ble_eq_true rfl) (Nat.le_of_ble_eq_true rfl) (Nat.zero_le _) (Nat.zero_le _) ?_
      obtain ⟨ht, hf⟩ := h
      refine V_icmp_ge X (tgt := 105) dX11_calm_90 (by decide) (fun c => ?_) (fun c => ?_)
      · have h := ht c
        refine V_sub X (ls1 := [(0, .ref (ad 0)), (1, .int l1), (2, .int l2), (3, .int l3), (4, .int l4), (5, .int l5)]) [0, 1, 2, 3, 4, 5] rfl ?_
        exact v_11_calm_b105 X hr ih _ _ _ _ _ _ h
      · have h := hf c
        refine V_aload_n X (i := 0) 0 dX11_calm_93 rfl rfl ?_
        refine G_11_49 X dX11_calm_94 ?_
        refine G_11_145 X dX11_calm_97 ?_
        obtain ⟨x2, ex2⟩ : ∃ y : Int32, y = (w1 87 4) := ⟨_, rfl⟩
        have h := h x2 ex2
        refine V_istore X dX11_calm_100 (by decide) ex2 (ls1 := [(4, .int x2), (0, .ref (ad 0)), (1, .int l1), (2, .int l2), (3, .int l3), (5, .int l5)]) rfl ?_
        refine V_iload X (i := 5) 5 dX11_calm_102 rfl ?_
        refine V_istore_n X dX11_calm_104 rfl (by decide) rfl (ls1 := [(3, .int l5), (4, .int x2), (0, .ref (ad 0)), (1, .int l1), (2, .int l2), (5, .int l5)]) rfl ?_
        refine V_sub X (ls1 := [(0, .ref (ad 0)), (1, .int l1), (2, .int l2), (3, .int l5), (4, .int x2), (5, .int l5)]) [2, 3, 4, 0, 1, 5] rfl ?_
        exact v_11_calm_b105 X hr ih _ _ _ _ _ _ h
set_option maxRecDepth 20000 in
theorem v_11_calm {a1 : Int32} {a2 : Int32} (X : CXq p s m args meth c cX11_calm 6 yX11_calm.cls ad cy D (AW ad) s.heap) (hr : meth.sig.returnType = (some .int)) {w : Mem} {Q : Int32 → Mem → Prop} (h : wp_11_calm a1 a2 w Q) : V p l e (RM 5) s m args below meth c 6 ad cy D (AW ad) s.heap 0 0 (MQ below (va_Qi Q (BC ad cy D wm wl0) (AW ad)) args s 0 0 (AW ad)) w wm wl0 0 [(0, .ref (ad 0)), (1, .int a1), (2, .int a2)] [] := by
  unfold wp_11_calm at h
  refine V_iload_n X (i := 1) 1 dX11_calm_0 rfl rfl ?_
  refine V_iconst X (v := (0 : Int32)) dX11_calm_1 (by decide) ?_
  refine V_sipush X (v := (999 : Int32)) dX11_calm_2 (by decide) ?_
  refine K_11_within X (Or.inl q_532) h ⟨Nat.le_of_ble_eq_true rfl, Nat.le_of_ble_eq_true rfl⟩ ⟨Nat.zero_le _, Nat.zero_le _⟩ (st1 := []) (Nat.le_of_ble_eq_true rfl) dX11_calm_5 (fun r2 w1 h => ?_)
  obtain ⟨ht, hf⟩ := h
  refine V_if_eq X (tgt := 20) dX11_calm_8 (by decide) (fun c => ?_) (fun c => ?_)
  · have h := ht c
    refine V_sipush X (v := (-10000 : Int32)) dX11_calm_20 (by decide) ?_
    exact V_iret_c X hr dX11_calm_23 h
  · have h := hf c
    refine V_iload_n X (i := 2) 2 dX11_calm_11 rfl rfl ?_
    refine V_iconst X (v := (0 : Int32)) dX11_calm_12 (by decide) ?_
    refine V_iconst X (v := (1 : Int32)) dX11_calm_13 (by decide) ?_
    refine K_11_within X (Or.inl q_532) h ⟨Nat.le_of_ble_eq_true rfl, Nat.le_of_ble_eq_true rfl⟩ ⟨Nat.zero_le _, Nat.zero_le _⟩ (st1 := []) (Nat.le_of_ble_eq_true rfl) dX11_calm_14 (fun r4 w3 h => ?_)
    obtain ⟨ht, hf⟩ := h
    refine V_if_ne X (tgt := 24) dX11_calm_17 (by decide) (fun c => ?_) (fun c => ?_)
    · have h := ht c
      refine V_aload_n X (i := 0) 0 dX11_calm_24 rfl rfl ?_
      refine G_11_49 X dX11_calm_25 ?_
      refine V_aload_n X (i := 0) 0 dX11_calm_28 rfl rfl ?_
      refine G_11_56 X dX11_calm_29 ?_
      refine G_11_126 X (inst_Play_89).1 (inst_Play_89).2.1 (Play_r4 inst_Play_89) dX11_calm_32 ?_
      refine K_0_blow X (Or.inl q_783) h ⟨Nat.le_of_ble_eq_true rfl, Nat.le_of_ble_eq_true rfl⟩ ⟨Nat.zero_le _, Nat.zero_le _⟩ (st1 := []) (Nat.le_of_ble_eq_true rfl) dX11_calm_35 (fun w5 h => ?_)
      refine V_iconst X (v := (0 : Int32)) dX11_calm_38 (by decide) ?_
      refine V_istore_n X dX11_calm_39 rfl (by decide) rfl (ls1 := [(3, .int (0 : Int32)), (0, .ref (ad 0)), (1, .int a1), (2, .int a2)]) rfl ?_
      refine V_aload_n X (i := 0) 1 dX11_calm_40 rfl rfl ?_
      refine G_11_49 X dX11_calm_41 ?_
      refine G_11_145 X dX11_calm_44 ?_
      obtain ⟨x6, ex6⟩ : ∃ y : Int32, y = (w5 87 4) := ⟨_, rfl⟩
      have h := h x6 ex6
      refine V_istore X dX11_calm_47 (by decide) ex6 (ls1 := [(4, .int x6), (3, .int (0 : Int32)), (0, .ref (ad 0)), (1, .int a1), (2, .int a2)]) rfl ?_
      refine V_iconst X (v := (1 : Int32)) dX11_calm_49 (by decide) ?_
      refine V_istore X dX11_calm_50 (by decide) rfl (ls1 := [(5, .int (1 : Int32)), (4, .int x6), (3, .int (0 : Int32)), (0, .ref (ad 0)), (1, .int a1), (2, .int a2)]) rfl ?_
      refine V_sub X (ls1 := [(0, .ref (ad 0)), (1, .int a1), (2, .int a2), (3, .int (0 : Int32)), (4, .int x6), (5, .int (1 : Int32))]) [3, 4, 5, 2, 1, 0] rfl ?_
      obtain ⟨nn, h⟩ := h
      exact v_11_calm_b52 X hr nn _ _ _ _ _ _ h
    · have h := hf c
      refine V_sipush X (v := (-10000 : Int32)) dX11_calm_20 (by decide) ?_
      exact V_iret_c X hr dX11_calm_23 h
theorem c_11_calm {a1 : Int32} {a2 : Int32} (hinj : INJ ad) {w : Mem} {Q : Int32 → Mem → Prop} (h : wp_11_calm a1 a2 w Q) : Met l yX11_calm (TBq yX11_calm cX11_calm 6 (some .int)) (RM 5) (va_Pc [.ref (ad 0), .int a1, .int a2] (PB ad cy D (cmb w wm) wl0)) (va_Qi Q (BC ad cy D wm wl0) (AW ad)) 0 0 (AW ad) := M_enter (by decide) (Nat.le_of_ble_eq_true rfl) hinj (fun p e s m args below meth c X hr => v_11_calm X hr h)
theorem mf_11_calm : MFV yX11_calm cX11_calm 6 (some .int) yX11_calm.cls 2 := ⟨q_1107, q_1105, q_1106, q_1, by decide⟩
theorem K_11_calm {own : String} {idx : Nat} {a1 : Int32} {a2 : Int32} (X : CXq p s m args meth c cc nL own ad cy D A H0) (hL : LK own idx yX11_calm) {w : Mem} {Q : Int32 → Mem → Prop} (h : wp_11_calm a1 a2 w Q) (hR : (RM 5).frames + 1 ≤ R.frames ∧ 8 + (6 + 11) + (RM 5).locals ≤ R.locals) (hce : ce ≤ R.cells ∧ sl ≤ R.slots) (hcat : (st1.map fun v => v.category).sum ≤ 8) (hd : decode cc pc = .ok (.invokevirtual idx, 3)) (kk : ∀ (r : Int32) (u : Mem), Q r u → V p l e R s m args below meth c nL ad cy D A H0 ce sl Qs u wm wl0 (pc + 3) ls (.int r :: st1)) : V p l e R s m args below meth c nL ad cy D A H0 ce sl Qs w wm wl0 pc ls (.int a2 :: .int a1 :: .ref (ad 0) :: st1) := V_callVI_c X mf_11_calm hL (rfl : vwCl[11]? = some (RX11, TX11, 13)) (by decide) (rfl : SK 0 = 11) (Nat.lt_of_lt_of_le (by decide : 0 < 150) (CX_nn X)) (c_11_calm X.2.2.2.2.2.2.2.1 h) (As := [.int a1, .int a2]) rfl ⟨rfl, rfl⟩ hR hce st1 rfl hcat hd kk
set_option maxRecDepth 20000 in
theorem v_11_windiest_b52 (X : CXq p s m args meth c cX11_windiest 6 yX11_windiest.cls ad cy D (AW ad) s.heap) (hr : meth.sig.returnType = (some .int)) {Q : Int32 → Mem → Prop} {L19 : Int32 → Int32 → Int32 → Int32 → Mem → Prop} (HL19 : ∀ (l1 : Int32) (l2 : Int32) (l3 : Int32) (l4 : Int32) (w : Mem), L19 l1 l2 l3 l4 w → V p l e (RM 4) s m args below meth c 6 ad cy D (AW ad) s.heap 0 0 (MQ below (va_Qi Q (BC ad cy D wm wl0) (AW ad)) args s 0 0 (AW ad)) w wm wl0 19 [(0, .ref (ad 0)), (1, .int l1), (2, .int l2), (3, .int l3), (4, .int l4)] []) : ∀ (l1 : Int32) (l2 : Int32) (l3 : Int32) (l4 : Int32) (w : Mem), wp_11_windiest_b52 Q L19 l1 l2 l3 l4 w → V p l e (RM 4) s m args below meth c 6 ad cy D (AW ad) s.heap 0 0 (MQ below (va_Qi Q (BC ad cy D wm wl0) (AW ad)) args s 0 0 (AW ad)) w wm wl0 52 [(0, .ref (ad 0)), (1, .int l1), (2, .int l2), (3, .int l3), (4, .int l4)] [] := by
  intro l1 l2 l3 l4 w h
  unfold wp_11_windiest_b52 at h
  obtain ⟨x1, ex1⟩ : ∃ y : Int32, y = l4 + (1 : Int32) := ⟨_, rfl⟩
  have h := h x1 ex1
  refine V_iinc X 4 dX11_windiest_52 rfl (by decide) (by rw [ex1]; rfl) (ls1 := [(4, .int x1), (0, .ref (ad 0)), (1, .int l1), (2, .int l2), (3, .int l3)]) rfl ?_
  refine V_goto X (tgt := 19) dX11_windiest_55 (by decide) ?_
  refine V_sub X (ls1 := [(0, .ref (ad 0)), (1, .int l1), (2, .int l2), (3, .int l3), (4, .int x1)]) [1, 2, 3, 4, 0] rfl ?_
  exact HL19 _ _ _ _ _ h
set_option maxRecDepth 20000 in
theorem v_11_windiest_b19 (X : CXq p s m args meth c cX11_windiest 6 yX11_windiest.cls ad cy D (AW ad) s.heap) (hr : meth.sig.returnType = (some .int)) {Q : Int32 → Mem → Prop} : ∀ (n : Nat) (l1 : Int32) (l2 : Int32) (l3 : Int32) (l4 : Int32) (w : Mem), wp_11_windiest_b19 Q n l1 l2 l3 l4 w → V p l e (RM 4) s m args below meth c 6 ad cy D (AW ad) s.heap 0 0 (MQ below (va_Qi Q (BC ad cy D wm wl0) (AW ad)) args s 0 0 (AW ad)) w wm wl0 19 [(0, .ref (ad 0)), (1, .int l1), (2, .int l2), (3, .int l3), (4, .int l4)] [] := by
  intro n
  induction n with
  | zero =>
    intro l1 l2 l3 l4 w h
    exact h.elim
  | succ n ih =>
    intro l1 l2 l3 l4 w h
    unfold wp_11_windiest_b19 at h
    refine V_iload X (i := 4) 4 dX11_windiest_19 rfl ?_
    refine V_iconst X (v := (5 : Int32)) dX11_windiest_21 (by decide) ?_
    obtain ⟨ht, hf⟩ := h
    refine V_icmp_ge X (tgt := 58) dX11_windiest_22 (by decide) (fun c => ?_) (fun c => ?_)
    · have h := ht c
      refine V_iload_n X (i := 2) 2 dX11_windiest_58 rfl rfl ?_
      exact V_iret_c X hr dX11_windiest_59 h
    · have h := hf c
      refine V_aload_n X (i := 0) 0 dX11_windiest_25 rfl rfl ?_
      refine G_11_49 X dX11_windiest_26 ?_
      refine V_iload X (i := 4) 4 dX11_windiest_29 rfl ?_
      refine V_iload_n X (i := 1) 1 dX11_windiest_31 rfl rfl ?_
      refine K_0_windAt X (Or.inl q_825) h ⟨Nat.le_of_ble_eq_true rfl, Nat.le_of_ble_eq_true rfl⟩ ⟨Nat.zero_le _, Nat.zero_le _⟩ (st1 := []) (Nat.le_of_ble_eq_true rfl) dX11_windiest_32 (fun r2 w1 h => ?_)
      refine V_mabs X dX11_windiest_35 q_1108 q_1109 q_19 q_1110 (Nat.le_of_ble_eq_true rfl) (Nat.le_of_ble_eq_true rfl) (Nat.zero_le _) (Nat.zero_le _) ?_
      obtain ⟨x3, ex3⟩ : ∃ y : Int32, y = (ab r2) := ⟨_, rfl⟩
      have h := h x3 ex3
      refine V_istore X dX11_windiest_38 (by decide) ex3 (ls1 := [(5, .int x3), (0, .ref (ad 0)), (1, .int l1), (2, .int l2), (3, .int l3), (4, .int l4)]) rfl ?_
      refine V_iload X (i := 5) 0 dX11_windiest_40 rfl ?_
      refine V_iload_n X (i := 3) 4 dX11_windiest_42 rfl rfl ?_
      obtain ⟨ht, hf⟩ := h
      refine V_icmp_le X (tgt := 52) dX11_windiest_43 (by decide) (fun c => ?_) (fun c => ?_)
      · have h := ht c
        refine V_sub X (ls1 := [(0, .ref (ad 0)), (1, .int l1), (2, .int l2), (3, .int l3), (4, .int l4)]) [1, 2, 3, 4, 5] rfl ?_
        exact v_11_windiest_b52 X hr ih _ _ _ _ _ h
      · have h := hf c
        refine V_iload X (i := 5) 0 dX11_windiest_46 rfl ?_
        refine V_istore_n X dX11_windiest_48 rfl (by decide) rfl (ls1 := [(3, .int x3), (5, .int x3), (0, .ref (ad 0)), (1, .int l1), (2, .int l2), (4, .int l4)]) rfl ?_
        refine V_iload X (i := 4) 5 dX11_windiest_49 rfl ?_
        refine V_istore_n X dX11_windiest_51 rfl (by decide) rfl (ls1 := [(2, .int l4), (3, .int x3), (5, .int x3), (0, .ref (ad 0)), (1, .int l1), (4, .int l4)]) rfl ?_
        refine V_sub X (ls1 := [(0, .ref (ad 0)), (1, .int l1), (2, .int l4), (3, .int x3), (4, .int l4)]) [3, 4, 0, 1, 5] rfl ?_
        exact v_11_windiest_b52 X hr ih _ _ _ _ _ h
set_option maxRecDepth 20000 in
theorem v_11_windiest {a1 : Int32} (X : CXq p s m args meth c cX11_windiest 6 yX11_windiest.cls ad cy D (AW ad) s.heap) (hr : meth.sig.returnType = (some .int)) {w : Mem} {Q : Int32 → Mem → Prop} (h : wp_11_windiest a1 w Q) : V p l e (RM 4) s m args below meth c 6 ad cy D (AW ad) s.heap 0 0 (MQ below (va_Qi Q (BC ad cy D wm wl0) (AW ad)) args s 0 0 (AW ad)) w wm wl0 0 [(0, .ref (ad 0)), (1, .int a1)] [] := by
  unfold wp_11_windiest at h
  refine V_iload_n X (i := 1) 1 dX11_windiest_0 rfl rfl ?_
  refine V_iconst X (v := (0 : Int32)) dX11_windiest_1 (by decide) ?_
  refine V_ldc X (v := (99999 : Int32)) dX11_windiest_2 q_824 ?_
  refine K_11_within X (Or.inl q_532) h ⟨Nat.le_of_ble_eq_true rfl, Nat.le_of_ble_eq_true rfl⟩ ⟨Nat.zero_le _, Nat.zero_le _⟩ (st1 := []) (Nat.le_of_ble_eq_true rfl) dX11_windiest_4 (fun r2 w1 h => ?_)
  obtain ⟨ht, hf⟩ := h
  refine V_if_ne X (tgt := 12) dX11_windiest_7 (by decide) (fun c => ?_) (fun c => ?_)
  · have h := ht c
    refine V_iconst X (v := (0 : Int32)) dX11_windiest_12 (by decide) ?_
    refine V_istore_n X dX11_windiest_13 rfl (by decide) rfl (ls1 := [(2, .int (0 : Int32)), (0, .ref (ad 0)), (1, .int a1)]) rfl ?_
    refine V_iconst X (v := (-1 : Int32)) dX11_windiest_14 (by decide) ?_
    refine V_istore_n X dX11_windiest_15 rfl (by decide) rfl (ls1 := [(3, .int (-1 : Int32)), (2, .int (0 : Int32)), (0, .ref (ad 0)), (1, .int a1)]) rfl ?_
    refine V_iconst X (v := (0 : Int32)) dX11_windiest_16 (by decide) ?_
    refine V_istore X dX11_windiest_17 (by decide) rfl (ls1 := [(4, .int (0 : Int32)), (3, .int (-1 : Int32)), (2, .int (0 : Int32)), (0, .ref (ad 0)), (1, .int a1)]) rfl ?_
    refine V_sub X (ls1 := [(0, .ref (ad 0)), (1, .int a1), (2, .int (0 : Int32)), (3, .int (-1 : Int32)), (4, .int (0 : Int32))]) [3, 4, 2, 1, 0] rfl ?_
    obtain ⟨nn, h⟩ := h
    exact v_11_windiest_b19 X hr nn _ _ _ _ _ h
  · have h := hf c
    refine V_iconst X (v := (-1 : Int32)) dX11_windiest_10 (by decide) ?_
    exact V_iret_c X hr dX11_windiest_11 h
theorem c_11_windiest {a1 : Int32} (hinj : INJ ad) {w : Mem} {Q : Int32 → Mem → Prop} (h : wp_11_windiest a1 w Q) : Met l yX11_windiest (TBq yX11_windiest cX11_windiest 6 (some .int)) (RM 4) (va_Pc [.ref (ad 0), .int a1] (PB ad cy D (cmb w wm) wl0)) (va_Qi Q (BC ad cy D wm wl0) (AW ad)) 0 0 (AW ad) := M_enter (by decide) (Nat.le_of_ble_eq_true rfl) hinj (fun p e s m args below meth c X hr => v_11_windiest X hr h)
theorem mf_11_windiest : MFV yX11_windiest cX11_windiest 6 (some .int) yX11_windiest.cls 1 := ⟨q_1114, q_1112, q_1113, q_1, by decide⟩
theorem K_11_windiest {own : String} {idx : Nat} {a1 : Int32} (X : CXq p s m args meth c cc nL own ad cy D A H0) (hL : LK own idx yX11_windiest) {w : Mem} {Q : Int32 → Mem → Prop} (h : wp_11_windiest a1 w Q) (hR : (RM 4).frames + 1 ≤ R.frames ∧ 8 + (6 + 11) + (RM 4).locals ≤ R.locals) (hce : ce ≤ R.cells ∧ sl ≤ R.slots) (hcat : (st1.map fun v => v.category).sum ≤ 8) (hd : decode cc pc = .ok (.invokevirtual idx, 3)) (kk : ∀ (r : Int32) (u : Mem), Q r u → V p l e R s m args below meth c nL ad cy D A H0 ce sl Qs u wm wl0 (pc + 3) ls (.int r :: st1)) : V p l e R s m args below meth c nL ad cy D A H0 ce sl Qs w wm wl0 pc ls (.int a1 :: .ref (ad 0) :: st1) := V_callVI_c X mf_11_windiest hL (rfl : vwCl[11]? = some (RX11, TX11, 13)) (by decide) (rfl : SK 0 = 11) (Nat.lt_of_lt_of_le (by decide : 0 < 150) (CX_nn X)) (c_11_windiest X.2.2.2.2.2.2.2.1 h) (As := [.int a1]) rfl ⟨rfl, rfl⟩ hR hce st1 rfl hcat hd kk
set_option maxRecDepth 20000 in
theorem v_11_progress {a1 : Int32} (X : CXq p s m args meth c cX11_progress 2 yX11_progress.cls ad cy D (AW ad) s.heap) (hr : meth.sig.returnType = (some .int)) {w : Mem} {Q : Int32 → Mem → Prop} (h : wp_11_progress a1 w Q) : V p l e (RM 3) s m args below meth c 2 ad cy D (AW ad) s.heap 0 0 (MQ below (va_Qi Q (BC ad cy D wm wl0) (AW ad)) args s 0 0 (AW ad)) w wm wl0 0 [(0, .ref (ad 0)), (1, .int a1)] [] := by
  unfold wp_11_progress at h
  refine V_aload_n X (i := 0) 0 dX11_progress_0 rfl rfl ?_
  refine G_11_56 X dX11_progress_1 ?_
  refine V_iload_n X (i := 1) 1 dX11_progress_4 rfl rfl ?_
  refine V_iconst X (v := (1 : Int32)) dX11_progress_5 (by decide) ?_
  refine K_5_hasJump X (Or.inl q_830) inst_Play_89 h ⟨Nat.le_of_ble_eq_true rfl, Nat.le_of_ble_eq_true rfl⟩ ⟨Nat.zero_le _, Nat.zero_le _⟩ (st1 := []) (Nat.le_of_ble_eq_true rfl) dX11_progress_6 (fun r2 w1 h => ?_)
  obtain ⟨ht, hf⟩ := h
  refine V_if_eq X (tgt := 24) dX11_progress_9 (by decide) (fun c => ?_) (fun c => ?_)
  · have h := ht c
    refine V_sipush X (v := (-10000 : Int32)) dX11_progress_24 (by decide) ?_
    exact V_iret_c X hr dX11_progress_27 h
  · have h := hf c
    refine V_aload_n X (i := 0) 0 dX11_progress_12 rfl rfl ?_
    refine G_11_56 X dX11_progress_13 ?_
    refine V_iload_n X (i := 1) 1 dX11_progress_16 rfl rfl ?_
    refine V_iconst X (v := (2 : Int32)) dX11_progress_17 (by decide) ?_
    refine K_5_hasJump X (Or.inl q_830) inst_Play_89 h ⟨Nat.le_of_ble_eq_true rfl, Nat.le_of_ble_eq_true rfl⟩ ⟨Nat.zero_le _, Nat.zero_le _⟩ (st1 := []) (Nat.le_of_ble_eq_true rfl) dX11_progress_18 (fun r4 w3 h => ?_)
    obtain ⟨ht, hf⟩ := h
    refine V_if_ne X (tgt := 28) dX11_progress_21 (by decide) (fun c => ?_) (fun c => ?_)
    · have h := ht c
      refine V_aload_n X (i := 0) 0 dX11_progress_28 rfl rfl ?_
      refine G_11_56 X dX11_progress_29 ?_
      refine V_iload_n X (i := 1) 1 dX11_progress_32 rfl rfl ?_
      refine V_iconst X (v := (2 : Int32)) dX11_progress_33 (by decide) ?_
      refine V_iconst X (v := (0 : Int32)) dX11_progress_34 (by decide) ?_
      refine K_5_cell X (Or.inl q_842) inst_Play_89 h ⟨Nat.le_of_ble_eq_true rfl, Nat.le_of_ble_eq_true rfl⟩ ⟨Nat.zero_le _, Nat.zero_le _⟩ (st1 := []) (Nat.le_of_ble_eq_true rfl) dX11_progress_35 (fun r6 w5 h => ?_)
      refine V_aload_n X (i := 0) 0 dX11_progress_38 rfl rfl ?_
      refine G_11_56 X dX11_progress_39 ?_
      refine V_iload_n X (i := 1) 1 dX11_progress_42 rfl rfl ?_
      refine V_iconst X (v := (1 : Int32)) dX11_progress_43 (by decide) ?_
      refine V_iconst X (v := (0 : Int32)) dX11_progress_44 (by decide) ?_
      refine K_5_cell X (Or.inl q_842) inst_Play_89 h ⟨Nat.le_of_ble_eq_true rfl, Nat.le_of_ble_eq_true rfl⟩ ⟨Nat.zero_le _, Nat.zero_le _⟩ (st1 := [.int r6]) (Nat.le_of_ble_eq_true rfl) dX11_progress_45 (fun r8 w7 h => ?_)
      refine V_isub X dX11_progress_48 ?_
      exact V_iret_c X hr dX11_progress_49 h
    · have h := hf c
      refine V_sipush X (v := (-10000 : Int32)) dX11_progress_24 (by decide) ?_
      exact V_iret_c X hr dX11_progress_27 h
theorem c_11_progress {a1 : Int32} (hinj : INJ ad) {w : Mem} {Q : Int32 → Mem → Prop} (h : wp_11_progress a1 w Q) : Met l yX11_progress (TBq yX11_progress cX11_progress 2 (some .int)) (RM 3) (va_Pc [.ref (ad 0), .int a1] (PB ad cy D (cmb w wm) wl0)) (va_Qi Q (BC ad cy D wm wl0) (AW ad)) 0 0 (AW ad) := M_enter (by decide) (Nat.le_of_ble_eq_true rfl) hinj (fun p e s m args below meth c X hr => v_11_progress X hr h)
theorem mf_11_progress : MFV yX11_progress cX11_progress 2 (some .int) yX11_progress.cls 1 := ⟨q_1118, q_1116, q_1117, q_1, by decide⟩
theorem K_11_progress {own : String} {idx : Nat} {a1 : Int32} (X : CXq p s m args meth c cc nL own ad cy D A H0) (hL : LK own idx yX11_progress) {w : Mem} {Q : Int32 → Mem → Prop} (h : wp_11_progress a1 w Q) (hR : (RM 3).frames + 1 ≤ R.frames ∧ 8 + (2 + 11) + (RM 3).locals ≤ R.locals) (hce : ce ≤ R.cells ∧ sl ≤ R.slots) (hcat : (st1.map fun v => v.category).sum ≤ 8) (hd : decode cc pc = .ok (.invokevirtual idx, 3)) (kk : ∀ (r : Int32) (u : Mem), Q r u → V p l e R s m args below meth c nL ad cy D A H0 ce sl Qs u wm wl0 (pc + 3) ls (.int r :: st1)) : V p l e R s m args below meth c nL ad cy D A H0 ce sl Qs w wm wl0 pc ls (.int a1 :: .ref (ad 0) :: st1) := V_callVI_c X mf_11_progress hL (rfl : vwCl[11]? = some (RX11, TX11, 13)) (by decide) (rfl : SK 0 = 11) (Nat.lt_of_lt_of_le (by decide : 0 < 150) (CX_nn X)) (c_11_progress X.2.2.2.2.2.2.2.1 h) (As := [.int a1]) rfl ⟨rfl, rfl⟩ hR hce st1 rfl hcat hd kk
set_option maxRecDepth 20000 in
theorem v_11_moreThanHimself {a1 : Int32} {a2 : Int32} (X : CXq p s m args meth c cX11_moreThanHimself 4 yX11_moreThanHimself.cls ad cy D (AW ad) s.heap) (hr : meth.sig.returnType = (some .int)) {w : Mem} {Q : Int32 → Mem → Prop} (h : wp_11_moreThanHimself a1 a2 w Q) : V p l e (RM 5) s m args below meth c 4 ad cy D (AW ad) s.heap 0 0 (MQ below (va_Qi Q (BC ad cy D wm wl0) (AW ad)) args s 0 0 (AW ad)) w wm wl0 0 [(0, .ref (ad 0)), (1, .int a1), (2, .int a2)] [] := by
  unfold wp_11_moreThanHimself at h
  refine V_aload_n X (i := 0) 0 dX11_moreThanHimself_0 rfl rfl ?_
  refine G_11_49 X dX11_moreThanHimself_1 ?_
  refine V_aload_n X (i := 0) 0 dX11_moreThanHimself_4 rfl rfl ?_
  refine G_11_56 X dX11_moreThanHimself_5 ?_
  refine V_iload_n X (i := 1) 1 dX11_moreThanHimself_8 rfl rfl ?_
  refine V_iload_n X (i := 2) 2 dX11_moreThanHimself_9 rfl rfl ?_
  refine V_iconst X (v := (4 : Int32)) dX11_moreThanHimself_10 (by decide) ?_
  refine K_5_cell X (Or.inl q_842) inst_Play_89 h ⟨Nat.le_of_ble_eq_true rfl, Nat.le_of_ble_eq_true rfl⟩ ⟨Nat.zero_le _, Nat.zero_le _⟩ (st1 := [.ref (ad 87)]) (Nat.le_of_ble_eq_true rfl) dX11_moreThanHimself_11 (fun r2 w1 h => ?_)
  refine K_0_blow X (Or.inl q_783) h ⟨Nat.le_of_ble_eq_true rfl, Nat.le_of_ble_eq_true rfl⟩ ⟨Nat.zero_le _, Nat.zero_le _⟩ (st1 := []) (Nat.le_of_ble_eq_true rfl) dX11_moreThanHimself_14 (fun w3 h => ?_)
  refine V_aload_n X (i := 0) 0 dX11_moreThanHimself_17 rfl rfl ?_
  refine G_11_49 X dX11_moreThanHimself_18 ?_
  refine V_iload_n X (i := 1) 1 dX11_moreThanHimself_21 rfl rfl ?_
  refine V_iconst X (v := (0 : Int32)) dX11_moreThanHimself_22 (by decide) ?_
  refine V_aload_n X (i := 0) 0 dX11_moreThanHimself_23 rfl rfl ?_
  refine G_11_56 X dX11_moreThanHimself_24 ?_
  refine V_iload_n X (i := 1) 1 dX11_moreThanHimself_27 rfl rfl ?_
  refine V_iload_n X (i := 2) 2 dX11_moreThanHimself_28 rfl rfl ?_
  refine V_iconst X (v := (5 : Int32)) dX11_moreThanHimself_29 (by decide) ?_
  refine K_5_cell X (Or.inl q_842) inst_Play_89 h ⟨Nat.le_of_ble_eq_true rfl, Nat.le_of_ble_eq_true rfl⟩ ⟨Nat.zero_le _, Nat.zero_le _⟩ (st1 := [.int (0 : Int32), .int a1, .ref (ad 87)]) (Nat.le_of_ble_eq_true rfl) dX11_moreThanHimself_30 (fun r5 w4 h => ?_)
  refine V_aload_n X (i := 0) 0 dX11_moreThanHimself_33 rfl rfl ?_
  refine G_11_56 X dX11_moreThanHimself_34 ?_
  refine V_iload_n X (i := 1) 1 dX11_moreThanHimself_37 rfl rfl ?_
  refine V_iload_n X (i := 2) 2 dX11_moreThanHimself_38 rfl rfl ?_
  refine V_bipush X (v := (7 : Int32)) dX11_moreThanHimself_39 (by decide) ?_
  refine K_5_cell X (Or.inl q_842) inst_Play_89 h ⟨Nat.le_of_ble_eq_true rfl, Nat.le_of_ble_eq_true rfl⟩ ⟨Nat.zero_le _, Nat.zero_le _⟩ (st1 := [.int r5, .int (0 : Int32), .int a1, .ref (ad 87)]) (Nat.le_of_ble_eq_true rfl) dX11_moreThanHimself_41 (fun r7 w6 h => ?_)
  refine K_0_reachOf X (Or.inl q_916) h ⟨Nat.le_of_ble_eq_true rfl, Nat.le_of_ble_eq_true rfl⟩ ⟨Nat.zero_le _, Nat.zero_le _⟩ (st1 := []) (Nat.le_of_ble_eq_true rfl) dX11_moreThanHimself_44 (fun r9 w8 h => ?_)
  refine V_istore_n X dX11_moreThanHimself_47 rfl (by decide) rfl (ls1 := [(3, .int r9), (0, .ref (ad 0)), (1, .int a1), (2, .int a2)]) rfl ?_
  refine V_aload_n X (i := 0) 1 dX11_moreThanHimself_48 rfl rfl ?_
  refine G_11_56 X dX11_moreThanHimself_49 ?_
  refine V_iload_n X (i := 1) 2 dX11_moreThanHimself_52 rfl rfl ?_
  refine V_iload_n X (i := 2) 3 dX11_moreThanHimself_53 rfl rfl ?_
  refine V_iconst X (v := (0 : Int32)) dX11_moreThanHimself_54 (by decide) ?_
  refine K_5_cell X (Or.inl q_842) inst_Play_89 h ⟨Nat.le_of_ble_eq_true rfl, Nat.le_of_ble_eq_true rfl⟩ ⟨Nat.zero_le _, Nat.zero_le _⟩ (st1 := []) (Nat.le_of_ble_eq_true rfl) dX11_moreThanHimself_55 (fun r11 w10 h => ?_)
  refine V_iload_n X (i := 3) 0 dX11_moreThanHimself_58 rfl rfl ?_
  refine V_isub X dX11_moreThanHimself_59 ?_
  exact V_iret_c X hr dX11_moreThanHimself_60 h
theorem c_11_moreThanHimself {a1 : Int32} {a2 : Int32} (hinj : INJ ad) {w : Mem} {Q : Int32 → Mem → Prop} (h : wp_11_moreThanHimself a1 a2 w Q) : Met l yX11_moreThanHimself (TBq yX11_moreThanHimself cX11_moreThanHimself 4 (some .int)) (RM 5) (va_Pc [.ref (ad 0), .int a1, .int a2] (PB ad cy D (cmb w wm) wl0)) (va_Qi Q (BC ad cy D wm wl0) (AW ad)) 0 0 (AW ad) := M_enter (by decide) (Nat.le_of_ble_eq_true rfl) hinj (fun p e s m args below meth c X hr => v_11_moreThanHimself X hr h)
theorem mf_11_moreThanHimself : MFV yX11_moreThanHimself cX11_moreThanHimself 4 (some .int) yX11_moreThanHimself.cls 2 := ⟨q_1126, q_1125, qs_35, q_1, by decide⟩
theorem K_11_moreThanHimself {own : String} {idx : Nat} {a1 : Int32} {a2 : Int32} (X : CXq p s m args meth c cc nL own ad cy D A H0) (hL : LK own idx yX11_moreThanHimself) {w : Mem} {Q : Int32 → Mem → Prop} (h : wp_11_moreThanHimself a1 a2 w Q) (hR : (RM 5).frames + 1 ≤ R.frames ∧ 8 + (4 + 11) + (RM 5).locals ≤ R.locals) (hce : ce ≤ R.cells ∧ sl ≤ R.slots) (hcat : (st1.map fun v => v.category).sum ≤ 8) (hd : decode cc pc = .ok (.invokevirtual idx, 3)) (kk : ∀ (r : Int32) (u : Mem), Q r u → V p l e R s m args below meth c nL ad cy D A H0 ce sl Qs u wm wl0 (pc + 3) ls (.int r :: st1)) : V p l e R s m args below meth c nL ad cy D A H0 ce sl Qs w wm wl0 pc ls (.int a2 :: .int a1 :: .ref (ad 0) :: st1) := V_callVI_c X mf_11_moreThanHimself hL (rfl : vwCl[11]? = some (RX11, TX11, 13)) (by decide) (rfl : SK 0 = 11) (Nat.lt_of_lt_of_le (by decide : 0 < 150) (CX_nn X)) (c_11_moreThanHimself X.2.2.2.2.2.2.2.1 h) (As := [.int a1, .int a2]) rfl ⟨rfl, rfl⟩ hR hce st1 rfl hcat hd kk
set_option maxRecDepth 20000 in
theorem v_11_himself_b100 (X : CXq p s m args meth c cX11_himself 8 yX11_himself.cls ad cy D (AW ad) s.heap) (hr : meth.sig.returnType = (some .int)) {Q : Int32 → Mem → Prop} {L26 : Int32 → Int32 → Int32 → Int32 → Int32 → Mem → Prop} (HL26 : ∀ (l1 : Int32) (l2 : Int32) (l3 : Int32) (l4 : Int32) (l5 : Int32) (w : Mem), L26 l1 l2 l3 l4 l5 w → V p l e (RM 6) s m args below meth c 8 ad cy D (AW ad) s.heap 0 0 (MQ below (va_Qi Q (BC ad cy D wm wl0) (AW ad)) args s 0 0 (AW ad)) w wm wl0 26 [(0, .ref (ad 0)), (1, .int l1), (2, .int l2), (3, .int l3), (4, .int l4), (5, .int l5)] []) {L44 : Int32 → Int32 → Int32 → Int32 → Int32 → Int32 → Mem → Prop} (HL44 : ∀ (l1 : Int32) (l2 : Int32) (l3 : Int32) (l4 : Int32) (l5 : Int32) (l6 : Int32) (w : Mem), L44 l1 l2 l3 l4 l5 l6 w → V p l e (RM 6) s m args below meth c 8 ad cy D (AW ad) s.heap 0 0 (MQ below (va_Qi Q (BC ad cy D wm wl0) (AW ad)) args s 0 0 (AW ad)) w wm wl0 44 [(0, .ref (ad 0)), (1, .int l1), (2, .int l2), (3, .int l3), (4, .int l4), (5, .int l5), (6, .int l6)] []) : ∀ (l1 : Int32) (l2 : Int32) (l3 : Int32) (l4 : Int32) (l5 : Int32) (l6 : Int32) (w : Mem), wp_11_himself_b100 Q L26 L44 l1 l2 l3 l4 l5 l6 w → V p l e (RM 6) s m args below meth c 8 ad cy D (AW ad) s.heap 0 0 (MQ below (va_Qi Q (BC ad cy D wm wl0) (AW ad)) args s 0 0 (AW ad)) w wm wl0 100 [(0, .ref (ad 0)), (1, .int l1), (2, .int l2), (3, .int l3), (4, .int l4), (5, .int l5), (6, .int l6)] [] := by
  intro l1 l2 l3 l4 l5 l6 w h
  unfold wp_11_himself_b100 at h
  obtain ⟨x1, ex1⟩ : ∃ y : Int32, y = l6 + (1 : Int32) := ⟨_, rfl⟩
  have h := h x1 ex1
  refine V_iinc X 6 dX11_himself_100 rfl (by decide) (by rw [ex1]; rfl) (ls1 := [(6, .int x1), (0, .ref (ad 0)), (1, .int l1), (2, .int l2), (3, .int l3), (4, .int l4), (5, .int l5)]) rfl ?_
  refine V_goto X (tgt := 44) dX11_himself_103 (by decide) ?_
  refine V_sub X (ls1 := [(0, .ref (ad 0)), (1, .int l1), (2, .int l2), (3, .int l3), (4, .int l4), (5, .int l5), (6, .int x1)]) [1, 2, 3, 4, 5, 6, 0] rfl ?_
  exact HL44 _ _ _ _ _ _ _ h
set_option maxRecDepth 20000 in
theorem v_11_himself_b90 (X : CXq p s m args meth c cX11_himself 8 yX11_himself.cls ad cy D (AW ad) s.heap) (hr : meth.sig.returnType = (some .int)) {Q : Int32 → Mem → Prop} {L26 : Int32 → Int32 → Int32 → Int32 → Int32 → Mem → Prop} (HL26 : ∀ (l1 : Int32) (l2 : Int32) (l3 : Int32) (l4 : Int32) (l5 : Int32) (w : Mem), L26 l1 l2 l3 l4 l5 w → V p l e (RM 6) s m args below meth c 8 ad cy D (AW ad) s.heap 0 0 (MQ below (va_Qi Q (BC ad cy D wm wl0) (AW ad)) args s 0 0 (AW ad)) w wm wl0 26 [(0, .ref (ad 0)), (1, .int l1), (2, .int l2), (3, .int l3), (4, .int l4), (5, .int l5)] []) {L44 : Int32 → Int32 → Int32 → Int32 → Int32 → Int32 → Mem → Prop} (HL44 : ∀ (l1 : Int32) (l2 : Int32) (l3 : Int32) (l4 : Int32) (l5 : Int32) (l6 : Int32) (w : Mem), L44 l1 l2 l3 l4 l5 l6 w → V p l e (RM 6) s m args below meth c 8 ad cy D (AW ad) s.heap 0 0 (MQ below (va_Qi Q (BC ad cy D wm wl0) (AW ad)) args s 0 0 (AW ad)) w wm wl0 44 [(0, .ref (ad 0)), (1, .int l1), (2, .int l2), (3, .int l3), (4, .int l4), (5, .int l5), (6, .int l6)] []) : ∀ (l1 : Int32) (l5 : Int32) (l6 : Int32) (l7 : Int32) (w : Mem), wp_11_himself_b90 Q L26 L44 l1 l5 l6 l7 w → V p l e (RM 6) s m args below meth c 8 ad cy D (AW ad) s.heap 0 0 (MQ below (va_Qi Q (BC ad cy D wm wl0) (AW ad)) args s 0 0 (AW ad)) w wm wl0 90 [(0, .ref (ad 0)), (1, .int l1), (5, .int l5), (6, .int l6), (7, .int l7)] [] := by
  intro l1 l5 l6 l7 w h
  unfold wp_11_himself_b90 at h
  refine V_iload X (i := 5) 2 dX11_himself_90 rfl ?_
  refine V_istore_n X dX11_himself_92 rfl (by decide) rfl (ls1 := [(2, .int l5), (0, .ref (ad 0)), (1, .int l1), (5, .int l5), (6, .int l6), (7, .int l7)]) rfl ?_
  refine V_iload X (i := 6) 4 dX11_himself_93 rfl ?_
  refine V_istore_n X dX11_himself_95 rfl (by decide) rfl (ls1 := [(3, .int l6), (2, .int l5), (0, .ref (ad 0)), (1, .int l1), (5, .int l5), (6, .int l6), (7, .int l7)]) rfl ?_
  refine V_iload X (i := 7) 6 dX11_himself_96 rfl ?_
  refine V_istore X dX11_himself_98 (by decide) rfl (ls1 := [(4, .int l7), (3, .int l6), (2, .int l5), (0, .ref (ad 0)), (1, .int l1), (5, .int l5), (6, .int l6), (7, .int l7)]) rfl ?_
  refine V_sub X (ls1 := [(0, .ref (ad 0)), (1, .int l1), (2, .int l5), (3, .int l6), (4, .int l7), (5, .int l5), (6, .int l6)]) [3, 4, 2, 1, 0, 5, 6] rfl ?_
  exact v_11_himself_b100 X hr HL26 HL44 _ _ _ _ _ _ _ h
set_option maxRecDepth 20000 in
theorem v_11_himself_b44 (X : CXq p s m args meth c cX11_himself 8 yX11_himself.cls ad cy D (AW ad) s.heap) (hr : meth.sig.returnType = (some .int)) {Q : Int32 → Mem → Prop} {L26 : Int32 → Int32 → Int32 → Int32 → Int32 → Mem → Prop} (HL26 : ∀ (l1 : Int32) (l2 : Int32) (l3 : Int32) (l4 : Int32) (l5 : Int32) (w : Mem), L26 l1 l2 l3 l4 l5 w → V p l e (RM 6) s m args below meth c 8 ad cy D (AW ad) s.heap 0 0 (MQ below (va_Qi Q (BC ad cy D wm wl0) (AW ad)) args s 0 0 (AW ad)) w wm wl0 26 [(0, .ref (ad 0)), (1, .int l1), (2, .int l2), (3, .int l3), (4, .int l4), (5, .int l5)] []) : ∀ (n : Nat) (l1 : Int32) (l2 : Int32) (l3 : Int32) (l4 : Int32) (l5 : Int32) (l6 : Int32) (w : Mem), wp_11_himself_b44 Q L26 n l1 l2 l3 l4 l5 l6 w → V p l e (RM 6) s m args below meth c 8 ad cy D (AW ad) s.heap 0 0 (MQ below (va_Qi Q (BC ad cy D wm wl0) (AW ad)) args s 0 0 (AW ad)) w wm wl0 44 [(0, .ref (ad 0)), (1, .int l1), (2, .int l2), (3, .int l3), (4, .int l4), (5, .int l5), (6, .int l6)] [] := by
  intro n
  induction n with
  | zero =>
    intro l1 l2 l3 l4 l5 l6 w h
    exact h.elim
  | succ n ih =>
    intro l1 l2 l3 l4 l5 l6 w h
    unfold wp_11_himself_b44 at h
    refine V_iload X (i := 6) 6 dX11_himself_44 rfl ?_
    refine V_iconst X (v := (2 : Int32)) dX11_himself_46 (by decide) ?_
    obtain ⟨ht, hf⟩ := h
    refine V_icmp_gt X (tgt := 106) dX11_himself_47 (by decide) (fun c => ?_) (fun c => ?_)
    · have h := ht c
      obtain ⟨x1, ex1⟩ : ∃ y : Int32, y = l5 + (1 : Int32) := ⟨_, rfl⟩
      have h := h x1 ex1
      refine V_iinc X 5 dX11_himself_106 rfl (by decide) (by rw [ex1]; rfl) (ls1 := [(5, .int x1), (0, .ref (ad 0)), (1, .int l1), (2, .int l2), (3, .int l3), (4, .int l4), (6, .int l6)]) rfl ?_
      refine V_goto X (tgt := 26) dX11_himself_109 (by decide) ?_
      refine V_sub X (ls1 := [(0, .ref (ad 0)), (1, .int l1), (2, .int l2), (3, .int l3), (4, .int l4), (5, .int x1)]) [1, 2, 3, 4, 5, 0] rfl ?_
      exact HL26 _ _ _ _ _ _ h
    · have h := hf c
      refine V_aload_n X (i := 0) 0 dX11_himself_50 rfl rfl ?_
      refine G_11_56 X dX11_himself_51 ?_
      refine V_iload X (i := 5) 5 dX11_himself_54 rfl ?_
      refine V_iload X (i := 6) 6 dX11_himself_56 rfl ?_
      refine K_5_hasJump X (Or.inl q_830) inst_Play_89 h ⟨Nat.le_of_ble_eq_true rfl, Nat.le_of_ble_eq_true rfl⟩ ⟨Nat.zero_le _, Nat.zero_le _⟩ (st1 := []) (Nat.le_of_ble_eq_true rfl) dX11_himself_58 (fun r3 w2 h => ?_)
      obtain ⟨ht, hf⟩ := h
      refine V_if_ne X (tgt := 67) dX11_himself_61 (by decide) (fun c => ?_) (fun c => ?_)
      · have h := ht c
        refine V_aload_n X (i := 0) 0 dX11_himself_67 rfl rfl ?_
        refine V_iload X (i := 5) 5 dX11_himself_68 rfl ?_
        refine V_iload X (i := 6) 6 dX11_himself_70 rfl ?_
        refine K_11_moreThanHimself X (Or.inl q_1123) h ⟨Nat.le_of_ble_eq_true rfl, Nat.le_of_ble_eq_true rfl⟩ ⟨Nat.zero_le _, Nat.zero_le _⟩ (st1 := []) (Nat.le_of_ble_eq_true rfl) dX11_himself_72 (fun r5 w4 h => ?_)
        refine V_istore X dX11_himself_75 (by decide) rfl (ls1 := [(7, .int r5), (0, .ref (ad 0)), (1, .int l1), (2, .int l2), (3, .int l3), (4, .int l4), (5, .int l5), (6, .int l6)]) rfl ?_
        refine V_iload_n X (i := 2) 3 dX11_himself_77 rfl rfl ?_
        refine V_bipush X (v := (-2 : Int32)) dX11_himself_78 (by decide) ?_
        obtain ⟨ht, hf⟩ := h
        refine V_icmp_eq X (tgt := 90) dX11_himself_80 (by decide) (fun c => ?_) (fun c => ?_)
        · have h := ht c
          refine V_sub X (ls1 := [(0, .ref (ad 0)), (1, .int l1), (5, .int l5), (6, .int l6), (7, .int r5)]) [1, 2, 6, 7, 0] rfl ?_
          exact v_11_himself_b90 X hr HL26 ih _ _ _ _ _ h
        · have h := hf c
          refine V_iload X (i := 7) 0 dX11_himself_83 rfl ?_
          refine V_iload X (i := 4) 5 dX11_himself_85 rfl ?_
          obtain ⟨ht, hf⟩ := h
          refine V_icmp_le X (tgt := 100) dX11_himself_87 (by decide) (fun c => ?_) (fun c => ?_)
          · have h := ht c
            refine V_sub X (ls1 := [(0, .ref (ad 0)), (1, .int l1), (2, .int l2), (3, .int l3), (4, .int l4), (5, .int l5), (6, .int l6)]) [1, 2, 3, 4, 5, 6, 7] rfl ?_
            exact v_11_himself_b100 X hr HL26 ih _ _ _ _ _ _ _ h
          · have h := hf c
            refine V_sub X (ls1 := [(0, .ref (ad 0)), (1, .int l1), (5, .int l5), (6, .int l6), (7, .int r5)]) [1, 2, 6, 7, 0] rfl ?_
            exact v_11_himself_b90 X hr HL26 ih _ _ _ _ _ h
      · have h := hf c
        refine V_goto X (tgt := 100) dX11_himself_64 (by decide) ?_
        refine V_sub X (ls1 := [(0, .ref (ad 0)), (1, .int l1), (2, .int l2), (3, .int l3), (4, .int l4), (5, .int l5), (6, .int l6)]) [0, 1, 2, 3, 4, 5, 6] rfl ?_
        exact v_11_himself_b100 X hr HL26 ih _ _ _ _ _ _ _ h
set_option maxRecDepth 20000 in
theorem v_11_himself_b26 (X : CXq p s m args meth c cX11_himself 8 yX11_himself.cls ad cy D (AW ad) s.heap) (hr : meth.sig.returnType = (some .int)) {Q : Int32 → Mem → Prop} : ∀ (n : Nat) (l1 : Int32) (l2 : Int32) (l3 : Int32) (l4 : Int32) (l5 : Int32) (w : Mem), wp_11_himself_b26 Q n l1 l2 l3 l4 l5 w → V p l e (RM 6) s m args below meth c 8 ad cy D (AW ad) s.heap 0 0 (MQ below (va_Qi Q (BC ad cy D wm wl0) (AW ad)) args s 0 0 (AW ad)) w wm wl0 26 [(0, .ref (ad 0)), (1, .int l1), (2, .int l2), (3, .int l3), (4, .int l4), (5, .int l5)] [] := by
  intro n
  induction n with
  | zero =>
    intro l1 l2 l3 l4 l5 w h
    exact h.elim
  | succ n ih =>
    intro l1 l2 l3 l4 l5 w h
    unfold wp_11_himself_b26 at h
    refine V_iload X (i := 5) 5 dX11_himself_26 rfl ?_
    refine V_aload_n X (i := 0) 0 dX11_himself_28 rfl rfl ?_
    refine G_11_41 X dX11_himself_29 ?_
    refine G_11_216 X (inst_Text_48).1 (inst_Text_48).2.1 (Text_r6 inst_Text_48) dX11_himself_32 ?_
    refine G_11_239 X (inst_People_80).1 (inst_People_80).2.1 (People_r6 inst_People_80) dX11_himself_35 ?_
    obtain ⟨ht, hf⟩ := h
    refine V_icmp_ge X (tgt := 112) dX11_himself_38 (by decide) (fun c => ?_) (fun c => ?_)
    · have h := ht c
      refine V_iload_n X (i := 1) 1 dX11_himself_112 rfl rfl ?_
      obtain ⟨ht, h⟩ := h
      by_cases c0 : l1 = (0 : Int32)
      · have h := ht c0
        refine V_lookup X (tgt := 140) dX11_himself_113 (by decide) (off := 27) (by rw [c0]; decide) (by decide) ?_
        refine V_iload_n X (i := 2) 2 dX11_himself_140 rfl rfl ?_
        exact V_iret_c X hr dX11_himself_141 h
      have h := h c0
      obtain ⟨ht, h⟩ := h
      by_cases c1 : l1 = (1 : Int32)
      · have h := ht c1
        refine V_lookup X (tgt := 142) dX11_himself_113 (by decide) (off := 29) (by rw [c1]; decide) (by decide) ?_
        refine V_iload X (i := 4) 4 dX11_himself_142 rfl ?_
        exact V_iret_c X hr dX11_himself_144 h
      have h := h c1
      refine V_lookup X (tgt := 145) dX11_himself_113 (by decide) (off := 32) (by rw [lv_osw c0 (by decide), lv_osw c1 (by decide)]; rfl) (by decide) ?_
      refine V_iload_n X (i := 3) 3 dX11_himself_145 rfl rfl ?_
      exact V_iret_c X hr dX11_himself_146 h
    · have h := hf c
      refine V_iconst X (v := (1 : Int32)) dX11_himself_41 (by decide) ?_
      refine V_istore X dX11_himself_42 (by decide) rfl (ls1 := [(6, .int (1 : Int32)), (0, .ref (ad 0)), (1, .int l1), (2, .int l2), (3, .int l3), (4, .int l4), (5, .int l5)]) rfl ?_
      refine V_sub X (ls1 := [(0, .ref (ad 0)), (1, .int l1), (2, .int l2), (3, .int l3), (4, .int l4), (5, .int l5), (6, .int (1 : Int32))]) [1, 2, 3, 4, 5, 6, 0] rfl ?_
      obtain ⟨nn, h⟩ := h
      exact v_11_himself_b44 X hr ih nn _ _ _ _ _ _ _ h
set_option maxRecDepth 20000 in
theorem v_11_himself {a1 : Int32} (X : CXq p s m args meth c cX11_himself 8 yX11_himself.cls ad cy D (AW ad) s.heap) (hr : meth.sig.returnType = (some .int)) {w : Mem} {Q : Int32 → Mem → Prop} (h : wp_11_himself a1 w Q) : V p l e (RM 6) s m args below meth c 8 ad cy D (AW ad) s.heap 0 0 (MQ below (va_Qi Q (BC ad cy D wm wl0) (AW ad)) args s 0 0 (AW ad)) w wm wl0 0 [(0, .ref (ad 0)), (1, .int a1)] [] := by
  unfold wp_11_himself at h
  refine V_iload_n X (i := 1) 1 dX11_himself_0 rfl rfl ?_
  refine V_iconst X (v := (0 : Int32)) dX11_himself_1 (by decide) ?_
  refine V_iconst X (v := (2 : Int32)) dX11_himself_2 (by decide) ?_
  refine K_11_within X (Or.inl q_532) h ⟨Nat.le_of_ble_eq_true rfl, Nat.le_of_ble_eq_true rfl⟩ ⟨Nat.zero_le _, Nat.zero_le _⟩ (st1 := []) (Nat.le_of_ble_eq_true rfl) dX11_himself_3 (fun r2 w1 h => ?_)
  obtain ⟨ht, hf⟩ := h
  refine V_if_ne X (tgt := 13) dX11_himself_6 (by decide) (fun c => ?_) (fun c => ?_)
  · have h := ht c
    refine V_bipush X (v := (-2 : Int32)) dX11_himself_13 (by decide) ?_
    refine V_istore_n X dX11_himself_15 rfl (by decide) rfl (ls1 := [(2, .int (-2 : Int32)), (0, .ref (ad 0)), (1, .int a1)]) rfl ?_
    refine V_bipush X (v := (-2 : Int32)) dX11_himself_16 (by decide) ?_
    refine V_istore_n X dX11_himself_18 rfl (by decide) rfl (ls1 := [(3, .int (-2 : Int32)), (2, .int (-2 : Int32)), (0, .ref (ad 0)), (1, .int a1)]) rfl ?_
    refine V_bipush X (v := (-2 : Int32)) dX11_himself_19 (by decide) ?_
    refine V_istore X dX11_himself_21 (by decide) rfl (ls1 := [(4, .int (-2 : Int32)), (3, .int (-2 : Int32)), (2, .int (-2 : Int32)), (0, .ref (ad 0)), (1, .int a1)]) rfl ?_
    refine V_iconst X (v := (0 : Int32)) dX11_himself_23 (by decide) ?_
    refine V_istore X dX11_himself_24 (by decide) rfl (ls1 := [(5, .int (0 : Int32)), (4, .int (-2 : Int32)), (3, .int (-2 : Int32)), (2, .int (-2 : Int32)), (0, .ref (ad 0)), (1, .int a1)]) rfl ?_
    refine V_sub X (ls1 := [(0, .ref (ad 0)), (1, .int a1), (2, .int (-2 : Int32)), (3, .int (-2 : Int32)), (4, .int (-2 : Int32)), (5, .int (0 : Int32))]) [4, 5, 3, 2, 1, 0] rfl ?_
    obtain ⟨nn, h⟩ := h
    exact v_11_himself_b26 X hr nn _ _ _ _ _ _ h
  · have h := hf c
    refine V_sipush X (v := (-10000 : Int32)) dX11_himself_9 (by decide) ?_
    exact V_iret_c X hr dX11_himself_12 h
theorem c_11_himself {a1 : Int32} (hinj : INJ ad) {w : Mem} {Q : Int32 → Mem → Prop} (h : wp_11_himself a1 w Q) : Met l yX11_himself (TBq yX11_himself cX11_himself 8 (some .int)) (RM 6) (va_Pc [.ref (ad 0), .int a1] (PB ad cy D (cmb w wm) wl0)) (va_Qi Q (BC ad cy D wm wl0) (AW ad)) 0 0 (AW ad) := M_enter (by decide) (Nat.le_of_ble_eq_true rfl) hinj (fun p e s m args below meth c X hr => v_11_himself X hr h)
theorem mf_11_himself : MFV yX11_himself cX11_himself 8 (some .int) yX11_himself.cls 1 := ⟨q_1122, q_1120, q_1121, q_1, by decide⟩
theorem K_11_himself {own : String} {idx : Nat} {a1 : Int32} (X : CXq p s m args meth c cc nL own ad cy D A H0) (hL : LK own idx yX11_himself) {w : Mem} {Q : Int32 → Mem → Prop} (h : wp_11_himself a1 w Q) (hR : (RM 6).frames + 1 ≤ R.frames ∧ 8 + (8 + 11) + (RM 6).locals ≤ R.locals) (hce : ce ≤ R.cells ∧ sl ≤ R.slots) (hcat : (st1.map fun v => v.category).sum ≤ 8) (hd : decode cc pc = .ok (.invokevirtual idx, 3)) (kk : ∀ (r : Int32) (u : Mem), Q r u → V p l e R s m args below meth c nL ad cy D A H0 ce sl Qs u wm wl0 (pc + 3) ls (.int r :: st1)) : V p l e R s m args below meth c nL ad cy D A H0 ce sl Qs w wm wl0 pc ls (.int a1 :: .ref (ad 0) :: st1) := V_callVI_c X mf_11_himself hL (rfl : vwCl[11]? = some (RX11, TX11, 13)) (by decide) (rfl : SK 0 = 11) (Nat.lt_of_lt_of_le (by decide : 0 < 150) (CX_nn X)) (c_11_himself X.2.2.2.2.2.2.2.1 h) (As := [.int a1]) rfl ⟨rfl, rfl⟩ hR hce st1 rfl hcat hd kk
set_option maxRecDepth 20000 in
theorem v_11_tell {a1 : Int32} {a2 : Int32} {a3 : Int32} (X : CXq p s m args meth c cX11_tell 4 yX11_tell.cls ad cy D (AW ad) s.heap) (hr : meth.sig.returnType = (some .int)) {w : Mem} {Q : Int32 → Mem → Prop} (h : wp_11_tell a1 a2 a3 w Q) : V p l e (RM 2) s m args below meth c 4 ad cy D (AW ad) s.heap 0 0 (MQ below (va_Qi Q (BC ad cy D wm wl0) (AW ad)) args s 0 0 (AW ad)) w wm wl0 0 [(0, .ref (ad 0)), (1, .int a1), (2, .int a2), (3, .int a3)] [] := by
  unfold wp_11_tell at h
  refine V_aload_n X (i := 0) 0 dX11_tell_0 rfl rfl ?_
  refine V_iload_n X (i := 1) 1 dX11_tell_1 rfl rfl ?_
  refine K_11_isMan X (Or.inl q_855) h ⟨Nat.le_of_ble_eq_true rfl, Nat.le_of_ble_eq_true rfl⟩ ⟨Nat.zero_le _, Nat.zero_le _⟩ (st1 := []) (Nat.le_of_ble_eq_true rfl) dX11_tell_2 (fun r2 w1 h => ?_)
  obtain ⟨ht, hf⟩ := h
  refine V_if_eq X (tgt := 30) dX11_tell_5 (by decide) (fun c => ?_) (fun c => ?_)
  · have h := ht c
    refine V_iconst X (v := (-1 : Int32)) dX11_tell_30 (by decide) ?_
    exact V_iret_c X hr dX11_tell_31 h
  · have h := hf c
    refine V_iload_n X (i := 2) 2 dX11_tell_8 rfl rfl ?_
    refine V_iconst X (v := (0 : Int32)) dX11_tell_9 (by decide) ?_
    refine V_sipush X (v := (9999 : Int32)) dX11_tell_10 (by decide) ?_
    refine K_11_within X (Or.inl q_532) h ⟨Nat.le_of_ble_eq_true rfl, Nat.le_of_ble_eq_true rfl⟩ ⟨Nat.zero_le _, Nat.zero_le _⟩ (st1 := []) (Nat.le_of_ble_eq_true rfl) dX11_tell_13 (fun r4 w3 h => ?_)
    obtain ⟨ht, hf⟩ := h
    refine V_if_eq X (tgt := 30) dX11_tell_16 (by decide) (fun c => ?_) (fun c => ?_)
    · have h := ht c
      refine V_iconst X (v := (-1 : Int32)) dX11_tell_30 (by decide) ?_
      exact V_iret_c X hr dX11_tell_31 h
    · have h := hf c
      refine V_iload_n X (i := 3) 3 dX11_tell_19 rfl rfl ?_
      refine V_iconst X (v := (0 : Int32)) dX11_tell_20 (by decide) ?_
      refine V_sipush X (v := (9999 : Int32)) dX11_tell_21 (by decide) ?_
      refine K_11_within X (Or.inl q_532) h ⟨Nat.le_of_ble_eq_true rfl, Nat.le_of_ble_eq_true rfl⟩ ⟨Nat.zero_le _, Nat.zero_le _⟩ (st1 := []) (Nat.le_of_ble_eq_true rfl) dX11_tell_24 (fun r6 w5 h => ?_)
      obtain ⟨ht, hf⟩ := h
      refine V_if_ne X (tgt := 32) dX11_tell_27 (by decide) (fun c => ?_) (fun c => ?_)
      · have h := ht c
        refine V_aload_n X (i := 0) 0 dX11_tell_32 rfl rfl ?_
        refine G_11_80 X dX11_tell_33 ?_
        refine V_iload_n X (i := 1) 1 dX11_tell_36 rfl rfl ?_
        refine V_iload_n X (i := 2) 2 dX11_tell_37 rfl rfl ?_
        refine V_iload_n X (i := 3) 3 dX11_tell_38 rfl rfl ?_
        refine K_10_add X (Or.inl q_1131) h ⟨Nat.le_of_ble_eq_true rfl, Nat.le_of_ble_eq_true rfl⟩ ⟨Nat.zero_le _, Nat.zero_le _⟩ (st1 := []) (Nat.le_of_ble_eq_true rfl) dX11_tell_39 (fun r8 w7 h => ?_)
        exact V_iret_c X hr dX11_tell_42 h
      · have h := hf c
        refine V_iconst X (v := (-1 : Int32)) dX11_tell_30 (by decide) ?_
        exact V_iret_c X hr dX11_tell_31 h
theorem c_11_tell {a1 : Int32} {a2 : Int32} {a3 : Int32} (hinj : INJ ad) {w : Mem} {Q : Int32 → Mem → Prop} (h : wp_11_tell a1 a2 a3 w Q) : Met l yX11_tell (TBq yX11_tell cX11_tell 4 (some .int)) (RM 2) (va_Pc [.ref (ad 0), .int a1, .int a2, .int a3] (PB ad cy D (cmb w wm) wl0)) (va_Qi Q (BC ad cy D wm wl0) (AW ad)) 0 0 (AW ad) := M_enter (by decide) (Nat.le_of_ble_eq_true rfl) hinj (fun p e s m args below meth c X hr => v_11_tell X hr h)
theorem mf_11_tell : MFV yX11_tell cX11_tell 4 (some .int) yX11_tell.cls 3 := ⟨q_1130, q_1128, q_1129, q_1, by decide⟩
theorem K_11_tell {own : String} {idx : Nat} {a1 : Int32} {a2 : Int32} {a3 : Int32} (X : CXq p s m args meth c cc nL own ad cy D A H0) (hL : LK own idx yX11_tell) {w : Mem} {Q : Int32 → Mem → Prop} (h : wp_11_tell a1 a2 a3 w Q) (hR : (RM 2).frames + 1 ≤ R.frames ∧ 8 + (4 + 11) + (RM 2).locals ≤ R.locals) (hce : ce ≤ R.cells ∧ sl ≤ R.slots) (hcat : (st1.map fun v => v.category).sum ≤ 8) (hd : decode cc pc = .ok (.invokevirtual idx, 3)) (kk : ∀ (r : Int32) (u : Mem), Q r u → V p l e R s m args below meth c nL ad cy D A H0 ce sl Qs u wm wl0 (pc + 3) ls (.int r :: st1)) : V p l e R s m args below meth c nL ad cy D A H0 ce sl Qs w wm wl0 pc ls (.int a3 :: .int a2 :: .int a1 :: .ref (ad 0) :: st1) := V_callVI_c X mf_11_tell hL (rfl : vwCl[11]? = some (RX11, TX11, 13)) (by decide) (rfl : SK 0 = 11) (Nat.lt_of_lt_of_le (by decide : 0 < 150) (CX_nn X)) (c_11_tell X.2.2.2.2.2.2.2.1 h) (As := [.int a1, .int a2, .int a3]) rfl ⟨rfl, rfl⟩ hR hce st1 rfl hcat hd kk
set_option maxRecDepth 20000 in
theorem v_11_forget (X : CXq p s m args meth c cX11_forget 2 yX11_forget.cls ad cy D (AW ad) s.heap) (hr : meth.sig.returnType = (some .int)) {w : Mem} {Q : Int32 → Mem → Prop} (h : wp_11_forget w Q) : V p l e (RM 0) s m args below meth c 2 ad cy D (AW ad) s.heap 0 0 (MQ below (va_Qi Q (BC ad cy D wm wl0) (AW ad)) args s 0 0 (AW ad)) w wm wl0 0 [(0, .ref (ad 0))] [] := by
  unfold wp_11_forget at h
  refine V_aload_n X (i := 0) 0 dX11_forget_0 rfl rfl ?_
  refine G_11_80 X dX11_forget_1 ?_
  refine G_11_314 X dX11_forget_4 ?_
  obtain ⟨x1, ex1⟩ : ∃ y : Int32, y = (w 145 3) := ⟨_, rfl⟩
  have h := h x1 ex1
  refine V_istore_n X dX11_forget_7 rfl (by decide) ex1 (ls1 := [(1, .int x1), (0, .ref (ad 0))]) rfl ?_
  refine V_aload_n X (i := 0) 1 dX11_forget_8 rfl rfl ?_
  refine G_11_80 X dX11_forget_9 ?_
  refine V_iconst X (v := (0 : Int32)) dX11_forget_12 (by decide) ?_
  obtain ⟨w2, ew2⟩ : ∃ y : Mem, y = st w 145 3 (0 : Int32) := ⟨_, rfl⟩
  have h := h w2 ew2
  refine U_11_314 X rfl rfl dX11_forget_13 ew2 ?_
  refine V_iload_n X (i := 1) 0 dX11_forget_16 rfl rfl ?_
  exact V_iret_c X hr dX11_forget_17 h
theorem c_11_forget (hinj : INJ ad) {w : Mem} {Q : Int32 → Mem → Prop} (h : wp_11_forget w Q) : Met l yX11_forget (TBq yX11_forget cX11_forget 2 (some .int)) (RM 0) (va_Pc [.ref (ad 0)] (PB ad cy D (cmb w wm) wl0)) (va_Qi Q (BC ad cy D wm wl0) (AW ad)) 0 0 (AW ad) := M_enter (by decide) (Nat.le_of_ble_eq_true rfl) hinj (fun p e s m args below meth c X hr => v_11_forget X hr h)
theorem mf_11_forget : MFV yX11_forget cX11_forget 2 (some .int) yX11_forget.cls 0 := ⟨q_1138, q_1136, q_1137, q_1, by decide⟩
theorem K_11_forget {own : String} {idx : Nat} (X : CXq p s m args meth c cc nL own ad cy D A H0) (hL : LK own idx yX11_forget) {w : Mem} {Q : Int32 → Mem → Prop} (h : wp_11_forget w Q) (hR : (RM 0).frames + 1 ≤ R.frames ∧ 8 + (2 + 11) + (RM 0).locals ≤ R.locals) (hce : ce ≤ R.cells ∧ sl ≤ R.slots) (hcat : (st1.map fun v => v.category).sum ≤ 8) (hd : decode cc pc = .ok (.invokevirtual idx, 3)) (kk : ∀ (r : Int32) (u : Mem), Q r u → V p l e R s m args below meth c nL ad cy D A H0 ce sl Qs u wm wl0 (pc + 3) ls (.int r :: st1)) : V p l e R s m args below meth c nL ad cy D A H0 ce sl Qs w wm wl0 pc ls (.ref (ad 0) :: st1) := V_callVI_c X mf_11_forget hL (rfl : vwCl[11]? = some (RX11, TX11, 13)) (by decide) (rfl : SK 0 = 11) (Nat.lt_of_lt_of_le (by decide : 0 < 150) (CX_nn X)) (c_11_forget X.2.2.2.2.2.2.2.1 h) (As := []) rfl ⟨rfl, rfl⟩ hR hce st1 rfl hcat hd kk
set_option maxRecDepth 20000 in
theorem v_11_mayBeSoLate_b82 (X : CXq p s m args meth c cX11_mayBeSoLate 5 yX11_mayBeSoLate.cls ad cy D (AW ad) s.heap) (hr : meth.sig.returnType = (some .boolean)) {Q : Int32 → Mem → Prop} {L3 : Int32 → Int32 → Int32 → Int32 → Mem → Prop} (HL3 : ∀ (l1 : Int32) (l2 : Int32) (l3 : Int32) (l4 : Int32) (w : Mem), L3 l1 l2 l3 l4 w → V p l e (RM 5) s m args below meth c 5 ad cy D (AW ad) s.heap 0 0 (MQ below (va_Qi Q (BC ad cy D wm wl0) (AW ad)) args s 0 0 (AW ad)) w wm wl0 3 [(0, .ref (ad 0)), (1, .int l1), (2, .int l2), (3, .int l3), (4, .int l4)] []) : ∀ (l1 : Int32) (l2 : Int32) (l3 : Int32) (l4 : Int32) (w : Mem), wp_11_mayBeSoLate_b82 Q L3 l1 l2 l3 l4 w → V p l e (RM 5) s m args below meth c 5 ad cy D (AW ad) s.heap 0 0 (MQ below (va_Qi Q (BC ad cy D wm wl0) (AW ad)) args s 0 0 (AW ad)) w wm wl0 82 [(0, .ref (ad 0)), (1, .int l1), (2, .int l2), (3, .int l3), (4, .int l4)] [] := by
  intro l1 l2 l3 l4 w h
  unfold wp_11_mayBeSoLate_b82 at h
  obtain ⟨x1, ex1⟩ : ∃ y : Int32, y = l4 + (1 : Int32) := ⟨_, rfl⟩
  have h := h x1 ex1
  refine V_iinc X 4 dX11_mayBeSoLate_82 rfl (by decide) (by rw [ex1]; rfl) (ls1 := [(4, .int x1), (0, .ref (ad 0)), (1, .int l1), (2, .int l2), (3, .int l3)]) rfl ?_
  refine V_goto X (tgt := 3) dX11_mayBeSoLate_85 (by decide) ?_
  refine V_sub X (ls1 := [(0, .ref (ad 0)), (1, .int l1), (2, .int l2), (3, .int l3), (4, .int x1)]) [1, 2, 3, 4, 0] rfl ?_
  exact HL3 _ _ _ _ _ h
set_option maxRecDepth 20000 in
theorem v_11_mayBeSoLate_b3 (X : CXq p s m args meth c cX11_mayBeSoLate 5 yX11_mayBeSoLate.cls ad cy D (AW ad) s.heap) (hr : meth.sig.returnType = (some .boolean)) {Q : Int32 → Mem → Prop} : ∀ (n : Nat) (l1 : Int32) (l2 : Int32) (l3 : Int32) (l4 : Int32) (w : Mem), wp_11_mayBeSoLate_b3 Q n l1 l2 l3 l4 w → V p l e (RM 5) s m args below meth c 5 ad cy D (AW ad) s.heap 0 0 (MQ below (va_Qi Q (BC ad cy D wm wl0) (AW ad)) args s 0 0 (AW ad)) w wm wl0 3 [(0, .ref (ad 0)), (1, .int l1), (2, .int l2), (3, .int l3), (4, .int l4)] [] := by
  intro n
  induction n with
  | zero =>
    intro l1 l2 l3 l4 w h
    exact h.elim
  | succ n ih =>
    intro l1 l2 l3 l4 w h
    unfold wp_11_mayBeSoLate_b3 at h
    refine V_iload X (i := 4) 4 dX11_mayBeSoLate_3 rfl ?_
    refine V_iload_n X (i := 2) 2 dX11_mayBeSoLate_5 rfl rfl ?_
    obtain ⟨ht, hf⟩ := h
    refine V_icmp_ge X (tgt := 88) dX11_mayBeSoLate_6 (by decide) (fun c => ?_) (fun c => ?_)
    · have h := ht c
      refine V_iconst X (v := (1 : Int32)) dX11_mayBeSoLate_88 (by decide) ?_
      exact V_zret_c X hr dX11_mayBeSoLate_89 rfl h
    · have h := hf c
      refine V_iload X (i := 4) 4 dX11_mayBeSoLate_9 rfl ?_
      refine V_bipush X (v := (20 : Int32)) dX11_mayBeSoLate_11 (by decide) ?_
      obtain ⟨ht, hf⟩ := h
      refine V_icmp_ge X (tgt := 88) dX11_mayBeSoLate_13 (by decide) (fun c => ?_) (fun c => ?_)
      · have h := ht c
        refine V_iconst X (v := (1 : Int32)) dX11_mayBeSoLate_88 (by decide) ?_
        exact V_zret_c X hr dX11_mayBeSoLate_89 rfl h
      · have h := hf c
        refine V_aload_n X (i := 0) 0 dX11_mayBeSoLate_16 rfl rfl ?_
        refine G_11_80 X dX11_mayBeSoLate_17 ?_
        refine G_11_370 X dX11_mayBeSoLate_20 ?_
        refine V_iload X (i := 4) 4 dX11_mayBeSoLate_23 rfl ?_
        obtain ⟨g1, h⟩ := h
        refine V_iald_c X (rfl : SLq 146 = 20) (by decide) (rfl : SK 146 = 14) g1 dX11_mayBeSoLate_25 ?_
        refine V_iload_n X (i := 1) 1 dX11_mayBeSoLate_26 rfl rfl ?_
        obtain ⟨ht, hf⟩ := h
        refine V_icmp_eq X (tgt := 33) dX11_mayBeSoLate_27 (by decide) (fun c => ?_) (fun c => ?_)
        · have h := ht c
          refine V_aload_n X (i := 0) 0 dX11_mayBeSoLate_33 rfl rfl ?_
          refine G_11_49 X dX11_mayBeSoLate_34 ?_
          refine V_aload_n X (i := 0) 0 dX11_mayBeSoLate_37 rfl rfl ?_
          refine G_11_80 X dX11_mayBeSoLate_38 ?_
          refine G_11_373 X dX11_mayBeSoLate_41 ?_
          refine V_iload X (i := 4) 4 dX11_mayBeSoLate_44 rfl ?_
          obtain ⟨g2, h⟩ := h
          refine V_iald_c X (rfl : SLq 147 = 20) (by decide) (rfl : SK 147 = 14) g2 dX11_mayBeSoLate_46 ?_
          refine K_0_blow X (Or.inl q_783) h ⟨Nat.le_of_ble_eq_true rfl, Nat.le_of_ble_eq_true rfl⟩ ⟨Nat.zero_le _, Nat.zero_le _⟩ (st1 := []) (Nat.le_of_ble_eq_true rfl) dX11_mayBeSoLate_47 (fun w3 h => ?_)
          refine V_aload_n X (i := 0) 0 dX11_mayBeSoLate_50 rfl rfl ?_
          refine G_11_49 X dX11_mayBeSoLate_51 ?_
          refine V_iload_n X (i := 1) 1 dX11_mayBeSoLate_54 rfl rfl ?_
          refine V_iload_n X (i := 3) 3 dX11_mayBeSoLate_55 rfl rfl ?_
          refine V_aload_n X (i := 0) 0 dX11_mayBeSoLate_56 rfl rfl ?_
          refine G_11_41 X dX11_mayBeSoLate_57 ?_
          refine G_11_375 X (inst_Text_48).1 (inst_Text_48).2.1 (Text_r14 inst_Text_48) dX11_mayBeSoLate_60 ?_
          refine V_iconst X (v := (0 : Int32)) dX11_mayBeSoLate_63 (by decide) ?_
          refine K_0_reachOf X (Or.inl q_916) h ⟨Nat.le_of_ble_eq_true rfl, Nat.le_of_ble_eq_true rfl⟩ ⟨Nat.zero_le _, Nat.zero_le _⟩ (st1 := []) (Nat.le_of_ble_eq_true rfl) dX11_mayBeSoLate_64 (fun r5 w4 h => ?_)
          refine V_aload_n X (i := 0) 0 dX11_mayBeSoLate_67 rfl rfl ?_
          refine G_11_80 X dX11_mayBeSoLate_68 ?_
          refine G_11_378 X dX11_mayBeSoLate_71 ?_
          refine V_iload X (i := 4) 4 dX11_mayBeSoLate_74 rfl ?_
          obtain ⟨g6, h⟩ := h
          refine V_iald_c X (rfl : SLq 148 = 20) (by decide) (rfl : SK 148 = 14) g6 dX11_mayBeSoLate_76 ?_
          obtain ⟨ht, hf⟩ := h
          refine V_icmp_eq X (tgt := 82) dX11_mayBeSoLate_77 (by decide) (fun c => ?_) (fun c => ?_)
          · have h := ht c
            refine V_sub X (ls1 := [(0, .ref (ad 0)), (1, .int l1), (2, .int l2), (3, .int l3), (4, .int l4)]) [0, 1, 2, 3, 4] rfl ?_
            exact v_11_mayBeSoLate_b82 X hr ih _ _ _ _ _ h
          · have h := hf c
            refine V_iconst X (v := (0 : Int32)) dX11_mayBeSoLate_80 (by decide) ?_
            exact V_zret_c X hr dX11_mayBeSoLate_81 rfl h
        · have h := hf c
          refine V_goto X (tgt := 82) dX11_mayBeSoLate_30 (by decide) ?_
          refine V_sub X (ls1 := [(0, .ref (ad 0)), (1, .int l1), (2, .int l2), (3, .int l3), (4, .int l4)]) [0, 1, 2, 3, 4] rfl ?_
          exact v_11_mayBeSoLate_b82 X hr ih _ _ _ _ _ h
set_option maxRecDepth 20000 in
theorem v_11_mayBeSoLate {a1 : Int32} {a2 : Int32} {a3 : Int32} (X : CXq p s m args meth c cX11_mayBeSoLate 5 yX11_mayBeSoLate.cls ad cy D (AW ad) s.heap) (hr : meth.sig.returnType = (some .boolean)) {w : Mem} {Q : Int32 → Mem → Prop} (h : wp_11_mayBeSoLate a1 a2 a3 w Q) : V p l e (RM 5) s m args below meth c 5 ad cy D (AW ad) s.heap 0 0 (MQ below (va_Qi Q (BC ad cy D wm wl0) (AW ad)) args s 0 0 (AW ad)) w wm wl0 0 [(0, .ref (ad 0)), (1, .int a1), (2, .int a2), (3, .int a3)] [] := by
  unfold wp_11_mayBeSoLate at h
  refine V_iconst X (v := (0 : Int32)) dX11_mayBeSoLate_0 (by decide) ?_
  refine V_istore X dX11_mayBeSoLate_1 (by decide) rfl (ls1 := [(4, .int (0 : Int32)), (0, .ref (ad 0)), (1, .int a1), (2, .int a2), (3, .int a3)]) rfl ?_
  refine V_sub X (ls1 := [(0, .ref (ad 0)), (1, .int a1), (2, .int a2), (3, .int a3), (4, .int (0 : Int32))]) [1, 2, 3, 4, 0] rfl ?_
  obtain ⟨nn, h⟩ := h
  exact v_11_mayBeSoLate_b3 X hr nn _ _ _ _ _ h
theorem c_11_mayBeSoLate {a1 : Int32} {a2 : Int32} {a3 : Int32} (hinj : INJ ad) {w : Mem} {Q : Int32 → Mem → Prop} (h : wp_11_mayBeSoLate a1 a2 a3 w Q) : Met l yX11_mayBeSoLate (TBq yX11_mayBeSoLate cX11_mayBeSoLate 5 (some .boolean)) (RM 5) (va_Pc [.ref (ad 0), .int a1, .int a2, .int a3] (PB ad cy D (cmb w wm) wl0)) (va_Qi Q (BC ad cy D wm wl0) (AW ad)) 0 0 (AW ad) := M_enter (by decide) (Nat.le_of_ble_eq_true rfl) hinj (fun p e s m args below meth c X hr => v_11_mayBeSoLate X hr h)
theorem mf_11_mayBeSoLate : MFV yX11_mayBeSoLate cX11_mayBeSoLate 5 (some .boolean) yX11_mayBeSoLate.cls 3 := ⟨q_1146, q_1145, qs_36, q_1, by decide⟩
theorem K_11_mayBeSoLate {own : String} {idx : Nat} {a1 : Int32} {a2 : Int32} {a3 : Int32} (X : CXq p s m args meth c cc nL own ad cy D A H0) (hL : LK own idx yX11_mayBeSoLate) {w : Mem} {Q : Int32 → Mem → Prop} (h : wp_11_mayBeSoLate a1 a2 a3 w Q) (hR : (RM 5).frames + 1 ≤ R.frames ∧ 8 + (5 + 11) + (RM 5).locals ≤ R.locals) (hce : ce ≤ R.cells ∧ sl ≤ R.slots) (hcat : (st1.map fun v => v.category).sum ≤ 8) (hd : decode cc pc = .ok (.invokevirtual idx, 3)) (kk : ∀ (r : Int32) (u : Mem), Q r u → V p l e R s m args below meth c nL ad cy D A H0 ce sl Qs u wm wl0 (pc + 3) ls (.int r :: st1)) : V p l e R s m args below meth c nL ad cy D A H0 ce sl Qs w wm wl0 pc ls (.int a3 :: .int a2 :: .int a1 :: .ref (ad 0) :: st1) := V_callVI_c X mf_11_mayBeSoLate hL (rfl : vwCl[11]? = some (RX11, TX11, 13)) (by decide) (rfl : SK 0 = 11) (Nat.lt_of_lt_of_le (by decide : 0 < 150) (CX_nn X)) (c_11_mayBeSoLate X.2.2.2.2.2.2.2.1 h) (As := [.int a1, .int a2, .int a3]) rfl ⟨rfl, rfl⟩ hR hce st1 rfl hcat hd kk
set_option maxRecDepth 20000 in
theorem v_11_slips_b73 (X : CXq p s m args meth c cX11_slips 6 yX11_slips.cls ad cy D (AW ad) s.heap) (hr : meth.sig.returnType = (some .int)) {Q : Int32 → Mem → Prop} {L37 : Int32 → Int32 → Int32 → Int32 → Int32 → Mem → Prop} (HL37 : ∀ (l1 : Int32) (l2 : Int32) (l3 : Int32) (l4 : Int32) (l5 : Int32) (w : Mem), L37 l1 l2 l3 l4 l5 w → V p l e (RM 6) s m args below meth c 6 ad cy D (AW ad) s.heap 0 0 (MQ below (va_Qi Q (BC ad cy D wm wl0) (AW ad)) args s 0 0 (AW ad)) w wm wl0 37 [(0, .ref (ad 0)), (1, .int l1), (2, .int l2), (3, .int l3), (4, .int l4), (5, .int l5)] []) : ∀ (l1 : Int32) (l2 : Int32) (l3 : Int32) (l4 : Int32) (l5 : Int32) (w : Mem), wp_11_slips_b73 Q L37 l1 l2 l3 l4 l5 w → V p l e (RM 6) s m args below meth c 6 ad cy D (AW ad) s.heap 0 0 (MQ below (va_Qi Q (BC ad cy D wm wl0) (AW ad)) args s 0 0 (AW ad)) w wm wl0 73 [(0, .ref (ad 0)), (1, .int l1), (2, .int l2), (3, .int l3), (4, .int l4), (5, .int l5)] [] := by
  intro l1 l2 l3 l4 l5 w h
  unfold wp_11_slips_b73 at h
  obtain ⟨x1, ex1⟩ : ∃ y : Int32, y = l5 + (1 : Int32) := ⟨_, rfl⟩
  have h := h x1 ex1
  refine V_iinc X 5 dX11_slips_73 rfl (by decide) (by rw [ex1]; rfl) (ls1 := [(5, .int x1), (0, .ref (ad 0)), (1, .int l1), (2, .int l2), (3, .int l3), (4, .int l4)]) rfl ?_
  refine V_goto X (tgt := 37) dX11_slips_76 (by decide) ?_
  refine V_sub X (ls1 := [(0, .ref (ad 0)), (1, .int l1), (2, .int l2), (3, .int l3), (4, .int l4), (5, .int x1)]) [1, 2, 3, 4, 5, 0] rfl ?_
  exact HL37 _ _ _ _ _ _ h
set_option maxRecDepth 20000 in
theorem v_11_slips_b37 (X : CXq p s m args meth c cX11_slips 6 yX11_slips.cls ad cy D (AW ad) s.heap) (hr : meth.sig.returnType = (some .int)) {Q : Int32 → Mem → Prop} : ∀ (n : Nat) (l1 : Int32) (l2 : Int32) (l3 : Int32) (l4 : Int32) (l5 : Int32) (w : Mem), wp_11_slips_b37 Q n l1 l2 l3 l4 l5 w → V p l e (RM 6) s m args below meth c 6 ad cy D (AW ad) s.heap 0 0 (MQ below (va_Qi Q (BC ad cy D wm wl0) (AW ad)) args s 0 0 (AW ad)) w wm wl0 37 [(0, .ref (ad 0)), (1, .int l1), (2, .int l2), (3, .int l3), (4, .int l4), (5, .int l5)] [] := by
  intro n
  induction n with
  | zero =>
    intro l1 l2 l3 l4 l5 w h
    exact h.elim
  | succ n ih =>
    intro l1 l2 l3 l4 l5 w h
    unfold wp_11_slips_b37 at h
    refine V_iload X (i := 5) 5 dX11_slips_37 rfl ?_
    refine V_bipush X (v := (9 : Int32)) dX11_slips_39 (by decide) ?_
    obtain ⟨ht, hf⟩ := h
    refine V_icmp_gt X (tgt := 79) dX11_slips_41 (by decide) (fun c => ?_) (fun c => ?_)
    · have h := ht c
      refine V_iload_n X (i := 3) 3 dX11_slips_79 rfl rfl ?_
      refine V_iconst X (v := (-1 : Int32)) dX11_slips_80 (by decide) ?_
      obtain ⟨ht, hf⟩ := h
      refine V_icmp_ne X (tgt := 89) dX11_slips_81 (by decide) (fun c => ?_) (fun c => ?_)
      · have h := ht c
        refine V_iconst X (v := (-1 : Int32)) dX11_slips_89 (by decide) ?_
        exact V_iret_c X hr dX11_slips_90 h
      · have h := hf c
        refine V_iload X (i := 4) 4 dX11_slips_84 rfl ?_
        refine V_goto X (tgt := 90) dX11_slips_86 (by decide) ?_
        exact V_iret_c X hr dX11_slips_90 h
    · have h := hf c
      refine V_aload_n X (i := 0) 0 dX11_slips_44 rfl rfl ?_
      refine V_iload_n X (i := 1) 1 dX11_slips_45 rfl rfl ?_
      refine V_iload_n X (i := 2) 2 dX11_slips_46 rfl rfl ?_
      refine V_iload X (i := 5) 5 dX11_slips_47 rfl ?_
      refine K_11_mayBeSoLate X (Or.inl q_1143) h ⟨Nat.le_of_ble_eq_true rfl, Nat.le_of_ble_eq_true rfl⟩ ⟨Nat.zero_le _, Nat.zero_le _⟩ (st1 := []) (Nat.le_of_ble_eq_true rfl) dX11_slips_49 (fun r2 w1 h => ?_)
      obtain ⟨ht, hf⟩ := h
      refine V_if_ne X (tgt := 58) dX11_slips_52 (by decide) (fun c => ?_) (fun c => ?_)
      · have h := ht c
        refine V_iload X (i := 4) 4 dX11_slips_58 rfl ?_
        refine V_iload_n X (i := 3) 3 dX11_slips_60 rfl rfl ?_
        obtain ⟨ht, hf⟩ := h
        refine V_icmp_ne X (tgt := 70) dX11_slips_61 (by decide) (fun c => ?_) (fun c => ?_)
        · have h := ht c
          obtain ⟨x3, ex3⟩ : ∃ y : Int32, y = l4 + (1 : Int32) := ⟨_, rfl⟩
          have h := h x3 ex3
          refine V_iinc X 4 dX11_slips_70 rfl (by decide) (by rw [ex3]; rfl) (ls1 := [(4, .int x3), (0, .ref (ad 0)), (1, .int l1), (2, .int l2), (3, .int l3), (5, .int l5)]) rfl ?_
          refine V_sub X (ls1 := [(0, .ref (ad 0)), (1, .int l1), (2, .int l2), (3, .int l3), (4, .int x3), (5, .int l5)]) [1, 2, 3, 4, 0, 5] rfl ?_
          exact v_11_slips_b73 X hr ih _ _ _ _ _ _ h
        · have h := hf c
          refine V_iload X (i := 5) 5 dX11_slips_64 rfl ?_
          refine V_bipush X (v := (9 : Int32)) dX11_slips_66 (by decide) ?_
          refine V_iadd X dX11_slips_68 ?_
          exact V_iret_c X hr dX11_slips_69 h
      · have h := hf c
        refine V_goto X (tgt := 73) dX11_slips_55 (by decide) ?_
        refine V_sub X (ls1 := [(0, .ref (ad 0)), (1, .int l1), (2, .int l2), (3, .int l3), (4, .int l4), (5, .int l5)]) [0, 1, 2, 3, 4, 5] rfl ?_
        exact v_11_slips_b73 X hr ih _ _ _ _ _ _ h
set_option maxRecDepth 20000 in
theorem v_11_slips {a1 : Int32} {a2 : Int32} {a3 : Int32} (X : CXq p s m args meth c cX11_slips 6 yX11_slips.cls ad cy D (AW ad) s.heap) (hr : meth.sig.returnType = (some .int)) {w : Mem} {Q : Int32 → Mem → Prop} (h : wp_11_slips a1 a2 a3 w Q) : V p l e (RM 6) s m args below meth c 6 ad cy D (AW ad) s.heap 0 0 (MQ below (va_Qi Q (BC ad cy D wm wl0) (AW ad)) args s 0 0 (AW ad)) w wm wl0 0 [(0, .ref (ad 0)), (1, .int a1), (2, .int a2), (3, .int a3)] [] := by
  unfold wp_11_slips at h
  refine V_aload_n X (i := 0) 0 dX11_slips_0 rfl rfl ?_
  refine V_iload_n X (i := 1) 1 dX11_slips_1 rfl rfl ?_
  refine K_11_isMan X (Or.inl q_855) h ⟨Nat.le_of_ble_eq_true rfl, Nat.le_of_ble_eq_true rfl⟩ ⟨Nat.zero_le _, Nat.zero_le _⟩ (st1 := []) (Nat.le_of_ble_eq_true rfl) dX11_slips_2 (fun r2 w1 h => ?_)
  obtain ⟨ht, hf⟩ := h
  refine V_if_eq X (tgt := 28) dX11_slips_5 (by decide) (fun c => ?_) (fun c => ?_)
  · have h := ht c
    refine V_iconst X (v := (-1 : Int32)) dX11_slips_28 (by decide) ?_
    exact V_iret_c X hr dX11_slips_29 h
  · have h := hf c
    refine V_iload_n X (i := 2) 2 dX11_slips_8 rfl rfl ?_
    refine V_iconst X (v := (0 : Int32)) dX11_slips_9 (by decide) ?_
    refine V_aload_n X (i := 0) 0 dX11_slips_10 rfl rfl ?_
    refine G_11_80 X dX11_slips_11 ?_
    refine G_11_314 X dX11_slips_14 ?_
    refine K_11_within X (Or.inl q_532) h ⟨Nat.le_of_ble_eq_true rfl, Nat.le_of_ble_eq_true rfl⟩ ⟨Nat.zero_le _, Nat.zero_le _⟩ (st1 := []) (Nat.le_of_ble_eq_true rfl) dX11_slips_17 (fun r4 w3 h => ?_)
    obtain ⟨ht, hf⟩ := h
    refine V_if_eq X (tgt := 28) dX11_slips_20 (by decide) (fun c => ?_) (fun c => ?_)
    · have h := ht c
      refine V_iconst X (v := (-1 : Int32)) dX11_slips_28 (by decide) ?_
      exact V_iret_c X hr dX11_slips_29 h
    · have h := hf c
      refine V_iload_n X (i := 3) 3 dX11_slips_23 rfl rfl ?_
      refine V_iconst X (v := (-1 : Int32)) dX11_slips_24 (by decide) ?_
      obtain ⟨ht, hf⟩ := h
      refine V_icmp_ge X (tgt := 30) dX11_slips_25 (by decide) (fun c => ?_) (fun c => ?_)
      · have h := ht c
        refine V_iconst X (v := (0 : Int32)) dX11_slips_30 (by decide) ?_
        refine V_istore X dX11_slips_31 (by decide) rfl (ls1 := [(4, .int (0 : Int32)), (0, .ref (ad 0)), (1, .int a1), (2, .int a2), (3, .int a3)]) rfl ?_
        refine V_bipush X (v := (-9 : Int32)) dX11_slips_33 (by decide) ?_
        refine V_istore X dX11_slips_35 (by decide) rfl (ls1 := [(5, .int (-9 : Int32)), (4, .int (0 : Int32)), (0, .ref (ad 0)), (1, .int a1), (2, .int a2), (3, .int a3)]) rfl ?_
        refine V_sub X (ls1 := [(0, .ref (ad 0)), (1, .int a1), (2, .int a2), (3, .int a3), (4, .int (0 : Int32)), (5, .int (-9 : Int32))]) [2, 3, 4, 5, 1, 0] rfl ?_
        obtain ⟨nn, h⟩ := h
        exact v_11_slips_b37 X hr nn _ _ _ _ _ _ h
      · have h := hf c
        refine V_iconst X (v := (-1 : Int32)) dX11_slips_28 (by decide) ?_
        exact V_iret_c X hr dX11_slips_29 h
theorem c_11_slips {a1 : Int32} {a2 : Int32} {a3 : Int32} (hinj : INJ ad) {w : Mem} {Q : Int32 → Mem → Prop} (h : wp_11_slips a1 a2 a3 w Q) : Met l yX11_slips (TBq yX11_slips cX11_slips 6 (some .int)) (RM 6) (va_Pc [.ref (ad 0), .int a1, .int a2, .int a3] (PB ad cy D (cmb w wm) wl0)) (va_Qi Q (BC ad cy D wm wl0) (AW ad)) 0 0 (AW ad) := M_enter (by decide) (Nat.le_of_ble_eq_true rfl) hinj (fun p e s m args below meth c X hr => v_11_slips X hr h)
theorem mf_11_slips : MFV yX11_slips cX11_slips 6 (some .int) yX11_slips.cls 3 := ⟨q_1142, q_1140, q_1141, q_1, by decide⟩
theorem K_11_slips {own : String} {idx : Nat} {a1 : Int32} {a2 : Int32} {a3 : Int32} (X : CXq p s m args meth c cc nL own ad cy D A H0) (hL : LK own idx yX11_slips) {w : Mem} {Q : Int32 → Mem → Prop} (h : wp_11_slips a1 a2 a3 w Q) (hR : (RM 6).frames + 1 ≤ R.frames ∧ 8 + (6 + 11) + (RM 6).locals ≤ R.locals) (hce : ce ≤ R.cells ∧ sl ≤ R.slots) (hcat : (st1.map fun v => v.category).sum ≤ 8) (hd : decode cc pc = .ok (.invokevirtual idx, 3)) (kk : ∀ (r : Int32) (u : Mem), Q r u → V p l e R s m args below meth c nL ad cy D A H0 ce sl Qs u wm wl0 (pc + 3) ls (.int r :: st1)) : V p l e R s m args below meth c nL ad cy D A H0 ce sl Qs w wm wl0 pc ls (.int a3 :: .int a2 :: .int a1 :: .ref (ad 0) :: st1) := V_callVI_c X mf_11_slips hL (rfl : vwCl[11]? = some (RX11, TX11, 13)) (by decide) (rfl : SK 0 = 11) (Nat.lt_of_lt_of_le (by decide : 0 < 150) (CX_nn X)) (c_11_slips X.2.2.2.2.2.2.2.1 h) (As := [.int a1, .int a2, .int a3]) rfl ⟨rfl, rfl⟩ hR hce st1 rfl hcat hd kk
set_option maxRecDepth 20000 in
theorem v_11_hold {a1 : Int32} (X : CXq p s m args meth c cX11_hold 2 yX11_hold.cls ad cy D (AW ad) s.heap) (hr : meth.sig.returnType = (some .boolean)) {w : Mem} {Q : Int32 → Mem → Prop} (h : wp_11_hold a1 w Q) : V p l e (RM 4) s m args below meth c 2 ad cy D (AW ad) s.heap 0 0 (MQ below (va_Qi Q (BC ad cy D wm wl0) (AW ad)) args s 0 0 (AW ad)) w wm wl0 0 [(0, .ref (ad 0)), (1, .int a1)] [] := by
  unfold wp_11_hold at h
  refine V_aload_n X (i := 0) 0 dX11_hold_0 rfl rfl ?_
  refine G_11_73 X dX11_hold_1 ?_
  refine V_iload_n X (i := 1) 1 dX11_hold_4 rfl rfl ?_
  refine V_aload_n X (i := 0) 0 dX11_hold_5 rfl rfl ?_
  refine G_11_56 X dX11_hold_6 ?_
  refine K_6_putInto X (Or.inl q_1151) inst_Play_89 h ⟨Nat.le_of_ble_eq_true rfl, Nat.le_of_ble_eq_true rfl⟩ ⟨Nat.zero_le _, Nat.zero_le _⟩ (st1 := []) (Nat.le_of_ble_eq_true rfl) dX11_hold_9 (fun r2 w1 h => ?_)
  exact V_zret_c X hr dX11_hold_12 (bo_z h.1) h.2
theorem c_11_hold {a1 : Int32} (hinj : INJ ad) {w : Mem} {Q : Int32 → Mem → Prop} (h : wp_11_hold a1 w Q) : Met l yX11_hold (TBq yX11_hold cX11_hold 2 (some .boolean)) (RM 4) (va_Pc [.ref (ad 0), .int a1] (PB ad cy D (cmb w wm) wl0)) (va_Qi Q (BC ad cy D wm wl0) (AW ad)) 0 0 (AW ad) := M_enter (by decide) (Nat.le_of_ble_eq_true rfl) hinj (fun p e s m args below meth c X hr => v_11_hold X hr h)
theorem mf_11_hold : MFV yX11_hold cX11_hold 2 (some .boolean) yX11_hold.cls 1 := ⟨q_1150, q_1148, q_1149, q_1, by decide⟩
theorem K_11_hold {own : String} {idx : Nat} {a1 : Int32} (X : CXq p s m args meth c cc nL own ad cy D A H0) (hL : LK own idx yX11_hold) {w : Mem} {Q : Int32 → Mem → Prop} (h : wp_11_hold a1 w Q) (hR : (RM 4).frames + 1 ≤ R.frames ∧ 8 + (2 + 11) + (RM 4).locals ≤ R.locals) (hce : ce ≤ R.cells ∧ sl ≤ R.slots) (hcat : (st1.map fun v => v.category).sum ≤ 8) (hd : decode cc pc = .ok (.invokevirtual idx, 3)) (kk : ∀ (r : Int32) (u : Mem), Q r u → V p l e R s m args below meth c nL ad cy D A H0 ce sl Qs u wm wl0 (pc + 3) ls (.int r :: st1)) : V p l e R s m args below meth c nL ad cy D A H0 ce sl Qs w wm wl0 pc ls (.int a1 :: .ref (ad 0) :: st1) := V_callVI_c X mf_11_hold hL (rfl : vwCl[11]? = some (RX11, TX11, 13)) (by decide) (rfl : SK 0 = 11) (Nat.lt_of_lt_of_le (by decide : 0 < 150) (CX_nn X)) (c_11_hold X.2.2.2.2.2.2.2.1 h) (As := [.int a1]) rfl ⟨rfl, rfl⟩ hR hce st1 rfl hcat hd kk
set_option maxRecDepth 20000 in
theorem v_11_restore {a1 : Int32} (X : CXq p s m args meth c cX11_restore 2 yX11_restore.cls ad cy D (AW ad) s.heap) (hr : meth.sig.returnType = (some .boolean)) {w : Mem} {Q : Int32 → Mem → Prop} (h : wp_11_restore a1 w Q) : V p l e (RM 4) s m args below meth c 2 ad cy D (AW ad) s.heap 0 0 (MQ below (va_Qi Q (BC ad cy D wm wl0) (AW ad)) args s 0 0 (AW ad)) w wm wl0 0 [(0, .ref (ad 0)), (1, .int a1)] [] := by
  unfold wp_11_restore at h
  refine V_aload_n X (i := 0) 0 dX11_restore_0 rfl rfl ?_
  refine G_11_73 X dX11_restore_1 ?_
  refine V_iload_n X (i := 1) 1 dX11_restore_4 rfl rfl ?_
  refine V_aload_n X (i := 0) 0 dX11_restore_5 rfl rfl ?_
  refine G_11_56 X dX11_restore_6 ?_
  refine K_6_giveBack X (Or.inl q_1161) inst_Play_89 h ⟨Nat.le_of_ble_eq_true rfl, Nat.le_of_ble_eq_true rfl⟩ ⟨Nat.zero_le _, Nat.zero_le _⟩ (st1 := []) (Nat.le_of_ble_eq_true rfl) dX11_restore_9 (fun r2 w1 h => ?_)
  obtain ⟨ht, hf⟩ := h
  refine V_if_ne X (tgt := 17) dX11_restore_12 (by decide) (fun c => ?_) (fun c => ?_)
  · have h := ht c
    refine V_aload_n X (i := 0) 0 dX11_restore_17 rfl rfl ?_
    refine G_11_66 X dX11_restore_18 ?_
    refine K_1_clear X (Or.inl q_467) h ⟨Nat.le_of_ble_eq_true rfl, Nat.le_of_ble_eq_true rfl⟩ ⟨Nat.zero_le _, Nat.zero_le _⟩ (st1 := []) (Nat.le_of_ble_eq_true rfl) dX11_restore_21 (fun w3 h => ?_)
    refine V_iconst X (v := (1 : Int32)) dX11_restore_24 (by decide) ?_
    exact V_zret_c X hr dX11_restore_25 rfl h
  · have h := hf c
    refine V_iconst X (v := (0 : Int32)) dX11_restore_15 (by decide) ?_
    exact V_zret_c X hr dX11_restore_16 rfl h
theorem c_11_restore {a1 : Int32} (hinj : INJ ad) {w : Mem} {Q : Int32 → Mem → Prop} (h : wp_11_restore a1 w Q) : Met l yX11_restore (TBq yX11_restore cX11_restore 2 (some .boolean)) (RM 4) (va_Pc [.ref (ad 0), .int a1] (PB ad cy D (cmb w wm) wl0)) (va_Qi Q (BC ad cy D wm wl0) (AW ad)) 0 0 (AW ad) := M_enter (by decide) (Nat.le_of_ble_eq_true rfl) hinj (fun p e s m args below meth c X hr => v_11_restore X hr h)
theorem mf_11_restore : MFV yX11_restore cX11_restore 2 (some .boolean) yX11_restore.cls 1 := ⟨q_1160, q_1158, q_1159, q_1, by decide⟩
theorem K_11_restore {own : String} {idx : Nat} {a1 : Int32} (X : CXq p s m args meth c cc nL own ad cy D A H0) (hL : LK own idx yX11_restore) {w : Mem} {Q : Int32 → Mem → Prop} (h : wp_11_restore a1 w Q) (hR : (RM 4).frames + 1 ≤ R.frames ∧ 8 + (2 + 11) + (RM 4).locals ≤ R.locals) (hce : ce ≤ R.cells ∧ sl ≤ R.slots) (hcat : (st1.map fun v => v.category).sum ≤ 8) (hd : decode cc pc = .ok (.invokevirtual idx, 3)) (kk : ∀ (r : Int32) (u : Mem), Q r u → V p l e R s m args below meth c nL ad cy D A H0 ce sl Qs u wm wl0 (pc + 3) ls (.int r :: st1)) : V p l e R s m args below meth c nL ad cy D A H0 ce sl Qs w wm wl0 pc ls (.int a1 :: .ref (ad 0) :: st1) := V_callVI_c X mf_11_restore hL (rfl : vwCl[11]? = some (RX11, TX11, 13)) (by decide) (rfl : SK 0 = 11) (Nat.lt_of_lt_of_le (by decide : 0 < 150) (CX_nn X)) (c_11_restore X.2.2.2.2.2.2.2.1 h) (As := [.int a1]) rfl ⟨rfl, rfl⟩ hR hce st1 rfl hcat hd kk
set_option maxRecDepth 20000 in
theorem v_11_count {a1 : Int32} (X : CXq p s m args meth c cX11_count 2 yX11_count.cls ad cy D (AW ad) s.heap) (hr : meth.sig.returnType = (some .int)) {w : Mem} {Q : Int32 → Mem → Prop} (h : wp_11_count a1 w Q) : V p l e (RM 4) s m args below meth c 2 ad cy D (AW ad) s.heap 0 0 (MQ below (va_Qi Q (BC ad cy D wm wl0) (AW ad)) args s 0 0 (AW ad)) w wm wl0 0 [(0, .ref (ad 0)), (1, .int a1)] [] := by
  unfold wp_11_count at h
  refine V_iload_n X (i := 1) 1 dX11_count_0 rfl rfl ?_
  obtain ⟨ht, h⟩ := h
  by_cases c0 : a1 = (0 : Int32)
  · have h := ht c0
    refine V_tableIn X (tgt := 68) dX11_count_1 (by rw [c0]; decide) (by rw [c0]; decide) (off := 67) (by rw [c0]; decide) (by decide) ?_
    refine V_aload_n X (i := 0) 0 dX11_count_68 rfl rfl ?_
    refine G_11_41 X dX11_count_69 ?_
    refine G_11_216 X (inst_Text_48).1 (inst_Text_48).2.1 (Text_r6 inst_Text_48) dX11_count_72 ?_
    refine G_11_239 X (inst_People_80).1 (inst_People_80).2.1 (People_r6 inst_People_80) dX11_count_75 ?_
    exact V_iret_c X hr dX11_count_78 h
  have h := h c0
  obtain ⟨ht, h⟩ := h
  by_cases c1 : a1 = (1 : Int32)
  · have h := ht c1
    refine V_tableIn X (tgt := 79) dX11_count_1 (by rw [c1]; decide) (by rw [c1]; decide) (off := 78) (by rw [c1]; decide) (by decide) ?_
    refine V_aload_n X (i := 0) 0 dX11_count_79 rfl rfl ?_
    refine G_11_41 X dX11_count_80 ?_
    refine G_11_216 X (inst_Text_48).1 (inst_Text_48).2.1 (Text_r6 inst_Text_48) dX11_count_83 ?_
    refine G_11_299 X (inst_People_80).1 (inst_People_80).2.1 (People_r7 inst_People_80) dX11_count_86 ?_
    exact V_iret_c X hr dX11_count_89 h
  have h := h c1
  obtain ⟨ht, h⟩ := h
  by_cases c2 : a1 = (2 : Int32)
  · have h := ht c2
    refine V_tableIn X (tgt := 90) dX11_count_1 (by rw [c2]; decide) (by rw [c2]; decide) (off := 89) (by rw [c2]; decide) (by decide) ?_
    refine V_aload_n X (i := 0) 0 dX11_count_90 rfl rfl ?_
    refine G_11_41 X dX11_count_91 ?_
    refine G_11_328 X (inst_Text_48).1 (inst_Text_48).2.1 (Text_r7 inst_Text_48) dX11_count_94 ?_
    exact V_iret_c X hr dX11_count_97 h
  have h := h c2
  obtain ⟨ht, h⟩ := h
  by_cases c3 : a1 = (3 : Int32)
  · have h := ht c3
    refine V_tableIn X (tgt := 98) dX11_count_1 (by rw [c3]; decide) (by rw [c3]; decide) (off := 97) (by rw [c3]; decide) (by decide) ?_
    refine V_aload_n X (i := 0) 0 dX11_count_98 rfl rfl ?_
    refine G_11_41 X dX11_count_99 ?_
    refine G_11_331 X (inst_Text_48).1 (inst_Text_48).2.1 (Text_r8 inst_Text_48) dX11_count_102 ?_
    exact V_iret_c X hr dX11_count_105 h
  have h := h c3
  obtain ⟨ht, h⟩ := h
  by_cases c4 : a1 = (4 : Int32)
  · have h := ht c4
    refine V_tableIn X (tgt := 106) dX11_count_1 (by rw [c4]; decide) (by rw [c4]; decide) (off := 105) (by rw [c4]; decide) (by decide) ?_
    refine V_aload_n X (i := 0) 0 dX11_count_106 rfl rfl ?_
    refine G_11_41 X dX11_count_107 ?_
    refine G_11_334 X (inst_Text_48).1 (inst_Text_48).2.1 (Text_r9 inst_Text_48) dX11_count_110 ?_
    exact V_iret_c X hr dX11_count_113 h
  have h := h c4
  obtain ⟨ht, h⟩ := h
  by_cases c5 : a1 = (5 : Int32)
  · have h := ht c5
    refine V_tableIn X (tgt := 114) dX11_count_1 (by rw [c5]; decide) (by rw [c5]; decide) (off := 113) (by rw [c5]; decide) (by decide) ?_
    refine V_aload_n X (i := 0) 0 dX11_count_114 rfl rfl ?_
    refine G_11_41 X dX11_count_115 ?_
    refine G_11_188 X (inst_Text_48).1 (inst_Text_48).2.1 (Text_r12 inst_Text_48) dX11_count_118 ?_
    exact V_iret_c X hr dX11_count_121 h
  have h := h c5
  obtain ⟨ht, h⟩ := h
  by_cases c6 : a1 = (6 : Int32)
  · have h := ht c6
    refine V_tableIn X (tgt := 122) dX11_count_1 (by rw [c6]; decide) (by rw [c6]; decide) (off := 121) (by rw [c6]; decide) (by decide) ?_
    refine V_aload_n X (i := 0) 0 dX11_count_122 rfl rfl ?_
    refine G_11_41 X dX11_count_123 ?_
    refine G_11_337 X (inst_Text_48).1 (inst_Text_48).2.1 (Text_r16 inst_Text_48) dX11_count_126 ?_
    exact V_iret_c X hr dX11_count_129 h
  have h := h c6
  obtain ⟨ht, h⟩ := h
  by_cases c7 : a1 = (7 : Int32)
  · have h := ht c7
    refine V_tableIn X (tgt := 130) dX11_count_1 (by rw [c7]; decide) (by rw [c7]; decide) (off := 129) (by rw [c7]; decide) (by decide) ?_
    refine V_aload_n X (i := 0) 0 dX11_count_130 rfl rfl ?_
    refine G_11_56 X dX11_count_131 ?_
    refine V_aload_n X (i := 0) 0 dX11_count_134 rfl rfl ?_
    refine G_11_41 X dX11_count_135 ?_
    refine G_11_331 X (inst_Text_48).1 (inst_Text_48).2.1 (Text_r8 inst_Text_48) dX11_count_138 ?_
    refine K_5_jumpsBeyond X (Or.inl q_1170) inst_Play_89 h ⟨Nat.le_of_ble_eq_true rfl, Nat.le_of_ble_eq_true rfl⟩ ⟨Nat.zero_le _, Nat.zero_le _⟩ (st1 := []) (Nat.le_of_ble_eq_true rfl) dX11_count_141 (fun r2 w1 h => ?_)
    exact V_iret_c X hr dX11_count_144 h
  have h := h c7
  obtain ⟨ht, h⟩ := h
  by_cases c8 : a1 = (8 : Int32)
  · have h := ht c8
    refine V_tableIn X (tgt := 145) dX11_count_1 (by rw [c8]; decide) (by rw [c8]; decide) (off := 144) (by rw [c8]; decide) (by decide) ?_
    refine V_aload_n X (i := 0) 0 dX11_count_145 rfl rfl ?_
    refine G_11_10 X dX11_count_146 ?_
    refine G_11_109 X dX11_count_149 ?_
    exact V_iret_c X hr dX11_count_152 h
  have h := h c8
  obtain ⟨ht, h⟩ := h
  by_cases c9 : a1 = (9 : Int32)
  · have h := ht c9
    refine V_tableIn X (tgt := 153) dX11_count_1 (by rw [c9]; decide) (by rw [c9]; decide) (off := 152) (by rw [c9]; decide) (by decide) ?_
    refine V_aload_n X (i := 0) 0 dX11_count_153 rfl rfl ?_
    refine G_11_66 X dX11_count_154 ?_
    refine G_11_343 X dX11_count_157 ?_
    exact V_iret_c X hr dX11_count_160 h
  have h := h c9
  obtain ⟨ht, h⟩ := h
  by_cases c10 : a1 = (10 : Int32)
  · have h := ht c10
    refine V_tableIn X (tgt := 161) dX11_count_1 (by rw [c10]; decide) (by rw [c10]; decide) (off := 160) (by rw [c10]; decide) (by decide) ?_
    refine V_aload_n X (i := 0) 0 dX11_count_161 rfl rfl ?_
    refine G_11_80 X dX11_count_162 ?_
    refine G_11_314 X dX11_count_165 ?_
    exact V_iret_c X hr dX11_count_168 h
  have h := h c10
  obtain ⟨ht, h⟩ := h
  by_cases c11 : a1 = (11 : Int32)
  · have h := ht c11
    refine V_tableIn X (tgt := 169) dX11_count_1 (by rw [c11]; decide) (by rw [c11]; decide) (off := 168) (by rw [c11]; decide) (by decide) ?_
    refine V_aload_n X (i := 0) 0 dX11_count_169 rfl rfl ?_
    refine G_11_73 X dX11_count_170 ?_
    refine K_6_countHeld X (Or.inl q_1174) h ⟨Nat.le_of_ble_eq_true rfl, Nat.le_of_ble_eq_true rfl⟩ ⟨Nat.zero_le _, Nat.zero_le _⟩ (st1 := []) (Nat.le_of_ble_eq_true rfl) dX11_count_173 (fun r4 w3 h => ?_)
    exact V_iret_c X hr dX11_count_176 h
  have h := h c11
  obtain ⟨ht, h⟩ := h
  by_cases c12 : a1 = (12 : Int32)
  · have h := ht c12
    refine V_tableIn X (tgt := 177) dX11_count_1 (by rw [c12]; decide) (by rw [c12]; decide) (off := 176) (by rw [c12]; decide) (by decide) ?_
    refine V_aload_n X (i := 0) 0 dX11_count_177 rfl rfl ?_
    refine G_11_56 X dX11_count_178 ?_
    refine K_5_longest X (Or.inl q_1178) inst_Play_89 h ⟨Nat.le_of_ble_eq_true rfl, Nat.le_of_ble_eq_true rfl⟩ ⟨Nat.zero_le _, Nat.zero_le _⟩ (st1 := []) (Nat.le_of_ble_eq_true rfl) dX11_count_181 (fun r6 w5 h => ?_)
    exact V_iret_c X hr dX11_count_184 h
  have h := h c12
  have z0 := tne c0 (z := 0) (by decide)
  have z1 := tne c1 (z := 1) (by decide)
  have z2 := tne c2 (z := 2) (by decide)
  have z3 := tne c3 (z := 3) (by decide)
  have z4 := tne c4 (z := 4) (by decide)
  have z5 := tne c5 (z := 5) (by decide)
  have z6 := tne c6 (z := 6) (by decide)
  have z7 := tne c7 (z := 7) (by decide)
  have z8 := tne c8 (z := 8) (by decide)
  have z9 := tne c9 (z := 9) (by decide)
  have z10 := tne c10 (z := 10) (by decide)
  have z11 := tne c11 (z := 11) (by decide)
  have z12 := tne c12 (z := 12) (by decide)
  refine V_tableOut X (tgt := 185) dX11_count_1 (by omega) (by decide) ?_
  refine V_iconst X (v := (-1 : Int32)) dX11_count_185 (by decide) ?_
  exact V_iret_c X hr dX11_count_186 h
theorem c_11_count {a1 : Int32} (hinj : INJ ad) {w : Mem} {Q : Int32 → Mem → Prop} (h : wp_11_count a1 w Q) : Met l yX11_count (TBq yX11_count cX11_count 2 (some .int)) (RM 4) (va_Pc [.ref (ad 0), .int a1] (PB ad cy D (cmb w wm) wl0)) (va_Qi Q (BC ad cy D wm wl0) (AW ad)) 0 0 (AW ad) := M_enter (by decide) (Nat.le_of_ble_eq_true rfl) hinj (fun p e s m args below meth c X hr => v_11_count X hr h)
theorem mf_11_count : MFV yX11_count cX11_count 2 (some .int) yX11_count.cls 1 := ⟨q_1169, q_1167, q_1168, q_1, by decide⟩
theorem K_11_count {own : String} {idx : Nat} {a1 : Int32} (X : CXq p s m args meth c cc nL own ad cy D A H0) (hL : LK own idx yX11_count) {w : Mem} {Q : Int32 → Mem → Prop} (h : wp_11_count a1 w Q) (hR : (RM 4).frames + 1 ≤ R.frames ∧ 8 + (2 + 11) + (RM 4).locals ≤ R.locals) (hce : ce ≤ R.cells ∧ sl ≤ R.slots) (hcat : (st1.map fun v => v.category).sum ≤ 8) (hd : decode cc pc = .ok (.invokevirtual idx, 3)) (kk : ∀ (r : Int32) (u : Mem), Q r u → V p l e R s m args below meth c nL ad cy D A H0 ce sl Qs u wm wl0 (pc + 3) ls (.int r :: st1)) : V p l e R s m args below meth c nL ad cy D A H0 ce sl Qs w wm wl0 pc ls (.int a1 :: .ref (ad 0) :: st1) := V_callVI_c X mf_11_count hL (rfl : vwCl[11]? = some (RX11, TX11, 13)) (by decide) (rfl : SK 0 = 11) (Nat.lt_of_lt_of_le (by decide : 0 < 150) (CX_nn X)) (c_11_count X.2.2.2.2.2.2.2.1 h) (As := [.int a1]) rfl ⟨rfl, rfl⟩ hR hce st1 rfl hcat hd kk
end
