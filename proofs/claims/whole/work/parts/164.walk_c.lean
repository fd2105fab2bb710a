-- printed by wip/whole/gen6.py out of the decode rows and the tables
section
variable {p : Program} {l : Launch} {e : Env} {R : Room} {s : State} {m : MethodId} {args : Array Value} {below : List Frame} {meth : Method} {c : Code} {cc : ByteArray} {nL : Nat} {ad : Nat → Nat} {cy : Nat → ClassId} {D : va_G} {A : Nat → Prop} {H0 : Heap} {ce sl : Nat} {Qs : State → Prop} {wc wm : Mem} {wl0 : MemL} {pc : Nat} {ls : List (Nat × Value)} {st1 : List Value}
set_option maxRecDepth 20000 in
theorem v_8_fillUntold {k : Nat} (X : CXq p s m args meth c cX8_fillUntold 1 yX8_fillUntold.cls ad cy D (AW ad) s.heap) (hr : meth.sig.returnType = none) (hk : isText k) {w : Mem} {Q : Mem → Prop} (h : wp_8_fillUntold k w Q) : V p l e (RM 2) s m args below meth c 1 ad cy D (AW ad) s.heap 0 0 (MQ below (va_Qv Q (BC ad cy D wm wl0) (AW ad)) args s 0 0 (AW ad)) w wm wl0 0 [(0, .ref (ad k))] [] := by
  unfold wp_8_fillUntold at h
  refine V_aload_n X (i := 0) 0 dX8_fillUntold_0 rfl rfl ?_
  refine G_8_12 X (hk).1 (hk).2.1 (Text_r0 hk) dX8_fillUntold_1 ?_
  refine V_iconst X (v := (0 : Int32)) dX8_fillUntold_4 (by decide) ?_
  refine K_2_fillUntold X (Or.inl q_444) (Text_s0 hk) h ⟨Nat.le_of_ble_eq_true rfl, Nat.le_of_ble_eq_true rfl⟩ ⟨Nat.zero_le _, Nat.zero_le _⟩ (st1 := []) (Nat.le_of_ble_eq_true rfl) dX8_fillUntold_5 (fun w1 h => ?_)
  refine V_aload_n X (i := 0) 0 dX8_fillUntold_8 rfl rfl ?_
  refine G_8_21 X (hk).1 (hk).2.1 (Text_r2 hk) dX8_fillUntold_9 ?_
  refine V_iconst X (v := (0 : Int32)) dX8_fillUntold_12 (by decide) ?_
  refine K_2_fillUntold X (Or.inl q_444) (Text_s2 hk) h ⟨Nat.le_of_ble_eq_true rfl, Nat.le_of_ble_eq_true rfl⟩ ⟨Nat.zero_le _, Nat.zero_le _⟩ (st1 := []) (Nat.le_of_ble_eq_true rfl) dX8_fillUntold_13 (fun w2 h => ?_)
  refine V_aload_n X (i := 0) 0 dX8_fillUntold_16 rfl rfl ?_
  refine G_8_24 X (hk).1 (hk).2.1 (Text_r3 hk) dX8_fillUntold_17 ?_
  refine V_sipush X (v := (170 : Int32)) dX8_fillUntold_20 (by decide) ?_
  refine K_2_fillUntold X (Or.inl q_444) (Text_s3 hk) h ⟨Nat.le_of_ble_eq_true rfl, Nat.le_of_ble_eq_true rfl⟩ ⟨Nat.zero_le _, Nat.zero_le _⟩ (st1 := []) (Nat.le_of_ble_eq_true rfl) dX8_fillUntold_23 (fun w3 h => ?_)
  refine V_aload_n X (i := 0) 0 dX8_fillUntold_26 rfl rfl ?_
  refine G_8_27 X (hk).1 (hk).2.1 (Text_r4 hk) dX8_fillUntold_27 ?_
  refine V_iconst X (v := (1 : Int32)) dX8_fillUntold_30 (by decide) ?_
  refine K_2_fillUntold X (Or.inl q_444) (Text_s4 hk) h ⟨Nat.le_of_ble_eq_true rfl, Nat.le_of_ble_eq_true rfl⟩ ⟨Nat.zero_le _, Nat.zero_le _⟩ (st1 := []) (Nat.le_of_ble_eq_true rfl) dX8_fillUntold_31 (fun w4 h => ?_)
  refine V_aload_n X (i := 0) 0 dX8_fillUntold_34 rfl rfl ?_
  refine G_8_18 X (hk).1 (hk).2.1 (Text_r1 hk) dX8_fillUntold_35 ?_
  refine G_8_89 X ((Text_s1 hk)).1 ((Text_s1 hk)).2.1 (Law_r6 (Text_s1 hk)) dX8_fillUntold_38 ?_
  obtain ⟨ht, hf⟩ := h
  refine V_if_ne X (tgt := 140) dX8_fillUntold_41 (by decide) (fun c => ?_) (fun c => ?_)
  · have h := ht c
    exact V_vret_c X hr dX8_fillUntold_140 h
  · have h := hf c
    refine V_aload_n X (i := 0) 0 dX8_fillUntold_44 rfl rfl ?_
    refine G_8_18 X (hk).1 (hk).2.1 (Text_r1 hk) dX8_fillUntold_45 ?_
    refine V_iconst X (v := (0 : Int32)) dX8_fillUntold_48 (by decide) ?_
    refine V_aload_n X (i := 0) 0 dX8_fillUntold_49 rfl rfl ?_
    refine G_8_51 X (hk).1 (hk).2.1 (Text_r7 hk) dX8_fillUntold_50 ?_
    refine K_2_add X (Or.inl q_456) (Text_s1 hk) h ⟨Nat.le_of_ble_eq_true rfl, Nat.le_of_ble_eq_true rfl⟩ ⟨Nat.zero_le _, Nat.zero_le _⟩ (st1 := []) (Nat.le_of_ble_eq_true rfl) dX8_fillUntold_53 (fun w5 h => ?_)
    refine V_aload_n X (i := 0) 0 dX8_fillUntold_56 rfl rfl ?_
    refine G_8_18 X (hk).1 (hk).2.1 (Text_r1 hk) dX8_fillUntold_57 ?_
    refine V_iconst X (v := (0 : Int32)) dX8_fillUntold_60 (by decide) ?_
    refine V_iconst X (v := (2 : Int32)) dX8_fillUntold_61 (by decide) ?_
    refine K_2_add X (Or.inl q_456) (Text_s1 hk) h ⟨Nat.le_of_ble_eq_true rfl, Nat.le_of_ble_eq_true rfl⟩ ⟨Nat.zero_le _, Nat.zero_le _⟩ (st1 := []) (Nat.le_of_ble_eq_true rfl) dX8_fillUntold_62 (fun w6 h => ?_)
    refine V_aload_n X (i := 0) 0 dX8_fillUntold_65 rfl rfl ?_
    refine G_8_18 X (hk).1 (hk).2.1 (Text_r1 hk) dX8_fillUntold_66 ?_
    refine V_iconst X (v := (1 : Int32)) dX8_fillUntold_69 (by decide) ?_
    refine V_iconst X (v := (2 : Int32)) dX8_fillUntold_70 (by decide) ?_
    refine K_2_add X (Or.inl q_456) (Text_s1 hk) h ⟨Nat.le_of_ble_eq_true rfl, Nat.le_of_ble_eq_true rfl⟩ ⟨Nat.zero_le _, Nat.zero_le _⟩ (st1 := []) (Nat.le_of_ble_eq_true rfl) dX8_fillUntold_71 (fun w7 h => ?_)
    refine V_aload_n X (i := 0) 0 dX8_fillUntold_74 rfl rfl ?_
    refine G_8_18 X (hk).1 (hk).2.1 (Text_r1 hk) dX8_fillUntold_75 ?_
    refine V_bipush X (v := (42 : Int32)) dX8_fillUntold_78 (by decide) ?_
    refine V_iconst X (v := (0 : Int32)) dX8_fillUntold_80 (by decide) ?_
    refine K_2_add X (Or.inl q_456) (Text_s1 hk) h ⟨Nat.le_of_ble_eq_true rfl, Nat.le_of_ble_eq_true rfl⟩ ⟨Nat.zero_le _, Nat.zero_le _⟩ (st1 := []) (Nat.le_of_ble_eq_true rfl) dX8_fillUntold_81 (fun w8 h => ?_)
    refine V_aload_n X (i := 0) 0 dX8_fillUntold_84 rfl rfl ?_
    refine G_8_18 X (hk).1 (hk).2.1 (Text_r1 hk) dX8_fillUntold_85 ?_
    refine V_bipush X (v := (43 : Int32)) dX8_fillUntold_88 (by decide) ?_
    refine V_iconst X (v := (0 : Int32)) dX8_fillUntold_90 (by decide) ?_
    refine K_2_add X (Or.inl q_456) (Text_s1 hk) h ⟨Nat.le_of_ble_eq_true rfl, Nat.le_of_ble_eq_true rfl⟩ ⟨Nat.zero_le _, Nat.zero_le _⟩ (st1 := []) (Nat.le_of_ble_eq_true rfl) dX8_fillUntold_91 (fun w9 h => ?_)
    refine V_aload_n X (i := 0) 0 dX8_fillUntold_94 rfl rfl ?_
    refine G_8_18 X (hk).1 (hk).2.1 (Text_r1 hk) dX8_fillUntold_95 ?_
    refine V_iconst X (v := (0 : Int32)) dX8_fillUntold_98 (by decide) ?_
    refine V_iconst X (v := (5 : Int32)) dX8_fillUntold_99 (by decide) ?_
    refine K_2_add X (Or.inl q_456) (Text_s1 hk) h ⟨Nat.le_of_ble_eq_true rfl, Nat.le_of_ble_eq_true rfl⟩ ⟨Nat.zero_le _, Nat.zero_le _⟩ (st1 := []) (Nat.le_of_ble_eq_true rfl) dX8_fillUntold_100 (fun w10 h => ?_)
    refine V_aload_n X (i := 0) 0 dX8_fillUntold_103 rfl rfl ?_
    refine G_8_18 X (hk).1 (hk).2.1 (Text_r1 hk) dX8_fillUntold_104 ?_
    refine V_iconst X (v := (1 : Int32)) dX8_fillUntold_107 (by decide) ?_
    refine V_bipush X (v := (7 : Int32)) dX8_fillUntold_108 (by decide) ?_
    refine K_2_add X (Or.inl q_456) (Text_s1 hk) h ⟨Nat.le_of_ble_eq_true rfl, Nat.le_of_ble_eq_true rfl⟩ ⟨Nat.zero_le _, Nat.zero_le _⟩ (st1 := []) (Nat.le_of_ble_eq_true rfl) dX8_fillUntold_110 (fun w11 h => ?_)
    refine V_aload_n X (i := 0) 0 dX8_fillUntold_113 rfl rfl ?_
    refine G_8_18 X (hk).1 (hk).2.1 (Text_r1 hk) dX8_fillUntold_114 ?_
    refine V_bipush X (v := (42 : Int32)) dX8_fillUntold_117 (by decide) ?_
    refine V_iconst X (v := (0 : Int32)) dX8_fillUntold_119 (by decide) ?_
    refine K_2_add X (Or.inl q_456) (Text_s1 hk) h ⟨Nat.le_of_ble_eq_true rfl, Nat.le_of_ble_eq_true rfl⟩ ⟨Nat.zero_le _, Nat.zero_le _⟩ (st1 := []) (Nat.le_of_ble_eq_true rfl) dX8_fillUntold_120 (fun w12 h => ?_)
    refine V_aload_n X (i := 0) 0 dX8_fillUntold_123 rfl rfl ?_
    refine G_8_18 X (hk).1 (hk).2.1 (Text_r1 hk) dX8_fillUntold_124 ?_
    refine V_bipush X (v := (43 : Int32)) dX8_fillUntold_127 (by decide) ?_
    refine V_iconst X (v := (0 : Int32)) dX8_fillUntold_129 (by decide) ?_
    refine K_2_add X (Or.inl q_456) (Text_s1 hk) h ⟨Nat.le_of_ble_eq_true rfl, Nat.le_of_ble_eq_true rfl⟩ ⟨Nat.zero_le _, Nat.zero_le _⟩ (st1 := []) (Nat.le_of_ble_eq_true rfl) dX8_fillUntold_130 (fun w13 h => ?_)
    refine V_aload_n X (i := 0) 0 dX8_fillUntold_133 rfl rfl ?_
    refine G_8_18 X (hk).1 (hk).2.1 (Text_r1 hk) dX8_fillUntold_134 ?_
    refine K_2_endPiece X (Or.inl q_457) (Text_s1 hk) h ⟨Nat.le_of_ble_eq_true rfl, Nat.le_of_ble_eq_true rfl⟩ ⟨Nat.zero_le _, Nat.zero_le _⟩ (st1 := []) (Nat.le_of_ble_eq_true rfl) dX8_fillUntold_137 (fun w14 h => ?_)
    exact V_vret_c X hr dX8_fillUntold_140 h
theorem c_8_fillUntold {k : Nat} (hinj : INJ ad) (hk : isText k) {w : Mem} {Q : Mem → Prop} (h : wp_8_fillUntold k w Q) : Met l yX8_fillUntold (TBq yX8_fillUntold cX8_fillUntold 1 none) (RM 2) (va_Pc [.ref (ad k)] (PB ad cy D (cmb w wm) wl0)) (va_Qv Q (BC ad cy D wm wl0) (AW ad)) 0 0 (AW ad) := M_enter (by decide) (Nat.le_of_ble_eq_true rfl) hinj (fun p e s m args below meth c X hr => v_8_fillUntold X hr hk h)
theorem mf_8_fillUntold : MFV yX8_fillUntold cX8_fillUntold 1 none yX8_fillUntold.cls 0 := ⟨q_443, q_441, q_442, q_5, by decide⟩
theorem K_8_fillUntold {own : String} {idx : Nat} {k : Nat} (X : CXq p s m args meth c cc nL own ad cy D A H0) (hL : LK own idx yX8_fillUntold) (hk : isText k) {w : Mem} {Q : Mem → Prop} (h : wp_8_fillUntold k w Q) (hR : (RM 2).frames + 1 ≤ R.frames ∧ 8 + (1 + 11) + (RM 2).locals ≤ R.locals) (hce : ce ≤ R.cells ∧ sl ≤ R.slots) (hcat : (st1.map fun v => v.category).sum ≤ 8) (hd : decode cc pc = .ok (.invokevirtual idx, 3)) (kk : ∀ (u : Mem), Q u → V p l e R s m args below meth c nL ad cy D A H0 ce sl Qs u wm wl0 (pc + 3) ls st1) : V p l e R s m args below meth c nL ad cy D A H0 ce sl Qs w wm wl0 pc ls (.ref (ad k) :: st1) := V_callVV_c X mf_8_fillUntold hL (rfl : vwCl[8]? = some (RX8, TX8, 18)) (by decide) (hk).1 (Nat.lt_of_lt_of_le (hk).2.1 (CX_nn X)) (c_8_fillUntold X.2.2.2.2.2.2.2.1 hk h) (As := []) rfl ⟨rfl, rfl⟩ hR hce st1 rfl hcat hd kk
set_option maxRecDepth 20000 in
theorem v_3_parse_b76 (X : CXq p s m args meth c cX3_parse 4 yX3_parse.cls ad cy D (AW ad) s.heap) (hr : meth.sig.returnType = (some .int)) {k1 : Nat} (hk1 : isText k1) {Q : Int32 → Mem → Prop} : ∀ (l2 : Int32) (w : Mem), wp_3_parse_b76 k1 Q l2 w → V p l e (RM 29) s m args below meth c 4 ad cy D (AW ad) s.heap 0 0 (MQ below (va_Qi Q (BC ad cy D wm wl0) (AW ad)) args s 0 0 (AW ad)) w wm wl0 76 [(0, .ref (ad 7)), (1, .ref (ad k1)), (2, .int l2)] [] := by
  intro l2 w h
  unfold wp_3_parse_b76 at h
  refine V_iload_n X (i := 2) 2 dX3_parse_76 rfl rfl ?_
  obtain ⟨ht, hf⟩ := h
  refine V_if_eq X (tgt := 100) dX3_parse_77 (by decide) (fun c => ?_) (fun c => ?_)
  · have h := ht c
    refine V_aload_n X (i := 0) 0 dX3_parse_100 rfl rfl ?_
    refine G_3_26 X dX3_parse_101 ?_
    exact V_iret_c X hr dX3_parse_104 h
  · have h := hf c
    refine V_aload_n X (i := 0) 0 dX3_parse_80 rfl rfl ?_
    refine V_aload_n X (i := 0) 0 dX3_parse_81 rfl rfl ?_
    refine G_3_32 X dX3_parse_82 ?_
    obtain ⟨w1, ew1⟩ : ∃ y : Mem, y = st w 7 5 (w 7 7) := ⟨_, rfl⟩
    have h := h w1 ew1
    refine U_3_26 X rfl rfl dX3_parse_85 ew1 ?_
    refine V_aload_n X (i := 0) 0 dX3_parse_88 rfl rfl ?_
    refine V_aload_n X (i := 0) 0 dX3_parse_89 rfl rfl ?_
    refine G_3_35 X dX3_parse_90 ?_
    obtain ⟨w2, ew2⟩ : ∃ y : Mem, y = st w1 7 6 (w1 7 8) := ⟨_, rfl⟩
    have h := h w2 ew2
    refine U_3_29 X rfl rfl dX3_parse_93 ew2 ?_
    refine V_aload_n X (i := 1) 1 dX3_parse_96 rfl rfl ?_
    refine K_8_fillUntold X (Or.inl q_770) hk1 h ⟨Nat.le_of_ble_eq_true rfl, Nat.le_of_ble_eq_true rfl⟩ ⟨Nat.zero_le _, Nat.zero_le _⟩ (st1 := []) (Nat.le_of_ble_eq_true rfl) dX3_parse_97 (fun w3 h => ?_)
    refine V_aload_n X (i := 0) 0 dX3_parse_100 rfl rfl ?_
    refine G_3_26 X dX3_parse_101 ?_
    exact V_iret_c X hr dX3_parse_104 h
set_option maxRecDepth 20000 in
theorem v_3_parse_b38 (X : CXq p s m args meth c cX3_parse 4 yX3_parse.cls ad cy D (AW ad) s.heap) (hr : meth.sig.returnType = (some .int)) {k1 : Nat} (hk1 : isText k1) {Q : Int32 → Mem → Prop} : ∀ (n : Nat) (l2 : Int32) (l3 : Int32) (w : Mem), wp_3_parse_b38 k1 Q n l2 l3 w → V p l e (RM 29) s m args below meth c 4 ad cy D (AW ad) s.heap 0 0 (MQ below (va_Qi Q (BC ad cy D wm wl0) (AW ad)) args s 0 0 (AW ad)) w wm wl0 38 [(0, .ref (ad 7)), (1, .ref (ad k1)), (2, .int l2), (3, .int l3)] [] := by
  intro n
  induction n with
  | zero =>
    intro l2 l3 w h
    exact h.elim
  | succ n ih =>
    intro l2 l3 w h
    unfold wp_3_parse_b38 at h
    refine V_iload_n X (i := 3) 3 dX3_parse_38 rfl rfl ?_
    refine V_sipush X (v := (400 : Int32)) dX3_parse_39 (by decide) ?_
    obtain ⟨ht, hf⟩ := h
    refine V_icmp_gt X (tgt := 76) dX3_parse_42 (by decide) (fun c => ?_) (fun c => ?_)
    · have h := ht c
      refine V_sub X (ls1 := [(0, .ref (ad 7)), (1, .ref (ad k1)), (2, .int l2)]) [0, 1, 2] rfl ?_
      exact v_3_parse_b76 X hr hk1 _ _ h
    · have h := hf c
      refine V_iload_n X (i := 2) 2 dX3_parse_45 rfl rfl ?_
      obtain ⟨ht, hf⟩ := h
      refine V_if_eq X (tgt := 76) dX3_parse_46 (by decide) (fun c => ?_) (fun c => ?_)
      · have h := ht c
        refine V_sub X (ls1 := [(0, .ref (ad 7)), (1, .ref (ad k1)), (2, .int l2)]) [0, 1, 2] rfl ?_
        exact v_3_parse_b76 X hr hk1 _ _ h
      · have h := hf c
        refine V_aload_n X (i := 0) 0 dX3_parse_49 rfl rfl ?_
        refine G_3_15 X dX3_parse_50 ?_
        refine G_3_45 X dX3_parse_53 ?_
        refine V_aload_n X (i := 0) 0 dX3_parse_56 rfl rfl ?_
        refine G_3_19 X dX3_parse_57 ?_
        obtain ⟨g1, h⟩ := h
        refine V_iald_c X (rfl : SLq 4 = 401) (by decide) (rfl : SK 4 = 14) g1 dX3_parse_60 ?_
        obtain ⟨ht, hf⟩ := h
        refine V_if_eq X (tgt := 76) dX3_parse_61 (by decide) (fun c => ?_) (fun c => ?_)
        · have h := ht c
          refine V_sub X (ls1 := [(0, .ref (ad 7)), (1, .ref (ad k1)), (2, .int l2)]) [0, 1, 2] rfl ?_
          exact v_3_parse_b76 X hr hk1 _ _ h
        · have h := hf c
          refine V_aload_n X (i := 0) 0 dX3_parse_64 rfl rfl ?_
          refine V_aload_n X (i := 1) 1 dX3_parse_65 rfl rfl ?_
          refine K_3_readTell X (Or.inl q_690) hk1 h ⟨Nat.le_of_ble_eq_true rfl, Nat.le_of_ble_eq_true rfl⟩ ⟨Nat.zero_le _, Nat.zero_le _⟩ (st1 := []) (Nat.le_of_ble_eq_true rfl) dX3_parse_66 (fun r3 w2 h => ?_)
          refine V_istore_n X dX3_parse_69 rfl (by decide) rfl (ls1 := [(2, .int r3), (0, .ref (ad 7)), (1, .ref (ad k1)), (3, .int l3)]) rfl ?_
          obtain ⟨x4, ex4⟩ : ∃ y : Int32, y = l3 + (1 : Int32) := ⟨_, rfl⟩
          have h := h x4 ex4
          refine V_iinc X 3 dX3_parse_70 rfl (by decide) (by rw [ex4]; rfl) (ls1 := [(3, .int x4), (2, .int r3), (0, .ref (ad 7)), (1, .ref (ad k1))]) rfl ?_
          refine V_goto X (tgt := 38) dX3_parse_73 (by decide) ?_
          refine V_sub X (ls1 := [(0, .ref (ad 7)), (1, .ref (ad k1)), (2, .int r3), (3, .int x4)]) [2, 3, 1, 0] rfl ?_
          exact ih _ _ _ h
set_option maxRecDepth 20000 in
theorem v_3_parse {k1 : Nat} (X : CXq p s m args meth c cX3_parse 4 yX3_parse.cls ad cy D (AW ad) s.heap) (hr : meth.sig.returnType = (some .int)) (hk1 : isText k1) {w : Mem} {Q : Int32 → Mem → Prop} (h : wp_3_parse k1 w Q) : V p l e (RM 29) s m args below meth c 4 ad cy D (AW ad) s.heap 0 0 (MQ below (va_Qi Q (BC ad cy D wm wl0) (AW ad)) args s 0 0 (AW ad)) w wm wl0 0 [(0, .ref (ad 7)), (1, .ref (ad k1))] [] := by
  unfold wp_3_parse at h
  refine V_aload_n X (i := 0) 0 dX3_parse_0 rfl rfl ?_
  refine V_iconst X (v := (0 : Int32)) dX3_parse_1 (by decide) ?_
  obtain ⟨w1, ew1⟩ : ∃ y : Mem, y = st w 7 3 (0 : Int32) := ⟨_, rfl⟩
  have h := h w1 ew1
  refine U_3_19 X rfl rfl dX3_parse_2 ew1 ?_
  refine V_aload_n X (i := 0) 0 dX3_parse_5 rfl rfl ?_
  refine V_iconst X (v := (0 : Int32)) dX3_parse_6 (by decide) ?_
  obtain ⟨w2, ew2⟩ : ∃ y : Mem, y = st w1 7 2 (0 : Int32) := ⟨_, rfl⟩
  have h := h w2 ew2
  refine U_3_23 X rfl rfl dX3_parse_7 ew2 ?_
  refine V_aload_n X (i := 0) 0 dX3_parse_10 rfl rfl ?_
  refine V_iconst X (v := (0 : Int32)) dX3_parse_11 (by decide) ?_
  obtain ⟨w3, ew3⟩ : ∃ y : Mem, y = st w2 7 5 (0 : Int32) := ⟨_, rfl⟩
  have h := h w3 ew3
  refine U_3_26 X rfl rfl dX3_parse_12 ew3 ?_
  refine V_aload_n X (i := 0) 0 dX3_parse_15 rfl rfl ?_
  refine V_iconst X (v := (-1 : Int32)) dX3_parse_16 (by decide) ?_
  obtain ⟨w4, ew4⟩ : ∃ y : Mem, y = st w3 7 6 (-1 : Int32) := ⟨_, rfl⟩
  have h := h w4 ew4
  refine U_3_29 X rfl rfl dX3_parse_17 ew4 ?_
  refine V_aload_n X (i := 0) 0 dX3_parse_20 rfl rfl ?_
  refine V_iconst X (v := (0 : Int32)) dX3_parse_21 (by decide) ?_
  obtain ⟨w5, ew5⟩ : ∃ y : Mem, y = st w4 7 7 (0 : Int32) := ⟨_, rfl⟩
  have h := h w5 ew5
  refine U_3_32 X rfl rfl dX3_parse_22 ew5 ?_
  refine V_aload_n X (i := 0) 0 dX3_parse_25 rfl rfl ?_
  refine V_iconst X (v := (-1 : Int32)) dX3_parse_26 (by decide) ?_
  obtain ⟨w6, ew6⟩ : ∃ y : Mem, y = st w5 7 8 (-1 : Int32) := ⟨_, rfl⟩
  have h := h w6 ew6
  refine U_3_35 X rfl rfl dX3_parse_27 ew6 ?_
  refine V_aload_n X (i := 1) 1 dX3_parse_30 rfl rfl ?_
  refine K_8_clear X (Or.inl q_689) hk1 h ⟨Nat.le_of_ble_eq_true rfl, Nat.le_of_ble_eq_true rfl⟩ ⟨Nat.zero_le _, Nat.zero_le _⟩ (st1 := []) (Nat.le_of_ble_eq_true rfl) dX3_parse_31 (fun w7 h => ?_)
  refine V_iconst X (v := (1 : Int32)) dX3_parse_34 (by decide) ?_
  refine V_istore_n X dX3_parse_35 rfl (by decide) rfl (ls1 := [(2, .int (1 : Int32)), (0, .ref (ad 7)), (1, .ref (ad k1))]) rfl ?_
  refine V_iconst X (v := (0 : Int32)) dX3_parse_36 (by decide) ?_
  refine V_istore_n X dX3_parse_37 rfl (by decide) rfl (ls1 := [(3, .int (0 : Int32)), (2, .int (1 : Int32)), (0, .ref (ad 7)), (1, .ref (ad k1))]) rfl ?_
  refine V_sub X (ls1 := [(0, .ref (ad 7)), (1, .ref (ad k1)), (2, .int (1 : Int32)), (3, .int (0 : Int32))]) [2, 3, 1, 0] rfl ?_
  obtain ⟨nn, h⟩ := h
  exact v_3_parse_b38 X hr hk1 nn _ _ _ h
theorem c_3_parse {k1 : Nat} (hinj : INJ ad) (hk1 : isText k1) {w : Mem} {Q : Int32 → Mem → Prop} (h : wp_3_parse k1 w Q) : Met l yX3_parse (TBq yX3_parse cX3_parse 4 (some .int)) (RM 29) (va_Pc [.ref (ad 7), .ref (ad k1)] (PB ad cy D (cmb w wm) wl0)) (va_Qi Q (BC ad cy D wm wl0) (AW ad)) 0 0 (AW ad) := M_enter (by decide) (Nat.le_of_ble_eq_true rfl) hinj (fun p e s m args below meth c X hr => v_3_parse X hr hk1 h)
theorem mf_3_parse : MFV yX3_parse cX3_parse 4 (some .int) yX3_parse.cls 1 := ⟨q_688, q_686, q_687, q_4, by decide⟩
theorem K_3_parse {own : String} {idx : Nat} {k1 : Nat} (X : CXq p s m args meth c cc nL own ad cy D A H0) (hL : LK own idx yX3_parse) (hk1 : isText k1) {w : Mem} {Q : Int32 → Mem → Prop} (h : wp_3_parse k1 w Q) (hR : (RM 29).frames + 1 ≤ R.frames ∧ 8 + (4 + 11) + (RM 29).locals ≤ R.locals) (hce : ce ≤ R.cells ∧ sl ≤ R.slots) (hcat : (st1.map fun v => v.category).sum ≤ 8) (hd : decode cc pc = .ok (.invokevirtual idx, 3)) (kk : ∀ (r : Int32) (u : Mem), Q r u → V p l e R s m args below meth c nL ad cy D A H0 ce sl Qs u wm wl0 (pc + 3) ls (.int r :: st1)) : V p l e R s m args below meth c nL ad cy D A H0 ce sl Qs w wm wl0 pc ls (.ref (ad k1) :: .ref (ad 7) :: st1) := V_callVI_c X mf_3_parse hL (rfl : vwCl[3]? = some (RX3, TX3, 9)) (by decide) (rfl : SK 7 = 3) (Nat.lt_of_lt_of_le (by decide : 7 < 150) (CX_nn X)) (c_3_parse X.2.2.2.2.2.2.2.1 hk1 h) (As := [.ref (ad k1)]) rfl ⟨rfl, rfl⟩ hR hce st1 rfl hcat hd kk
set_option maxRecDepth 20000 in
theorem v_5_begin_b42 (X : CXq p s m args meth c cX5_begin 2 yX5_begin.cls ad cy D (AW ad) s.heap) (hr : meth.sig.returnType = none) {k : Nat} (hk : isPlay k) {Q : Mem → Prop} : ∀ (n : Nat) (l1 : Int32) (w : Mem), wp_5_begin_b42 k Q n l1 w → V p l e (RM 1) s m args below meth c 2 ad cy D (AW ad) s.heap 0 0 (MQ below (va_Qv Q (BC ad cy D wm wl0) (AW ad)) args s 0 0 (AW ad)) w wm wl0 42 [(0, .ref (ad k)), (1, .int l1)] [] := by
  intro n
  induction n with
  | zero =>
    intro l1 w h
    exact h.elim
  | succ n ih =>
    intro l1 w h
    unfold wp_5_begin_b42 at h
    refine V_iload_n X (i := 1) 1 dX5_begin_42 rfl rfl ?_
    refine V_bipush X (v := (8 : Int32)) dX5_begin_43 (by decide) ?_
    obtain ⟨ht, hf⟩ := h
    refine V_icmp_ge X (tgt := 61) dX5_begin_45 (by decide) (fun c => ?_) (fun c => ?_)
    · have h := ht c
      refine V_aload_n X (i := 0) 0 dX5_begin_61 rfl rfl ?_
      refine G_5_15 X (hk).1 (hk).2.1 (Play_r2 hk) dX5_begin_62 ?_
      refine V_iconst X (v := (0 : Int32)) dX5_begin_65 (by decide) ?_
      refine K_J7_fill_53178 X (Or.inl q_466) (Play_s2 hk) h ⟨Nat.le_of_ble_eq_true rfl, Nat.le_of_ble_eq_true rfl⟩ ⟨Nat.zero_le _, Nat.zero_le _⟩ (st1 := []) (Nat.le_of_ble_eq_true rfl) dX5_begin_66 (fun w1 h => ?_)
      refine V_aload_n X (i := 0) 0 dX5_begin_69 rfl rfl ?_
      refine G_5_18 X (hk).1 (hk).2.1 (Play_r3 hk) dX5_begin_70 ?_
      refine V_iconst X (v := (0 : Int32)) dX5_begin_73 (by decide) ?_
      refine K_J7_fill_53178 X (Or.inl q_466) (Play_s3 hk) h ⟨Nat.le_of_ble_eq_true rfl, Nat.le_of_ble_eq_true rfl⟩ ⟨Nat.zero_le _, Nat.zero_le _⟩ (st1 := []) (Nat.le_of_ble_eq_true rfl) dX5_begin_74 (fun w2 h => ?_)
      exact V_vret_c X hr dX5_begin_77 h
    · have h := hf c
      refine V_aload_n X (i := 0) 0 dX5_begin_48 rfl rfl ?_
      refine G_5_11 X (hk).1 (hk).2.1 (Play_r1 hk) dX5_begin_49 ?_
      refine V_iload_n X (i := 1) 1 dX5_begin_52 rfl rfl ?_
      refine V_iload_n X (i := 1) 1 dX5_begin_53 rfl rfl ?_
      obtain ⟨g3, h⟩ := h
      obtain ⟨w4, ew4⟩ : ∃ y : Mem, y = st w (k + 1) (ix l1) l1 := ⟨_, rfl⟩
      have h := h w4 ew4
      refine V_iast_c X ((Play_s1 hk)).2.1 ((Play_s1 hk)).2.2 ((Play_s1 hk)).1 g3 dX5_begin_54 ew4 ?_
      obtain ⟨x5, ex5⟩ : ∃ y : Int32, y = l1 + (1 : Int32) := ⟨_, rfl⟩
      have h := h x5 ex5
      refine V_iinc X 1 dX5_begin_55 rfl (by decide) (by rw [ex5]; rfl) (ls1 := [(1, .int x5), (0, .ref (ad k))]) rfl ?_
      refine V_goto X (tgt := 42) dX5_begin_58 (by decide) ?_
      refine V_sub X (ls1 := [(0, .ref (ad k)), (1, .int x5)]) [1, 0] rfl ?_
      exact ih _ _ h
set_option maxRecDepth 20000 in
theorem v_5_begin {k : Nat} (X : CXq p s m args meth c cX5_begin 2 yX5_begin.cls ad cy D (AW ad) s.heap) (hr : meth.sig.returnType = none) (hk : isPlay k) {w : Mem} {Q : Mem → Prop} (h : wp_5_begin k w Q) : V p l e (RM 1) s m args below meth c 2 ad cy D (AW ad) s.heap 0 0 (MQ below (va_Qv Q (BC ad cy D wm wl0) (AW ad)) args s 0 0 (AW ad)) w wm wl0 0 [(0, .ref (ad k))] [] := by
  unfold wp_5_begin at h
  refine V_aload_n X (i := 0) 0 dX5_begin_0 rfl rfl ?_
  refine V_iconst X (v := (0 : Int32)) dX5_begin_1 (by decide) ?_
  obtain ⟨w1, ew1⟩ : ∃ y : Mem, y = st w k 4 (0 : Int32) := ⟨_, rfl⟩
  have h := h w1 ew1
  refine U_5_25 X (hk).1 (hk).2.1 (Play_r4 hk) rfl rfl dX5_begin_2 ew1 ?_
  refine V_aload_n X (i := 0) 0 dX5_begin_5 rfl rfl ?_
  refine V_iconst X (v := (1 : Int32)) dX5_begin_6 (by decide) ?_
  obtain ⟨w2, ew2⟩ : ∃ y : Mem, y = st w1 k 5 (1 : Int32) := ⟨_, rfl⟩
  have h := h w2 ew2
  refine U_5_29 X (hk).1 (hk).2.1 (Play_r5 hk) rfl rfl dX5_begin_7 ew2 ?_
  refine V_aload_n X (i := 0) 0 dX5_begin_10 rfl rfl ?_
  refine V_aload_n X (i := 0) 0 dX5_begin_11 rfl rfl ?_
  refine G_5_21 X (hk).1 (hk).2.1 (Play_r0 hk) dX5_begin_12 ?_
  refine G_5_32 X (inst_Text_48).1 (inst_Text_48).2.1 (Text_r14 inst_Text_48) dX5_begin_15 ?_
  obtain ⟨w3, ew3⟩ : ∃ y : Mem, y = st w2 k 6 (w2 48 14) := ⟨_, rfl⟩
  have h := h w3 ew3
  refine U_5_37 X (hk).1 (hk).2.1 (Play_r6 hk) rfl rfl dX5_begin_18 ew3 ?_
  refine V_aload_n X (i := 0) 0 dX5_begin_21 rfl rfl ?_
  refine V_iconst X (v := (0 : Int32)) dX5_begin_22 (by decide) ?_
  obtain ⟨w4, ew4⟩ : ∃ y : Mem, y = st w3 k 7 (0 : Int32) := ⟨_, rfl⟩
  have h := h w4 ew4
  refine U_5_40 X (hk).1 (hk).2.1 (Play_r7 hk) rfl rfl dX5_begin_23 ew4 ?_
  refine V_aload_n X (i := 0) 0 dX5_begin_26 rfl rfl ?_
  refine V_aload_n X (i := 0) 0 dX5_begin_27 rfl rfl ?_
  refine G_5_21 X (hk).1 (hk).2.1 (Play_r0 hk) dX5_begin_28 ?_
  refine G_5_43 X (inst_Text_48).1 (inst_Text_48).2.1 (Text_r6 inst_Text_48) dX5_begin_31 ?_
  refine G_5_47 X (inst_People_80).1 (inst_People_80).2.1 (People_r6 inst_People_80) dX5_begin_34 ?_
  obtain ⟨w5, ew5⟩ : ∃ y : Mem, y = st w4 k 8 (w4 80 6) := ⟨_, rfl⟩
  have h := h w5 ew5
  refine U_5_52 X (hk).1 (hk).2.1 (Play_r8 hk) rfl rfl dX5_begin_37 ew5 ?_
  refine V_iconst X (v := (0 : Int32)) dX5_begin_40 (by decide) ?_
  refine V_istore_n X dX5_begin_41 rfl (by decide) rfl (ls1 := [(1, .int (0 : Int32)), (0, .ref (ad k))]) rfl ?_
  refine V_sub X (ls1 := [(0, .ref (ad k)), (1, .int (0 : Int32))]) [1, 0] rfl ?_
  obtain ⟨nn, h⟩ := h
  exact v_5_begin_b42 X hr hk nn _ _ h
theorem c_5_begin {k : Nat} (hinj : INJ ad) (hk : isPlay k) {w : Mem} {Q : Mem → Prop} (h : wp_5_begin k w Q) : Met l yX5_begin (TBq yX5_begin cX5_begin 2 none) (RM 1) (va_Pc [.ref (ad k)] (PB ad cy D (cmb w wm) wl0)) (va_Qv Q (BC ad cy D wm wl0) (AW ad)) 0 0 (AW ad) := M_enter (by decide) (Nat.le_of_ble_eq_true rfl) hinj (fun p e s m args below meth c X hr => v_5_begin X hr hk h)
theorem mf_5_begin : MFV yX5_begin cX5_begin 2 none yX5_begin.cls 0 := ⟨q_465, q_463, q_464, q_9, by decide⟩
theorem K_5_begin {own : String} {idx : Nat} {k : Nat} (X : CXq p s m args meth c cc nL own ad cy D A H0) (hL : LK own idx yX5_begin) (hk : isPlay k) {w : Mem} {Q : Mem → Prop} (h : wp_5_begin k w Q) (hR : (RM 1).frames + 1 ≤ R.frames ∧ 8 + (2 + 11) + (RM 1).locals ≤ R.locals) (hce : ce ≤ R.cells ∧ sl ≤ R.slots) (hcat : (st1.map fun v => v.category).sum ≤ 8) (hd : decode cc pc = .ok (.invokevirtual idx, 3)) (kk : ∀ (u : Mem), Q u → V p l e R s m args below meth c nL ad cy D A H0 ce sl Qs u wm wl0 (pc + 3) ls st1) : V p l e R s m args below meth c nL ad cy D A H0 ce sl Qs w wm wl0 pc ls (.ref (ad k) :: st1) := V_callVV_c X mf_5_begin hL (rfl : vwCl[5]? = some (RX5, TX5, 9)) (by decide) (hk).1 (Nat.lt_of_lt_of_le (hk).2.1 (CX_nn X)) (c_5_begin X.2.2.2.2.2.2.2.1 hk h) (As := []) rfl ⟨rfl, rfl⟩ hR hce st1 rfl hcat hd kk
set_option maxRecDepth 20000 in
theorem v_5_turnOrder_b2 (X : CXq p s m args meth c cX5_turnOrder 2 yX5_turnOrder.cls ad cy D (AW ad) s.heap) (hr : meth.sig.returnType = none) {k : Nat} (hk : isPlay k) {Q : Mem → Prop} : ∀ (n : Nat) (l1 : Int32) (w : Mem), wp_5_turnOrder_b2 k Q n l1 w → V p l e (RM 0) s m args below meth c 2 ad cy D (AW ad) s.heap 0 0 (MQ below (va_Qv Q (BC ad cy D wm wl0) (AW ad)) args s 0 0 (AW ad)) w wm wl0 2 [(0, .ref (ad k)), (1, .int l1)] [] := by
  intro n
  induction n with
  | zero =>
    intro l1 w h
    exact h.elim
  | succ n ih =>
    intro l1 w h
    unfold wp_5_turnOrder_b2 at h
    refine V_iload_n X (i := 1) 1 dX5_turnOrder_2 rfl rfl ?_
    refine V_aload_n X (i := 0) 0 dX5_turnOrder_3 rfl rfl ?_
    refine G_5_52 X (hk).1 (hk).2.1 (Play_r8 hk) dX5_turnOrder_4 ?_
    obtain ⟨ht, hf⟩ := h
    refine V_icmp_ge X (tgt := 36) dX5_turnOrder_7 (by decide) (fun c => ?_) (fun c => ?_)
    · have h := ht c
      exact V_vret_c X hr dX5_turnOrder_36 h
    · have h := hf c
      refine V_iload_n X (i := 1) 1 dX5_turnOrder_10 rfl rfl ?_
      refine V_bipush X (v := (8 : Int32)) dX5_turnOrder_11 (by decide) ?_
      obtain ⟨ht, hf⟩ := h
      refine V_icmp_ge X (tgt := 36) dX5_turnOrder_13 (by decide) (fun c => ?_) (fun c => ?_)
      · have h := ht c
        exact V_vret_c X hr dX5_turnOrder_36 h
      · have h := hf c
        refine V_aload_n X (i := 0) 0 dX5_turnOrder_16 rfl rfl ?_
        refine G_5_11 X (hk).1 (hk).2.1 (Play_r1 hk) dX5_turnOrder_17 ?_
        refine V_iload_n X (i := 1) 1 dX5_turnOrder_20 rfl rfl ?_
        refine V_aload_n X (i := 0) 0 dX5_turnOrder_21 rfl rfl ?_
        refine G_5_52 X (hk).1 (hk).2.1 (Play_r8 hk) dX5_turnOrder_22 ?_
        refine V_iconst X (v := (1 : Int32)) dX5_turnOrder_25 (by decide) ?_
        refine V_isub X dX5_turnOrder_26 ?_
        refine V_iload_n X (i := 1) 1 dX5_turnOrder_27 rfl rfl ?_
        refine V_isub X dX5_turnOrder_28 ?_
        obtain ⟨g1, h⟩ := h
        obtain ⟨w2, ew2⟩ : ∃ y : Mem, y = st w (k + 1) (ix l1) (((w k 8) - (1 : Int32)) - l1) := ⟨_, rfl⟩
        have h := h w2 ew2
        refine V_iast_c X ((Play_s1 hk)).2.1 ((Play_s1 hk)).2.2 ((Play_s1 hk)).1 g1 dX5_turnOrder_29 ew2 ?_
        obtain ⟨x3, ex3⟩ : ∃ y : Int32, y = l1 + (1 : Int32) := ⟨_, rfl⟩
        have h := h x3 ex3
        refine V_iinc X 1 dX5_turnOrder_30 rfl (by decide) (by rw [ex3]; rfl) (ls1 := [(1, .int x3), (0, .ref (ad k))]) rfl ?_
        refine V_goto X (tgt := 2) dX5_turnOrder_33 (by decide) ?_
        refine V_sub X (ls1 := [(0, .ref (ad k)), (1, .int x3)]) [1, 0] rfl ?_
        exact ih _ _ h
set_option maxRecDepth 20000 in
theorem v_5_turnOrder {k : Nat} (X : CXq p s m args meth c cX5_turnOrder 2 yX5_turnOrder.cls ad cy D (AW ad) s.heap) (hr : meth.sig.returnType = none) (hk : isPlay k) {w : Mem} {Q : Mem → Prop} (h : wp_5_turnOrder k w Q) : V p l e (RM 0) s m args below meth c 2 ad cy D (AW ad) s.heap 0 0 (MQ below (va_Qv Q (BC ad cy D wm wl0) (AW ad)) args s 0 0 (AW ad)) w wm wl0 0 [(0, .ref (ad k))] [] := by
  unfold wp_5_turnOrder at h
  refine V_iconst X (v := (0 : Int32)) dX5_turnOrder_0 (by decide) ?_
  refine V_istore_n X dX5_turnOrder_1 rfl (by decide) rfl (ls1 := [(1, .int (0 : Int32)), (0, .ref (ad k))]) rfl ?_
  refine V_sub X (ls1 := [(0, .ref (ad k)), (1, .int (0 : Int32))]) [1, 0] rfl ?_
  obtain ⟨nn, h⟩ := h
  exact v_5_turnOrder_b2 X hr hk nn _ _ h
theorem c_5_turnOrder {k : Nat} (hinj : INJ ad) (hk : isPlay k) {w : Mem} {Q : Mem → Prop} (h : wp_5_turnOrder k w Q) : Met l yX5_turnOrder (TBq yX5_turnOrder cX5_turnOrder 2 none) (RM 0) (va_Pc [.ref (ad k)] (PB ad cy D (cmb w wm) wl0)) (va_Qv Q (BC ad cy D wm wl0) (AW ad)) 0 0 (AW ad) := M_enter (by decide) (Nat.le_of_ble_eq_true rfl) hinj (fun p e s m args below meth c X hr => v_5_turnOrder X hr hk h)
theorem mf_5_turnOrder : MFV yX5_turnOrder cX5_turnOrder 2 none yX5_turnOrder.cls 0 := ⟨q_1094, q_1092, q_1093, q_9, by decide⟩
theorem K_5_turnOrder {own : String} {idx : Nat} {k : Nat} (X : CXq p s m args meth c cc nL own ad cy D A H0) (hL : LK own idx yX5_turnOrder) (hk : isPlay k) {w : Mem} {Q : Mem → Prop} (h : wp_5_turnOrder k w Q) (hR : (RM 0).frames + 1 ≤ R.frames ∧ 8 + (2 + 11) + (RM 0).locals ≤ R.locals) (hce : ce ≤ R.cells ∧ sl ≤ R.slots) (hcat : (st1.map fun v => v.category).sum ≤ 8) (hd : decode cc pc = .ok (.invokevirtual idx, 3)) (kk : ∀ (u : Mem), Q u → V p l e R s m args below meth c nL ad cy D A H0 ce sl Qs u wm wl0 (pc + 3) ls st1) : V p l e R s m args below meth c nL ad cy D A H0 ce sl Qs w wm wl0 pc ls (.ref (ad k) :: st1) := V_callVV_c X mf_5_turnOrder hL (rfl : vwCl[5]? = some (RX5, TX5, 9)) (by decide) (hk).1 (Nat.lt_of_lt_of_le (hk).2.1 (CX_nn X)) (c_5_turnOrder X.2.2.2.2.2.2.2.1 hk h) (As := []) rfl ⟨rfl, rfl⟩ hR hce st1 rfl hcat hd kk
set_option maxRecDepth 20000 in
theorem v_5_copy {k : Nat} {k1 : Nat} (X : CXq p s m args meth c cX5_copy 2 yX5_copy.cls ad cy D (AW ad) s.heap) (hr : meth.sig.returnType = none) (hk : isPlay k) (hk1 : isPlay k1) {w : Mem} {Q : Mem → Prop} (h : wp_5_copy k k1 w Q) : V p l e (RM 2) s m args below meth c 2 ad cy D (AW ad) s.heap 0 0 (MQ below (va_Qv Q (BC ad cy D wm wl0) (AW ad)) args s 0 0 (AW ad)) w wm wl0 0 [(0, .ref (ad k)), (1, .ref (ad k1))] [] := by
  unfold wp_5_copy at h
  refine V_aload_n X (i := 0) 0 dX5_copy_0 rfl rfl ?_
  refine V_aload_n X (i := 1) 1 dX5_copy_1 rfl rfl ?_
  refine G_5_25 X (hk1).1 (hk1).2.1 (Play_r4 hk1) dX5_copy_2 ?_
  obtain ⟨w1, ew1⟩ : ∃ y : Mem, y = st w k 4 (w k1 4) := ⟨_, rfl⟩
  have h := h w1 ew1
  refine U_5_25 X (hk).1 (hk).2.1 (Play_r4 hk) rfl rfl dX5_copy_5 ew1 ?_
  refine V_aload_n X (i := 0) 0 dX5_copy_8 rfl rfl ?_
  refine V_aload_n X (i := 1) 1 dX5_copy_9 rfl rfl ?_
  refine G_5_29 X (hk1).1 (hk1).2.1 (Play_r5 hk1) dX5_copy_10 ?_
  obtain ⟨w2, ew2⟩ : ∃ y : Mem, y = st w1 k 5 (w1 k1 5) := ⟨_, rfl⟩
  have h := h w2 ew2
  refine U_5_29 X (hk).1 (hk).2.1 (Play_r5 hk) rfl rfl dX5_copy_13 ew2 ?_
  refine V_aload_n X (i := 0) 0 dX5_copy_16 rfl rfl ?_
  refine V_aload_n X (i := 1) 1 dX5_copy_17 rfl rfl ?_
  refine G_5_37 X (hk1).1 (hk1).2.1 (Play_r6 hk1) dX5_copy_18 ?_
  obtain ⟨w3, ew3⟩ : ∃ y : Mem, y = st w2 k 6 (w2 k1 6) := ⟨_, rfl⟩
  have h := h w3 ew3
  refine U_5_37 X (hk).1 (hk).2.1 (Play_r6 hk) rfl rfl dX5_copy_21 ew3 ?_
  refine V_aload_n X (i := 0) 0 dX5_copy_24 rfl rfl ?_
  refine V_aload_n X (i := 1) 1 dX5_copy_25 rfl rfl ?_
  refine G_5_40 X (hk1).1 (hk1).2.1 (Play_r7 hk1) dX5_copy_26 ?_
  obtain ⟨w4, ew4⟩ : ∃ y : Mem, y = st w3 k 7 (w3 k1 7) := ⟨_, rfl⟩
  have h := h w4 ew4
  refine U_5_40 X (hk).1 (hk).2.1 (Play_r7 hk) rfl rfl dX5_copy_29 ew4 ?_
  refine V_aload_n X (i := 0) 0 dX5_copy_32 rfl rfl ?_
  refine V_aload_n X (i := 1) 1 dX5_copy_33 rfl rfl ?_
  refine G_5_52 X (hk1).1 (hk1).2.1 (Play_r8 hk1) dX5_copy_34 ?_
  obtain ⟨w5, ew5⟩ : ∃ y : Mem, y = st w4 k 8 (w4 k1 8) := ⟨_, rfl⟩
  have h := h w5 ew5
  refine U_5_52 X (hk).1 (hk).2.1 (Play_r8 hk) rfl rfl dX5_copy_37 ew5 ?_
  refine V_aload_n X (i := 1) 1 dX5_copy_40 rfl rfl ?_
  refine G_5_11 X (hk1).1 (hk1).2.1 (Play_r1 hk1) dX5_copy_41 ?_
  refine V_iconst X (v := (0 : Int32)) dX5_copy_44 (by decide) ?_
  refine V_aload_n X (i := 0) 0 dX5_copy_45 rfl rfl ?_
  refine G_5_11 X (hk).1 (hk).2.1 (Play_r1 hk) dX5_copy_46 ?_
  refine V_iconst X (v := (0 : Int32)) dX5_copy_49 (by decide) ?_
  refine V_bipush X (v := (8 : Int32)) dX5_copy_50 (by decide) ?_
  obtain ⟨w6, ew6⟩ : ∃ y : Mem, y = cpy w5 (k1 + 1) (ix (0 : Int32)) (k + 1) (ix (0 : Int32)) (ix (8 : Int32)) := ⟨_, rfl⟩
  have h := h w6 ew6
  refine V_copy X ((Play_s1 hk1)).1 ((Play_s1 hk)).1 ((Play_s1 hk1)).2.1 ((Play_s1 hk)).2.1 ((Play_s1 hk1)).2.2 ((Play_s1 hk)).2.2 dX5_copy_52 q_891 q_893 q_892 q_21 (by decide) (by decide) (by decide) (by decide) (by decide) (Nat.le_of_ble_eq_true rfl) (by decide) ew6 ?_
  refine V_aload_n X (i := 1) 1 dX5_copy_55 rfl rfl ?_
  refine G_5_15 X (hk1).1 (hk1).2.1 (Play_r2 hk1) dX5_copy_56 ?_
  refine V_iconst X (v := (0 : Int32)) dX5_copy_59 (by decide) ?_
  refine V_aload_n X (i := 0) 0 dX5_copy_60 rfl rfl ?_
  refine G_5_15 X (hk).1 (hk).2.1 (Play_r2 hk) dX5_copy_61 ?_
  refine V_iconst X (v := (0 : Int32)) dX5_copy_64 (by decide) ?_
  refine V_bipush X (v := (8 : Int32)) dX5_copy_65 (by decide) ?_
  obtain ⟨w7, ew7⟩ : ∃ y : Mem, y = cpy w6 (k1 + 2) (ix (0 : Int32)) (k + 2) (ix (0 : Int32)) (ix (8 : Int32)) := ⟨_, rfl⟩
  have h := h w7 ew7
  refine V_copy X ((Play_s2 hk1)).1 ((Play_s2 hk)).1 ((Play_s2 hk1)).2.1 ((Play_s2 hk)).2.1 ((Play_s2 hk1)).2.2 ((Play_s2 hk)).2.2 dX5_copy_67 q_891 q_893 q_892 q_21 (by decide) (by decide) (by decide) (by decide) (by decide) (Nat.le_of_ble_eq_true rfl) (by decide) ew7 ?_
  refine V_aload_n X (i := 1) 1 dX5_copy_70 rfl rfl ?_
  refine G_5_18 X (hk1).1 (hk1).2.1 (Play_r3 hk1) dX5_copy_71 ?_
  refine V_iconst X (v := (0 : Int32)) dX5_copy_74 (by decide) ?_
  refine V_aload_n X (i := 0) 0 dX5_copy_75 rfl rfl ?_
  refine G_5_18 X (hk).1 (hk).2.1 (Play_r3 hk) dX5_copy_76 ?_
  refine V_iconst X (v := (0 : Int32)) dX5_copy_79 (by decide) ?_
  refine V_sipush X (v := (256 : Int32)) dX5_copy_80 (by decide) ?_
  obtain ⟨w8, ew8⟩ : ∃ y : Mem, y = cpy w7 (k1 + 3) (ix (0 : Int32)) (k + 3) (ix (0 : Int32)) (ix (256 : Int32)) := ⟨_, rfl⟩
  have h := h w8 ew8
  refine V_copy X ((Play_s3 hk1)).1 ((Play_s3 hk)).1 ((Play_s3 hk1)).2.1 ((Play_s3 hk)).2.1 ((Play_s3 hk1)).2.2 ((Play_s3 hk)).2.2 dX5_copy_83 q_891 q_893 q_892 q_21 (by decide) (by decide) (by decide) (by decide) (by decide) (Nat.le_of_ble_eq_true rfl) (by decide) ew8 ?_
  exact V_vret_c X hr dX5_copy_86 h
theorem c_5_copy {k : Nat} {k1 : Nat} (hinj : INJ ad) (hk : isPlay k) (hk1 : isPlay k1) {w : Mem} {Q : Mem → Prop} (h : wp_5_copy k k1 w Q) : Met l yX5_copy (TBq yX5_copy cX5_copy 2 none) (RM 2) (va_Pc [.ref (ad k), .ref (ad k1)] (PB ad cy D (cmb w wm) wl0)) (va_Qv Q (BC ad cy D wm wl0) (AW ad)) 0 0 (AW ad) := M_enter (by decide) (Nat.le_of_ble_eq_true rfl) hinj (fun p e s m args below meth c X hr => v_5_copy X hr hk hk1 h)
theorem mf_5_copy : MFV yX5_copy cX5_copy 2 none yX5_copy.cls 1 := ⟨q_1036, q_1034, q_1035, q_9, by decide⟩
theorem K_5_copy {own : String} {idx : Nat} {k : Nat} {k1 : Nat} (X : CXq p s m args meth c cc nL own ad cy D A H0) (hL : LK own idx yX5_copy) (hk : isPlay k) (hk1 : isPlay k1) {w : Mem} {Q : Mem → Prop} (h : wp_5_copy k k1 w Q) (hR : (RM 2).frames + 1 ≤ R.frames ∧ 8 + (2 + 11) + (RM 2).locals ≤ R.locals) (hce : ce ≤ R.cells ∧ sl ≤ R.slots) (hcat : (st1.map fun v => v.category).sum ≤ 8) (hd : decode cc pc = .ok (.invokevirtual idx, 3)) (kk : ∀ (u : Mem), Q u → V p l e R s m args below meth c nL ad cy D A H0 ce sl Qs u wm wl0 (pc + 3) ls st1) : V p l e R s m args below meth c nL ad cy D A H0 ce sl Qs w wm wl0 pc ls (.ref (ad k1) :: .ref (ad k) :: st1) := V_callVV_c X mf_5_copy hL (rfl : vwCl[5]? = some (RX5, TX5, 9)) (by decide) (hk).1 (Nat.lt_of_lt_of_le (hk).2.1 (CX_nn X)) (c_5_copy X.2.2.2.2.2.2.2.1 hk hk1 h) (As := [.ref (ad k1)]) rfl ⟨rfl, rfl⟩ hR hce st1 rfl hcat hd kk
set_option maxRecDepth 20000 in
theorem v_5_nextMan_b32 (X : CXq p s m args meth c cX5_nextMan 1 yX5_nextMan.cls ad cy D (AW ad) s.heap) (hr : meth.sig.returnType = (some .int)) {k : Nat} (hk : isPlay k) {Q : Int32 → Mem → Prop} : ∀ (w : Mem), wp_5_nextMan_b32 k Q w → V p l e (RM 0) s m args below meth c 1 ad cy D (AW ad) s.heap 0 0 (MQ below (va_Qi Q (BC ad cy D wm wl0) (AW ad)) args s 0 0 (AW ad)) w wm wl0 32 [] [] := by
  intro w h
  unfold wp_5_nextMan_b32 at h
  refine V_bipush X (v := (-2 : Int32)) dX5_nextMan_32 (by decide) ?_
  exact V_iret_c X hr dX5_nextMan_34 h
set_option maxRecDepth 20000 in
theorem v_5_nextMan {k : Nat} (X : CXq p s m args meth c cX5_nextMan 1 yX5_nextMan.cls ad cy D (AW ad) s.heap) (hr : meth.sig.returnType = (some .int)) (hk : isPlay k) {w : Mem} {Q : Int32 → Mem → Prop} (h : wp_5_nextMan k w Q) : V p l e (RM 0) s m args below meth c 1 ad cy D (AW ad) s.heap 0 0 (MQ below (va_Qi Q (BC ad cy D wm wl0) (AW ad)) args s 0 0 (AW ad)) w wm wl0 0 [(0, .ref (ad k))] [] := by
  unfold wp_5_nextMan at h
  refine V_aload_n X (i := 0) 0 dX5_nextMan_0 rfl rfl ?_
  refine G_5_40 X (hk).1 (hk).2.1 (Play_r7 hk) dX5_nextMan_1 ?_
  refine V_aload_n X (i := 0) 0 dX5_nextMan_4 rfl rfl ?_
  refine G_5_52 X (hk).1 (hk).2.1 (Play_r8 hk) dX5_nextMan_5 ?_
  obtain ⟨ht, hf⟩ := h
  refine V_icmp_ge X (tgt := 32) dX5_nextMan_8 (by decide) (fun c => ?_) (fun c => ?_)
  · have h := ht c
    refine V_sub X (ls1 := []) [] rfl ?_
    exact v_5_nextMan_b32 X hr hk _ h
  · have h := hf c
    refine V_aload_n X (i := 0) 0 dX5_nextMan_11 rfl rfl ?_
    refine G_5_40 X (hk).1 (hk).2.1 (Play_r7 hk) dX5_nextMan_12 ?_
    refine V_bipush X (v := (8 : Int32)) dX5_nextMan_15 (by decide) ?_
    obtain ⟨ht, hf⟩ := h
    refine V_icmp_ge X (tgt := 32) dX5_nextMan_17 (by decide) (fun c => ?_) (fun c => ?_)
    · have h := ht c
      refine V_sub X (ls1 := []) [] rfl ?_
      exact v_5_nextMan_b32 X hr hk _ h
    · have h := hf c
      refine V_aload_n X (i := 0) 0 dX5_nextMan_20 rfl rfl ?_
      refine G_5_11 X (hk).1 (hk).2.1 (Play_r1 hk) dX5_nextMan_21 ?_
      refine V_aload_n X (i := 0) 0 dX5_nextMan_24 rfl rfl ?_
      refine G_5_40 X (hk).1 (hk).2.1 (Play_r7 hk) dX5_nextMan_25 ?_
      obtain ⟨g1, h⟩ := h
      refine V_iald_c X ((Play_s1 hk)).2.1 ((Play_s1 hk)).2.2 ((Play_s1 hk)).1 g1 dX5_nextMan_28 ?_
      refine V_goto X (tgt := 34) dX5_nextMan_29 (by decide) ?_
      exact V_iret_c X hr dX5_nextMan_34 h
theorem c_5_nextMan {k : Nat} (hinj : INJ ad) (hk : isPlay k) {w : Mem} {Q : Int32 → Mem → Prop} (h : wp_5_nextMan k w Q) : Met l yX5_nextMan (TBq yX5_nextMan cX5_nextMan 1 (some .int)) (RM 0) (va_Pc [.ref (ad k)] (PB ad cy D (cmb w wm) wl0)) (va_Qi Q (BC ad cy D wm wl0) (AW ad)) 0 0 (AW ad) := M_enter (by decide) (Nat.le_of_ble_eq_true rfl) hinj (fun p e s m args below meth c X hr => v_5_nextMan X hr hk h)
theorem mf_5_nextMan : MFV yX5_nextMan cX5_nextMan 1 (some .int) yX5_nextMan.cls 0 := ⟨q_782, q_780, q_781, q_9, by decide⟩
theorem K_5_nextMan {own : String} {idx : Nat} {k : Nat} (X : CXq p s m args meth c cc nL own ad cy D A H0) (hL : LK own idx yX5_nextMan) (hk : isPlay k) {w : Mem} {Q : Int32 → Mem → Prop} (h : wp_5_nextMan k w Q) (hR : (RM 0).frames + 1 ≤ R.frames ∧ 8 + (1 + 11) + (RM 0).locals ≤ R.locals) (hce : ce ≤ R.cells ∧ sl ≤ R.slots) (hcat : (st1.map fun v => v.category).sum ≤ 8) (hd : decode cc pc = .ok (.invokevirtual idx, 3)) (kk : ∀ (r : Int32) (u : Mem), Q r u → V p l e R s m args below meth c nL ad cy D A H0 ce sl Qs u wm wl0 (pc + 3) ls (.int r :: st1)) : V p l e R s m args below meth c nL ad cy D A H0 ce sl Qs w wm wl0 pc ls (.ref (ad k) :: st1) := V_callVI_c X mf_5_nextMan hL (rfl : vwCl[5]? = some (RX5, TX5, 9)) (by decide) (hk).1 (Nat.lt_of_lt_of_le (hk).2.1 (CX_nn X)) (c_5_nextMan X.2.2.2.2.2.2.2.1 hk h) (As := []) rfl ⟨rfl, rfl⟩ hR hce st1 rfl hcat hd kk
set_option maxRecDepth 20000 in
theorem v_5_isToStart_b5 (X : CXq p s m args meth c cX5_isToStart 3 yX5_isToStart.cls ad cy D (AW ad) s.heap) (hr : meth.sig.returnType = (some .boolean)) {k : Nat} (hk : isPlay k) {Q : Int32 → Mem → Prop} : ∀ (n : Nat) (l1 : Int32) (l2 : Int32) (w : Mem), wp_5_isToStart_b5 k Q n l1 l2 w → V p l e (RM 0) s m args below meth c 3 ad cy D (AW ad) s.heap 0 0 (MQ below (va_Qi Q (BC ad cy D wm wl0) (AW ad)) args s 0 0 (AW ad)) w wm wl0 5 [(0, .ref (ad k)), (1, .int l1), (2, .int l2)] [] := by
  intro n
  induction n with
  | zero =>
    intro l1 l2 w h
    exact h.elim
  | succ n ih =>
    intro l1 l2 w h
    unfold wp_5_isToStart_b5 at h
    refine V_iload_n X (i := 2) 2 dX5_isToStart_5 rfl rfl ?_
    refine V_aload_n X (i := 0) 0 dX5_isToStart_6 rfl rfl ?_
    refine G_5_52 X (hk).1 (hk).2.1 (Play_r8 hk) dX5_isToStart_7 ?_
    obtain ⟨ht, hf⟩ := h
    refine V_icmp_ge X (tgt := 37) dX5_isToStart_10 (by decide) (fun c => ?_) (fun c => ?_)
    · have h := ht c
      refine V_iconst X (v := (0 : Int32)) dX5_isToStart_37 (by decide) ?_
      exact V_zret_c X hr dX5_isToStart_38 rfl h
    · have h := hf c
      refine V_iload_n X (i := 2) 2 dX5_isToStart_13 rfl rfl ?_
      refine V_bipush X (v := (8 : Int32)) dX5_isToStart_14 (by decide) ?_
      obtain ⟨ht, hf⟩ := h
      refine V_icmp_ge X (tgt := 37) dX5_isToStart_16 (by decide) (fun c => ?_) (fun c => ?_)
      · have h := ht c
        refine V_iconst X (v := (0 : Int32)) dX5_isToStart_37 (by decide) ?_
        exact V_zret_c X hr dX5_isToStart_38 rfl h
      · have h := hf c
        refine V_aload_n X (i := 0) 0 dX5_isToStart_19 rfl rfl ?_
        refine G_5_11 X (hk).1 (hk).2.1 (Play_r1 hk) dX5_isToStart_20 ?_
        refine V_iload_n X (i := 2) 2 dX5_isToStart_23 rfl rfl ?_
        obtain ⟨g1, h⟩ := h
        refine V_iald_c X ((Play_s1 hk)).2.1 ((Play_s1 hk)).2.2 ((Play_s1 hk)).1 g1 dX5_isToStart_24 ?_
        refine V_iload_n X (i := 1) 1 dX5_isToStart_25 rfl rfl ?_
        obtain ⟨ht, hf⟩ := h
        refine V_icmp_ne X (tgt := 31) dX5_isToStart_26 (by decide) (fun c => ?_) (fun c => ?_)
        · have h := ht c
          obtain ⟨x2, ex2⟩ : ∃ y : Int32, y = l2 + (1 : Int32) := ⟨_, rfl⟩
          have h := h x2 ex2
          refine V_iinc X 2 dX5_isToStart_31 rfl (by decide) (by rw [ex2]; rfl) (ls1 := [(2, .int x2), (0, .ref (ad k)), (1, .int l1)]) rfl ?_
          refine V_goto X (tgt := 5) dX5_isToStart_34 (by decide) ?_
          refine V_sub X (ls1 := [(0, .ref (ad k)), (1, .int l1), (2, .int x2)]) [1, 2, 0] rfl ?_
          exact ih _ _ _ h
        · have h := hf c
          refine V_iconst X (v := (1 : Int32)) dX5_isToStart_29 (by decide) ?_
          exact V_zret_c X hr dX5_isToStart_30 rfl h
set_option maxRecDepth 20000 in
theorem v_5_isToStart {k : Nat} {a1 : Int32} (X : CXq p s m args meth c cX5_isToStart 3 yX5_isToStart.cls ad cy D (AW ad) s.heap) (hr : meth.sig.returnType = (some .boolean)) (hk : isPlay k) {w : Mem} {Q : Int32 → Mem → Prop} (h : wp_5_isToStart k a1 w Q) : V p l e (RM 0) s m args below meth c 3 ad cy D (AW ad) s.heap 0 0 (MQ below (va_Qi Q (BC ad cy D wm wl0) (AW ad)) args s 0 0 (AW ad)) w wm wl0 0 [(0, .ref (ad k)), (1, .int a1)] [] := by
  unfold wp_5_isToStart at h
  refine V_aload_n X (i := 0) 0 dX5_isToStart_0 rfl rfl ?_
  refine G_5_40 X (hk).1 (hk).2.1 (Play_r7 hk) dX5_isToStart_1 ?_
  obtain ⟨x1, ex1⟩ : ∃ y : Int32, y = (w k 7) := ⟨_, rfl⟩
  have h := h x1 ex1
  refine V_istore_n X dX5_isToStart_4 rfl (by decide) ex1 (ls1 := [(2, .int x1), (0, .ref (ad k)), (1, .int a1)]) rfl ?_
  refine V_sub X (ls1 := [(0, .ref (ad k)), (1, .int a1), (2, .int x1)]) [1, 2, 0] rfl ?_
  obtain ⟨nn, h⟩ := h
  exact v_5_isToStart_b5 X hr hk nn _ _ _ h
theorem c_5_isToStart {k : Nat} {a1 : Int32} (hinj : INJ ad) (hk : isPlay k) {w : Mem} {Q : Int32 → Mem → Prop} (h : wp_5_isToStart k a1 w Q) : Met l yX5_isToStart (TBq yX5_isToStart cX5_isToStart 3 (some .boolean)) (RM 0) (va_Pc [.ref (ad k), .int a1] (PB ad cy D (cmb w wm) wl0)) (va_Qi Q (BC ad cy D wm wl0) (AW ad)) 0 0 (AW ad) := M_enter (by decide) (Nat.le_of_ble_eq_true rfl) hinj (fun p e s m args below meth c X hr => v_5_isToStart X hr hk h)
theorem mf_5_isToStart : MFV yX5_isToStart cX5_isToStart 3 (some .boolean) yX5_isToStart.cls 1 := ⟨q_1060, q_1058, q_1059, q_9, by decide⟩
theorem K_5_isToStart {own : String} {idx : Nat} {k : Nat} {a1 : Int32} (X : CXq p s m args meth c cc nL own ad cy D A H0) (hL : LK own idx yX5_isToStart) (hk : isPlay k) {w : Mem} {Q : Int32 → Mem → Prop} (h : wp_5_isToStart k a1 w Q) (hR : (RM 0).frames + 1 ≤ R.frames ∧ 8 + (3 + 11) + (RM 0).locals ≤ R.locals) (hce : ce ≤ R.cells ∧ sl ≤ R.slots) (hcat : (st1.map fun v => v.category).sum ≤ 8) (hd : decode cc pc = .ok (.invokevirtual idx, 3)) (kk : ∀ (r : Int32) (u : Mem), Q r u → V p l e R s m args below meth c nL ad cy D A H0 ce sl Qs u wm wl0 (pc + 3) ls (.int r :: st1)) : V p l e R s m args below meth c nL ad cy D A H0 ce sl Qs w wm wl0 pc ls (.int a1 :: .ref (ad k) :: st1) := V_callVI_c X mf_5_isToStart hL (rfl : vwCl[5]? = some (RX5, TX5, 9)) (by decide) (hk).1 (Nat.lt_of_lt_of_le (hk).2.1 (CX_nn X)) (c_5_isToStart X.2.2.2.2.2.2.2.1 hk h) (As := [.int a1]) rfl ⟨rfl, rfl⟩ hR hce st1 rfl hcat hd kk
set_option maxRecDepth 20000 in
theorem v_5_cellsOf {a1 : Int32} {a2 : Int32} (X : CXq p s m args meth c cX5_cellsOf 2 yX5_cellsOf.cls ad cy D (AW ad) s.heap) (hr : meth.sig.returnType = (some .int)) {w : Mem} {Q : Int32 → Mem → Prop} (h : wp_5_cellsOf a1 a2 w Q) : V p l e (RM 0) s m args below meth c 2 ad cy D (AW ad) s.heap 0 0 (MQ below (va_Qi Q (BC ad cy D wm wl0) (AW ad)) args s 0 0 (AW ad)) w wm wl0 0 [(0, .int a1), (1, .int a2)] [] := by
  unfold wp_5_cellsOf at h
  refine V_iload_n X (i := 0) 0 dX5_cellsOf_0 rfl rfl ?_
  refine V_iconst X (v := (2 : Int32)) dX5_cellsOf_1 (by decide) ?_
  refine V_imul X dX5_cellsOf_2 ?_
  refine V_iload_n X (i := 1) 1 dX5_cellsOf_3 rfl rfl ?_
  refine V_iadd X dX5_cellsOf_4 ?_
  refine V_iconst X (v := (1 : Int32)) dX5_cellsOf_5 (by decide) ?_
  refine V_isub X dX5_cellsOf_6 ?_
  refine V_bipush X (v := (16 : Int32)) dX5_cellsOf_7 (by decide) ?_
  refine V_imul X dX5_cellsOf_9 ?_
  exact V_iret_c X hr dX5_cellsOf_10 h
theorem c_5_cellsOf {a1 : Int32} {a2 : Int32} (hinj : INJ ad) {w : Mem} {Q : Int32 → Mem → Prop} (h : wp_5_cellsOf a1 a2 w Q) : Met l yX5_cellsOf (TBq yX5_cellsOf cX5_cellsOf 2 (some .int)) (RM 0) (va_Pc [.int a1, .int a2] (PB ad cy D (cmb w wm) wl0)) (va_Qi Q (BC ad cy D wm wl0) (AW ad)) 0 0 (AW ad) := M_enter (by decide) (Nat.le_of_ble_eq_true rfl) hinj (fun p e s m args below meth c X hr => v_5_cellsOf X hr h)
theorem mf_5_cellsOf : MFS yX5_cellsOf cX5_cellsOf 2 (some .int) 2 := ⟨q_841, q_840, q_9, by decide⟩
theorem K_5_cellsOf {own : String} {idx : Nat} {a1 : Int32} {a2 : Int32} (X : CXq p s m args meth c cc nL own ad cy D A H0) (hL : LK own idx yX5_cellsOf) {w : Mem} {Q : Int32 → Mem → Prop} (h : wp_5_cellsOf a1 a2 w Q) (hR : (RM 0).frames + 1 ≤ R.frames ∧ 8 + (2 + 11) + (RM 0).locals ≤ R.locals) (hce : ce ≤ R.cells ∧ sl ≤ R.slots) (hcat : (st1.map fun v => v.category).sum ≤ 8) (hd : decode cc pc = .ok (.invokestatic idx, 3)) (kk : ∀ (r : Int32) (u : Mem), Q r u → V p l e R s m args below meth c nL ad cy D A H0 ce sl Qs u wm wl0 (pc + 3) ls (.int r :: st1)) : V p l e R s m args below meth c nL ad cy D A H0 ce sl Qs w wm wl0 pc ls (.int a2 :: .int a1 :: st1) := V_callSI_c X mf_5_cellsOf hL (c_5_cellsOf X.2.2.2.2.2.2.2.1 h) (As := [.int a1, .int a2]) rfl ⟨rfl, rfl⟩ hR hce st1 rfl hcat hd kk
set_option maxRecDepth 20000 in
theorem v_5_cell_b32 (X : CXq p s m args meth c cX5_cell 5 yX5_cell.cls ad cy D (AW ad) s.heap) (hr : meth.sig.returnType = (some .int)) {k : Nat} (hk : isPlay k) {Q : Int32 → Mem → Prop} : ∀ (w : Mem), wp_5_cell_b32 k Q w → V p l e (RM 1) s m args below meth c 5 ad cy D (AW ad) s.heap 0 0 (MQ below (va_Qi Q (BC ad cy D wm wl0) (AW ad)) args s 0 0 (AW ad)) w wm wl0 32 [] [] := by
  intro w h
  unfold wp_5_cell_b32 at h
  refine V_iconst X (v := (0 : Int32)) dX5_cell_32 (by decide) ?_
  exact V_iret_c X hr dX5_cell_33 h
set_option maxRecDepth 20000 in
theorem v_5_cell {k : Nat} {a1 : Int32} {a2 : Int32} {a3 : Int32} (X : CXq p s m args meth c cX5_cell 5 yX5_cell.cls ad cy D (AW ad) s.heap) (hr : meth.sig.returnType = (some .int)) (hk : isPlay k) {w : Mem} {Q : Int32 → Mem → Prop} (h : wp_5_cell k a1 a2 a3 w Q) : V p l e (RM 1) s m args below meth c 5 ad cy D (AW ad) s.heap 0 0 (MQ below (va_Qi Q (BC ad cy D wm wl0) (AW ad)) args s 0 0 (AW ad)) w wm wl0 0 [(0, .ref (ad k)), (1, .int a1), (2, .int a2), (3, .int a3)] [] := by
  unfold wp_5_cell at h
  refine V_iload_n X (i := 1) 1 dX5_cell_0 rfl rfl ?_
  refine V_iload_n X (i := 2) 2 dX5_cell_1 rfl rfl ?_
  refine K_5_cellsOf X (Or.inl q_839) h ⟨Nat.le_of_ble_eq_true rfl, Nat.le_of_ble_eq_true rfl⟩ ⟨Nat.zero_le _, Nat.zero_le _⟩ (st1 := []) (Nat.le_of_ble_eq_true rfl) dX5_cell_2 (fun r2 w1 h => ?_)
  refine V_iload_n X (i := 3) 3 dX5_cell_5 rfl rfl ?_
  refine V_iadd X dX5_cell_6 ?_
  obtain ⟨x3, ex3⟩ : ∃ y : Int32, y = (r2 + a3) := ⟨_, rfl⟩
  have h := h x3 ex3
  refine V_istore X dX5_cell_7 (by decide) ex3 (ls1 := [(4, .int x3), (0, .ref (ad k)), (1, .int a1), (2, .int a2), (3, .int a3)]) rfl ?_
  refine V_iload X (i := 4) 0 dX5_cell_9 rfl ?_
  obtain ⟨ht, hf⟩ := h
  refine V_if_lt X (tgt := 32) dX5_cell_11 (by decide) (fun c => ?_) (fun c => ?_)
  · have h := ht c
    refine V_sub X (ls1 := []) [] rfl ?_
    exact v_5_cell_b32 X hr hk _ h
  · have h := hf c
    refine V_iload X (i := 4) 0 dX5_cell_14 rfl ?_
    refine V_sipush X (v := (256 : Int32)) dX5_cell_16 (by decide) ?_
    obtain ⟨ht, hf⟩ := h
    refine V_icmp_ge X (tgt := 32) dX5_cell_19 (by decide) (fun c => ?_) (fun c => ?_)
    · have h := ht c
      refine V_sub X (ls1 := []) [] rfl ?_
      exact v_5_cell_b32 X hr hk _ h
    · have h := hf c
      refine V_aload_n X (i := 0) 1 dX5_cell_22 rfl rfl ?_
      refine G_5_18 X (hk).1 (hk).2.1 (Play_r3 hk) dX5_cell_23 ?_
      refine V_iload X (i := 4) 0 dX5_cell_26 rfl ?_
      obtain ⟨g4, h⟩ := h
      refine V_iald_c X ((Play_s3 hk)).2.1 ((Play_s3 hk)).2.2 ((Play_s3 hk)).1 g4 dX5_cell_28 ?_
      refine V_goto X (tgt := 33) dX5_cell_29 (by decide) ?_
      exact V_iret_c X hr dX5_cell_33 h
theorem c_5_cell {k : Nat} {a1 : Int32} {a2 : Int32} {a3 : Int32} (hinj : INJ ad) (hk : isPlay k) {w : Mem} {Q : Int32 → Mem → Prop} (h : wp_5_cell k a1 a2 a3 w Q) : Met l yX5_cell (TBq yX5_cell cX5_cell 5 (some .int)) (RM 1) (va_Pc [.ref (ad k), .int a1, .int a2, .int a3] (PB ad cy D (cmb w wm) wl0)) (va_Qi Q (BC ad cy D wm wl0) (AW ad)) 0 0 (AW ad) := M_enter (by decide) (Nat.le_of_ble_eq_true rfl) hinj (fun p e s m args below meth c X hr => v_5_cell X hr hk h)
theorem mf_5_cell : MFV yX5_cell cX5_cell 5 (some .int) yX5_cell.cls 3 := ⟨q_838, q_836, q_837, q_9, by decide⟩
theorem K_5_cell {own : String} {idx : Nat} {k : Nat} {a1 : Int32} {a2 : Int32} {a3 : Int32} (X : CXq p s m args meth c cc nL own ad cy D A H0) (hL : LK own idx yX5_cell) (hk : isPlay k) {w : Mem} {Q : Int32 → Mem → Prop} (h : wp_5_cell k a1 a2 a3 w Q) (hR : (RM 1).frames + 1 ≤ R.frames ∧ 8 + (5 + 11) + (RM 1).locals ≤ R.locals) (hce : ce ≤ R.cells ∧ sl ≤ R.slots) (hcat : (st1.map fun v => v.category).sum ≤ 8) (hd : decode cc pc = .ok (.invokevirtual idx, 3)) (kk : ∀ (r : Int32) (u : Mem), Q r u → V p l e R s m args below meth c nL ad cy D A H0 ce sl Qs u wm wl0 (pc + 3) ls (.int r :: st1)) : V p l e R s m args below meth c nL ad cy D A H0 ce sl Qs w wm wl0 pc ls (.int a3 :: .int a2 :: .int a1 :: .ref (ad k) :: st1) := V_callVI_c X mf_5_cell hL (rfl : vwCl[5]? = some (RX5, TX5, 9)) (by decide) (hk).1 (Nat.lt_of_lt_of_le (hk).2.1 (CX_nn X)) (c_5_cell X.2.2.2.2.2.2.2.1 hk h) (As := [.int a1, .int a2, .int a3]) rfl ⟨rfl, rfl⟩ hR hce st1 rfl hcat hd kk
set_option maxRecDepth 20000 in
theorem v_5_hasJump_b35 (X : CXq p s m args meth c cX5_hasJump 3 yX5_hasJump.cls ad cy D (AW ad) s.heap) (hr : meth.sig.returnType = (some .boolean)) {k : Nat} (hk : isPlay k) {Q : Int32 → Mem → Prop} : ∀ (w : Mem), wp_5_hasJump_b35 k Q w → V p l e (RM 2) s m args below meth c 3 ad cy D (AW ad) s.heap 0 0 (MQ below (va_Qi Q (BC ad cy D wm wl0) (AW ad)) args s 0 0 (AW ad)) w wm wl0 35 [] [] := by
  intro w h
  unfold wp_5_hasJump_b35 at h
  refine V_iconst X (v := (0 : Int32)) dX5_hasJump_35 (by decide) ?_
  exact V_zret_c X hr dX5_hasJump_36 rfl h
set_option maxRecDepth 20000 in
theorem v_5_hasJump {k : Nat} {a1 : Int32} {a2 : Int32} (X : CXq p s m args meth c cX5_hasJump 3 yX5_hasJump.cls ad cy D (AW ad) s.heap) (hr : meth.sig.returnType = (some .boolean)) (hk : isPlay k) {w : Mem} {Q : Int32 → Mem → Prop} (h : wp_5_hasJump k a1 a2 w Q) : V p l e (RM 2) s m args below meth c 3 ad cy D (AW ad) s.heap 0 0 (MQ below (va_Qi Q (BC ad cy D wm wl0) (AW ad)) args s 0 0 (AW ad)) w wm wl0 0 [(0, .ref (ad k)), (1, .int a1), (2, .int a2)] [] := by
  unfold wp_5_hasJump at h
  refine V_iload_n X (i := 1) 1 dX5_hasJump_0 rfl rfl ?_
  refine V_iconst X (v := (0 : Int32)) dX5_hasJump_1 (by decide) ?_
  refine V_bipush X (v := (7 : Int32)) dX5_hasJump_2 (by decide) ?_
  refine K_11_within X (Or.inr ⟨_, q_834⟩) h ⟨Nat.le_of_ble_eq_true rfl, Nat.le_of_ble_eq_true rfl⟩ ⟨Nat.zero_le _, Nat.zero_le _⟩ (st1 := []) (Nat.le_of_ble_eq_true rfl) dX5_hasJump_4 (fun r2 w1 h => ?_)
  obtain ⟨ht, hf⟩ := h
  refine V_if_eq X (tgt := 35) dX5_hasJump_7 (by decide) (fun c => ?_) (fun c => ?_)
  · have h := ht c
    refine V_sub X (ls1 := []) [] rfl ?_
    exact v_5_hasJump_b35 X hr hk _ h
  · have h := hf c
    refine V_iload_n X (i := 2) 2 dX5_hasJump_10 rfl rfl ?_
    refine V_iconst X (v := (1 : Int32)) dX5_hasJump_11 (by decide) ?_
    refine V_iconst X (v := (2 : Int32)) dX5_hasJump_12 (by decide) ?_
    refine K_11_within X (Or.inr ⟨_, q_834⟩) h ⟨Nat.le_of_ble_eq_true rfl, Nat.le_of_ble_eq_true rfl⟩ ⟨Nat.zero_le _, Nat.zero_le _⟩ (st1 := []) (Nat.le_of_ble_eq_true rfl) dX5_hasJump_13 (fun r4 w3 h => ?_)
    obtain ⟨ht, hf⟩ := h
    refine V_if_eq X (tgt := 35) dX5_hasJump_16 (by decide) (fun c => ?_) (fun c => ?_)
    · have h := ht c
      refine V_sub X (ls1 := []) [] rfl ?_
      exact v_5_hasJump_b35 X hr hk _ h
    · have h := hf c
      refine V_aload_n X (i := 0) 0 dX5_hasJump_19 rfl rfl ?_
      refine V_iload_n X (i := 1) 1 dX5_hasJump_20 rfl rfl ?_
      refine V_iload_n X (i := 2) 2 dX5_hasJump_21 rfl rfl ?_
      refine V_bipush X (v := (8 : Int32)) dX5_hasJump_22 (by decide) ?_
      refine K_5_cell X (Or.inl q_835) hk h ⟨Nat.le_of_ble_eq_true rfl, Nat.le_of_ble_eq_true rfl⟩ ⟨Nat.zero_le _, Nat.zero_le _⟩ (st1 := []) (Nat.le_of_ble_eq_true rfl) dX5_hasJump_24 (fun r6 w5 h => ?_)
      refine V_iconst X (v := (1 : Int32)) dX5_hasJump_27 (by decide) ?_
      obtain ⟨ht, hf⟩ := h
      refine V_icmp_ne X (tgt := 35) dX5_hasJump_28 (by decide) (fun c => ?_) (fun c => ?_)
      · have h := ht c
        refine V_sub X (ls1 := []) [] rfl ?_
        exact v_5_hasJump_b35 X hr hk _ h
      · have h := hf c
        refine V_iconst X (v := (1 : Int32)) dX5_hasJump_31 (by decide) ?_
        refine V_goto X (tgt := 36) dX5_hasJump_32 (by decide) ?_
        exact V_zret_c X hr dX5_hasJump_36 rfl h
theorem c_5_hasJump {k : Nat} {a1 : Int32} {a2 : Int32} (hinj : INJ ad) (hk : isPlay k) {w : Mem} {Q : Int32 → Mem → Prop} (h : wp_5_hasJump k a1 a2 w Q) : Met l yX5_hasJump (TBq yX5_hasJump cX5_hasJump 3 (some .boolean)) (RM 2) (va_Pc [.ref (ad k), .int a1, .int a2] (PB ad cy D (cmb w wm) wl0)) (va_Qi Q (BC ad cy D wm wl0) (AW ad)) 0 0 (AW ad) := M_enter (by decide) (Nat.le_of_ble_eq_true rfl) hinj (fun p e s m args below meth c X hr => v_5_hasJump X hr hk h)
theorem mf_5_hasJump : MFV yX5_hasJump cX5_hasJump 3 (some .boolean) yX5_hasJump.cls 2 := ⟨q_833, q_831, q_832, q_9, by decide⟩
theorem K_5_hasJump {own : String} {idx : Nat} {k : Nat} {a1 : Int32} {a2 : Int32} (X : CXq p s m args meth c cc nL own ad cy D A H0) (hL : LK own idx yX5_hasJump) (hk : isPlay k) {w : Mem} {Q : Int32 → Mem → Prop} (h : wp_5_hasJump k a1 a2 w Q) (hR : (RM 2).frames + 1 ≤ R.frames ∧ 8 + (3 + 11) + (RM 2).locals ≤ R.locals) (hce : ce ≤ R.cells ∧ sl ≤ R.slots) (hcat : (st1.map fun v => v.category).sum ≤ 8) (hd : decode cc pc = .ok (.invokevirtual idx, 3)) (kk : ∀ (r : Int32) (u : Mem), Q r u → V p l e R s m args below meth c nL ad cy D A H0 ce sl Qs u wm wl0 (pc + 3) ls (.int r :: st1)) : V p l e R s m args below meth c nL ad cy D A H0 ce sl Qs w wm wl0 pc ls (.int a2 :: .int a1 :: .ref (ad k) :: st1) := V_callVI_c X mf_5_hasJump hL (rfl : vwCl[5]? = some (RX5, TX5, 9)) (by decide) (hk).1 (Nat.lt_of_lt_of_le (hk).2.1 (CX_nn X)) (c_5_hasJump X.2.2.2.2.2.2.2.1 hk h) (As := [.int a1, .int a2]) rfl ⟨rfl, rfl⟩ hR hce st1 rfl hcat hd kk
set_option maxRecDepth 20000 in
theorem v_5_styleWithout {k : Nat} {a1 : Int32} {a2 : Int32} {a3 : Int32} (X : CXq p s m args meth c cX5_styleWithout 4 yX5_styleWithout.cls ad cy D (AW ad) s.heap) (hr : meth.sig.returnType = (some .int)) (hk : isPlay k) {w : Mem} {Q : Int32 → Mem → Prop} (h : wp_5_styleWithout k a1 a2 a3 w Q) : V p l e (RM 3) s m args below meth c 4 ad cy D (AW ad) s.heap 0 0 (MQ below (va_Qi Q (BC ad cy D wm wl0) (AW ad)) args s 0 0 (AW ad)) w wm wl0 0 [(0, .ref (ad k)), (1, .int a1), (2, .int a2), (3, .int a3)] [] := by
  unfold wp_5_styleWithout at h
  refine V_aload_n X (i := 0) 0 dX5_styleWithout_0 rfl rfl ?_
  refine G_5_18 X (hk).1 (hk).2.1 (Play_r3 hk) dX5_styleWithout_1 ?_
  refine V_iload_n X (i := 1) 1 dX5_styleWithout_4 rfl rfl ?_
  refine V_iload_n X (i := 2) 2 dX5_styleWithout_5 rfl rfl ?_
  refine K_5_cellsOf X (Or.inl q_839) h ⟨Nat.le_of_ble_eq_true rfl, Nat.le_of_ble_eq_true rfl⟩ ⟨Nat.zero_le _, Nat.zero_le _⟩ (st1 := [.ref (ad (k + 3))]) (Nat.le_of_ble_eq_true rfl) dX5_styleWithout_6 (fun r2 w1 h => ?_)
  refine V_bipush X (v := (9 : Int32)) dX5_styleWithout_9 (by decide) ?_
  refine V_iadd X dX5_styleWithout_11 ?_
  refine V_aload_n X (i := 0) 0 dX5_styleWithout_12 rfl rfl ?_
  refine G_5_21 X (hk).1 (hk).2.1 (Play_r0 hk) dX5_styleWithout_13 ?_
  refine G_5_43 X (inst_Text_48).1 (inst_Text_48).2.1 (Text_r6 inst_Text_48) dX5_styleWithout_16 ?_
  refine G_5_79 X (inst_People_80).1 (inst_People_80).2.1 (People_r7 inst_People_80) dX5_styleWithout_19 ?_
  refine V_iload_n X (i := 3) 3 dX5_styleWithout_22 rfl rfl ?_
  refine K_11_styleOf X (Or.inr ⟨_, q_1049⟩) (Play_s3 hk) h ⟨Nat.le_of_ble_eq_true rfl, Nat.le_of_ble_eq_true rfl⟩ ⟨Nat.zero_le _, Nat.zero_le _⟩ (st1 := []) (Nat.le_of_ble_eq_true rfl) dX5_styleWithout_23 (fun r4 w3 h => ?_)
  exact V_iret_c X hr dX5_styleWithout_26 h
theorem c_5_styleWithout {k : Nat} {a1 : Int32} {a2 : Int32} {a3 : Int32} (hinj : INJ ad) (hk : isPlay k) {w : Mem} {Q : Int32 → Mem → Prop} (h : wp_5_styleWithout k a1 a2 a3 w Q) : Met l yX5_styleWithout (TBq yX5_styleWithout cX5_styleWithout 4 (some .int)) (RM 3) (va_Pc [.ref (ad k), .int a1, .int a2, .int a3] (PB ad cy D (cmb w wm) wl0)) (va_Qi Q (BC ad cy D wm wl0) (AW ad)) 0 0 (AW ad) := M_enter (by decide) (Nat.le_of_ble_eq_true rfl) hinj (fun p e s m args below meth c X hr => v_5_styleWithout X hr hk h)
theorem mf_5_styleWithout : MFV yX5_styleWithout cX5_styleWithout 4 (some .int) yX5_styleWithout.cls 3 := ⟨q_1048, q_1046, q_1047, q_9, by decide⟩
theorem K_5_styleWithout {own : String} {idx : Nat} {k : Nat} {a1 : Int32} {a2 : Int32} {a3 : Int32} (X : CXq p s m args meth c cc nL own ad cy D A H0) (hL : LK own idx yX5_styleWithout) (hk : isPlay k) {w : Mem} {Q : Int32 → Mem → Prop} (h : wp_5_styleWithout k a1 a2 a3 w Q) (hR : (RM 3).frames + 1 ≤ R.frames ∧ 8 + (4 + 11) + (RM 3).locals ≤ R.locals) (hce : ce ≤ R.cells ∧ sl ≤ R.slots) (hcat : (st1.map fun v => v.category).sum ≤ 8) (hd : decode cc pc = .ok (.invokevirtual idx, 3)) (kk : ∀ (r : Int32) (u : Mem), Q r u → V p l e R s m args below meth c nL ad cy D A H0 ce sl Qs u wm wl0 (pc + 3) ls (.int r :: st1)) : V p l e R s m args below meth c nL ad cy D A H0 ce sl Qs w wm wl0 pc ls (.int a3 :: .int a2 :: .int a1 :: .ref (ad k) :: st1) := V_callVI_c X mf_5_styleWithout hL (rfl : vwCl[5]? = some (RX5, TX5, 9)) (by decide) (hk).1 (Nat.lt_of_lt_of_le (hk).2.1 (CX_nn X)) (c_5_styleWithout X.2.2.2.2.2.2.2.1 hk h) (As := [.int a1, .int a2, .int a3]) rfl ⟨rfl, rfl⟩ hR hce st1 rfl hcat hd kk
set_option maxRecDepth 20000 in
theorem v_11_rankAmong_b52 (X : CXq p s m args meth c cX11_rankAmong 6 yX11_rankAmong.cls ad cy D (AW ad) s.heap) (hr : meth.sig.returnType = (some .int)) {b1 nb1 : Nat} (hb1 : isArr b1 14 nb1) {Q : Int32 → Mem → Prop} {L5 : Int32 → Int32 → Int32 → Int32 → Mem → Prop} (HL5 : ∀ (l1 : Int32) (l2 : Int32) (l3 : Int32) (l4 : Int32) (w : Mem), L5 l1 l2 l3 l4 w → V p l e (RM 0) s m args below meth c 6 ad cy D (AW ad) s.heap 0 0 (MQ below (va_Qi Q (BC ad cy D wm wl0) (AW ad)) args s 0 0 (AW ad)) w wm wl0 5 [(0, .ref (ad b1)), (1, .int l1), (2, .int l2), (3, .int l3), (4, .int l4)] []) : ∀ (l1 : Int32) (l2 : Int32) (l3 : Int32) (l4 : Int32) (w : Mem), wp_11_rankAmong_b52 b1 nb1 Q L5 l1 l2 l3 l4 w → V p l e (RM 0) s m args below meth c 6 ad cy D (AW ad) s.heap 0 0 (MQ below (va_Qi Q (BC ad cy D wm wl0) (AW ad)) args s 0 0 (AW ad)) w wm wl0 52 [(0, .ref (ad b1)), (1, .int l1), (2, .int l2), (3, .int l3), (4, .int l4)] [] := by
  intro l1 l2 l3 l4 w h
  unfold wp_11_rankAmong_b52 at h
  obtain ⟨x1, ex1⟩ : ∃ y : Int32, y = l4 + (1 : Int32) := ⟨_, rfl⟩
  have h := h x1 ex1
  refine V_iinc X 4 dX11_rankAmong_52 rfl (by decide) (by rw [ex1]; rfl) (ls1 := [(4, .int x1), (0, .ref (ad b1)), (1, .int l1), (2, .int l2), (3, .int l3)]) rfl ?_
  refine V_goto X (tgt := 5) dX11_rankAmong_55 (by decide) ?_
  refine V_sub X (ls1 := [(0, .ref (ad b1)), (1, .int l1), (2, .int l2), (3, .int l3), (4, .int x1)]) [1, 2, 3, 4, 0] rfl ?_
  exact HL5 _ _ _ _ _ h
set_option maxRecDepth 20000 in
theorem v_11_rankAmong_b42 (X : CXq p s m args meth c cX11_rankAmong 6 yX11_rankAmong.cls ad cy D (AW ad) s.heap) (hr : meth.sig.returnType = (some .int)) {b1 nb1 : Nat} (hb1 : isArr b1 14 nb1) {Q : Int32 → Mem → Prop} {L5 : Int32 → Int32 → Int32 → Int32 → Mem → Prop} (HL5 : ∀ (l1 : Int32) (l2 : Int32) (l3 : Int32) (l4 : Int32) (w : Mem), L5 l1 l2 l3 l4 w → V p l e (RM 0) s m args below meth c 6 ad cy D (AW ad) s.heap 0 0 (MQ below (va_Qi Q (BC ad cy D wm wl0) (AW ad)) args s 0 0 (AW ad)) w wm wl0 5 [(0, .ref (ad b1)), (1, .int l1), (2, .int l2), (3, .int l3), (4, .int l4)] []) : ∀ (l1 : Int32) (l2 : Int32) (l3 : Int32) (l4 : Int32) (s0 : Int32) (w : Mem), wp_11_rankAmong_b42 b1 nb1 Q L5 l1 l2 l3 l4 s0 w → V p l e (RM 0) s m args below meth c 6 ad cy D (AW ad) s.heap 0 0 (MQ below (va_Qi Q (BC ad cy D wm wl0) (AW ad)) args s 0 0 (AW ad)) w wm wl0 42 [(0, .ref (ad b1)), (1, .int l1), (2, .int l2), (3, .int l3), (4, .int l4)] [.int s0] := by
  intro l1 l2 l3 l4 s0 w h
  unfold wp_11_rankAmong_b42 at h
  refine V_istore X dX11_rankAmong_42 (by decide) rfl (ls1 := [(5, .int s0), (0, .ref (ad b1)), (1, .int l1), (2, .int l2), (3, .int l3), (4, .int l4)]) rfl ?_
  refine V_iload X (i := 5) 0 dX11_rankAmong_44 rfl ?_
  obtain ⟨ht, hf⟩ := h
  refine V_if_eq X (tgt := 52) dX11_rankAmong_46 (by decide) (fun c => ?_) (fun c => ?_)
  · have h := ht c
    refine V_sub X (ls1 := [(0, .ref (ad b1)), (1, .int l1), (2, .int l2), (3, .int l3), (4, .int l4)]) [1, 2, 3, 4, 5] rfl ?_
    exact v_11_rankAmong_b52 X hr hb1 HL5 _ _ _ _ _ h
  · have h := hf c
    obtain ⟨x1, ex1⟩ : ∃ y : Int32, y = l3 + (1 : Int32) := ⟨_, rfl⟩
    have h := h x1 ex1
    refine V_iinc X 4 dX11_rankAmong_49 rfl (by decide) (by rw [ex1]; rfl) (ls1 := [(3, .int x1), (5, .int s0), (0, .ref (ad b1)), (1, .int l1), (2, .int l2), (4, .int l4)]) rfl ?_
    refine V_sub X (ls1 := [(0, .ref (ad b1)), (1, .int l1), (2, .int l2), (3, .int x1), (4, .int l4)]) [2, 3, 4, 0, 5] rfl ?_
    exact v_11_rankAmong_b52 X hr hb1 HL5 _ _ _ _ _ h
set_option maxRecDepth 20000 in
theorem v_11_rankAmong_b41 (X : CXq p s m args meth c cX11_rankAmong 6 yX11_rankAmong.cls ad cy D (AW ad) s.heap) (hr : meth.sig.returnType = (some .int)) {b1 nb1 : Nat} (hb1 : isArr b1 14 nb1) {Q : Int32 → Mem → Prop} {L5 : Int32 → Int32 → Int32 → Int32 → Mem → Prop} (HL5 : ∀ (l1 : Int32) (l2 : Int32) (l3 : Int32) (l4 : Int32) (w : Mem), L5 l1 l2 l3 l4 w → V p l e (RM 0) s m args below meth c 6 ad cy D (AW ad) s.heap 0 0 (MQ below (va_Qi Q (BC ad cy D wm wl0) (AW ad)) args s 0 0 (AW ad)) w wm wl0 5 [(0, .ref (ad b1)), (1, .int l1), (2, .int l2), (3, .int l3), (4, .int l4)] []) : ∀ (l1 : Int32) (l2 : Int32) (l3 : Int32) (l4 : Int32) (w : Mem), wp_11_rankAmong_b41 b1 nb1 Q L5 l1 l2 l3 l4 w → V p l e (RM 0) s m args below meth c 6 ad cy D (AW ad) s.heap 0 0 (MQ below (va_Qi Q (BC ad cy D wm wl0) (AW ad)) args s 0 0 (AW ad)) w wm wl0 41 [(0, .ref (ad b1)), (1, .int l1), (2, .int l2), (3, .int l3), (4, .int l4)] [] := by
  intro l1 l2 l3 l4 w h
  unfold wp_11_rankAmong_b41 at h
  refine V_iconst X (v := (0 : Int32)) dX11_rankAmong_41 (by decide) ?_
  refine V_sub X (ls1 := [(0, .ref (ad b1)), (1, .int l1), (2, .int l2), (3, .int l3), (4, .int l4)]) [0, 1, 2, 3, 4] rfl ?_
  exact v_11_rankAmong_b42 X hr hb1 HL5 _ _ _ _ _ _ h
set_option maxRecDepth 20000 in
theorem v_11_rankAmong_b37 (X : CXq p s m args meth c cX11_rankAmong 6 yX11_rankAmong.cls ad cy D (AW ad) s.heap) (hr : meth.sig.returnType = (some .int)) {b1 nb1 : Nat} (hb1 : isArr b1 14 nb1) {Q : Int32 → Mem → Prop} {L5 : Int32 → Int32 → Int32 → Int32 → Mem → Prop} (HL5 : ∀ (l1 : Int32) (l2 : Int32) (l3 : Int32) (l4 : Int32) (w : Mem), L5 l1 l2 l3 l4 w → V p l e (RM 0) s m args below meth c 6 ad cy D (AW ad) s.heap 0 0 (MQ below (va_Qi Q (BC ad cy D wm wl0) (AW ad)) args s 0 0 (AW ad)) w wm wl0 5 [(0, .ref (ad b1)), (1, .int l1), (2, .int l2), (3, .int l3), (4, .int l4)] []) : ∀ (l1 : Int32) (l2 : Int32) (l3 : Int32) (l4 : Int32) (w : Mem), wp_11_rankAmong_b37 b1 nb1 Q L5 l1 l2 l3 l4 w → V p l e (RM 0) s m args below meth c 6 ad cy D (AW ad) s.heap 0 0 (MQ below (va_Qi Q (BC ad cy D wm wl0) (AW ad)) args s 0 0 (AW ad)) w wm wl0 37 [(0, .ref (ad b1)), (1, .int l1), (2, .int l2), (3, .int l3), (4, .int l4)] [] := by
  intro l1 l2 l3 l4 w h
  unfold wp_11_rankAmong_b37 at h
  refine V_iconst X (v := (1 : Int32)) dX11_rankAmong_37 (by decide) ?_
  refine V_goto X (tgt := 42) dX11_rankAmong_38 (by decide) ?_
  refine V_sub X (ls1 := [(0, .ref (ad b1)), (1, .int l1), (2, .int l2), (3, .int l3), (4, .int l4)]) [0, 1, 2, 3, 4] rfl ?_
  exact v_11_rankAmong_b42 X hr hb1 HL5 _ _ _ _ _ _ h
set_option maxRecDepth 20000 in
theorem v_11_rankAmong_b5 (X : CXq p s m args meth c cX11_rankAmong 6 yX11_rankAmong.cls ad cy D (AW ad) s.heap) (hr : meth.sig.returnType = (some .int)) {b1 nb1 : Nat} (hb1 : isArr b1 14 nb1) {Q : Int32 → Mem → Prop} : ∀ (n : Nat) (l1 : Int32) (l2 : Int32) (l3 : Int32) (l4 : Int32) (w : Mem), wp_11_rankAmong_b5 b1 nb1 Q n l1 l2 l3 l4 w → V p l e (RM 0) s m args below meth c 6 ad cy D (AW ad) s.heap 0 0 (MQ below (va_Qi Q (BC ad cy D wm wl0) (AW ad)) args s 0 0 (AW ad)) w wm wl0 5 [(0, .ref (ad b1)), (1, .int l1), (2, .int l2), (3, .int l3), (4, .int l4)] [] := by
  intro n
  induction n with
  | zero =>
    intro l1 l2 l3 l4 w h
    exact h.elim
  | succ n ih =>
    intro l1 l2 l3 l4 w h
    unfold wp_11_rankAmong_b5 at h
    refine V_iload X (i := 4) 4 dX11_rankAmong_5 rfl ?_
    refine V_iload_n X (i := 1) 1 dX11_rankAmong_7 rfl rfl ?_
    obtain ⟨ht, hf⟩ := h
    refine V_icmp_ge X (tgt := 58) dX11_rankAmong_8 (by decide) (fun c => ?_) (fun c => ?_)
    · have h := ht c
      refine V_iload_n X (i := 3) 3 dX11_rankAmong_58 rfl rfl ?_
      exact V_iret_c X hr dX11_rankAmong_59 h
    · have h := hf c
      refine V_aload_n X (i := 0) 0 dX11_rankAmong_11 rfl rfl ?_
      refine V_iload X (i := 4) 4 dX11_rankAmong_12 rfl ?_
      obtain ⟨g1, h⟩ := h
      refine V_iald_c X (hb1).2.1 (hb1).2.2 (hb1).1 g1 dX11_rankAmong_14 ?_
      refine V_aload_n X (i := 0) 0 dX11_rankAmong_15 rfl rfl ?_
      refine V_iload_n X (i := 2) 2 dX11_rankAmong_16 rfl rfl ?_
      obtain ⟨g2, h⟩ := h
      refine V_iald_c X (hb1).2.1 (hb1).2.2 (hb1).1 g2 dX11_rankAmong_17 ?_
      obtain ⟨ht, hf⟩ := h
      refine V_icmp_gt X (tgt := 37) dX11_rankAmong_18 (by decide) (fun c => ?_) (fun c => ?_)
      · have h := ht c
        refine V_sub X (ls1 := [(0, .ref (ad b1)), (1, .int l1), (2, .int l2), (3, .int l3), (4, .int l4)]) [0, 1, 2, 3, 4] rfl ?_
        exact v_11_rankAmong_b37 X hr hb1 ih _ _ _ _ _ h
      · have h := hf c
        refine V_aload_n X (i := 0) 0 dX11_rankAmong_21 rfl rfl ?_
        refine V_iload X (i := 4) 4 dX11_rankAmong_22 rfl ?_
        obtain ⟨g3, h⟩ := h
        refine V_iald_c X (hb1).2.1 (hb1).2.2 (hb1).1 g3 dX11_rankAmong_24 ?_
        refine V_aload_n X (i := 0) 0 dX11_rankAmong_25 rfl rfl ?_
        refine V_iload_n X (i := 2) 2 dX11_rankAmong_26 rfl rfl ?_
        obtain ⟨g4, h⟩ := h
        refine V_iald_c X (hb1).2.1 (hb1).2.2 (hb1).1 g4 dX11_rankAmong_27 ?_
        obtain ⟨ht, hf⟩ := h
        refine V_icmp_ne X (tgt := 41) dX11_rankAmong_28 (by decide) (fun c => ?_) (fun c => ?_)
        · have h := ht c
          refine V_sub X (ls1 := [(0, .ref (ad b1)), (1, .int l1), (2, .int l2), (3, .int l3), (4, .int l4)]) [0, 1, 2, 3, 4] rfl ?_
          exact v_11_rankAmong_b41 X hr hb1 ih _ _ _ _ _ h
        · have h := hf c
          refine V_iload X (i := 4) 4 dX11_rankAmong_31 rfl ?_
          refine V_iload_n X (i := 2) 2 dX11_rankAmong_33 rfl rfl ?_
          obtain ⟨ht, hf⟩ := h
          refine V_icmp_ge X (tgt := 41) dX11_rankAmong_34 (by decide) (fun c => ?_) (fun c => ?_)
          · have h := ht c
            refine V_sub X (ls1 := [(0, .ref (ad b1)), (1, .int l1), (2, .int l2), (3, .int l3), (4, .int l4)]) [0, 1, 2, 3, 4] rfl ?_
            exact v_11_rankAmong_b41 X hr hb1 ih _ _ _ _ _ h
          · have h := hf c
            refine V_sub X (ls1 := [(0, .ref (ad b1)), (1, .int l1), (2, .int l2), (3, .int l3), (4, .int l4)]) [0, 1, 2, 3, 4] rfl ?_
            exact v_11_rankAmong_b37 X hr hb1 ih _ _ _ _ _ h
set_option maxRecDepth 20000 in
theorem v_11_rankAmong {b1 nb1 : Nat} {a2 : Int32} {a3 : Int32} (X : CXq p s m args meth c cX11_rankAmong 6 yX11_rankAmong.cls ad cy D (AW ad) s.heap) (hr : meth.sig.returnType = (some .int)) (hb1 : isArr b1 14 nb1) {w : Mem} {Q : Int32 → Mem → Prop} (h : wp_11_rankAmong b1 nb1 a2 a3 w Q) : V p l e (RM 0) s m args below meth c 6 ad cy D (AW ad) s.heap 0 0 (MQ below (va_Qi Q (BC ad cy D wm wl0) (AW ad)) args s 0 0 (AW ad)) w wm wl0 0 [(0, .ref (ad b1)), (1, .int a2), (2, .int a3)] [] := by
  unfold wp_11_rankAmong at h
  refine V_iconst X (v := (0 : Int32)) dX11_rankAmong_0 (by decide) ?_
  refine V_istore_n X dX11_rankAmong_1 rfl (by decide) rfl (ls1 := [(3, .int (0 : Int32)), (0, .ref (ad b1)), (1, .int a2), (2, .int a3)]) rfl ?_
  refine V_iconst X (v := (0 : Int32)) dX11_rankAmong_2 (by decide) ?_
  refine V_istore X dX11_rankAmong_3 (by decide) rfl (ls1 := [(4, .int (0 : Int32)), (3, .int (0 : Int32)), (0, .ref (ad b1)), (1, .int a2), (2, .int a3)]) rfl ?_
  refine V_sub X (ls1 := [(0, .ref (ad b1)), (1, .int a2), (2, .int a3), (3, .int (0 : Int32)), (4, .int (0 : Int32))]) [2, 3, 4, 1, 0] rfl ?_
  obtain ⟨nn, h⟩ := h
  exact v_11_rankAmong_b5 X hr hb1 nn _ _ _ _ _ h
theorem c_11_rankAmong {b1 nb1 : Nat} {a2 : Int32} {a3 : Int32} (hinj : INJ ad) (hb1 : isArr b1 14 nb1) {w : Mem} {Q : Int32 → Mem → Prop} (h : wp_11_rankAmong b1 nb1 a2 a3 w Q) : Met l yX11_rankAmong (TBq yX11_rankAmong cX11_rankAmong 6 (some .int)) (RM 0) (va_Pc [.ref (ad b1), .int a2, .int a3] (PB ad cy D (cmb w wm) wl0)) (va_Qi Q (BC ad cy D wm wl0) (AW ad)) 0 0 (AW ad) := M_enter (by decide) (Nat.le_of_ble_eq_true rfl) hinj (fun p e s m args below meth c X hr => v_11_rankAmong X hr hb1 h)
theorem mf_11_rankAmong : MFS yX11_rankAmong cX11_rankAmong 6 (some .int) 3 := ⟨q_869, q_868, q_1, by decide⟩
theorem K_11_rankAmong {own : String} {idx : Nat} {b1 nb1 : Nat} {a2 : Int32} {a3 : Int32} (X : CXq p s m args meth c cc nL own ad cy D A H0) (hL : LK own idx yX11_rankAmong) (hb1 : isArr b1 14 nb1) {w : Mem} {Q : Int32 → Mem → Prop} (h : wp_11_rankAmong b1 nb1 a2 a3 w Q) (hR : (RM 0).frames + 1 ≤ R.frames ∧ 8 + (6 + 11) + (RM 0).locals ≤ R.locals) (hce : ce ≤ R.cells ∧ sl ≤ R.slots) (hcat : (st1.map fun v => v.category).sum ≤ 8) (hd : decode cc pc = .ok (.invokestatic idx, 3)) (kk : ∀ (r : Int32) (u : Mem), Q r u → V p l e R s m args below meth c nL ad cy D A H0 ce sl Qs u wm wl0 (pc + 3) ls (.int r :: st1)) : V p l e R s m args below meth c nL ad cy D A H0 ce sl Qs w wm wl0 pc ls (.int a3 :: .int a2 :: .ref (ad b1) :: st1) := V_callSI_c X mf_11_rankAmong hL (c_11_rankAmong X.2.2.2.2.2.2.2.1 hb1 h) (As := [.ref (ad b1), .int a2, .int a3]) rfl ⟨rfl, rfl⟩ hR hce st1 rfl hcat hd kk
set_option maxRecDepth 20000 in
theorem v_5_rankOf {k : Nat} {a1 : Int32} (X : CXq p s m args meth c cX5_rankOf 2 yX5_rankOf.cls ad cy D (AW ad) s.heap) (hr : meth.sig.returnType = (some .int)) (hk : isPlay k) {w : Mem} {Q : Int32 → Mem → Prop} (h : wp_5_rankOf k a1 w Q) : V p l e (RM 1) s m args below meth c 2 ad cy D (AW ad) s.heap 0 0 (MQ below (va_Qi Q (BC ad cy D wm wl0) (AW ad)) args s 0 0 (AW ad)) w wm wl0 0 [(0, .ref (ad k)), (1, .int a1)] [] := by
  unfold wp_5_rankOf at h
  refine V_aload_n X (i := 0) 0 dX5_rankOf_0 rfl rfl ?_
  refine G_5_15 X (hk).1 (hk).2.1 (Play_r2 hk) dX5_rankOf_1 ?_
  refine V_aload_n X (i := 0) 0 dX5_rankOf_4 rfl rfl ?_
  refine G_5_21 X (hk).1 (hk).2.1 (Play_r0 hk) dX5_rankOf_5 ?_
  refine G_5_43 X (inst_Text_48).1 (inst_Text_48).2.1 (Text_r6 inst_Text_48) dX5_rankOf_8 ?_
  refine G_5_47 X (inst_People_80).1 (inst_People_80).2.1 (People_r6 inst_People_80) dX5_rankOf_11 ?_
  refine V_iload_n X (i := 1) 1 dX5_rankOf_14 rfl rfl ?_
  refine K_11_rankAmong X (Or.inr ⟨_, q_867⟩) (Play_s2 hk) h ⟨Nat.le_of_ble_eq_true rfl, Nat.le_of_ble_eq_true rfl⟩ ⟨Nat.zero_le _, Nat.zero_le _⟩ (st1 := []) (Nat.le_of_ble_eq_true rfl) dX5_rankOf_15 (fun r2 w1 h => ?_)
  exact V_iret_c X hr dX5_rankOf_18 h
theorem c_5_rankOf {k : Nat} {a1 : Int32} (hinj : INJ ad) (hk : isPlay k) {w : Mem} {Q : Int32 → Mem → Prop} (h : wp_5_rankOf k a1 w Q) : Met l yX5_rankOf (TBq yX5_rankOf cX5_rankOf 2 (some .int)) (RM 1) (va_Pc [.ref (ad k), .int a1] (PB ad cy D (cmb w wm) wl0)) (va_Qi Q (BC ad cy D wm wl0) (AW ad)) 0 0 (AW ad) := M_enter (by decide) (Nat.le_of_ble_eq_true rfl) hinj (fun p e s m args below meth c X hr => v_5_rankOf X hr hk h)
theorem mf_5_rankOf : MFV yX5_rankOf cX5_rankOf 2 (some .int) yX5_rankOf.cls 1 := ⟨q_866, q_864, q_865, q_9, by decide⟩
theorem K_5_rankOf {own : String} {idx : Nat} {k : Nat} {a1 : Int32} (X : CXq p s m args meth c cc nL own ad cy D A H0) (hL : LK own idx yX5_rankOf) (hk : isPlay k) {w : Mem} {Q : Int32 → Mem → Prop} (h : wp_5_rankOf k a1 w Q) (hR : (RM 1).frames + 1 ≤ R.frames ∧ 8 + (2 + 11) + (RM 1).locals ≤ R.locals) (hce : ce ≤ R.cells ∧ sl ≤ R.slots) (hcat : (st1.map fun v => v.category).sum ≤ 8) (hd : decode cc pc = .ok (.invokevirtual idx, 3)) (kk : ∀ (r : Int32) (u : Mem), Q r u → V p l e R s m args below meth c nL ad cy D A H0 ce sl Qs u wm wl0 (pc + 3) ls (.int r :: st1)) : V p l e R s m args below meth c nL ad cy D A H0 ce sl Qs w wm wl0 pc ls (.int a1 :: .ref (ad k) :: st1) := V_callVI_c X mf_5_rankOf hL (rfl : vwCl[5]? = some (RX5, TX5, 9)) (by decide) (hk).1 (Nat.lt_of_lt_of_le (hk).2.1 (CX_nn X)) (c_5_rankOf X.2.2.2.2.2.2.2.1 hk h) (As := [.int a1]) rfl ⟨rfl, rfl⟩ hR hce st1 rfl hcat hd kk
set_option maxRecDepth 20000 in
theorem v_5_manOfRank_b2 (X : CXq p s m args meth c cX5_manOfRank 3 yX5_manOfRank.cls ad cy D (AW ad) s.heap) (hr : meth.sig.returnType = (some .int)) {k : Nat} (hk : isPlay k) {Q : Int32 → Mem → Prop} : ∀ (n : Nat) (l1 : Int32) (l2 : Int32) (w : Mem), wp_5_manOfRank_b2 k Q n l1 l2 w → V p l e (RM 2) s m args below meth c 3 ad cy D (AW ad) s.heap 0 0 (MQ below (va_Qi Q (BC ad cy D wm wl0) (AW ad)) args s 0 0 (AW ad)) w wm wl0 2 [(0, .ref (ad k)), (1, .int l1), (2, .int l2)] [] := by
  intro n
  induction n with
  | zero =>
    intro l1 l2 w h
    exact h.elim
  | succ n ih =>
    intro l1 l2 w h
    unfold wp_5_manOfRank_b2 at h
    refine V_iload_n X (i := 2) 2 dX5_manOfRank_2 rfl rfl ?_
    refine V_aload_n X (i := 0) 0 dX5_manOfRank_3 rfl rfl ?_
    refine G_5_21 X (hk).1 (hk).2.1 (Play_r0 hk) dX5_manOfRank_4 ?_
    refine G_5_43 X (inst_Text_48).1 (inst_Text_48).2.1 (Text_r6 inst_Text_48) dX5_manOfRank_7 ?_
    refine G_5_47 X (inst_People_80).1 (inst_People_80).2.1 (People_r6 inst_People_80) dX5_manOfRank_10 ?_
    obtain ⟨ht, hf⟩ := h
    refine V_icmp_ge X (tgt := 33) dX5_manOfRank_13 (by decide) (fun c => ?_) (fun c => ?_)
    · have h := ht c
      refine V_iconst X (v := (-1 : Int32)) dX5_manOfRank_33 (by decide) ?_
      exact V_iret_c X hr dX5_manOfRank_34 h
    · have h := hf c
      refine V_aload_n X (i := 0) 0 dX5_manOfRank_16 rfl rfl ?_
      refine V_iload_n X (i := 2) 2 dX5_manOfRank_17 rfl rfl ?_
      refine K_5_rankOf X (Or.inl q_878) hk h ⟨Nat.le_of_ble_eq_true rfl, Nat.le_of_ble_eq_true rfl⟩ ⟨Nat.zero_le _, Nat.zero_le _⟩ (st1 := []) (Nat.le_of_ble_eq_true rfl) dX5_manOfRank_18 (fun r2 w1 h => ?_)
      refine V_iload_n X (i := 1) 1 dX5_manOfRank_21 rfl rfl ?_
      obtain ⟨ht, hf⟩ := h
      refine V_icmp_ne X (tgt := 27) dX5_manOfRank_22 (by decide) (fun c => ?_) (fun c => ?_)
      · have h := ht c
        obtain ⟨x3, ex3⟩ : ∃ y : Int32, y = l2 + (1 : Int32) := ⟨_, rfl⟩
        have h := h x3 ex3
        refine V_iinc X 2 dX5_manOfRank_27 rfl (by decide) (by rw [ex3]; rfl) (ls1 := [(2, .int x3), (0, .ref (ad k)), (1, .int l1)]) rfl ?_
        refine V_goto X (tgt := 2) dX5_manOfRank_30 (by decide) ?_
        refine V_sub X (ls1 := [(0, .ref (ad k)), (1, .int l1), (2, .int x3)]) [1, 2, 0] rfl ?_
        exact ih _ _ _ h
      · have h := hf c
        refine V_iload_n X (i := 2) 2 dX5_manOfRank_25 rfl rfl ?_
        exact V_iret_c X hr dX5_manOfRank_26 h
set_option maxRecDepth 20000 in
theorem v_5_manOfRank {k : Nat} {a1 : Int32} (X : CXq p s m args meth c cX5_manOfRank 3 yX5_manOfRank.cls ad cy D (AW ad) s.heap) (hr : meth.sig.returnType = (some .int)) (hk : isPlay k) {w : Mem} {Q : Int32 → Mem → Prop} (h : wp_5_manOfRank k a1 w Q) : V p l e (RM 2) s m args below meth c 3 ad cy D (AW ad) s.heap 0 0 (MQ below (va_Qi Q (BC ad cy D wm wl0) (AW ad)) args s 0 0 (AW ad)) w wm wl0 0 [(0, .ref (ad k)), (1, .int a1)] [] := by
  unfold wp_5_manOfRank at h
  refine V_iconst X (v := (0 : Int32)) dX5_manOfRank_0 (by decide) ?_
  refine V_istore_n X dX5_manOfRank_1 rfl (by decide) rfl (ls1 := [(2, .int (0 : Int32)), (0, .ref (ad k)), (1, .int a1)]) rfl ?_
  refine V_sub X (ls1 := [(0, .ref (ad k)), (1, .int a1), (2, .int (0 : Int32))]) [1, 2, 0] rfl ?_
  obtain ⟨nn, h⟩ := h
  exact v_5_manOfRank_b2 X hr hk nn _ _ _ h
theorem c_5_manOfRank {k : Nat} {a1 : Int32} (hinj : INJ ad) (hk : isPlay k) {w : Mem} {Q : Int32 → Mem → Prop} (h : wp_5_manOfRank k a1 w Q) : Met l yX5_manOfRank (TBq yX5_manOfRank cX5_manOfRank 3 (some .int)) (RM 2) (va_Pc [.ref (ad k), .int a1] (PB ad cy D (cmb w wm) wl0)) (va_Qi Q (BC ad cy D wm wl0) (AW ad)) 0 0 (AW ad) := M_enter (by decide) (Nat.le_of_ble_eq_true rfl) hinj (fun p e s m args below meth c X hr => v_5_manOfRank X hr hk h)
theorem mf_5_manOfRank : MFV yX5_manOfRank cX5_manOfRank 3 (some .int) yX5_manOfRank.cls 1 := ⟨q_877, q_875, q_876, q_9, by decide⟩
theorem K_5_manOfRank {own : String} {idx : Nat} {k : Nat} {a1 : Int32} (X : CXq p s m args meth c cc nL own ad cy D A H0) (hL : LK own idx yX5_manOfRank) (hk : isPlay k) {w : Mem} {Q : Int32 → Mem → Prop} (h : wp_5_manOfRank k a1 w Q) (hR : (RM 2).frames + 1 ≤ R.frames ∧ 8 + (3 + 11) + (RM 2).locals ≤ R.locals) (hce : ce ≤ R.cells ∧ sl ≤ R.slots) (hcat : (st1.map fun v => v.category).sum ≤ 8) (hd : decode cc pc = .ok (.invokevirtual idx, 3)) (kk : ∀ (r : Int32) (u : Mem), Q r u → V p l e R s m args below meth c nL ad cy D A H0 ce sl Qs u wm wl0 (pc + 3) ls (.int r :: st1)) : V p l e R s m args below meth c nL ad cy D A H0 ce sl Qs w wm wl0 pc ls (.int a1 :: .ref (ad k) :: st1) := V_callVI_c X mf_5_manOfRank hL (rfl : vwCl[5]? = some (RX5, TX5, 9)) (by decide) (hk).1 (Nat.lt_of_lt_of_le (hk).2.1 (CX_nn X)) (c_5_manOfRank X.2.2.2.2.2.2.2.1 hk h) (As := [.int a1]) rfl ⟨rfl, rfl⟩ hR hce st1 rfl hcat hd kk
set_option maxRecDepth 20000 in
theorem v_5_beginNextRound_b53 (X : CXq p s m args meth c cX5_beginNextRound 2 yX5_beginNextRound.cls ad cy D (AW ad) s.heap) (hr : meth.sig.returnType = none) {k : Nat} (hk : isPlay k) {Q : Mem → Prop} : ∀ (n : Nat) (l1 : Int32) (w : Mem), wp_5_beginNextRound_b53 k Q n l1 w → V p l e (RM 3) s m args below meth c 2 ad cy D (AW ad) s.heap 0 0 (MQ below (va_Qv Q (BC ad cy D wm wl0) (AW ad)) args s 0 0 (AW ad)) w wm wl0 53 [(0, .ref (ad k)), (1, .int l1)] [] := by
  intro n
  induction n with
  | zero =>
    intro l1 w h
    exact h.elim
  | succ n ih =>
    intro l1 w h
    unfold wp_5_beginNextRound_b53 at h
    refine V_iload_n X (i := 1) 1 dX5_beginNextRound_53 rfl rfl ?_
    refine V_aload_n X (i := 0) 0 dX5_beginNextRound_54 rfl rfl ?_
    refine G_5_52 X (hk).1 (hk).2.1 (Play_r8 hk) dX5_beginNextRound_55 ?_
    obtain ⟨ht, hf⟩ := h
    refine V_icmp_ge X (tgt := 91) dX5_beginNextRound_58 (by decide) (fun c => ?_) (fun c => ?_)
    · have h := ht c
      exact V_vret_c X hr dX5_beginNextRound_91 h
    · have h := hf c
      refine V_iload_n X (i := 1) 1 dX5_beginNextRound_61 rfl rfl ?_
      refine V_bipush X (v := (8 : Int32)) dX5_beginNextRound_62 (by decide) ?_
      obtain ⟨ht, hf⟩ := h
      refine V_icmp_ge X (tgt := 91) dX5_beginNextRound_64 (by decide) (fun c => ?_) (fun c => ?_)
      · have h := ht c
        exact V_vret_c X hr dX5_beginNextRound_91 h
      · have h := hf c
        refine V_aload_n X (i := 0) 0 dX5_beginNextRound_67 rfl rfl ?_
        refine G_5_11 X (hk).1 (hk).2.1 (Play_r1 hk) dX5_beginNextRound_68 ?_
        refine V_iload_n X (i := 1) 1 dX5_beginNextRound_71 rfl rfl ?_
        refine V_aload_n X (i := 0) 0 dX5_beginNextRound_72 rfl rfl ?_
        refine V_aload_n X (i := 0) 0 dX5_beginNextRound_73 rfl rfl ?_
        refine G_5_52 X (hk).1 (hk).2.1 (Play_r8 hk) dX5_beginNextRound_74 ?_
        refine V_iconst X (v := (1 : Int32)) dX5_beginNextRound_77 (by decide) ?_
        refine V_isub X dX5_beginNextRound_78 ?_
        refine V_iload_n X (i := 1) 1 dX5_beginNextRound_79 rfl rfl ?_
        refine V_isub X dX5_beginNextRound_80 ?_
        refine K_5_manOfRank X (Or.inl q_949) hk h ⟨Nat.le_of_ble_eq_true rfl, Nat.le_of_ble_eq_true rfl⟩ ⟨Nat.zero_le _, Nat.zero_le _⟩ (st1 := [.int l1, .ref (ad (k + 1))]) (Nat.le_of_ble_eq_true rfl) dX5_beginNextRound_81 (fun r2 w1 h => ?_)
        obtain ⟨g3, h⟩ := h
        obtain ⟨w4, ew4⟩ : ∃ y : Mem, y = st w1 (k + 1) (ix l1) r2 := ⟨_, rfl⟩
        have h := h w4 ew4
        refine V_iast_c X ((Play_s1 hk)).2.1 ((Play_s1 hk)).2.2 ((Play_s1 hk)).1 g3 dX5_beginNextRound_84 ew4 ?_
        obtain ⟨x5, ex5⟩ : ∃ y : Int32, y = l1 + (1 : Int32) := ⟨_, rfl⟩
        have h := h x5 ex5
        refine V_iinc X 1 dX5_beginNextRound_85 rfl (by decide) (by rw [ex5]; rfl) (ls1 := [(1, .int x5), (0, .ref (ad k))]) rfl ?_
        refine V_goto X (tgt := 53) dX5_beginNextRound_88 (by decide) ?_
        refine V_sub X (ls1 := [(0, .ref (ad k)), (1, .int x5)]) [1, 0] rfl ?_
        exact ih _ _ h
set_option maxRecDepth 20000 in
theorem v_5_beginNextRound_b48 (X : CXq p s m args meth c cX5_beginNextRound 2 yX5_beginNextRound.cls ad cy D (AW ad) s.heap) (hr : meth.sig.returnType = none) {k : Nat} (hk : isPlay k) {Q : Mem → Prop} : ∀ (s1 : Int32) (w : Mem), wp_5_beginNextRound_b48 k Q s1 w → V p l e (RM 3) s m args below meth c 2 ad cy D (AW ad) s.heap 0 0 (MQ below (va_Qv Q (BC ad cy D wm wl0) (AW ad)) args s 0 0 (AW ad)) w wm wl0 48 [(0, .ref (ad k))] [.int s1, .ref (ad k)] := by
  intro s1 w h
  unfold wp_5_beginNextRound_b48 at h
  obtain ⟨w1, ew1⟩ : ∃ y : Mem, y = st w k 8 s1 := ⟨_, rfl⟩
  have h := h w1 ew1
  refine U_5_52 X (hk).1 (hk).2.1 (Play_r8 hk) rfl rfl dX5_beginNextRound_48 ew1 ?_
  refine V_iconst X (v := (0 : Int32)) dX5_beginNextRound_51 (by decide) ?_
  refine V_istore_n X dX5_beginNextRound_52 rfl (by decide) rfl (ls1 := [(1, .int (0 : Int32)), (0, .ref (ad k))]) rfl ?_
  refine V_sub X (ls1 := [(0, .ref (ad k)), (1, .int (0 : Int32))]) [1, 0] rfl ?_
  obtain ⟨nn, h⟩ := h
  exact v_5_beginNextRound_b53 X hr hk nn _ _ h
set_option maxRecDepth 20000 in
theorem v_5_beginNextRound {k : Nat} (X : CXq p s m args meth c cX5_beginNextRound 2 yX5_beginNextRound.cls ad cy D (AW ad) s.heap) (hr : meth.sig.returnType = none) (hk : isPlay k) {w : Mem} {Q : Mem → Prop} (h : wp_5_beginNextRound k w Q) : V p l e (RM 3) s m args below meth c 2 ad cy D (AW ad) s.heap 0 0 (MQ below (va_Qv Q (BC ad cy D wm wl0) (AW ad)) args s 0 0 (AW ad)) w wm wl0 0 [(0, .ref (ad k))] [] := by
  unfold wp_5_beginNextRound at h
  refine V_aload_n X (i := 0) 0 dX5_beginNextRound_0 rfl rfl ?_
  refine V_dup X dX5_beginNextRound_1 rfl ?_
  refine G_5_29 X (hk).1 (hk).2.1 (Play_r5 hk) dX5_beginNextRound_2 ?_
  refine V_iconst X (v := (1 : Int32)) dX5_beginNextRound_5 (by decide) ?_
  refine V_iadd X dX5_beginNextRound_6 ?_
  obtain ⟨w1, ew1⟩ : ∃ y : Mem, y = st w k 5 ((w k 5) + (1 : Int32)) := ⟨_, rfl⟩
  have h := h w1 ew1
  refine U_5_29 X (hk).1 (hk).2.1 (Play_r5 hk) rfl rfl dX5_beginNextRound_7 ew1 ?_
  refine V_aload_n X (i := 0) 0 dX5_beginNextRound_10 rfl rfl ?_
  refine V_iconst X (v := (0 : Int32)) dX5_beginNextRound_11 (by decide) ?_
  obtain ⟨w2, ew2⟩ : ∃ y : Mem, y = st w1 k 7 (0 : Int32) := ⟨_, rfl⟩
  have h := h w2 ew2
  refine U_5_40 X (hk).1 (hk).2.1 (Play_r7 hk) rfl rfl dX5_beginNextRound_12 ew2 ?_
  refine V_aload_n X (i := 0) 0 dX5_beginNextRound_15 rfl rfl ?_
  refine V_aload_n X (i := 0) 0 dX5_beginNextRound_16 rfl rfl ?_
  refine G_5_29 X (hk).1 (hk).2.1 (Play_r5 hk) dX5_beginNextRound_17 ?_
  refine V_iconst X (v := (2 : Int32)) dX5_beginNextRound_20 (by decide) ?_
  obtain ⟨ht, hf⟩ := h
  refine V_icmp_ne X (tgt := 47) dX5_beginNextRound_21 (by decide) (fun c => ?_) (fun c => ?_)
  · have h := ht c
    refine V_iconst X (v := (0 : Int32)) dX5_beginNextRound_47 (by decide) ?_
    refine V_sub X (ls1 := [(0, .ref (ad k))]) [0] rfl ?_
    exact v_5_beginNextRound_b48 X hr hk _ _ h
  · have h := hf c
    refine V_aload_n X (i := 0) 0 dX5_beginNextRound_24 rfl rfl ?_
    refine G_5_21 X (hk).1 (hk).2.1 (Play_r0 hk) dX5_beginNextRound_25 ?_
    refine G_5_126 X (inst_Text_48).1 (inst_Text_48).2.1 (Text_r16 inst_Text_48) dX5_beginNextRound_28 ?_
    refine V_aload_n X (i := 0) 0 dX5_beginNextRound_31 rfl rfl ?_
    refine G_5_21 X (hk).1 (hk).2.1 (Play_r0 hk) dX5_beginNextRound_32 ?_
    refine G_5_43 X (inst_Text_48).1 (inst_Text_48).2.1 (Text_r6 inst_Text_48) dX5_beginNextRound_35 ?_
    refine G_5_47 X (inst_People_80).1 (inst_People_80).2.1 (People_r6 inst_People_80) dX5_beginNextRound_38 ?_
    refine V_mmin X dX5_beginNextRound_41 q_948 q_645 q_19 q_646 (Nat.le_of_ble_eq_true rfl) (Nat.le_of_ble_eq_true rfl) (Nat.zero_le _) (Nat.zero_le _) ?_
    refine V_goto X (tgt := 48) dX5_beginNextRound_44 (by decide) ?_
    refine V_sub X (ls1 := [(0, .ref (ad k))]) [0] rfl ?_
    exact v_5_beginNextRound_b48 X hr hk _ _ h
theorem c_5_beginNextRound {k : Nat} (hinj : INJ ad) (hk : isPlay k) {w : Mem} {Q : Mem → Prop} (h : wp_5_beginNextRound k w Q) : Met l yX5_beginNextRound (TBq yX5_beginNextRound cX5_beginNextRound 2 none) (RM 3) (va_Pc [.ref (ad k)] (PB ad cy D (cmb w wm) wl0)) (va_Qv Q (BC ad cy D wm wl0) (AW ad)) 0 0 (AW ad) := M_enter (by decide) (Nat.le_of_ble_eq_true rfl) hinj (fun p e s m args below meth c X hr => v_5_beginNextRound X hr hk h)
theorem mf_5_beginNextRound : MFV yX5_beginNextRound cX5_beginNextRound 2 none yX5_beginNextRound.cls 0 := ⟨q_947, q_946, qs_29, q_9, by decide⟩
theorem K_5_beginNextRound {own : String} {idx : Nat} {k : Nat} (X : CXq p s m args meth c cc nL own ad cy D A H0) (hL : LK own idx yX5_beginNextRound) (hk : isPlay k) {w : Mem} {Q : Mem → Prop} (h : wp_5_beginNextRound k w Q) (hR : (RM 3).frames + 1 ≤ R.frames ∧ 8 + (2 + 11) + (RM 3).locals ≤ R.locals) (hce : ce ≤ R.cells ∧ sl ≤ R.slots) (hcat : (st1.map fun v => v.category).sum ≤ 8) (hd : decode cc pc = .ok (.invokevirtual idx, 3)) (kk : ∀ (u : Mem), Q u → V p l e R s m args below meth c nL ad cy D A H0 ce sl Qs u wm wl0 (pc + 3) ls st1) : V p l e R s m args below meth c nL ad cy D A H0 ce sl Qs w wm wl0 pc ls (.ref (ad k) :: st1) := V_callVV_c X mf_5_beginNextRound hL (rfl : vwCl[5]? = some (RX5, TX5, 9)) (by decide) (hk).1 (Nat.lt_of_lt_of_le (hk).2.1 (CX_nn X)) (c_5_beginNextRound X.2.2.2.2.2.2.2.1 hk h) (As := []) rfl ⟨rfl, rfl⟩ hR hce st1 rfl hcat hd kk
set_option maxRecDepth 20000 in
theorem v_5_enter {k : Nat} {a1 : Int32} {a2 : Int32} {a3 : Int32} (X : CXq p s m args meth c cX5_enter 6 yX5_enter.cls ad cy D (AW ad) s.heap) (hr : meth.sig.returnType = none) (hk : isPlay k) {w : Mem} {Q : Mem → Prop} (h : wp_5_enter k a1 a2 a3 w Q) : V p l e (RM 4) s m args below meth c 6 ad cy D (AW ad) s.heap 0 0 (MQ below (va_Qv Q (BC ad cy D wm wl0) (AW ad)) args s 0 0 (AW ad)) w wm wl0 0 [(0, .ref (ad k)), (1, .int a1), (2, .int a2), (3, .int a3), (4, .ref (ad 87))] [] := by
  unfold wp_5_enter at h
  refine V_iload_n X (i := 1) 1 dX5_enter_0 rfl rfl ?_
  refine V_aload_n X (i := 0) 0 dX5_enter_1 rfl rfl ?_
  refine G_5_29 X (hk).1 (hk).2.1 (Play_r5 hk) dX5_enter_2 ?_
  refine K_5_cellsOf X (Or.inl q_839) h ⟨Nat.le_of_ble_eq_true rfl, Nat.le_of_ble_eq_true rfl⟩ ⟨Nat.zero_le _, Nat.zero_le _⟩ (st1 := []) (Nat.le_of_ble_eq_true rfl) dX5_enter_5 (fun r2 w1 h => ?_)
  refine V_istore X dX5_enter_8 (by decide) rfl (ls1 := [(5, .int r2), (0, .ref (ad k)), (1, .int a1), (2, .int a2), (3, .int a3), (4, .ref (ad 87))]) rfl ?_
  refine V_iload X (i := 5) 0 dX5_enter_10 rfl ?_
  refine V_iconst X (v := (0 : Int32)) dX5_enter_12 (by decide) ?_
  refine V_sipush X (v := (240 : Int32)) dX5_enter_13 (by decide) ?_
  refine K_11_within X (Or.inr ⟨_, q_834⟩) h ⟨Nat.le_of_ble_eq_true rfl, Nat.le_of_ble_eq_true rfl⟩ ⟨Nat.zero_le _, Nat.zero_le _⟩ (st1 := []) (Nat.le_of_ble_eq_true rfl) dX5_enter_16 (fun r4 w3 h => ?_)
  obtain ⟨ht, hf⟩ := h
  refine V_if_ne X (tgt := 23) dX5_enter_19 (by decide) (fun c => ?_) (fun c => ?_)
  · have h := ht c
    refine V_aload_n X (i := 0) 1 dX5_enter_23 rfl rfl ?_
    refine G_5_18 X (hk).1 (hk).2.1 (Play_r3 hk) dX5_enter_24 ?_
    refine V_iload X (i := 5) 0 dX5_enter_27 rfl ?_
    refine V_iconst X (v := (0 : Int32)) dX5_enter_29 (by decide) ?_
    refine V_iadd X dX5_enter_30 ?_
    refine V_aload X (i := 4) 5 dX5_enter_31 rfl ?_
    refine G_5_86 X dX5_enter_33 ?_
    obtain ⟨g5, h⟩ := h
    obtain ⟨w6, ew6⟩ : ∃ y : Mem, y = st w3 (k + 3) (ix (r2 + (0 : Int32))) (w3 87 5) := ⟨_, rfl⟩
    have h := h w6 ew6
    refine V_iast_c X ((Play_s3 hk)).2.1 ((Play_s3 hk)).2.2 ((Play_s3 hk)).1 g5 dX5_enter_36 ew6 ?_
    refine V_aload_n X (i := 0) 1 dX5_enter_37 rfl rfl ?_
    refine G_5_18 X (hk).1 (hk).2.1 (Play_r3 hk) dX5_enter_38 ?_
    refine V_iload X (i := 5) 0 dX5_enter_41 rfl ?_
    refine V_iconst X (v := (1 : Int32)) dX5_enter_43 (by decide) ?_
    refine V_iadd X dX5_enter_44 ?_
    refine V_aload X (i := 4) 5 dX5_enter_45 rfl ?_
    refine G_5_91 X dX5_enter_47 ?_
    obtain ⟨g7, h⟩ := h
    obtain ⟨w8, ew8⟩ : ∃ y : Mem, y = st w6 (k + 3) (ix (r2 + (1 : Int32))) (w6 87 7) := ⟨_, rfl⟩
    have h := h w8 ew8
    refine V_iast_c X ((Play_s3 hk)).2.1 ((Play_s3 hk)).2.2 ((Play_s3 hk)).1 g7 dX5_enter_50 ew8 ?_
    refine V_aload_n X (i := 0) 1 dX5_enter_51 rfl rfl ?_
    refine G_5_18 X (hk).1 (hk).2.1 (Play_r3 hk) dX5_enter_52 ?_
    refine V_iload X (i := 5) 0 dX5_enter_55 rfl ?_
    refine V_iconst X (v := (2 : Int32)) dX5_enter_57 (by decide) ?_
    refine V_iadd X dX5_enter_58 ?_
    refine V_aload X (i := 4) 5 dX5_enter_59 rfl ?_
    refine G_5_94 X dX5_enter_61 ?_
    obtain ⟨g9, h⟩ := h
    obtain ⟨w10, ew10⟩ : ∃ y : Mem, y = st w8 (k + 3) (ix (r2 + (2 : Int32))) (w8 87 6) := ⟨_, rfl⟩
    have h := h w10 ew10
    refine V_iast_c X ((Play_s3 hk)).2.1 ((Play_s3 hk)).2.2 ((Play_s3 hk)).1 g9 dX5_enter_64 ew10 ?_
    refine V_aload_n X (i := 0) 1 dX5_enter_65 rfl rfl ?_
    refine G_5_18 X (hk).1 (hk).2.1 (Play_r3 hk) dX5_enter_66 ?_
    refine V_iload X (i := 5) 0 dX5_enter_69 rfl ?_
    refine V_iconst X (v := (3 : Int32)) dX5_enter_71 (by decide) ?_
    refine V_iadd X dX5_enter_72 ?_
    refine V_iload_n X (i := 2) 3 dX5_enter_73 rfl rfl ?_
    obtain ⟨g11, h⟩ := h
    obtain ⟨w12, ew12⟩ : ∃ y : Mem, y = st w10 (k + 3) (ix (r2 + (3 : Int32))) a2 := ⟨_, rfl⟩
    have h := h w12 ew12
    refine V_iast_c X ((Play_s3 hk)).2.1 ((Play_s3 hk)).2.2 ((Play_s3 hk)).1 g11 dX5_enter_74 ew12 ?_
    refine V_aload_n X (i := 0) 1 dX5_enter_75 rfl rfl ?_
    refine G_5_18 X (hk).1 (hk).2.1 (Play_r3 hk) dX5_enter_76 ?_
    refine V_iload X (i := 5) 0 dX5_enter_79 rfl ?_
    refine V_iconst X (v := (4 : Int32)) dX5_enter_81 (by decide) ?_
    refine V_iadd X dX5_enter_82 ?_
    refine V_iload_n X (i := 3) 4 dX5_enter_83 rfl rfl ?_
    obtain ⟨g13, h⟩ := h
    obtain ⟨w14, ew14⟩ : ∃ y : Mem, y = st w12 (k + 3) (ix (r2 + (4 : Int32))) a3 := ⟨_, rfl⟩
    have h := h w14 ew14
    refine V_iast_c X ((Play_s3 hk)).2.1 ((Play_s3 hk)).2.2 ((Play_s3 hk)).1 g13 dX5_enter_84 ew14 ?_
    refine V_aload_n X (i := 0) 1 dX5_enter_85 rfl rfl ?_
    refine G_5_18 X (hk).1 (hk).2.1 (Play_r3 hk) dX5_enter_86 ?_
    refine V_iload X (i := 5) 0 dX5_enter_89 rfl ?_
    refine V_iconst X (v := (5 : Int32)) dX5_enter_91 (by decide) ?_
    refine V_iadd X dX5_enter_92 ?_
    refine V_aload_n X (i := 0) 1 dX5_enter_93 rfl rfl ?_
    refine G_5_37 X (hk).1 (hk).2.1 (Play_r6 hk) dX5_enter_94 ?_
    obtain ⟨g15, h⟩ := h
    obtain ⟨w16, ew16⟩ : ∃ y : Mem, y = st w14 (k + 3) (ix (r2 + (5 : Int32))) (w14 k 6) := ⟨_, rfl⟩
    have h := h w16 ew16
    refine V_iast_c X ((Play_s3 hk)).2.1 ((Play_s3 hk)).2.2 ((Play_s3 hk)).1 g15 dX5_enter_97 ew16 ?_
    refine V_aload_n X (i := 0) 1 dX5_enter_98 rfl rfl ?_
    refine G_5_18 X (hk).1 (hk).2.1 (Play_r3 hk) dX5_enter_99 ?_
    refine V_iload X (i := 5) 0 dX5_enter_102 rfl ?_
    refine V_bipush X (v := (6 : Int32)) dX5_enter_104 (by decide) ?_
    refine V_iadd X dX5_enter_106 ?_
    refine V_aload X (i := 4) 5 dX5_enter_107 rfl ?_
    refine G_5_97 X dX5_enter_109 ?_
    obtain ⟨g17, h⟩ := h
    obtain ⟨w18, ew18⟩ : ∃ y : Mem, y = st w16 (k + 3) (ix (r2 + (6 : Int32))) (w16 87 4) := ⟨_, rfl⟩
    have h := h w18 ew18
    refine V_iast_c X ((Play_s3 hk)).2.1 ((Play_s3 hk)).2.2 ((Play_s3 hk)).1 g17 dX5_enter_112 ew18 ?_
    refine V_aload_n X (i := 0) 1 dX5_enter_113 rfl rfl ?_
    refine G_5_18 X (hk).1 (hk).2.1 (Play_r3 hk) dX5_enter_114 ?_
    refine V_iload X (i := 5) 0 dX5_enter_117 rfl ?_
    refine V_bipush X (v := (7 : Int32)) dX5_enter_119 (by decide) ?_
    refine V_iadd X dX5_enter_121 ?_
    refine V_aload_n X (i := 0) 1 dX5_enter_122 rfl rfl ?_
    refine G_5_40 X (hk).1 (hk).2.1 (Play_r7 hk) dX5_enter_123 ?_
    obtain ⟨g19, h⟩ := h
    obtain ⟨w20, ew20⟩ : ∃ y : Mem, y = st w18 (k + 3) (ix (r2 + (7 : Int32))) (w18 k 7) := ⟨_, rfl⟩
    have h := h w20 ew20
    refine V_iast_c X ((Play_s3 hk)).2.1 ((Play_s3 hk)).2.2 ((Play_s3 hk)).1 g19 dX5_enter_126 ew20 ?_
    refine V_aload_n X (i := 0) 1 dX5_enter_127 rfl rfl ?_
    refine G_5_18 X (hk).1 (hk).2.1 (Play_r3 hk) dX5_enter_128 ?_
    refine V_iload X (i := 5) 0 dX5_enter_131 rfl ?_
    refine V_bipush X (v := (8 : Int32)) dX5_enter_133 (by decide) ?_
    refine V_iadd X dX5_enter_135 ?_
    refine V_iconst X (v := (1 : Int32)) dX5_enter_136 (by decide) ?_
    obtain ⟨g21, h⟩ := h
    obtain ⟨w22, ew22⟩ : ∃ y : Mem, y = st w20 (k + 3) (ix (r2 + (8 : Int32))) (1 : Int32) := ⟨_, rfl⟩
    have h := h w22 ew22
    refine V_iast_c X ((Play_s3 hk)).2.1 ((Play_s3 hk)).2.2 ((Play_s3 hk)).1 g21 dX5_enter_137 ew22 ?_
    refine V_aload X (i := 4) 5 dX5_enter_138 rfl ?_
    refine G_5_100 X dX5_enter_140 ?_
    refine V_iconst X (v := (0 : Int32)) dX5_enter_143 (by decide) ?_
    refine V_aload_n X (i := 0) 1 dX5_enter_144 rfl rfl ?_
    refine G_5_18 X (hk).1 (hk).2.1 (Play_r3 hk) dX5_enter_145 ?_
    refine V_iload X (i := 5) 0 dX5_enter_148 rfl ?_
    refine V_bipush X (v := (9 : Int32)) dX5_enter_150 (by decide) ?_
    refine V_iadd X dX5_enter_152 ?_
    refine V_bipush X (v := (7 : Int32)) dX5_enter_153 (by decide) ?_
    obtain ⟨g23, h⟩ := h
    obtain ⟨g24, h⟩ := h
    obtain ⟨w25, ew25⟩ : ∃ y : Mem, y = cpy w22 88 (ix (0 : Int32)) (k + 3) (ix (r2 + (9 : Int32))) (ix (7 : Int32)) := ⟨_, rfl⟩
    have h := h w25 ew25
    refine V_copy X (rfl : SK 88 = 14) ((Play_s3 hk)).1 (rfl : SLq 88 = 7) ((Play_s3 hk)).2.1 (by decide) ((Play_s3 hk)).2.2 dX5_enter_155 q_891 q_893 q_892 q_21 (by decide) g23 (by decide) (by decide) g24 (Nat.le_of_ble_eq_true rfl) (by decide) ew25 ?_
    refine V_aload_n X (i := 0) 1 dX5_enter_158 rfl rfl ?_
    refine G_5_15 X (hk).1 (hk).2.1 (Play_r2 hk) dX5_enter_159 ?_
    refine V_iload_n X (i := 1) 2 dX5_enter_162 rfl rfl ?_
    refine V_dup2 X dX5_enter_163 rfl rfl ?_
    obtain ⟨g26, h⟩ := h
    refine V_iald_c X ((Play_s2 hk)).2.1 ((Play_s2 hk)).2.2 ((Play_s2 hk)).1 g26 dX5_enter_164 ?_
    refine V_aload X (i := 4) 5 dX5_enter_165 rfl ?_
    refine G_5_91 X dX5_enter_167 ?_
    refine V_iadd X dX5_enter_170 ?_
    obtain ⟨g27, h⟩ := h
    obtain ⟨w28, ew28⟩ : ∃ y : Mem, y = st w25 (k + 2) (ix a1) ((w25 (k + 2) (ix a1)) + (w25 87 7)) := ⟨_, rfl⟩
    have h := h w28 ew28
    refine V_iast_c X ((Play_s2 hk)).2.1 ((Play_s2 hk)).2.2 ((Play_s2 hk)).1 g27 dX5_enter_171 ew28 ?_
    refine V_aload_n X (i := 0) 1 dX5_enter_172 rfl rfl ?_
    refine V_iload_n X (i := 3) 4 dX5_enter_173 rfl rfl ?_
    refine V_aload_n X (i := 0) 1 dX5_enter_174 rfl rfl ?_
    refine G_5_21 X (hk).1 (hk).2.1 (Play_r0 hk) dX5_enter_175 ?_
    refine G_5_103 X (inst_Text_48).1 (inst_Text_48).2.1 (Text_r13 inst_Text_48) dX5_enter_178 ?_
    refine V_iadd X dX5_enter_181 ?_
    obtain ⟨w29, ew29⟩ : ∃ y : Mem, y = st w28 k 4 (a3 + (w28 48 13)) := ⟨_, rfl⟩
    have h := h w29 ew29
    refine U_5_25 X (hk).1 (hk).2.1 (Play_r4 hk) rfl rfl dX5_enter_182 ew29 ?_
    refine V_aload_n X (i := 0) 1 dX5_enter_185 rfl rfl ?_
    refine V_dup X dX5_enter_186 rfl ?_
    refine G_5_40 X (hk).1 (hk).2.1 (Play_r7 hk) dX5_enter_187 ?_
    refine V_iconst X (v := (1 : Int32)) dX5_enter_190 (by decide) ?_
    refine V_iadd X dX5_enter_191 ?_
    obtain ⟨w30, ew30⟩ : ∃ y : Mem, y = st w29 k 7 ((w29 k 7) + (1 : Int32)) := ⟨_, rfl⟩
    have h := h w30 ew30
    refine U_5_40 X (hk).1 (hk).2.1 (Play_r7 hk) rfl rfl dX5_enter_192 ew30 ?_
    refine V_aload_n X (i := 0) 1 dX5_enter_195 rfl rfl ?_
    refine G_5_40 X (hk).1 (hk).2.1 (Play_r7 hk) dX5_enter_196 ?_
    refine V_aload_n X (i := 0) 1 dX5_enter_199 rfl rfl ?_
    refine G_5_52 X (hk).1 (hk).2.1 (Play_r8 hk) dX5_enter_200 ?_
    obtain ⟨ht, hf⟩ := h
    refine V_icmp_lt X (tgt := 210) dX5_enter_203 (by decide) (fun c => ?_) (fun c => ?_)
    · have h := ht c
      exact V_vret_c X hr dX5_enter_210 h
    · have h := hf c
      refine V_aload_n X (i := 0) 1 dX5_enter_206 rfl rfl ?_
      refine K_5_beginNextRound X (Or.inl q_944) hk h ⟨Nat.le_of_ble_eq_true rfl, Nat.le_of_ble_eq_true rfl⟩ ⟨Nat.zero_le _, Nat.zero_le _⟩ (st1 := []) (Nat.le_of_ble_eq_true rfl) dX5_enter_207 (fun w31 h => ?_)
      exact V_vret_c X hr dX5_enter_210 h
  · have h := hf c
    exact V_vret_c X hr dX5_enter_22 h
theorem c_5_enter {k : Nat} {a1 : Int32} {a2 : Int32} {a3 : Int32} (hinj : INJ ad) (hk : isPlay k) {w : Mem} {Q : Mem → Prop} (h : wp_5_enter k a1 a2 a3 w Q) : Met l yX5_enter (TBq yX5_enter cX5_enter 6 none) (RM 4) (va_Pc [.ref (ad k), .int a1, .int a2, .int a3, .ref (ad 87)] (PB ad cy D (cmb w wm) wl0)) (va_Qv Q (BC ad cy D wm wl0) (AW ad)) 0 0 (AW ad) := M_enter (by decide) (Nat.le_of_ble_eq_true rfl) hinj (fun p e s m args below meth c X hr => v_5_enter X hr hk h)
theorem mf_5_enter : MFV yX5_enter cX5_enter 6 none yX5_enter.cls 4 := ⟨q_943, q_941, q_942, q_9, by decide⟩
theorem K_5_enter {own : String} {idx : Nat} {k : Nat} {a1 : Int32} {a2 : Int32} {a3 : Int32} (X : CXq p s m args meth c cc nL own ad cy D A H0) (hL : LK own idx yX5_enter) (hk : isPlay k) {w : Mem} {Q : Mem → Prop} (h : wp_5_enter k a1 a2 a3 w Q) (hR : (RM 4).frames + 1 ≤ R.frames ∧ 8 + (6 + 11) + (RM 4).locals ≤ R.locals) (hce : ce ≤ R.cells ∧ sl ≤ R.slots) (hcat : (st1.map fun v => v.category).sum ≤ 8) (hd : decode cc pc = .ok (.invokevirtual idx, 3)) (kk : ∀ (u : Mem), Q u → V p l e R s m args below meth c nL ad cy D A H0 ce sl Qs u wm wl0 (pc + 3) ls st1) : V p l e R s m args below meth c nL ad cy D A H0 ce sl Qs w wm wl0 pc ls (.ref (ad 87) :: .int a3 :: .int a2 :: .int a1 :: .ref (ad k) :: st1) := V_callVV_c X mf_5_enter hL (rfl : vwCl[5]? = some (RX5, TX5, 9)) (by decide) (hk).1 (Nat.lt_of_lt_of_le (hk).2.1 (CX_nn X)) (c_5_enter X.2.2.2.2.2.2.2.1 hk h) (As := [.int a1, .int a2, .int a3, .ref (ad 87)]) rfl ⟨rfl, rfl⟩ hR hce st1 rfl hcat hd kk
set_option maxRecDepth 20000 in
theorem v_5_mostOfOthers_b34 (X : CXq p s m args meth c cX5_mostOfOthers 4 yX5_mostOfOthers.cls ad cy D (AW ad) s.heap) (hr : meth.sig.returnType = (some .int)) {k : Nat} (hk : isPlay k) {Q : Int32 → Mem → Prop} {L4 : Int32 → Int32 → Int32 → Mem → Prop} (HL4 : ∀ (l1 : Int32) (l2 : Int32) (l3 : Int32) (w : Mem), L4 l1 l2 l3 w → V p l e (RM 2) s m args below meth c 4 ad cy D (AW ad) s.heap 0 0 (MQ below (va_Qi Q (BC ad cy D wm wl0) (AW ad)) args s 0 0 (AW ad)) w wm wl0 4 [(0, .ref (ad k)), (1, .int l1), (2, .int l2), (3, .int l3)] []) : ∀ (l1 : Int32) (l2 : Int32) (l3 : Int32) (w : Mem), wp_5_mostOfOthers_b34 k Q L4 l1 l2 l3 w → V p l e (RM 2) s m args below meth c 4 ad cy D (AW ad) s.heap 0 0 (MQ below (va_Qi Q (BC ad cy D wm wl0) (AW ad)) args s 0 0 (AW ad)) w wm wl0 34 [(0, .ref (ad k)), (1, .int l1), (2, .int l2), (3, .int l3)] [] := by
  intro l1 l2 l3 w h
  unfold wp_5_mostOfOthers_b34 at h
  obtain ⟨x1, ex1⟩ : ∃ y : Int32, y = l3 + (1 : Int32) := ⟨_, rfl⟩
  have h := h x1 ex1
  refine V_iinc X 3 dX5_mostOfOthers_34 rfl (by decide) (by rw [ex1]; rfl) (ls1 := [(3, .int x1), (0, .ref (ad k)), (1, .int l1), (2, .int l2)]) rfl ?_
  refine V_goto X (tgt := 4) dX5_mostOfOthers_37 (by decide) ?_
  refine V_sub X (ls1 := [(0, .ref (ad k)), (1, .int l1), (2, .int l2), (3, .int x1)]) [1, 2, 3, 0] rfl ?_
  exact HL4 _ _ _ _ h
set_option maxRecDepth 20000 in
theorem v_5_mostOfOthers_b4 (X : CXq p s m args meth c cX5_mostOfOthers 4 yX5_mostOfOthers.cls ad cy D (AW ad) s.heap) (hr : meth.sig.returnType = (some .int)) {k : Nat} (hk : isPlay k) {Q : Int32 → Mem → Prop} : ∀ (n : Nat) (l1 : Int32) (l2 : Int32) (l3 : Int32) (w : Mem), wp_5_mostOfOthers_b4 k Q n l1 l2 l3 w → V p l e (RM 2) s m args below meth c 4 ad cy D (AW ad) s.heap 0 0 (MQ below (va_Qi Q (BC ad cy D wm wl0) (AW ad)) args s 0 0 (AW ad)) w wm wl0 4 [(0, .ref (ad k)), (1, .int l1), (2, .int l2), (3, .int l3)] [] := by
  intro n
  induction n with
  | zero =>
    intro l1 l2 l3 w h
    exact h.elim
  | succ n ih =>
    intro l1 l2 l3 w h
    unfold wp_5_mostOfOthers_b4 at h
    refine V_iload_n X (i := 3) 3 dX5_mostOfOthers_4 rfl rfl ?_
    refine V_aload_n X (i := 0) 0 dX5_mostOfOthers_5 rfl rfl ?_
    refine G_5_21 X (hk).1 (hk).2.1 (Play_r0 hk) dX5_mostOfOthers_6 ?_
    refine G_5_43 X (inst_Text_48).1 (inst_Text_48).2.1 (Text_r6 inst_Text_48) dX5_mostOfOthers_9 ?_
    refine G_5_47 X (inst_People_80).1 (inst_People_80).2.1 (People_r6 inst_People_80) dX5_mostOfOthers_12 ?_
    obtain ⟨ht, hf⟩ := h
    refine V_icmp_ge X (tgt := 40) dX5_mostOfOthers_15 (by decide) (fun c => ?_) (fun c => ?_)
    · have h := ht c
      refine V_iload_n X (i := 2) 2 dX5_mostOfOthers_40 rfl rfl ?_
      exact V_iret_c X hr dX5_mostOfOthers_41 h
    · have h := hf c
      refine V_iload_n X (i := 3) 3 dX5_mostOfOthers_18 rfl rfl ?_
      refine V_iload_n X (i := 1) 1 dX5_mostOfOthers_19 rfl rfl ?_
      obtain ⟨ht, hf⟩ := h
      refine V_icmp_eq X (tgt := 34) dX5_mostOfOthers_20 (by decide) (fun c => ?_) (fun c => ?_)
      · have h := ht c
        refine V_sub X (ls1 := [(0, .ref (ad k)), (1, .int l1), (2, .int l2), (3, .int l3)]) [0, 1, 2, 3] rfl ?_
        exact v_5_mostOfOthers_b34 X hr hk ih _ _ _ _ h
      · have h := hf c
        refine V_iload_n X (i := 2) 2 dX5_mostOfOthers_23 rfl rfl ?_
        refine V_aload_n X (i := 0) 0 dX5_mostOfOthers_24 rfl rfl ?_
        refine G_5_15 X (hk).1 (hk).2.1 (Play_r2 hk) dX5_mostOfOthers_25 ?_
        refine V_iload_n X (i := 3) 3 dX5_mostOfOthers_28 rfl rfl ?_
        obtain ⟨g1, h⟩ := h
        refine V_iald_c X ((Play_s2 hk)).2.1 ((Play_s2 hk)).2.2 ((Play_s2 hk)).1 g1 dX5_mostOfOthers_29 ?_
        refine V_mmax X dX5_mostOfOthers_30 q_1065 q_642 q_19 q_643 (Nat.le_of_ble_eq_true rfl) (Nat.le_of_ble_eq_true rfl) (Nat.zero_le _) (Nat.zero_le _) ?_
        obtain ⟨x2, ex2⟩ : ∃ y : Int32, y = (mx l2 (w (k + 2) (ix l3))) := ⟨_, rfl⟩
        have h := h x2 ex2
        refine V_istore_n X dX5_mostOfOthers_33 rfl (by decide) ex2 (ls1 := [(2, .int x2), (0, .ref (ad k)), (1, .int l1), (3, .int l3)]) rfl ?_
        refine V_sub X (ls1 := [(0, .ref (ad k)), (1, .int l1), (2, .int x2), (3, .int l3)]) [1, 2, 0, 3] rfl ?_
        exact v_5_mostOfOthers_b34 X hr hk ih _ _ _ _ h
set_option maxRecDepth 20000 in
theorem v_5_mostOfOthers {k : Nat} {a1 : Int32} (X : CXq p s m args meth c cX5_mostOfOthers 4 yX5_mostOfOthers.cls ad cy D (AW ad) s.heap) (hr : meth.sig.returnType = (some .int)) (hk : isPlay k) {w : Mem} {Q : Int32 → Mem → Prop} (h : wp_5_mostOfOthers k a1 w Q) : V p l e (RM 2) s m args below meth c 4 ad cy D (AW ad) s.heap 0 0 (MQ below (va_Qi Q (BC ad cy D wm wl0) (AW ad)) args s 0 0 (AW ad)) w wm wl0 0 [(0, .ref (ad k)), (1, .int a1)] [] := by
  unfold wp_5_mostOfOthers at h
  refine V_iconst X (v := (0 : Int32)) dX5_mostOfOthers_0 (by decide) ?_
  refine V_istore_n X dX5_mostOfOthers_1 rfl (by decide) rfl (ls1 := [(2, .int (0 : Int32)), (0, .ref (ad k)), (1, .int a1)]) rfl ?_
  refine V_iconst X (v := (0 : Int32)) dX5_mostOfOthers_2 (by decide) ?_
  refine V_istore_n X dX5_mostOfOthers_3 rfl (by decide) rfl (ls1 := [(3, .int (0 : Int32)), (2, .int (0 : Int32)), (0, .ref (ad k)), (1, .int a1)]) rfl ?_
  refine V_sub X (ls1 := [(0, .ref (ad k)), (1, .int a1), (2, .int (0 : Int32)), (3, .int (0 : Int32))]) [2, 3, 1, 0] rfl ?_
  obtain ⟨nn, h⟩ := h
  exact v_5_mostOfOthers_b4 X hr hk nn _ _ _ _ h
theorem c_5_mostOfOthers {k : Nat} {a1 : Int32} (hinj : INJ ad) (hk : isPlay k) {w : Mem} {Q : Int32 → Mem → Prop} (h : wp_5_mostOfOthers k a1 w Q) : Met l yX5_mostOfOthers (TBq yX5_mostOfOthers cX5_mostOfOthers 4 (some .int)) (RM 2) (va_Pc [.ref (ad k), .int a1] (PB ad cy D (cmb w wm) wl0)) (va_Qi Q (BC ad cy D wm wl0) (AW ad)) 0 0 (AW ad) := M_enter (by decide) (Nat.le_of_ble_eq_true rfl) hinj (fun p e s m args below meth c X hr => v_5_mostOfOthers X hr hk h)
theorem mf_5_mostOfOthers : MFV yX5_mostOfOthers cX5_mostOfOthers 4 (some .int) yX5_mostOfOthers.cls 1 := ⟨q_1086, q_1084, q_1085, q_9, by decide⟩
theorem K_5_mostOfOthers {own : String} {idx : Nat} {k : Nat} {a1 : Int32} (X : CXq p s m args meth c cc nL own ad cy D A H0) (hL : LK own idx yX5_mostOfOthers) (hk : isPlay k) {w : Mem} {Q : Int32 → Mem → Prop} (h : wp_5_mostOfOthers k a1 w Q) (hR : (RM 2).frames + 1 ≤ R.frames ∧ 8 + (4 + 11) + (RM 2).locals ≤ R.locals) (hce : ce ≤ R.cells ∧ sl ≤ R.slots) (hcat : (st1.map fun v => v.category).sum ≤ 8) (hd : decode cc pc = .ok (.invokevirtual idx, 3)) (kk : ∀ (r : Int32) (u : Mem), Q r u → V p l e R s m args below meth c nL ad cy D A H0 ce sl Qs u wm wl0 (pc + 3) ls (.int r :: st1)) : V p l e R s m args below meth c nL ad cy D A H0 ce sl Qs w wm wl0 pc ls (.int a1 :: .ref (ad k) :: st1) := V_callVI_c X mf_5_mostOfOthers hL (rfl : vwCl[5]? = some (RX5, TX5, 9)) (by decide) (hk).1 (Nat.lt_of_lt_of_le (hk).2.1 (CX_nn X)) (c_5_mostOfOthers X.2.2.2.2.2.2.2.1 hk h) (As := [.int a1]) rfl ⟨rfl, rfl⟩ hR hce st1 rfl hcat hd kk
set_option maxRecDepth 20000 in
theorem v_5_totalToBeFirst_b50 (X : CXq p s m args meth c cX5_totalToBeFirst 4 yX5_totalToBeFirst.cls ad cy D (AW ad) s.heap) (hr : meth.sig.returnType = (some .int)) {k : Nat} (hk : isPlay k) {Q : Int32 → Mem → Prop} {L4 : Int32 → Int32 → Int32 → Mem → Prop} (HL4 : ∀ (l1 : Int32) (l2 : Int32) (l3 : Int32) (w : Mem), L4 l1 l2 l3 w → V p l e (RM 2) s m args below meth c 4 ad cy D (AW ad) s.heap 0 0 (MQ below (va_Qi Q (BC ad cy D wm wl0) (AW ad)) args s 0 0 (AW ad)) w wm wl0 4 [(0, .ref (ad k)), (1, .int l1), (2, .int l2), (3, .int l3)] []) : ∀ (l1 : Int32) (l2 : Int32) (l3 : Int32) (w : Mem), wp_5_totalToBeFirst_b50 k Q L4 l1 l2 l3 w → V p l e (RM 2) s m args below meth c 4 ad cy D (AW ad) s.heap 0 0 (MQ below (va_Qi Q (BC ad cy D wm wl0) (AW ad)) args s 0 0 (AW ad)) w wm wl0 50 [(0, .ref (ad k)), (1, .int l1), (2, .int l2), (3, .int l3)] [] := by
  intro l1 l2 l3 w h
  unfold wp_5_totalToBeFirst_b50 at h
  obtain ⟨x1, ex1⟩ : ∃ y : Int32, y = l3 + (1 : Int32) := ⟨_, rfl⟩
  have h := h x1 ex1
  refine V_iinc X 3 dX5_totalToBeFirst_50 rfl (by decide) (by rw [ex1]; rfl) (ls1 := [(3, .int x1), (0, .ref (ad k)), (1, .int l1), (2, .int l2)]) rfl ?_
  refine V_goto X (tgt := 4) dX5_totalToBeFirst_53 (by decide) ?_
  refine V_sub X (ls1 := [(0, .ref (ad k)), (1, .int l1), (2, .int l2), (3, .int x1)]) [1, 2, 3, 0] rfl ?_
  exact HL4 _ _ _ _ h
set_option maxRecDepth 20000 in
theorem v_5_totalToBeFirst_b46 (X : CXq p s m args meth c cX5_totalToBeFirst 4 yX5_totalToBeFirst.cls ad cy D (AW ad) s.heap) (hr : meth.sig.returnType = (some .int)) {k : Nat} (hk : isPlay k) {Q : Int32 → Mem → Prop} {L4 : Int32 → Int32 → Int32 → Mem → Prop} (HL4 : ∀ (l1 : Int32) (l2 : Int32) (l3 : Int32) (w : Mem), L4 l1 l2 l3 w → V p l e (RM 2) s m args below meth c 4 ad cy D (AW ad) s.heap 0 0 (MQ below (va_Qi Q (BC ad cy D wm wl0) (AW ad)) args s 0 0 (AW ad)) w wm wl0 4 [(0, .ref (ad k)), (1, .int l1), (2, .int l2), (3, .int l3)] []) : ∀ (l1 : Int32) (l3 : Int32) (s0 : Int32) (s1 : Int32) (w : Mem), wp_5_totalToBeFirst_b46 k Q L4 l1 l3 s0 s1 w → V p l e (RM 2) s m args below meth c 4 ad cy D (AW ad) s.heap 0 0 (MQ below (va_Qi Q (BC ad cy D wm wl0) (AW ad)) args s 0 0 (AW ad)) w wm wl0 46 [(0, .ref (ad k)), (1, .int l1), (3, .int l3)] [.int s1, .int s0] := by
  intro l1 l3 s0 s1 w h
  unfold wp_5_totalToBeFirst_b46 at h
  refine V_mmax X dX5_totalToBeFirst_46 q_1065 q_642 q_19 q_643 (Nat.le_of_ble_eq_true rfl) (Nat.le_of_ble_eq_true rfl) (Nat.zero_le _) (Nat.zero_le _) ?_
  obtain ⟨x1, ex1⟩ : ∃ y : Int32, y = (mx s0 s1) := ⟨_, rfl⟩
  have h := h x1 ex1
  refine V_istore_n X dX5_totalToBeFirst_49 rfl (by decide) ex1 (ls1 := [(2, .int x1), (0, .ref (ad k)), (1, .int l1), (3, .int l3)]) rfl ?_
  refine V_sub X (ls1 := [(0, .ref (ad k)), (1, .int l1), (2, .int x1), (3, .int l3)]) [1, 2, 0, 3] rfl ?_
  exact v_5_totalToBeFirst_b50 X hr hk HL4 _ _ _ _ h
set_option maxRecDepth 20000 in
theorem v_5_totalToBeFirst_b4 (X : CXq p s m args meth c cX5_totalToBeFirst 4 yX5_totalToBeFirst.cls ad cy D (AW ad) s.heap) (hr : meth.sig.returnType = (some .int)) {k : Nat} (hk : isPlay k) {Q : Int32 → Mem → Prop} : ∀ (n : Nat) (l1 : Int32) (l2 : Int32) (l3 : Int32) (w : Mem), wp_5_totalToBeFirst_b4 k Q n l1 l2 l3 w → V p l e (RM 2) s m args below meth c 4 ad cy D (AW ad) s.heap 0 0 (MQ below (va_Qi Q (BC ad cy D wm wl0) (AW ad)) args s 0 0 (AW ad)) w wm wl0 4 [(0, .ref (ad k)), (1, .int l1), (2, .int l2), (3, .int l3)] [] := by
  intro n
  induction n with
  | zero =>
    intro l1 l2 l3 w h
    exact h.elim
  | succ n ih =>
    intro l1 l2 l3 w h
    unfold wp_5_totalToBeFirst_b4 at h
    refine V_iload_n X (i := 3) 3 dX5_totalToBeFirst_4 rfl rfl ?_
    refine V_aload_n X (i := 0) 0 dX5_totalToBeFirst_5 rfl rfl ?_
    refine G_5_21 X (hk).1 (hk).2.1 (Play_r0 hk) dX5_totalToBeFirst_6 ?_
    refine G_5_43 X (inst_Text_48).1 (inst_Text_48).2.1 (Text_r6 inst_Text_48) dX5_totalToBeFirst_9 ?_
    refine G_5_47 X (inst_People_80).1 (inst_People_80).2.1 (People_r6 inst_People_80) dX5_totalToBeFirst_12 ?_
    obtain ⟨ht, hf⟩ := h
    refine V_icmp_ge X (tgt := 56) dX5_totalToBeFirst_15 (by decide) (fun c => ?_) (fun c => ?_)
    · have h := ht c
      refine V_iload_n X (i := 2) 2 dX5_totalToBeFirst_56 rfl rfl ?_
      exact V_iret_c X hr dX5_totalToBeFirst_57 h
    · have h := hf c
      refine V_iload_n X (i := 3) 3 dX5_totalToBeFirst_18 rfl rfl ?_
      refine V_iload_n X (i := 1) 1 dX5_totalToBeFirst_19 rfl rfl ?_
      obtain ⟨ht, hf⟩ := h
      refine V_icmp_eq X (tgt := 50) dX5_totalToBeFirst_20 (by decide) (fun c => ?_) (fun c => ?_)
      · have h := ht c
        refine V_sub X (ls1 := [(0, .ref (ad k)), (1, .int l1), (2, .int l2), (3, .int l3)]) [0, 1, 2, 3] rfl ?_
        exact v_5_totalToBeFirst_b50 X hr hk ih _ _ _ _ h
      · have h := hf c
        refine V_iload_n X (i := 2) 2 dX5_totalToBeFirst_23 rfl rfl ?_
        refine V_iload_n X (i := 3) 3 dX5_totalToBeFirst_24 rfl rfl ?_
        refine V_iload_n X (i := 1) 1 dX5_totalToBeFirst_25 rfl rfl ?_
        obtain ⟨ht, hf⟩ := h
        refine V_icmp_ge X (tgt := 40) dX5_totalToBeFirst_26 (by decide) (fun c => ?_) (fun c => ?_)
        · have h := ht c
          refine V_aload_n X (i := 0) 0 dX5_totalToBeFirst_40 rfl rfl ?_
          refine G_5_15 X (hk).1 (hk).2.1 (Play_r2 hk) dX5_totalToBeFirst_41 ?_
          refine V_iload_n X (i := 3) 3 dX5_totalToBeFirst_44 rfl rfl ?_
          obtain ⟨g1, h⟩ := h
          refine V_iald_c X ((Play_s2 hk)).2.1 ((Play_s2 hk)).2.2 ((Play_s2 hk)).1 g1 dX5_totalToBeFirst_45 ?_
          refine V_sub X (ls1 := [(0, .ref (ad k)), (1, .int l1), (3, .int l3)]) [0, 1, 3] rfl ?_
          exact v_5_totalToBeFirst_b46 X hr hk ih _ _ _ _ _ h
        · have h := hf c
          refine V_aload_n X (i := 0) 0 dX5_totalToBeFirst_29 rfl rfl ?_
          refine G_5_15 X (hk).1 (hk).2.1 (Play_r2 hk) dX5_totalToBeFirst_30 ?_
          refine V_iload_n X (i := 3) 3 dX5_totalToBeFirst_33 rfl rfl ?_
          obtain ⟨g2, h⟩ := h
          refine V_iald_c X ((Play_s2 hk)).2.1 ((Play_s2 hk)).2.2 ((Play_s2 hk)).1 g2 dX5_totalToBeFirst_34 ?_
          refine V_iconst X (v := (1 : Int32)) dX5_totalToBeFirst_35 (by decide) ?_
          refine V_iadd X dX5_totalToBeFirst_36 ?_
          refine V_goto X (tgt := 46) dX5_totalToBeFirst_37 (by decide) ?_
          refine V_sub X (ls1 := [(0, .ref (ad k)), (1, .int l1), (3, .int l3)]) [0, 1, 3] rfl ?_
          exact v_5_totalToBeFirst_b46 X hr hk ih _ _ _ _ _ h
set_option maxRecDepth 20000 in
theorem v_5_totalToBeFirst {k : Nat} {a1 : Int32} (X : CXq p s m args meth c cX5_totalToBeFirst 4 yX5_totalToBeFirst.cls ad cy D (AW ad) s.heap) (hr : meth.sig.returnType = (some .int)) (hk : isPlay k) {w : Mem} {Q : Int32 → Mem → Prop} (h : wp_5_totalToBeFirst k a1 w Q) : V p l e (RM 2) s m args below meth c 4 ad cy D (AW ad) s.heap 0 0 (MQ below (va_Qi Q (BC ad cy D wm wl0) (AW ad)) args s 0 0 (AW ad)) w wm wl0 0 [(0, .ref (ad k)), (1, .int a1)] [] := by
  unfold wp_5_totalToBeFirst at h
  refine V_iconst X (v := (0 : Int32)) dX5_totalToBeFirst_0 (by decide) ?_
  refine V_istore_n X dX5_totalToBeFirst_1 rfl (by decide) rfl (ls1 := [(2, .int (0 : Int32)), (0, .ref (ad k)), (1, .int a1)]) rfl ?_
  refine V_iconst X (v := (0 : Int32)) dX5_totalToBeFirst_2 (by decide) ?_
  refine V_istore_n X dX5_totalToBeFirst_3 rfl (by decide) rfl (ls1 := [(3, .int (0 : Int32)), (2, .int (0 : Int32)), (0, .ref (ad k)), (1, .int a1)]) rfl ?_
  refine V_sub X (ls1 := [(0, .ref (ad k)), (1, .int a1), (2, .int (0 : Int32)), (3, .int (0 : Int32))]) [2, 3, 1, 0] rfl ?_
  obtain ⟨nn, h⟩ := h
  exact v_5_totalToBeFirst_b4 X hr hk nn _ _ _ _ h
theorem c_5_totalToBeFirst {k : Nat} {a1 : Int32} (hinj : INJ ad) (hk : isPlay k) {w : Mem} {Q : Int32 → Mem → Prop} (h : wp_5_totalToBeFirst k a1 w Q) : Met l yX5_totalToBeFirst (TBq yX5_totalToBeFirst cX5_totalToBeFirst 4 (some .int)) (RM 2) (va_Pc [.ref (ad k), .int a1] (PB ad cy D (cmb w wm) wl0)) (va_Qi Q (BC ad cy D wm wl0) (AW ad)) 0 0 (AW ad) := M_enter (by decide) (Nat.le_of_ble_eq_true rfl) hinj (fun p e s m args below meth c X hr => v_5_totalToBeFirst X hr hk h)
theorem mf_5_totalToBeFirst : MFV yX5_totalToBeFirst cX5_totalToBeFirst 4 (some .int) yX5_totalToBeFirst.cls 1 := ⟨q_1064, q_1062, q_1063, q_9, by decide⟩
theorem K_5_totalToBeFirst {own : String} {idx : Nat} {k : Nat} {a1 : Int32} (X : CXq p s m args meth c cc nL own ad cy D A H0) (hL : LK own idx yX5_totalToBeFirst) (hk : isPlay k) {w : Mem} {Q : Int32 → Mem → Prop} (h : wp_5_totalToBeFirst k a1 w Q) (hR : (RM 2).frames + 1 ≤ R.frames ∧ 8 + (4 + 11) + (RM 2).locals ≤ R.locals) (hce : ce ≤ R.cells ∧ sl ≤ R.slots) (hcat : (st1.map fun v => v.category).sum ≤ 8) (hd : decode cc pc = .ok (.invokevirtual idx, 3)) (kk : ∀ (r : Int32) (u : Mem), Q r u → V p l e R s m args below meth c nL ad cy D A H0 ce sl Qs u wm wl0 (pc + 3) ls (.int r :: st1)) : V p l e R s m args below meth c nL ad cy D A H0 ce sl Qs w wm wl0 pc ls (.int a1 :: .ref (ad k) :: st1) := V_callVI_c X mf_5_totalToBeFirst hL (rfl : vwCl[5]? = some (RX5, TX5, 9)) (by decide) (hk).1 (Nat.lt_of_lt_of_le (hk).2.1 (CX_nn X)) (c_5_totalToBeFirst X.2.2.2.2.2.2.2.1 hk h) (As := [.int a1]) rfl ⟨rfl, rfl⟩ hR hce st1 rfl hcat hd kk
set_option maxRecDepth 20000 in
theorem v_5_givenBy_b53 (X : CXq p s m args meth c cX5_givenBy 5 yX5_givenBy.cls ad cy D (AW ad) s.heap) (hr : meth.sig.returnType = (some .int)) {k : Nat} (hk : isPlay k) {Q : Int32 → Mem → Prop} {L4 : Int32 → Int32 → Int32 → Mem → Prop} (HL4 : ∀ (l1 : Int32) (l2 : Int32) (l3 : Int32) (w : Mem), L4 l1 l2 l3 w → V p l e (RM 3) s m args below meth c 5 ad cy D (AW ad) s.heap 0 0 (MQ below (va_Qi Q (BC ad cy D wm wl0) (AW ad)) args s 0 0 (AW ad)) w wm wl0 4 [(0, .ref (ad k)), (1, .int l1), (2, .int l2), (3, .int l3)] []) {L21 : Int32 → Int32 → Int32 → Int32 → Mem → Prop} (HL21 : ∀ (l1 : Int32) (l2 : Int32) (l3 : Int32) (l4 : Int32) (w : Mem), L21 l1 l2 l3 l4 w → V p l e (RM 3) s m args below meth c 5 ad cy D (AW ad) s.heap 0 0 (MQ below (va_Qi Q (BC ad cy D wm wl0) (AW ad)) args s 0 0 (AW ad)) w wm wl0 21 [(0, .ref (ad k)), (1, .int l1), (2, .int l2), (3, .int l3), (4, .int l4)] []) : ∀ (l1 : Int32) (l3 : Int32) (l4 : Int32) (s0 : Int32) (s1 : Int32) (w : Mem), wp_5_givenBy_b53 k Q L4 L21 l1 l3 l4 s0 s1 w → V p l e (RM 3) s m args below meth c 5 ad cy D (AW ad) s.heap 0 0 (MQ below (va_Qi Q (BC ad cy D wm wl0) (AW ad)) args s 0 0 (AW ad)) w wm wl0 53 [(0, .ref (ad k)), (1, .int l1), (3, .int l3), (4, .int l4)] [.int s1, .int s0] := by
  intro l1 l3 l4 s0 s1 w h
  unfold wp_5_givenBy_b53 at h
  refine V_iadd X dX5_givenBy_53 ?_
  obtain ⟨x1, ex1⟩ : ∃ y : Int32, y = (s0 + s1) := ⟨_, rfl⟩
  have h := h x1 ex1
  refine V_istore_n X dX5_givenBy_54 rfl (by decide) ex1 (ls1 := [(2, .int x1), (0, .ref (ad k)), (1, .int l1), (3, .int l3), (4, .int l4)]) rfl ?_
  obtain ⟨x2, ex2⟩ : ∃ y : Int32, y = l4 + (1 : Int32) := ⟨_, rfl⟩
  have h := h x2 ex2
  refine V_iinc X 4 dX5_givenBy_55 rfl (by decide) (by rw [ex2]; rfl) (ls1 := [(4, .int x2), (2, .int x1), (0, .ref (ad k)), (1, .int l1), (3, .int l3)]) rfl ?_
  refine V_goto X (tgt := 21) dX5_givenBy_58 (by decide) ?_
  refine V_sub X (ls1 := [(0, .ref (ad k)), (1, .int l1), (2, .int x1), (3, .int l3), (4, .int x2)]) [2, 3, 1, 4, 0] rfl ?_
  exact HL21 _ _ _ _ _ h
set_option maxRecDepth 20000 in
theorem v_5_givenBy_b21 (X : CXq p s m args meth c cX5_givenBy 5 yX5_givenBy.cls ad cy D (AW ad) s.heap) (hr : meth.sig.returnType = (some .int)) {k : Nat} (hk : isPlay k) {Q : Int32 → Mem → Prop} {L4 : Int32 → Int32 → Int32 → Mem → Prop} (HL4 : ∀ (l1 : Int32) (l2 : Int32) (l3 : Int32) (w : Mem), L4 l1 l2 l3 w → V p l e (RM 3) s m args below meth c 5 ad cy D (AW ad) s.heap 0 0 (MQ below (va_Qi Q (BC ad cy D wm wl0) (AW ad)) args s 0 0 (AW ad)) w wm wl0 4 [(0, .ref (ad k)), (1, .int l1), (2, .int l2), (3, .int l3)] []) : ∀ (n : Nat) (l1 : Int32) (l2 : Int32) (l3 : Int32) (l4 : Int32) (w : Mem), wp_5_givenBy_b21 k Q L4 n l1 l2 l3 l4 w → V p l e (RM 3) s m args below meth c 5 ad cy D (AW ad) s.heap 0 0 (MQ below (va_Qi Q (BC ad cy D wm wl0) (AW ad)) args s 0 0 (AW ad)) w wm wl0 21 [(0, .ref (ad k)), (1, .int l1), (2, .int l2), (3, .int l3), (4, .int l4)] [] := by
  intro n
  induction n with
  | zero =>
    intro l1 l2 l3 l4 w h
    exact h.elim
  | succ n ih =>
    intro l1 l2 l3 l4 w h
    unfold wp_5_givenBy_b21 at h
    refine V_iload X (i := 4) 4 dX5_givenBy_21 rfl ?_
    refine V_iconst X (v := (2 : Int32)) dX5_givenBy_23 (by decide) ?_
    obtain ⟨ht, hf⟩ := h
    refine V_icmp_gt X (tgt := 61) dX5_givenBy_24 (by decide) (fun c => ?_) (fun c => ?_)
    · have h := ht c
      obtain ⟨x1, ex1⟩ : ∃ y : Int32, y = l3 + (1 : Int32) := ⟨_, rfl⟩
      have h := h x1 ex1
      refine V_iinc X 3 dX5_givenBy_61 rfl (by decide) (by rw [ex1]; rfl) (ls1 := [(3, .int x1), (0, .ref (ad k)), (1, .int l1), (2, .int l2), (4, .int l4)]) rfl ?_
      refine V_goto X (tgt := 4) dX5_givenBy_64 (by decide) ?_
      refine V_sub X (ls1 := [(0, .ref (ad k)), (1, .int l1), (2, .int l2), (3, .int x1)]) [1, 2, 3, 0] rfl ?_
      exact HL4 _ _ _ _ h
    · have h := hf c
      refine V_iload_n X (i := 2) 2 dX5_givenBy_27 rfl rfl ?_
      refine V_aload_n X (i := 0) 0 dX5_givenBy_28 rfl rfl ?_
      refine V_iload_n X (i := 3) 3 dX5_givenBy_29 rfl rfl ?_
      refine V_iload X (i := 4) 4 dX5_givenBy_30 rfl ?_
      refine K_5_hasJump X (Or.inl q_1103) hk h ⟨Nat.le_of_ble_eq_true rfl, Nat.le_of_ble_eq_true rfl⟩ ⟨Nat.zero_le _, Nat.zero_le _⟩ (st1 := [.int l2]) (Nat.le_of_ble_eq_true rfl) dX5_givenBy_32 (fun r3 w2 h => ?_)
      obtain ⟨ht, hf⟩ := h
      refine V_if_eq X (tgt := 52) dX5_givenBy_35 (by decide) (fun c => ?_) (fun c => ?_)
      · have h := ht c
        refine V_iconst X (v := (0 : Int32)) dX5_givenBy_52 (by decide) ?_
        refine V_sub X (ls1 := [(0, .ref (ad k)), (1, .int l1), (3, .int l3), (4, .int l4)]) [0, 1, 3, 4] rfl ?_
        exact v_5_givenBy_b53 X hr hk HL4 ih _ _ _ _ _ _ h
      · have h := hf c
        refine V_aload_n X (i := 0) 0 dX5_givenBy_38 rfl rfl ?_
        refine V_iload_n X (i := 3) 3 dX5_givenBy_39 rfl rfl ?_
        refine V_iload X (i := 4) 4 dX5_givenBy_40 rfl ?_
        refine V_bipush X (v := (9 : Int32)) dX5_givenBy_42 (by decide) ?_
        refine V_iload_n X (i := 1) 1 dX5_givenBy_44 rfl rfl ?_
        refine V_iadd X dX5_givenBy_45 ?_
        refine K_5_cell X (Or.inl q_835) hk h ⟨Nat.le_of_ble_eq_true rfl, Nat.le_of_ble_eq_true rfl⟩ ⟨Nat.zero_le _, Nat.zero_le _⟩ (st1 := [.int l2]) (Nat.le_of_ble_eq_true rfl) dX5_givenBy_46 (fun r5 w4 h => ?_)
        refine V_goto X (tgt := 53) dX5_givenBy_49 (by decide) ?_
        refine V_sub X (ls1 := [(0, .ref (ad k)), (1, .int l1), (3, .int l3), (4, .int l4)]) [0, 1, 3, 4] rfl ?_
        exact v_5_givenBy_b53 X hr hk HL4 ih _ _ _ _ _ _ h
set_option maxRecDepth 20000 in
theorem v_5_givenBy_b4 (X : CXq p s m args meth c cX5_givenBy 5 yX5_givenBy.cls ad cy D (AW ad) s.heap) (hr : meth.sig.returnType = (some .int)) {k : Nat} (hk : isPlay k) {Q : Int32 → Mem → Prop} : ∀ (n : Nat) (l1 : Int32) (l2 : Int32) (l3 : Int32) (w : Mem), wp_5_givenBy_b4 k Q n l1 l2 l3 w → V p l e (RM 3) s m args below meth c 5 ad cy D (AW ad) s.heap 0 0 (MQ below (va_Qi Q (BC ad cy D wm wl0) (AW ad)) args s 0 0 (AW ad)) w wm wl0 4 [(0, .ref (ad k)), (1, .int l1), (2, .int l2), (3, .int l3)] [] := by
  intro n
  induction n with
  | zero =>
    intro l1 l2 l3 w h
    exact h.elim
  | succ n ih =>
    intro l1 l2 l3 w h
    unfold wp_5_givenBy_b4 at h
    refine V_iload_n X (i := 3) 3 dX5_givenBy_4 rfl rfl ?_
    refine V_aload_n X (i := 0) 0 dX5_givenBy_5 rfl rfl ?_
    refine G_5_21 X (hk).1 (hk).2.1 (Play_r0 hk) dX5_givenBy_6 ?_
    refine G_5_43 X (inst_Text_48).1 (inst_Text_48).2.1 (Text_r6 inst_Text_48) dX5_givenBy_9 ?_
    refine G_5_47 X (inst_People_80).1 (inst_People_80).2.1 (People_r6 inst_People_80) dX5_givenBy_12 ?_
    obtain ⟨ht, hf⟩ := h
    refine V_icmp_ge X (tgt := 67) dX5_givenBy_15 (by decide) (fun c => ?_) (fun c => ?_)
    · have h := ht c
      refine V_iload_n X (i := 2) 2 dX5_givenBy_67 rfl rfl ?_
      exact V_iret_c X hr dX5_givenBy_68 h
    · have h := hf c
      refine V_iconst X (v := (1 : Int32)) dX5_givenBy_18 (by decide) ?_
      refine V_istore X dX5_givenBy_19 (by decide) rfl (ls1 := [(4, .int (1 : Int32)), (0, .ref (ad k)), (1, .int l1), (2, .int l2), (3, .int l3)]) rfl ?_
      refine V_sub X (ls1 := [(0, .ref (ad k)), (1, .int l1), (2, .int l2), (3, .int l3), (4, .int (1 : Int32))]) [1, 2, 3, 4, 0] rfl ?_
      obtain ⟨nn, h⟩ := h
      exact v_5_givenBy_b21 X hr hk ih nn _ _ _ _ _ h
set_option maxRecDepth 20000 in
theorem v_5_givenBy {k : Nat} {a1 : Int32} (X : CXq p s m args meth c cX5_givenBy 5 yX5_givenBy.cls ad cy D (AW ad) s.heap) (hr : meth.sig.returnType = (some .int)) (hk : isPlay k) {w : Mem} {Q : Int32 → Mem → Prop} (h : wp_5_givenBy k a1 w Q) : V p l e (RM 3) s m args below meth c 5 ad cy D (AW ad) s.heap 0 0 (MQ below (va_Qi Q (BC ad cy D wm wl0) (AW ad)) args s 0 0 (AW ad)) w wm wl0 0 [(0, .ref (ad k)), (1, .int a1)] [] := by
  unfold wp_5_givenBy at h
  refine V_iconst X (v := (0 : Int32)) dX5_givenBy_0 (by decide) ?_
  refine V_istore_n X dX5_givenBy_1 rfl (by decide) rfl (ls1 := [(2, .int (0 : Int32)), (0, .ref (ad k)), (1, .int a1)]) rfl ?_
  refine V_iconst X (v := (0 : Int32)) dX5_givenBy_2 (by decide) ?_
  refine V_istore_n X dX5_givenBy_3 rfl (by decide) rfl (ls1 := [(3, .int (0 : Int32)), (2, .int (0 : Int32)), (0, .ref (ad k)), (1, .int a1)]) rfl ?_
  refine V_sub X (ls1 := [(0, .ref (ad k)), (1, .int a1), (2, .int (0 : Int32)), (3, .int (0 : Int32))]) [2, 3, 1, 0] rfl ?_
  obtain ⟨nn, h⟩ := h
  exact v_5_givenBy_b4 X hr hk nn _ _ _ _ h
theorem c_5_givenBy {k : Nat} {a1 : Int32} (hinj : INJ ad) (hk : isPlay k) {w : Mem} {Q : Int32 → Mem → Prop} (h : wp_5_givenBy k a1 w Q) : Met l yX5_givenBy (TBq yX5_givenBy cX5_givenBy 5 (some .int)) (RM 3) (va_Pc [.ref (ad k), .int a1] (PB ad cy D (cmb w wm) wl0)) (va_Qi Q (BC ad cy D wm wl0) (AW ad)) 0 0 (AW ad) := M_enter (by decide) (Nat.le_of_ble_eq_true rfl) hinj (fun p e s m args below meth c X hr => v_5_givenBy X hr hk h)
theorem mf_5_givenBy : MFV yX5_givenBy cX5_givenBy 5 (some .int) yX5_givenBy.cls 1 := ⟨q_1102, q_1100, q_1101, q_9, by decide⟩
theorem K_5_givenBy {own : String} {idx : Nat} {k : Nat} {a1 : Int32} (X : CXq p s m args meth c cc nL own ad cy D A H0) (hL : LK own idx yX5_givenBy) (hk : isPlay k) {w : Mem} {Q : Int32 → Mem → Prop} (h : wp_5_givenBy k a1 w Q) (hR : (RM 3).frames + 1 ≤ R.frames ∧ 8 + (5 + 11) + (RM 3).locals ≤ R.locals) (hce : ce ≤ R.cells ∧ sl ≤ R.slots) (hcat : (st1.map fun v => v.category).sum ≤ 8) (hd : decode cc pc = .ok (.invokevirtual idx, 3)) (kk : ∀ (r : Int32) (u : Mem), Q r u → V p l e R s m args below meth c nL ad cy D A H0 ce sl Qs u wm wl0 (pc + 3) ls (.int r :: st1)) : V p l e R s m args below meth c nL ad cy D A H0 ce sl Qs w wm wl0 pc ls (.int a1 :: .ref (ad k) :: st1) := V_callVI_c X mf_5_givenBy hL (rfl : vwCl[5]? = some (RX5, TX5, 9)) (by decide) (hk).1 (Nat.lt_of_lt_of_le (hk).2.1 (CX_nn X)) (c_5_givenBy X.2.2.2.2.2.2.2.1 hk h) (As := [.int a1]) rfl ⟨rfl, rfl⟩ hR hce st1 rfl hcat hd kk
set_option maxRecDepth 20000 in
theorem v_5_jumpsBeyond_b52 (X : CXq p s m args meth c cX5_jumpsBeyond 5 yX5_jumpsBeyond.cls ad cy D (AW ad) s.heap) (hr : meth.sig.returnType = (some .int)) {k : Nat} (hk : isPlay k) {Q : Int32 → Mem → Prop} {L4 : Int32 → Int32 → Int32 → Mem → Prop} (HL4 : ∀ (l1 : Int32) (l2 : Int32) (l3 : Int32) (w : Mem), L4 l1 l2 l3 w → V p l e (RM 3) s m args below meth c 5 ad cy D (AW ad) s.heap 0 0 (MQ below (va_Qi Q (BC ad cy D wm wl0) (AW ad)) args s 0 0 (AW ad)) w wm wl0 4 [(0, .ref (ad k)), (1, .int l1), (2, .int l2), (3, .int l3)] []) {L21 : Int32 → Int32 → Int32 → Int32 → Mem → Prop} (HL21 : ∀ (l1 : Int32) (l2 : Int32) (l3 : Int32) (l4 : Int32) (w : Mem), L21 l1 l2 l3 l4 w → V p l e (RM 3) s m args below meth c 5 ad cy D (AW ad) s.heap 0 0 (MQ below (va_Qi Q (BC ad cy D wm wl0) (AW ad)) args s 0 0 (AW ad)) w wm wl0 21 [(0, .ref (ad k)), (1, .int l1), (2, .int l2), (3, .int l3), (4, .int l4)] []) : ∀ (l1 : Int32) (l2 : Int32) (l3 : Int32) (l4 : Int32) (w : Mem), wp_5_jumpsBeyond_b52 k Q L4 L21 l1 l2 l3 l4 w → V p l e (RM 3) s m args below meth c 5 ad cy D (AW ad) s.heap 0 0 (MQ below (va_Qi Q (BC ad cy D wm wl0) (AW ad)) args s 0 0 (AW ad)) w wm wl0 52 [(0, .ref (ad k)), (1, .int l1), (2, .int l2), (3, .int l3), (4, .int l4)] [] := by
  intro l1 l2 l3 l4 w h
  unfold wp_5_jumpsBeyond_b52 at h
  obtain ⟨x1, ex1⟩ : ∃ y : Int32, y = l4 + (1 : Int32) := ⟨_, rfl⟩
  have h := h x1 ex1
  refine V_iinc X 4 dX5_jumpsBeyond_52 rfl (by decide) (by rw [ex1]; rfl) (ls1 := [(4, .int x1), (0, .ref (ad k)), (1, .int l1), (2, .int l2), (3, .int l3)]) rfl ?_
  refine V_goto X (tgt := 21) dX5_jumpsBeyond_55 (by decide) ?_
  refine V_sub X (ls1 := [(0, .ref (ad k)), (1, .int l1), (2, .int l2), (3, .int l3), (4, .int x1)]) [1, 2, 3, 4, 0] rfl ?_
  exact HL21 _ _ _ _ _ h
set_option maxRecDepth 20000 in
theorem v_5_jumpsBeyond_b21 (X : CXq p s m args meth c cX5_jumpsBeyond 5 yX5_jumpsBeyond.cls ad cy D (AW ad) s.heap) (hr : meth.sig.returnType = (some .int)) {k : Nat} (hk : isPlay k) {Q : Int32 → Mem → Prop} {L4 : Int32 → Int32 → Int32 → Mem → Prop} (HL4 : ∀ (l1 : Int32) (l2 : Int32) (l3 : Int32) (w : Mem), L4 l1 l2 l3 w → V p l e (RM 3) s m args below meth c 5 ad cy D (AW ad) s.heap 0 0 (MQ below (va_Qi Q (BC ad cy D wm wl0) (AW ad)) args s 0 0 (AW ad)) w wm wl0 4 [(0, .ref (ad k)), (1, .int l1), (2, .int l2), (3, .int l3)] []) : ∀ (n : Nat) (l1 : Int32) (l2 : Int32) (l3 : Int32) (l4 : Int32) (w : Mem), wp_5_jumpsBeyond_b21 k Q L4 n l1 l2 l3 l4 w → V p l e (RM 3) s m args below meth c 5 ad cy D (AW ad) s.heap 0 0 (MQ below (va_Qi Q (BC ad cy D wm wl0) (AW ad)) args s 0 0 (AW ad)) w wm wl0 21 [(0, .ref (ad k)), (1, .int l1), (2, .int l2), (3, .int l3), (4, .int l4)] [] := by
  intro n
  induction n with
  | zero =>
    intro l1 l2 l3 l4 w h
    exact h.elim
  | succ n ih =>
    intro l1 l2 l3 l4 w h
    unfold wp_5_jumpsBeyond_b21 at h
    refine V_iload X (i := 4) 4 dX5_jumpsBeyond_21 rfl ?_
    refine V_iconst X (v := (2 : Int32)) dX5_jumpsBeyond_23 (by decide) ?_
    obtain ⟨ht, hf⟩ := h
    refine V_icmp_gt X (tgt := 58) dX5_jumpsBeyond_24 (by decide) (fun c => ?_) (fun c => ?_)
    · have h := ht c
      obtain ⟨x1, ex1⟩ : ∃ y : Int32, y = l3 + (1 : Int32) := ⟨_, rfl⟩
      have h := h x1 ex1
      refine V_iinc X 3 dX5_jumpsBeyond_58 rfl (by decide) (by rw [ex1]; rfl) (ls1 := [(3, .int x1), (0, .ref (ad k)), (1, .int l1), (2, .int l2), (4, .int l4)]) rfl ?_
      refine V_goto X (tgt := 4) dX5_jumpsBeyond_61 (by decide) ?_
      refine V_sub X (ls1 := [(0, .ref (ad k)), (1, .int l1), (2, .int l2), (3, .int x1)]) [1, 2, 3, 0] rfl ?_
      exact HL4 _ _ _ _ h
    · have h := hf c
      refine V_aload_n X (i := 0) 0 dX5_jumpsBeyond_27 rfl rfl ?_
      refine V_iload_n X (i := 3) 3 dX5_jumpsBeyond_28 rfl rfl ?_
      refine V_iload X (i := 4) 4 dX5_jumpsBeyond_29 rfl ?_
      refine K_5_hasJump X (Or.inl q_1103) hk h ⟨Nat.le_of_ble_eq_true rfl, Nat.le_of_ble_eq_true rfl⟩ ⟨Nat.zero_le _, Nat.zero_le _⟩ (st1 := []) (Nat.le_of_ble_eq_true rfl) dX5_jumpsBeyond_31 (fun r3 w2 h => ?_)
      obtain ⟨ht, hf⟩ := h
      refine V_if_eq X (tgt := 52) dX5_jumpsBeyond_34 (by decide) (fun c => ?_) (fun c => ?_)
      · have h := ht c
        refine V_sub X (ls1 := [(0, .ref (ad k)), (1, .int l1), (2, .int l2), (3, .int l3), (4, .int l4)]) [0, 1, 2, 3, 4] rfl ?_
        exact v_5_jumpsBeyond_b52 X hr hk HL4 ih _ _ _ _ _ h
      · have h := hf c
        refine V_aload_n X (i := 0) 0 dX5_jumpsBeyond_37 rfl rfl ?_
        refine V_iload_n X (i := 3) 3 dX5_jumpsBeyond_38 rfl rfl ?_
        refine V_iload X (i := 4) 4 dX5_jumpsBeyond_39 rfl ?_
        refine V_iconst X (v := (0 : Int32)) dX5_jumpsBeyond_41 (by decide) ?_
        refine K_5_cell X (Or.inl q_835) hk h ⟨Nat.le_of_ble_eq_true rfl, Nat.le_of_ble_eq_true rfl⟩ ⟨Nat.zero_le _, Nat.zero_le _⟩ (st1 := []) (Nat.le_of_ble_eq_true rfl) dX5_jumpsBeyond_42 (fun r5 w4 h => ?_)
        refine V_iload_n X (i := 1) 1 dX5_jumpsBeyond_45 rfl rfl ?_
        obtain ⟨ht, hf⟩ := h
        refine V_icmp_le X (tgt := 52) dX5_jumpsBeyond_46 (by decide) (fun c => ?_) (fun c => ?_)
        · have h := ht c
          refine V_sub X (ls1 := [(0, .ref (ad k)), (1, .int l1), (2, .int l2), (3, .int l3), (4, .int l4)]) [0, 1, 2, 3, 4] rfl ?_
          exact v_5_jumpsBeyond_b52 X hr hk HL4 ih _ _ _ _ _ h
        · have h := hf c
          obtain ⟨x6, ex6⟩ : ∃ y : Int32, y = l2 + (1 : Int32) := ⟨_, rfl⟩
          have h := h x6 ex6
          refine V_iinc X 2 dX5_jumpsBeyond_49 rfl (by decide) (by rw [ex6]; rfl) (ls1 := [(2, .int x6), (0, .ref (ad k)), (1, .int l1), (3, .int l3), (4, .int l4)]) rfl ?_
          refine V_sub X (ls1 := [(0, .ref (ad k)), (1, .int l1), (2, .int x6), (3, .int l3), (4, .int l4)]) [1, 2, 0, 3, 4] rfl ?_
          exact v_5_jumpsBeyond_b52 X hr hk HL4 ih _ _ _ _ _ h
set_option maxRecDepth 20000 in
theorem v_5_jumpsBeyond_b4 (X : CXq p s m args meth c cX5_jumpsBeyond 5 yX5_jumpsBeyond.cls ad cy D (AW ad) s.heap) (hr : meth.sig.returnType = (some .int)) {k : Nat} (hk : isPlay k) {Q : Int32 → Mem → Prop} : ∀ (n : Nat) (l1 : Int32) (l2 : Int32) (l3 : Int32) (w : Mem), wp_5_jumpsBeyond_b4 k Q n l1 l2 l3 w → V p l e (RM 3) s m args below meth c 5 ad cy D (AW ad) s.heap 0 0 (MQ below (va_Qi Q (BC ad cy D wm wl0) (AW ad)) args s 0 0 (AW ad)) w wm wl0 4 [(0, .ref (ad k)), (1, .int l1), (2, .int l2), (3, .int l3)] [] := by
  intro n
  induction n with
  | zero =>
    intro l1 l2 l3 w h
    exact h.elim
  | succ n ih =>
    intro l1 l2 l3 w h
    unfold wp_5_jumpsBeyond_b4 at h
    refine V_iload_n X (i := 3) 3 dX5_jumpsBeyond_4 rfl rfl ?_
    refine V_aload_n X (i := 0) 0 dX5_jumpsBeyond_5 rfl rfl ?_
    refine G_5_21 X (hk).1 (hk).2.1 (Play_r0 hk) dX5_jumpsBeyond_6 ?_
    refine G_5_43 X (inst_Text_48).1 (inst_Text_48).2.1 (Text_r6 inst_Text_48) dX5_jumpsBeyond_9 ?_
    refine G_5_47 X (inst_People_80).1 (inst_People_80).2.1 (People_r6 inst_People_80) dX5_jumpsBeyond_12 ?_
    obtain ⟨ht, hf⟩ := h
    refine V_icmp_ge X (tgt := 64) dX5_jumpsBeyond_15 (by decide) (fun c => ?_) (fun c => ?_)
    · have h := ht c
      refine V_iload_n X (i := 2) 2 dX5_jumpsBeyond_64 rfl rfl ?_
      exact V_iret_c X hr dX5_jumpsBeyond_65 h
    · have h := hf c
      refine V_iconst X (v := (1 : Int32)) dX5_jumpsBeyond_18 (by decide) ?_
      refine V_istore X dX5_jumpsBeyond_19 (by decide) rfl (ls1 := [(4, .int (1 : Int32)), (0, .ref (ad k)), (1, .int l1), (2, .int l2), (3, .int l3)]) rfl ?_
      refine V_sub X (ls1 := [(0, .ref (ad k)), (1, .int l1), (2, .int l2), (3, .int l3), (4, .int (1 : Int32))]) [1, 2, 3, 4, 0] rfl ?_
      obtain ⟨nn, h⟩ := h
      exact v_5_jumpsBeyond_b21 X hr hk ih nn _ _ _ _ _ h
set_option maxRecDepth 20000 in
theorem v_5_jumpsBeyond {k : Nat} {a1 : Int32} (X : CXq p s m args meth c cX5_jumpsBeyond 5 yX5_jumpsBeyond.cls ad cy D (AW ad) s.heap) (hr : meth.sig.returnType = (some .int)) (hk : isPlay k) {w : Mem} {Q : Int32 → Mem → Prop} (h : wp_5_jumpsBeyond k a1 w Q) : V p l e (RM 3) s m args below meth c 5 ad cy D (AW ad) s.heap 0 0 (MQ below (va_Qi Q (BC ad cy D wm wl0) (AW ad)) args s 0 0 (AW ad)) w wm wl0 0 [(0, .ref (ad k)), (1, .int a1)] [] := by
  unfold wp_5_jumpsBeyond at h
  refine V_iconst X (v := (0 : Int32)) dX5_jumpsBeyond_0 (by decide) ?_
  refine V_istore_n X dX5_jumpsBeyond_1 rfl (by decide) rfl (ls1 := [(2, .int (0 : Int32)), (0, .ref (ad k)), (1, .int a1)]) rfl ?_
  refine V_iconst X (v := (0 : Int32)) dX5_jumpsBeyond_2 (by decide) ?_
  refine V_istore_n X dX5_jumpsBeyond_3 rfl (by decide) rfl (ls1 := [(3, .int (0 : Int32)), (2, .int (0 : Int32)), (0, .ref (ad k)), (1, .int a1)]) rfl ?_
  refine V_sub X (ls1 := [(0, .ref (ad k)), (1, .int a1), (2, .int (0 : Int32)), (3, .int (0 : Int32))]) [2, 3, 1, 0] rfl ?_
  obtain ⟨nn, h⟩ := h
  exact v_5_jumpsBeyond_b4 X hr hk nn _ _ _ _ h
theorem c_5_jumpsBeyond {k : Nat} {a1 : Int32} (hinj : INJ ad) (hk : isPlay k) {w : Mem} {Q : Int32 → Mem → Prop} (h : wp_5_jumpsBeyond k a1 w Q) : Met l yX5_jumpsBeyond (TBq yX5_jumpsBeyond cX5_jumpsBeyond 5 (some .int)) (RM 3) (va_Pc [.ref (ad k), .int a1] (PB ad cy D (cmb w wm) wl0)) (va_Qi Q (BC ad cy D wm wl0) (AW ad)) 0 0 (AW ad) := M_enter (by decide) (Nat.le_of_ble_eq_true rfl) hinj (fun p e s m args below meth c X hr => v_5_jumpsBeyond X hr hk h)
theorem mf_5_jumpsBeyond : MFV yX5_jumpsBeyond cX5_jumpsBeyond 5 (some .int) yX5_jumpsBeyond.cls 1 := ⟨q_1173, q_1171, q_1172, q_9, by decide⟩
theorem K_5_jumpsBeyond {own : String} {idx : Nat} {k : Nat} {a1 : Int32} (X : CXq p s m args meth c cc nL own ad cy D A H0) (hL : LK own idx yX5_jumpsBeyond) (hk : isPlay k) {w : Mem} {Q : Int32 → Mem → Prop} (h : wp_5_jumpsBeyond k a1 w Q) (hR : (RM 3).frames + 1 ≤ R.frames ∧ 8 + (5 + 11) + (RM 3).locals ≤ R.locals) (hce : ce ≤ R.cells ∧ sl ≤ R.slots) (hcat : (st1.map fun v => v.category).sum ≤ 8) (hd : decode cc pc = .ok (.invokevirtual idx, 3)) (kk : ∀ (r : Int32) (u : Mem), Q r u → V p l e R s m args below meth c nL ad cy D A H0 ce sl Qs u wm wl0 (pc + 3) ls (.int r :: st1)) : V p l e R s m args below meth c nL ad cy D A H0 ce sl Qs w wm wl0 pc ls (.int a1 :: .ref (ad k) :: st1) := V_callVI_c X mf_5_jumpsBeyond hL (rfl : vwCl[5]? = some (RX5, TX5, 9)) (by decide) (hk).1 (Nat.lt_of_lt_of_le (hk).2.1 (CX_nn X)) (c_5_jumpsBeyond X.2.2.2.2.2.2.2.1 hk h) (As := [.int a1]) rfl ⟨rfl, rfl⟩ hR hce st1 rfl hcat hd kk
set_option maxRecDepth 20000 in
theorem v_5_longest_b4 (X : CXq p s m args meth c cX5_longest 3 yX5_longest.cls ad cy D (AW ad) s.heap) (hr : meth.sig.returnType = (some .int)) {k : Nat} (hk : isPlay k) {Q : Int32 → Mem → Prop} : ∀ (n : Nat) (l1 : Int32) (l2 : Int32) (w : Mem), wp_5_longest_b4 k Q n l1 l2 w → V p l e (RM 2) s m args below meth c 3 ad cy D (AW ad) s.heap 0 0 (MQ below (va_Qi Q (BC ad cy D wm wl0) (AW ad)) args s 0 0 (AW ad)) w wm wl0 4 [(0, .ref (ad k)), (1, .int l1), (2, .int l2)] [] := by
  intro n
  induction n with
  | zero =>
    intro l1 l2 w h
    exact h.elim
  | succ n ih =>
    intro l1 l2 w h
    unfold wp_5_longest_b4 at h
    refine V_iload_n X (i := 2) 2 dX5_longest_4 rfl rfl ?_
    refine V_aload_n X (i := 0) 0 dX5_longest_5 rfl rfl ?_
    refine G_5_21 X (hk).1 (hk).2.1 (Play_r0 hk) dX5_longest_6 ?_
    refine G_5_43 X (inst_Text_48).1 (inst_Text_48).2.1 (Text_r6 inst_Text_48) dX5_longest_9 ?_
    refine G_5_47 X (inst_People_80).1 (inst_People_80).2.1 (People_r6 inst_People_80) dX5_longest_12 ?_
    obtain ⟨ht, hf⟩ := h
    refine V_icmp_ge X (tgt := 46) dX5_longest_15 (by decide) (fun c => ?_) (fun c => ?_)
    · have h := ht c
      refine V_iload_n X (i := 1) 1 dX5_longest_46 rfl rfl ?_
      exact V_iret_c X hr dX5_longest_47 h
    · have h := hf c
      refine V_iload_n X (i := 1) 1 dX5_longest_18 rfl rfl ?_
      refine V_aload_n X (i := 0) 0 dX5_longest_19 rfl rfl ?_
      refine V_iload_n X (i := 2) 2 dX5_longest_20 rfl rfl ?_
      refine V_iconst X (v := (1 : Int32)) dX5_longest_21 (by decide) ?_
      refine V_iconst X (v := (0 : Int32)) dX5_longest_22 (by decide) ?_
      refine K_5_cell X (Or.inl q_835) hk h ⟨Nat.le_of_ble_eq_true rfl, Nat.le_of_ble_eq_true rfl⟩ ⟨Nat.zero_le _, Nat.zero_le _⟩ (st1 := [.int l1]) (Nat.le_of_ble_eq_true rfl) dX5_longest_23 (fun r2 w1 h => ?_)
      refine V_aload_n X (i := 0) 0 dX5_longest_26 rfl rfl ?_
      refine V_iload_n X (i := 2) 2 dX5_longest_27 rfl rfl ?_
      refine V_iconst X (v := (2 : Int32)) dX5_longest_28 (by decide) ?_
      refine V_iconst X (v := (0 : Int32)) dX5_longest_29 (by decide) ?_
      refine K_5_cell X (Or.inl q_835) hk h ⟨Nat.le_of_ble_eq_true rfl, Nat.le_of_ble_eq_true rfl⟩ ⟨Nat.zero_le _, Nat.zero_le _⟩ (st1 := [.int r2, .int l1]) (Nat.le_of_ble_eq_true rfl) dX5_longest_30 (fun r4 w3 h => ?_)
      refine V_mmax X dX5_longest_33 q_1065 q_642 q_19 q_643 (Nat.le_of_ble_eq_true rfl) (Nat.le_of_ble_eq_true rfl) (Nat.zero_le _) (Nat.zero_le _) ?_
      refine V_mmax X dX5_longest_36 q_1065 q_642 q_19 q_643 (Nat.le_of_ble_eq_true rfl) (Nat.le_of_ble_eq_true rfl) (Nat.zero_le _) (Nat.zero_le _) ?_
      obtain ⟨x5, ex5⟩ : ∃ y : Int32, y = (mx l1 (mx r2 r4)) := ⟨_, rfl⟩
      have h := h x5 ex5
      refine V_istore_n X dX5_longest_39 rfl (by decide) ex5 (ls1 := [(1, .int x5), (0, .ref (ad k)), (2, .int l2)]) rfl ?_
      obtain ⟨x6, ex6⟩ : ∃ y : Int32, y = l2 + (1 : Int32) := ⟨_, rfl⟩
      have h := h x6 ex6
      refine V_iinc X 2 dX5_longest_40 rfl (by decide) (by rw [ex6]; rfl) (ls1 := [(2, .int x6), (1, .int x5), (0, .ref (ad k))]) rfl ?_
      refine V_goto X (tgt := 4) dX5_longest_43 (by decide) ?_
      refine V_sub X (ls1 := [(0, .ref (ad k)), (1, .int x5), (2, .int x6)]) [2, 1, 0] rfl ?_
      exact ih _ _ _ h
set_option maxRecDepth 20000 in
theorem v_5_longest {k : Nat} (X : CXq p s m args meth c cX5_longest 3 yX5_longest.cls ad cy D (AW ad) s.heap) (hr : meth.sig.returnType = (some .int)) (hk : isPlay k) {w : Mem} {Q : Int32 → Mem → Prop} (h : wp_5_longest k w Q) : V p l e (RM 2) s m args below meth c 3 ad cy D (AW ad) s.heap 0 0 (MQ below (va_Qi Q (BC ad cy D wm wl0) (AW ad)) args s 0 0 (AW ad)) w wm wl0 0 [(0, .ref (ad k))] [] := by
  unfold wp_5_longest at h
  refine V_iconst X (v := (0 : Int32)) dX5_longest_0 (by decide) ?_
  refine V_istore_n X dX5_longest_1 rfl (by decide) rfl (ls1 := [(1, .int (0 : Int32)), (0, .ref (ad k))]) rfl ?_
  refine V_iconst X (v := (0 : Int32)) dX5_longest_2 (by decide) ?_
  refine V_istore_n X dX5_longest_3 rfl (by decide) rfl (ls1 := [(2, .int (0 : Int32)), (1, .int (0 : Int32)), (0, .ref (ad k))]) rfl ?_
  refine V_sub X (ls1 := [(0, .ref (ad k)), (1, .int (0 : Int32)), (2, .int (0 : Int32))]) [2, 1, 0] rfl ?_
  obtain ⟨nn, h⟩ := h
  exact v_5_longest_b4 X hr hk nn _ _ _ h
theorem c_5_longest {k : Nat} (hinj : INJ ad) (hk : isPlay k) {w : Mem} {Q : Int32 → Mem → Prop} (h : wp_5_longest k w Q) : Met l yX5_longest (TBq yX5_longest cX5_longest 3 (some .int)) (RM 2) (va_Pc [.ref (ad k)] (PB ad cy D (cmb w wm) wl0)) (va_Qi Q (BC ad cy D wm wl0) (AW ad)) 0 0 (AW ad) := M_enter (by decide) (Nat.le_of_ble_eq_true rfl) hinj (fun p e s m args below meth c X hr => v_5_longest X hr hk h)
theorem mf_5_longest : MFV yX5_longest cX5_longest 3 (some .int) yX5_longest.cls 0 := ⟨q_1181, q_1179, q_1180, q_9, by decide⟩
theorem K_5_longest {own : String} {idx : Nat} {k : Nat} (X : CXq p s m args meth c cc nL own ad cy D A H0) (hL : LK own idx yX5_longest) (hk : isPlay k) {w : Mem} {Q : Int32 → Mem → Prop} (h : wp_5_longest k w Q) (hR : (RM 2).frames + 1 ≤ R.frames ∧ 8 + (3 + 11) + (RM 2).locals ≤ R.locals) (hce : ce ≤ R.cells ∧ sl ≤ R.slots) (hcat : (st1.map fun v => v.category).sum ≤ 8) (hd : decode cc pc = .ok (.invokevirtual idx, 3)) (kk : ∀ (r : Int32) (u : Mem), Q r u → V p l e R s m args below meth c nL ad cy D A H0 ce sl Qs u wm wl0 (pc + 3) ls (.int r :: st1)) : V p l e R s m args below meth c nL ad cy D A H0 ce sl Qs w wm wl0 pc ls (.ref (ad k) :: st1) := V_callVI_c X mf_5_longest hL (rfl : vwCl[5]? = some (RX5, TX5, 9)) (by decide) (hk).1 (Nat.lt_of_lt_of_le (hk).2.1 (CX_nn X)) (c_5_longest X.2.2.2.2.2.2.2.1 hk h) (As := []) rfl ⟨rfl, rfl⟩ hR hce st1 rfl hcat hd kk
set_option maxRecDepth 20000 in
theorem v_6_clear_b2 (X : CXq p s m args meth c cX6_clear 2 yX6_clear.cls ad cy D (AW ad) s.heap) (hr : meth.sig.returnType = none) {Q : Mem → Prop} : ∀ (n : Nat) (l1 : Int32) (w : Mem), wp_6_clear_b2 Q n l1 w → V p l e (RM 0) s m args below meth c 2 ad cy D (AW ad) s.heap 0 0 (MQ below (va_Qv Q (BC ad cy D wm wl0) (AW ad)) args s 0 0 (AW ad)) w wm wl0 2 [(0, .ref (ad 139)), (1, .int l1)] [] := by
  intro n
  induction n with
  | zero =>
    intro l1 w h
    exact h.elim
  | succ n ih =>
    intro l1 w h
    unfold wp_6_clear_b2 at h
    refine V_iload_n X (i := 1) 1 dX6_clear_2 rfl rfl ?_
    refine V_iconst X (v := (3 : Int32)) dX6_clear_3 (by decide) ?_
    obtain ⟨ht, hf⟩ := h
    refine V_icmp_ge X (tgt := 20) dX6_clear_4 (by decide) (fun c => ?_) (fun c => ?_)
    · have h := ht c
      exact V_vret_c X hr dX6_clear_20 h
    · have h := hf c
      refine V_aload_n X (i := 0) 0 dX6_clear_7 rfl rfl ?_
      refine G_6_16 X dX6_clear_8 ?_
      refine V_iload_n X (i := 1) 1 dX6_clear_11 rfl rfl ?_
      refine V_iconst X (v := (0 : Int32)) dX6_clear_12 (by decide) ?_
      obtain ⟨g1, h⟩ := h
      obtain ⟨w2, ew2⟩ : ∃ y : Mem, y = st w 144 (ix l1) (vp_nar .boolean (0 : Int32)) := ⟨_, rfl⟩
      have h := h w2 ew2
      refine V_zast_c X (rfl : SLq 144 = 3) (by decide) (rfl : SK 144 = 16) g1 dX6_clear_13 ew2 ?_
      obtain ⟨x3, ex3⟩ : ∃ y : Int32, y = l1 + (1 : Int32) := ⟨_, rfl⟩
      have h := h x3 ex3
      refine V_iinc X 1 dX6_clear_14 rfl (by decide) (by rw [ex3]; rfl) (ls1 := [(1, .int x3), (0, .ref (ad 139))]) rfl ?_
      refine V_goto X (tgt := 2) dX6_clear_17 (by decide) ?_
      refine V_sub X (ls1 := [(0, .ref (ad 139)), (1, .int x3)]) [1, 0] rfl ?_
      exact ih _ _ h
set_option maxRecDepth 20000 in
theorem v_6_clear (X : CXq p s m args meth c cX6_clear 2 yX6_clear.cls ad cy D (AW ad) s.heap) (hr : meth.sig.returnType = none) {w : Mem} {Q : Mem → Prop} (h : wp_6_clear w Q) : V p l e (RM 0) s m args below meth c 2 ad cy D (AW ad) s.heap 0 0 (MQ below (va_Qv Q (BC ad cy D wm wl0) (AW ad)) args s 0 0 (AW ad)) w wm wl0 0 [(0, .ref (ad 139))] [] := by
  unfold wp_6_clear at h
  refine V_iconst X (v := (0 : Int32)) dX6_clear_0 (by decide) ?_
  refine V_istore_n X dX6_clear_1 rfl (by decide) rfl (ls1 := [(1, .int (0 : Int32)), (0, .ref (ad 139))]) rfl ?_
  refine V_sub X (ls1 := [(0, .ref (ad 139)), (1, .int (0 : Int32))]) [1, 0] rfl ?_
  obtain ⟨nn, h⟩ := h
  exact v_6_clear_b2 X hr nn _ _ h
theorem c_6_clear (hinj : INJ ad) {w : Mem} {Q : Mem → Prop} (h : wp_6_clear w Q) : Met l yX6_clear (TBq yX6_clear cX6_clear 2 none) (RM 0) (va_Pc [.ref (ad 139)] (PB ad cy D (cmb w wm) wl0)) (va_Qv Q (BC ad cy D wm wl0) (AW ad)) 0 0 (AW ad) := M_enter (by decide) (Nat.le_of_ble_eq_true rfl) hinj (fun p e s m args below meth c X hr => v_6_clear X hr h)
theorem mf_6_clear : MFV yX6_clear cX6_clear 2 none yX6_clear.cls 0 := ⟨q_474, q_472, q_473, q_11, by decide⟩
theorem K_6_clear {own : String} {idx : Nat} (X : CXq p s m args meth c cc nL own ad cy D A H0) (hL : LK own idx yX6_clear) {w : Mem} {Q : Mem → Prop} (h : wp_6_clear w Q) (hR : (RM 0).frames + 1 ≤ R.frames ∧ 8 + (2 + 11) + (RM 0).locals ≤ R.locals) (hce : ce ≤ R.cells ∧ sl ≤ R.slots) (hcat : (st1.map fun v => v.category).sum ≤ 8) (hd : decode cc pc = .ok (.invokevirtual idx, 3)) (kk : ∀ (u : Mem), Q u → V p l e R s m args below meth c nL ad cy D A H0 ce sl Qs u wm wl0 (pc + 3) ls st1) : V p l e R s m args below meth c nL ad cy D A H0 ce sl Qs w wm wl0 pc ls (.ref (ad 139) :: st1) := V_callVV_c X mf_6_clear hL (rfl : vwCl[6]? = some (RX6, TX6, 2)) (by decide) (rfl : SK 139 = 6) (Nat.lt_of_lt_of_le (by decide : 139 < 150) (CX_nn X)) (c_6_clear X.2.2.2.2.2.2.2.1 h) (As := []) rfl ⟨rfl, rfl⟩ hR hce st1 rfl hcat hd kk
set_option maxRecDepth 20000 in
theorem v_6_putInto {a1 : Int32} {k2 : Nat} (X : CXq p s m args meth c cX6_putInto 3 yX6_putInto.cls ad cy D (AW ad) s.heap) (hr : meth.sig.returnType = (some .boolean)) (hk2 : isPlay k2) {w : Mem} {Q : Int32 → Mem → Prop} (h : wp_6_putInto a1 k2 w Q) : V p l e (RM 3) s m args below meth c 3 ad cy D (AW ad) s.heap 0 0 (MQ below (va_Qi Q (BC ad cy D wm wl0) (AW ad)) args s 0 0 (AW ad)) w wm wl0 0 [(0, .ref (ad 139)), (1, .int a1), (2, .ref (ad k2))] [] := by
  unfold wp_6_putInto at h
  refine V_iload_n X (i := 1) 1 dX6_putInto_0 rfl rfl ?_
  refine V_iconst X (v := (0 : Int32)) dX6_putInto_1 (by decide) ?_
  refine V_iconst X (v := (2 : Int32)) dX6_putInto_2 (by decide) ?_
  refine K_11_within X (Or.inr ⟨_, q_1155⟩) h ⟨Nat.le_of_ble_eq_true rfl, Nat.le_of_ble_eq_true rfl⟩ ⟨Nat.zero_le _, Nat.zero_le _⟩ (st1 := []) (Nat.le_of_ble_eq_true rfl) dX6_putInto_3 (fun r2 w1 h => ?_)
  obtain ⟨ht, hf⟩ := h
  refine V_if_ne X (tgt := 11) dX6_putInto_6 (by decide) (fun c => ?_) (fun c => ?_)
  · have h := ht c
    refine V_aload_n X (i := 2) 2 dX6_putInto_11 rfl rfl ?_
    refine V_aload_n X (i := 0) 0 dX6_putInto_12 rfl rfl ?_
    refine G_6_13 X dX6_putInto_13 ?_
    refine V_iload_n X (i := 1) 1 dX6_putInto_16 rfl rfl ?_
    obtain ⟨g3, h⟩ := h
    refine V_aald X (rfl : SLq 140 = 3) (by decide) (rfl : SK 140 = 17) g3 (grid_140 _ (vin_lt g3)) dX6_putInto_17 ?_
    refine K_5_save X (Or.inl q_1156) hk2 (gridr_140 _ (vin_lt g3)) h ⟨Nat.le_of_ble_eq_true rfl, Nat.le_of_ble_eq_true rfl⟩ ⟨Nat.zero_le _, Nat.zero_le _⟩ (st1 := []) (Nat.le_of_ble_eq_true rfl) dX6_putInto_18 (fun w4 h => ?_)
    refine V_aload_n X (i := 0) 0 dX6_putInto_21 rfl rfl ?_
    refine G_6_16 X dX6_putInto_22 ?_
    refine V_iload_n X (i := 1) 1 dX6_putInto_25 rfl rfl ?_
    refine V_iconst X (v := (1 : Int32)) dX6_putInto_26 (by decide) ?_
    obtain ⟨g5, h⟩ := h
    obtain ⟨w6, ew6⟩ : ∃ y : Mem, y = st w4 144 (ix a1) (vp_nar .boolean (1 : Int32)) := ⟨_, rfl⟩
    have h := h w6 ew6
    refine V_zast_c X (rfl : SLq 144 = 3) (by decide) (rfl : SK 144 = 16) g5 dX6_putInto_27 ew6 ?_
    refine V_iconst X (v := (1 : Int32)) dX6_putInto_28 (by decide) ?_
    exact V_zret_c X hr dX6_putInto_29 rfl h
  · have h := hf c
    refine V_iconst X (v := (0 : Int32)) dX6_putInto_9 (by decide) ?_
    exact V_zret_c X hr dX6_putInto_10 rfl h
theorem c_6_putInto {a1 : Int32} {k2 : Nat} (hinj : INJ ad) (hk2 : isPlay k2) {w : Mem} {Q : Int32 → Mem → Prop} (h : wp_6_putInto a1 k2 w Q) : Met l yX6_putInto (TBq yX6_putInto cX6_putInto 3 (some .boolean)) (RM 3) (va_Pc [.ref (ad 139), .int a1, .ref (ad k2)] (PB ad cy D (cmb w wm) wl0)) (va_Qi Q (BC ad cy D wm wl0) (AW ad)) 0 0 (AW ad) := M_enter (by decide) (Nat.le_of_ble_eq_true rfl) hinj (fun p e s m args below meth c X hr => v_6_putInto X hr hk2 h)
theorem mf_6_putInto : MFV yX6_putInto cX6_putInto 3 (some .boolean) yX6_putInto.cls 2 := ⟨q_1154, q_1152, q_1153, q_11, by decide⟩
theorem K_6_putInto {own : String} {idx : Nat} {a1 : Int32} {k2 : Nat} (X : CXq p s m args meth c cc nL own ad cy D A H0) (hL : LK own idx yX6_putInto) (hk2 : isPlay k2) {w : Mem} {Q : Int32 → Mem → Prop} (h : wp_6_putInto a1 k2 w Q) (hR : (RM 3).frames + 1 ≤ R.frames ∧ 8 + (3 + 11) + (RM 3).locals ≤ R.locals) (hce : ce ≤ R.cells ∧ sl ≤ R.slots) (hcat : (st1.map fun v => v.category).sum ≤ 8) (hd : decode cc pc = .ok (.invokevirtual idx, 3)) (kk : ∀ (r : Int32) (u : Mem), Q r u → V p l e R s m args below meth c nL ad cy D A H0 ce sl Qs u wm wl0 (pc + 3) ls (.int r :: st1)) : V p l e R s m args below meth c nL ad cy D A H0 ce sl Qs w wm wl0 pc ls (.ref (ad k2) :: .int a1 :: .ref (ad 139) :: st1) := V_callVI_c X mf_6_putInto hL (rfl : vwCl[6]? = some (RX6, TX6, 2)) (by decide) (rfl : SK 139 = 6) (Nat.lt_of_lt_of_le (by decide : 139 < 150) (CX_nn X)) (c_6_putInto X.2.2.2.2.2.2.2.1 hk2 h) (As := [.int a1, .ref (ad k2)]) rfl ⟨rfl, rfl⟩ hR hce st1 rfl hcat hd kk
set_option maxRecDepth 20000 in
theorem v_6_giveBack {a1 : Int32} {k2 : Nat} (X : CXq p s m args meth c cX6_giveBack 3 yX6_giveBack.cls ad cy D (AW ad) s.heap) (hr : meth.sig.returnType = (some .boolean)) (hk2 : isPlay k2) {w : Mem} {Q : Int32 → Mem → Prop} (h : wp_6_giveBack a1 k2 w Q) : V p l e (RM 3) s m args below meth c 3 ad cy D (AW ad) s.heap 0 0 (MQ below (va_Qi Q (BC ad cy D wm wl0) (AW ad)) args s 0 0 (AW ad)) w wm wl0 0 [(0, .ref (ad 139)), (1, .int a1), (2, .ref (ad k2))] [] := by
  unfold wp_6_giveBack at h
  refine V_iload_n X (i := 1) 1 dX6_giveBack_0 rfl rfl ?_
  refine V_iconst X (v := (0 : Int32)) dX6_giveBack_1 (by decide) ?_
  refine V_iconst X (v := (2 : Int32)) dX6_giveBack_2 (by decide) ?_
  refine K_11_within X (Or.inr ⟨_, q_1155⟩) h ⟨Nat.le_of_ble_eq_true rfl, Nat.le_of_ble_eq_true rfl⟩ ⟨Nat.zero_le _, Nat.zero_le _⟩ (st1 := []) (Nat.le_of_ble_eq_true rfl) dX6_giveBack_3 (fun r2 w1 h => ?_)
  obtain ⟨ht, hf⟩ := h
  refine V_if_eq X (tgt := 18) dX6_giveBack_6 (by decide) (fun c => ?_) (fun c => ?_)
  · have h := ht c
    refine V_iconst X (v := (0 : Int32)) dX6_giveBack_18 (by decide) ?_
    exact V_zret_c X hr dX6_giveBack_19 rfl h
  · have h := hf c
    refine V_aload_n X (i := 0) 0 dX6_giveBack_9 rfl rfl ?_
    refine G_6_16 X dX6_giveBack_10 ?_
    refine V_iload_n X (i := 1) 1 dX6_giveBack_13 rfl rfl ?_
    obtain ⟨g3, h⟩ := h
    refine V_zald_c X (rfl : SLq 144 = 3) (by decide) (rfl : SK 144 = 16) g3 dX6_giveBack_14 ?_
    obtain ⟨ht, hf⟩ := h
    refine V_if_ne X (tgt := 20) dX6_giveBack_15 (by decide) (fun c => ?_) (fun c => ?_)
    · have h := ht c
      refine V_aload_n X (i := 2) 2 dX6_giveBack_20 rfl rfl ?_
      refine V_aload_n X (i := 0) 0 dX6_giveBack_21 rfl rfl ?_
      refine G_6_13 X dX6_giveBack_22 ?_
      refine V_iload_n X (i := 1) 1 dX6_giveBack_25 rfl rfl ?_
      obtain ⟨g4, h⟩ := h
      refine V_aald X (rfl : SLq 140 = 3) (by decide) (rfl : SK 140 = 17) g4 (grid_140 _ (vin_lt g4)) dX6_giveBack_26 ?_
      refine K_5_load X (Or.inl q_1165) hk2 (gridr_140 _ (vin_lt g4)) h ⟨Nat.le_of_ble_eq_true rfl, Nat.le_of_ble_eq_true rfl⟩ ⟨Nat.zero_le _, Nat.zero_le _⟩ (st1 := []) (Nat.le_of_ble_eq_true rfl) dX6_giveBack_27 (fun w5 h => ?_)
      refine V_iconst X (v := (1 : Int32)) dX6_giveBack_30 (by decide) ?_
      exact V_zret_c X hr dX6_giveBack_31 rfl h
    · have h := hf c
      refine V_iconst X (v := (0 : Int32)) dX6_giveBack_18 (by decide) ?_
      exact V_zret_c X hr dX6_giveBack_19 rfl h
theorem c_6_giveBack {a1 : Int32} {k2 : Nat} (hinj : INJ ad) (hk2 : isPlay k2) {w : Mem} {Q : Int32 → Mem → Prop} (h : wp_6_giveBack a1 k2 w Q) : Met l yX6_giveBack (TBq yX6_giveBack cX6_giveBack 3 (some .boolean)) (RM 3) (va_Pc [.ref (ad 139), .int a1, .ref (ad k2)] (PB ad cy D (cmb w wm) wl0)) (va_Qi Q (BC ad cy D wm wl0) (AW ad)) 0 0 (AW ad) := M_enter (by decide) (Nat.le_of_ble_eq_true rfl) hinj (fun p e s m args below meth c X hr => v_6_giveBack X hr hk2 h)
theorem mf_6_giveBack : MFV yX6_giveBack cX6_giveBack 3 (some .boolean) yX6_giveBack.cls 2 := ⟨q_1164, q_1162, q_1163, q_11, by decide⟩
theorem K_6_giveBack {own : String} {idx : Nat} {a1 : Int32} {k2 : Nat} (X : CXq p s m args meth c cc nL own ad cy D A H0) (hL : LK own idx yX6_giveBack) (hk2 : isPlay k2) {w : Mem} {Q : Int32 → Mem → Prop} (h : wp_6_giveBack a1 k2 w Q) (hR : (RM 3).frames + 1 ≤ R.frames ∧ 8 + (3 + 11) + (RM 3).locals ≤ R.locals) (hce : ce ≤ R.cells ∧ sl ≤ R.slots) (hcat : (st1.map fun v => v.category).sum ≤ 8) (hd : decode cc pc = .ok (.invokevirtual idx, 3)) (kk : ∀ (r : Int32) (u : Mem), Q r u → V p l e R s m args below meth c nL ad cy D A H0 ce sl Qs u wm wl0 (pc + 3) ls (.int r :: st1)) : V p l e R s m args below meth c nL ad cy D A H0 ce sl Qs w wm wl0 pc ls (.ref (ad k2) :: .int a1 :: .ref (ad 139) :: st1) := V_callVI_c X mf_6_giveBack hL (rfl : vwCl[6]? = some (RX6, TX6, 2)) (by decide) (rfl : SK 139 = 6) (Nat.lt_of_lt_of_le (by decide : 139 < 150) (CX_nn X)) (c_6_giveBack X.2.2.2.2.2.2.2.1 hk2 h) (As := [.int a1, .ref (ad k2)]) rfl ⟨rfl, rfl⟩ hR hce st1 rfl hcat hd kk
set_option maxRecDepth 20000 in
theorem v_6_countHeld_b24 (X : CXq p s m args meth c cX6_countHeld 3 yX6_countHeld.cls ad cy D (AW ad) s.heap) (hr : meth.sig.returnType = (some .int)) {Q : Int32 → Mem → Prop} {L4 : Int32 → Int32 → Mem → Prop} (HL4 : ∀ (l1 : Int32) (l2 : Int32) (w : Mem), L4 l1 l2 w → V p l e (RM 0) s m args below meth c 3 ad cy D (AW ad) s.heap 0 0 (MQ below (va_Qi Q (BC ad cy D wm wl0) (AW ad)) args s 0 0 (AW ad)) w wm wl0 4 [(0, .ref (ad 139)), (1, .int l1), (2, .int l2)] []) : ∀ (l2 : Int32) (s0 : Int32) (s1 : Int32) (w : Mem), wp_6_countHeld_b24 Q L4 l2 s0 s1 w → V p l e (RM 0) s m args below meth c 3 ad cy D (AW ad) s.heap 0 0 (MQ below (va_Qi Q (BC ad cy D wm wl0) (AW ad)) args s 0 0 (AW ad)) w wm wl0 24 [(0, .ref (ad 139)), (2, .int l2)] [.int s1, .int s0] := by
  intro l2 s0 s1 w h
  unfold wp_6_countHeld_b24 at h
  refine V_iadd X dX6_countHeld_24 ?_
  obtain ⟨x1, ex1⟩ : ∃ y : Int32, y = (s0 + s1) := ⟨_, rfl⟩
  have h := h x1 ex1
  refine V_istore_n X dX6_countHeld_25 rfl (by decide) ex1 (ls1 := [(1, .int x1), (0, .ref (ad 139)), (2, .int l2)]) rfl ?_
  obtain ⟨x2, ex2⟩ : ∃ y : Int32, y = l2 + (1 : Int32) := ⟨_, rfl⟩
  have h := h x2 ex2
  refine V_iinc X 2 dX6_countHeld_26 rfl (by decide) (by rw [ex2]; rfl) (ls1 := [(2, .int x2), (1, .int x1), (0, .ref (ad 139))]) rfl ?_
  refine V_goto X (tgt := 4) dX6_countHeld_29 (by decide) ?_
  refine V_sub X (ls1 := [(0, .ref (ad 139)), (1, .int x1), (2, .int x2)]) [2, 1, 0] rfl ?_
  exact HL4 _ _ _ h
set_option maxRecDepth 20000 in
theorem v_6_countHeld_b4 (X : CXq p s m args meth c cX6_countHeld 3 yX6_countHeld.cls ad cy D (AW ad) s.heap) (hr : meth.sig.returnType = (some .int)) {Q : Int32 → Mem → Prop} : ∀ (n : Nat) (l1 : Int32) (l2 : Int32) (w : Mem), wp_6_countHeld_b4 Q n l1 l2 w → V p l e (RM 0) s m args below meth c 3 ad cy D (AW ad) s.heap 0 0 (MQ below (va_Qi Q (BC ad cy D wm wl0) (AW ad)) args s 0 0 (AW ad)) w wm wl0 4 [(0, .ref (ad 139)), (1, .int l1), (2, .int l2)] [] := by
  intro n
  induction n with
  | zero =>
    intro l1 l2 w h
    exact h.elim
  | succ n ih =>
    intro l1 l2 w h
    unfold wp_6_countHeld_b4 at h
    refine V_iload_n X (i := 2) 2 dX6_countHeld_4 rfl rfl ?_
    refine V_iconst X (v := (3 : Int32)) dX6_countHeld_5 (by decide) ?_
    obtain ⟨ht, hf⟩ := h
    refine V_icmp_ge X (tgt := 32) dX6_countHeld_6 (by decide) (fun c => ?_) (fun c => ?_)
    · have h := ht c
      refine V_iload_n X (i := 1) 1 dX6_countHeld_32 rfl rfl ?_
      exact V_iret_c X hr dX6_countHeld_33 h
    · have h := hf c
      refine V_iload_n X (i := 1) 1 dX6_countHeld_9 rfl rfl ?_
      refine V_aload_n X (i := 0) 0 dX6_countHeld_10 rfl rfl ?_
      refine G_6_16 X dX6_countHeld_11 ?_
      refine V_iload_n X (i := 2) 2 dX6_countHeld_14 rfl rfl ?_
      obtain ⟨g1, h⟩ := h
      refine V_zald_c X (rfl : SLq 144 = 3) (by decide) (rfl : SK 144 = 16) g1 dX6_countHeld_15 ?_
      obtain ⟨ht, hf⟩ := h
      refine V_if_eq X (tgt := 23) dX6_countHeld_16 (by decide) (fun c => ?_) (fun c => ?_)
      · have h := ht c
        refine V_iconst X (v := (0 : Int32)) dX6_countHeld_23 (by decide) ?_
        refine V_sub X (ls1 := [(0, .ref (ad 139)), (2, .int l2)]) [0, 2] rfl ?_
        exact v_6_countHeld_b24 X hr ih _ _ _ _ h
      · have h := hf c
        refine V_iconst X (v := (1 : Int32)) dX6_countHeld_19 (by decide) ?_
        refine V_goto X (tgt := 24) dX6_countHeld_20 (by decide) ?_
        refine V_sub X (ls1 := [(0, .ref (ad 139)), (2, .int l2)]) [0, 2] rfl ?_
        exact v_6_countHeld_b24 X hr ih _ _ _ _ h
set_option maxRecDepth 20000 in
theorem v_6_countHeld (X : CXq p s m args meth c cX6_countHeld 3 yX6_countHeld.cls ad cy D (AW ad) s.heap) (hr : meth.sig.returnType = (some .int)) {w : Mem} {Q : Int32 → Mem → Prop} (h : wp_6_countHeld w Q) : V p l e (RM 0) s m args below meth c 3 ad cy D (AW ad) s.heap 0 0 (MQ below (va_Qi Q (BC ad cy D wm wl0) (AW ad)) args s 0 0 (AW ad)) w wm wl0 0 [(0, .ref (ad 139))] [] := by
  unfold wp_6_countHeld at h
  refine V_iconst X (v := (0 : Int32)) dX6_countHeld_0 (by decide) ?_
  refine V_istore_n X dX6_countHeld_1 rfl (by decide) rfl (ls1 := [(1, .int (0 : Int32)), (0, .ref (ad 139))]) rfl ?_
  refine V_iconst X (v := (0 : Int32)) dX6_countHeld_2 (by decide) ?_
  refine V_istore_n X dX6_countHeld_3 rfl (by decide) rfl (ls1 := [(2, .int (0 : Int32)), (1, .int (0 : Int32)), (0, .ref (ad 139))]) rfl ?_
  refine V_sub X (ls1 := [(0, .ref (ad 139)), (1, .int (0 : Int32)), (2, .int (0 : Int32))]) [2, 1, 0] rfl ?_
  obtain ⟨nn, h⟩ := h
  exact v_6_countHeld_b4 X hr nn _ _ _ h
theorem c_6_countHeld (hinj : INJ ad) {w : Mem} {Q : Int32 → Mem → Prop} (h : wp_6_countHeld w Q) : Met l yX6_countHeld (TBq yX6_countHeld cX6_countHeld 3 (some .int)) (RM 0) (va_Pc [.ref (ad 139)] (PB ad cy D (cmb w wm) wl0)) (va_Qi Q (BC ad cy D wm wl0) (AW ad)) 0 0 (AW ad) := M_enter (by decide) (Nat.le_of_ble_eq_true rfl) hinj (fun p e s m args below meth c X hr => v_6_countHeld X hr h)
theorem mf_6_countHeld : MFV yX6_countHeld cX6_countHeld 3 (some .int) yX6_countHeld.cls 0 := ⟨q_1177, q_1175, q_1176, q_11, by decide⟩
theorem K_6_countHeld {own : String} {idx : Nat} (X : CXq p s m args meth c cc nL own ad cy D A H0) (hL : LK own idx yX6_countHeld) {w : Mem} {Q : Int32 → Mem → Prop} (h : wp_6_countHeld w Q) (hR : (RM 0).frames + 1 ≤ R.frames ∧ 8 + (3 + 11) + (RM 0).locals ≤ R.locals) (hce : ce ≤ R.cells ∧ sl ≤ R.slots) (hcat : (st1.map fun v => v.category).sum ≤ 8) (hd : decode cc pc = .ok (.invokevirtual idx, 3)) (kk : ∀ (r : Int32) (u : Mem), Q r u → V p l e R s m args below meth c nL ad cy D A H0 ce sl Qs u wm wl0 (pc + 3) ls (.int r :: st1)) : V p l e R s m args below meth c nL ad cy D A H0 ce sl Qs w wm wl0 pc ls (.ref (ad 139) :: st1) := V_callVI_c X mf_6_countHeld hL (rfl : vwCl[6]? = some (RX6, TX6, 2)) (by decide) (rfl : SK 139 = 6) (Nat.lt_of_lt_of_le (by decide : 139 < 150) (CX_nn X)) (c_6_countHeld X.2.2.2.2.2.2.2.1 h) (As := []) rfl ⟨rfl, rfl⟩ hR hce st1 rfl hcat hd kk
end
