-- printed by wip/whole/gen6.py out of the decode rows and the tables
section
variable {p : Program} {l : Launch} {e : Env} {R : Room} {s : State} {m : MethodId} {args : Array Value} {below : List Frame} {meth : Method} {c : Code} {cc : ByteArray} {nL : Nat} {ad : Nat → Nat} {cy : Nat → ClassId} {D : va_G} {A : Nat → Prop} {H0 : Heap} {ce sl : Nat} {Qs : State → Prop} {wc wm : Mem} {wl0 : MemL} {pc : Nat} {ls : List (Nat × Value)} {st1 : List Value}
set_option maxRecDepth 20000 in
theorem v_3_readUnit_b127_q3 (X : CXq p s m args meth c cX3_readUnit 4 yX3_readUnit.cls ad cy D (AW ad) s.heap) (hr : meth.sig.returnType = (some .boolean))  {k1 : Nat} (hk1 : isLaw k1) {Q : Int32 → Mem → Prop} : ∀ (w : Mem), wp_3_readUnit_b127 (wp_3_readSum 3) k1 Q w → V p l e (RM 12) s m args below meth c 4 ad cy D (AW ad) s.heap 0 0 (MQ below (va_Qi Q (BC ad cy D wm wl0) (AW ad)) args s 0 0 (AW ad)) w wm wl0 127 [] [] := by
  intro w h
  unfold wp_3_readUnit_b127 at h
  refine V_iconst X (v := (0 : Int32)) dX3_readUnit_127 (by decide) ?_
  exact V_zret_c X hr dX3_readUnit_128 rfl h
set_option maxRecDepth 20000 in
theorem v_3_readUnit_q3  {k1 : Nat} {a2 : Int32} (X : CXq p s m args meth c cX3_readUnit 4 yX3_readUnit.cls ad cy D (AW ad) s.heap) (hr : meth.sig.returnType = (some .boolean)) (hk1 : isLaw k1) {w : Mem} {Q : Int32 → Mem → Prop} (h : wp_3_readUnit (wp_3_readSum 3) k1 a2 w Q) : V p l e (RM 12) s m args below meth c 4 ad cy D (AW ad) s.heap 0 0 (MQ below (va_Qi Q (BC ad cy D wm wl0) (AW ad)) args s 0 0 (AW ad)) w wm wl0 0 [(0, .ref (ad 7)), (1, .ref (ad k1)), (2, .int a2)] [] := by
  unfold wp_3_readUnit at h
  refine V_aload_n X (i := 0) 0 dX3_readUnit_0 rfl rfl ?_
  refine G_3_15 X dX3_readUnit_1 ?_
  refine G_3_45 X dX3_readUnit_4 ?_
  refine V_aload_n X (i := 0) 0 dX3_readUnit_7 rfl rfl ?_
  refine G_3_19 X dX3_readUnit_8 ?_
  obtain ⟨g1, h⟩ := h
  refine V_iald_c X (rfl : SLq 4 = 401) (by decide) (rfl : SK 4 = 14) g1 dX3_readUnit_11 ?_
  obtain ⟨x2, ex2⟩ : ∃ y : Int32, y = (w 4 (ix (w 7 3))) := ⟨_, rfl⟩
  have h := h x2 ex2
  refine V_istore_n X dX3_readUnit_12 rfl (by decide) ex2 (ls1 := [(3, .int x2), (0, .ref (ad 7)), (1, .ref (ad k1)), (2, .int a2)]) rfl ?_
  refine V_iload_n X (i := 3) 0 dX3_readUnit_13 rfl rfl ?_
  refine V_iconst X (v := (3 : Int32)) dX3_readUnit_14 (by decide) ?_
  obtain ⟨ht, hf⟩ := h
  refine V_icmp_ne X (tgt := 41) dX3_readUnit_15 (by decide) (fun c => ?_) (fun c => ?_)
  · have h := ht c
    refine V_iload_n X (i := 3) 0 dX3_readUnit_41 rfl rfl ?_
    refine V_sipush X (v := (146 : Int32)) dX3_readUnit_42 (by decide) ?_
    refine V_sipush X (v := (156 : Int32)) dX3_readUnit_45 (by decide) ?_
    refine K_11_within X (Or.inr ⟨_, q_714⟩) h ⟨Nat.le_of_ble_eq_true rfl, Nat.le_of_ble_eq_true rfl⟩ ⟨Nat.zero_le _, Nat.zero_le _⟩ (st1 := []) (Nat.le_of_ble_eq_true rfl) dX3_readUnit_48 (fun r4 w3 h => ?_)
    obtain ⟨ht, hf⟩ := h
    refine V_if_eq X (tgt := 70) dX3_readUnit_51 (by decide) (fun c => ?_) (fun c => ?_)
    · have h := ht c
      refine V_iload_n X (i := 3) 0 dX3_readUnit_70 rfl rfl ?_
      refine V_bipush X (v := (40 : Int32)) dX3_readUnit_71 (by decide) ?_
      obtain ⟨ht, hf⟩ := h
      refine V_icmp_eq X (tgt := 82) dX3_readUnit_73 (by decide) (fun c => ?_) (fun c => ?_)
      · have h := ht c
        refine V_iload_n X (i := 2) 3 dX3_readUnit_82 rfl rfl ?_
        refine V_bipush X (v := (6 : Int32)) dX3_readUnit_83 (by decide) ?_
        obtain ⟨ht, hf⟩ := h
        refine V_icmp_lt X (tgt := 94) dX3_readUnit_85 (by decide) (fun c => ?_) (fun c => ?_)
        · have h := ht c
          refine V_aload_n X (i := 0) 1 dX3_readUnit_94 rfl rfl ?_
          refine V_bipush X (v := (40 : Int32)) dX3_readUnit_95 (by decide) ?_
          refine K_3_takes X (Or.inl q_702) h ⟨Nat.le_of_ble_eq_true rfl, Nat.le_of_ble_eq_true rfl⟩ ⟨Nat.zero_le _, Nat.zero_le _⟩ (st1 := []) (Nat.le_of_ble_eq_true rfl) dX3_readUnit_97 (fun r6 w5 h => ?_)
          obtain ⟨ht, hf⟩ := h
          refine V_if_eq X (tgt := 127) dX3_readUnit_100 (by decide) (fun c => ?_) (fun c => ?_)
          · have h := ht c
            refine V_sub X (ls1 := []) [] rfl ?_
            exact v_3_readUnit_b127_q3 X hr hk1 _ h
          · have h := hf c
            refine V_aload_n X (i := 0) 1 dX3_readUnit_103 rfl rfl ?_
            refine V_aload_n X (i := 1) 2 dX3_readUnit_104 rfl rfl ?_
            refine V_iload_n X (i := 2) 3 dX3_readUnit_105 rfl rfl ?_
            refine V_iconst X (v := (1 : Int32)) dX3_readUnit_106 (by decide) ?_
            refine V_iadd X dX3_readUnit_107 ?_
            refine K_3_readSum_3 X (Or.inl q_724) hk1 h ⟨Nat.le_of_ble_eq_true rfl, Nat.le_of_ble_eq_true rfl⟩ ⟨Nat.zero_le _, Nat.zero_le _⟩ (st1 := []) (Nat.le_of_ble_eq_true rfl) dX3_readUnit_108 (fun r8 w7 h => ?_)
            obtain ⟨ht, hf⟩ := h
            refine V_if_eq X (tgt := 127) dX3_readUnit_111 (by decide) (fun c => ?_) (fun c => ?_)
            · have h := ht c
              refine V_sub X (ls1 := []) [] rfl ?_
              exact v_3_readUnit_b127_q3 X hr hk1 _ h
            · have h := hf c
              refine V_aload_n X (i := 0) 1 dX3_readUnit_114 rfl rfl ?_
              refine V_bipush X (v := (41 : Int32)) dX3_readUnit_115 (by decide) ?_
              refine K_3_takes X (Or.inl q_702) h ⟨Nat.le_of_ble_eq_true rfl, Nat.le_of_ble_eq_true rfl⟩ ⟨Nat.zero_le _, Nat.zero_le _⟩ (st1 := []) (Nat.le_of_ble_eq_true rfl) dX3_readUnit_117 (fun r10 w9 h => ?_)
              obtain ⟨ht, hf⟩ := h
              refine V_if_eq X (tgt := 127) dX3_readUnit_120 (by decide) (fun c => ?_) (fun c => ?_)
              · have h := ht c
                refine V_sub X (ls1 := []) [] rfl ?_
                exact v_3_readUnit_b127_q3 X hr hk1 _ h
              · have h := hf c
                refine V_iconst X (v := (1 : Int32)) dX3_readUnit_123 (by decide) ?_
                refine V_goto X (tgt := 128) dX3_readUnit_124 (by decide) ?_
                exact V_zret_c X hr dX3_readUnit_128 rfl h
        · have h := hf c
          refine V_aload_n X (i := 0) 1 dX3_readUnit_88 rfl rfl ?_
          refine V_iconst X (v := (2 : Int32)) dX3_readUnit_89 (by decide) ?_
          refine K_3_fails X (Or.inl q_694) h ⟨Nat.le_of_ble_eq_true rfl, Nat.le_of_ble_eq_true rfl⟩ ⟨Nat.zero_le _, Nat.zero_le _⟩ (st1 := []) (Nat.le_of_ble_eq_true rfl) dX3_readUnit_90 (fun r12 w11 h => ?_)
          exact V_zret_c X hr dX3_readUnit_93 (bo_z h.1) h.2
      · have h := hf c
        refine V_aload_n X (i := 0) 1 dX3_readUnit_76 rfl rfl ?_
        refine V_iconst X (v := (1 : Int32)) dX3_readUnit_77 (by decide) ?_
        refine K_3_fails X (Or.inl q_694) h ⟨Nat.le_of_ble_eq_true rfl, Nat.le_of_ble_eq_true rfl⟩ ⟨Nat.zero_le _, Nat.zero_le _⟩ (st1 := []) (Nat.le_of_ble_eq_true rfl) dX3_readUnit_78 (fun r14 w13 h => ?_)
        exact V_zret_c X hr dX3_readUnit_81 (bo_z h.1) h.2
    · have h := hf c
      refine V_aload_n X (i := 1) 2 dX3_readUnit_54 rfl rfl ?_
      refine V_iconst X (v := (1 : Int32)) dX3_readUnit_55 (by decide) ?_
      refine V_iload_n X (i := 3) 0 dX3_readUnit_56 rfl rfl ?_
      refine V_sipush X (v := (146 : Int32)) dX3_readUnit_57 (by decide) ?_
      refine V_isub X dX3_readUnit_60 ?_
      refine K_2_add X (Or.inl q_736) hk1 h ⟨Nat.le_of_ble_eq_true rfl, Nat.le_of_ble_eq_true rfl⟩ ⟨Nat.zero_le _, Nat.zero_le _⟩ (st1 := []) (Nat.le_of_ble_eq_true rfl) dX3_readUnit_61 (fun w15 h => ?_)
      refine V_aload_n X (i := 0) 1 dX3_readUnit_64 rfl rfl ?_
      refine V_iload_n X (i := 3) 0 dX3_readUnit_65 rfl rfl ?_
      refine K_3_takes X (Or.inl q_702) h ⟨Nat.le_of_ble_eq_true rfl, Nat.le_of_ble_eq_true rfl⟩ ⟨Nat.zero_le _, Nat.zero_le _⟩ (st1 := []) (Nat.le_of_ble_eq_true rfl) dX3_readUnit_66 (fun r17 w16 h => ?_)
      exact V_zret_c X hr dX3_readUnit_69 (bo_z h.1) h.2
  · have h := hf c
    refine V_aload_n X (i := 1) 2 dX3_readUnit_18 rfl rfl ?_
    refine V_iconst X (v := (0 : Int32)) dX3_readUnit_19 (by decide) ?_
    refine V_aload_n X (i := 0) 1 dX3_readUnit_20 rfl rfl ?_
    refine G_3_15 X dX3_readUnit_21 ?_
    refine G_3_170 X dX3_readUnit_24 ?_
    refine V_aload_n X (i := 0) 1 dX3_readUnit_27 rfl rfl ?_
    refine G_3_19 X dX3_readUnit_28 ?_
    obtain ⟨g18, h⟩ := h
    refine V_iald_c X (rfl : SLq 6 = 401) (by decide) (rfl : SK 6 = 14) g18 dX3_readUnit_31 ?_
    refine K_2_add X (Or.inl q_736) hk1 h ⟨Nat.le_of_ble_eq_true rfl, Nat.le_of_ble_eq_true rfl⟩ ⟨Nat.zero_le _, Nat.zero_le _⟩ (st1 := []) (Nat.le_of_ble_eq_true rfl) dX3_readUnit_32 (fun w19 h => ?_)
    refine V_aload_n X (i := 0) 1 dX3_readUnit_35 rfl rfl ?_
    refine V_iconst X (v := (3 : Int32)) dX3_readUnit_36 (by decide) ?_
    refine K_3_takes X (Or.inl q_702) h ⟨Nat.le_of_ble_eq_true rfl, Nat.le_of_ble_eq_true rfl⟩ ⟨Nat.zero_le _, Nat.zero_le _⟩ (st1 := []) (Nat.le_of_ble_eq_true rfl) dX3_readUnit_37 (fun r21 w20 h => ?_)
    exact V_zret_c X hr dX3_readUnit_40 (bo_z h.1) h.2
theorem c_3_readUnit_q3  {k1 : Nat} {a2 : Int32} (hinj : INJ ad) (hk1 : isLaw k1) {w : Mem} {Q : Int32 → Mem → Prop} (h : wp_3_readUnit (wp_3_readSum 3) k1 a2 w Q) : Met l yX3_readUnit (TBq yX3_readUnit cX3_readUnit 4 (some .boolean)) (RM 12) (va_Pc [.ref (ad 7), .ref (ad k1), .int a2] (PB ad cy D (cmb w wm) wl0)) (va_Qi Q (BC ad cy D wm wl0) (AW ad)) 0 0 (AW ad) := M_enter (by decide) (Nat.le_of_ble_eq_true rfl) hinj (fun p e s m args below meth c X hr => v_3_readUnit_q3 X hr hk1 h)
theorem K_3_readUnit_q3 {own : String} {idx : Nat}  {k1 : Nat} {a2 : Int32} (X : CXq p s m args meth c cc nL own ad cy D A H0) (hL : LK own idx yX3_readUnit) (hk1 : isLaw k1) {w : Mem} {Q : Int32 → Mem → Prop} (h : wp_3_readUnit (wp_3_readSum 3) k1 a2 w Q) (hR : (RM 12).frames + 1 ≤ R.frames ∧ 8 + (4 + 11) + (RM 12).locals ≤ R.locals) (hce : ce ≤ R.cells ∧ sl ≤ R.slots) (hcat : (st1.map fun v => v.category).sum ≤ 8) (hd : decode cc pc = .ok (.invokevirtual idx, 3)) (kk : ∀ (r : Int32) (u : Mem), Q r u → V p l e R s m args below meth c nL ad cy D A H0 ce sl Qs u wm wl0 (pc + 3) ls (.int r :: st1)) : V p l e R s m args below meth c nL ad cy D A H0 ce sl Qs w wm wl0 pc ls (.int a2 :: .ref (ad k1) :: .ref (ad 7) :: st1) := V_callVI_c X mf_3_readUnit hL (rfl : vwCl[3]? = some (RX3, TX3, 9)) (by decide) (rfl : SK 7 = 3) (Nat.lt_of_lt_of_le (by decide : 7 < 150) (CX_nn X)) (c_3_readUnit_q3 X.2.2.2.2.2.2.2.1 hk1 h) (As := [.ref (ad k1), .int a2]) rfl ⟨rfl, rfl⟩ hR hce st1 rfl hcat hd kk
set_option maxRecDepth 20000 in
theorem v_3_readProduct_b93_q3 (X : CXq p s m args meth c cX3_readProduct 6 yX3_readProduct.cls ad cy D (AW ad) s.heap) (hr : meth.sig.returnType = (some .boolean))  {k1 : Nat} (hk1 : isLaw k1) {Q : Int32 → Mem → Prop} {L10 : Int32 → Int32 → Int32 → Mem → Prop} (HL10 : ∀ (l2 : Int32) (l3 : Int32) (l4 : Int32) (w : Mem), L10 l2 l3 l4 w → V p l e (RM 13) s m args below meth c 6 ad cy D (AW ad) s.heap 0 0 (MQ below (va_Qi Q (BC ad cy D wm wl0) (AW ad)) args s 0 0 (AW ad)) w wm wl0 10 [(0, .ref (ad 7)), (1, .ref (ad k1)), (2, .int l2), (3, .int l3), (4, .int l4)] []) : ∀ (l2 : Int32) (l4 : Int32) (l5 : Int32) (s0 : Int32) (w : Mem), wp_3_readProduct_b93 (wp_3_readSum 3) k1 Q L10 l2 l4 l5 s0 w → V p l e (RM 13) s m args below meth c 6 ad cy D (AW ad) s.heap 0 0 (MQ below (va_Qi Q (BC ad cy D wm wl0) (AW ad)) args s 0 0 (AW ad)) w wm wl0 93 [(0, .ref (ad 7)), (1, .ref (ad k1)), (2, .int l2), (4, .int l4), (5, .int l5)] [.int s0] := by
  intro l2 l4 l5 s0 w h
  unfold wp_3_readProduct_b93 at h
  refine V_istore_n X dX3_readProduct_93 rfl (by decide) rfl (ls1 := [(3, .int s0), (0, .ref (ad 7)), (1, .ref (ad k1)), (2, .int l2), (4, .int l4), (5, .int l5)]) rfl ?_
  refine V_aload_n X (i := 1) 2 dX3_readProduct_94 rfl rfl ?_
  refine V_iload X (i := 5) 5 dX3_readProduct_95 rfl ?_
  refine V_iconst X (v := (0 : Int32)) dX3_readProduct_97 (by decide) ?_
  refine K_2_add X (Or.inl q_736) hk1 h ⟨Nat.le_of_ble_eq_true rfl, Nat.le_of_ble_eq_true rfl⟩ ⟨Nat.zero_le _, Nat.zero_le _⟩ (st1 := []) (Nat.le_of_ble_eq_true rfl) dX3_readProduct_98 (fun w1 h => ?_)
  obtain ⟨x2, ex2⟩ : ∃ y : Int32, y = l4 + (1 : Int32) := ⟨_, rfl⟩
  have h := h x2 ex2
  refine V_iinc X 4 dX3_readProduct_101 rfl (by decide) (by rw [ex2]; rfl) (ls1 := [(4, .int x2), (3, .int s0), (0, .ref (ad 7)), (1, .ref (ad k1)), (2, .int l2), (5, .int l5)]) rfl ?_
  refine V_goto X (tgt := 10) dX3_readProduct_104 (by decide) ?_
  refine V_sub X (ls1 := [(0, .ref (ad 7)), (1, .ref (ad k1)), (2, .int l2), (3, .int s0), (4, .int x2)]) [2, 3, 4, 1, 0] rfl ?_
  exact HL10 _ _ _ _ h
set_option maxRecDepth 20000 in
theorem v_3_readProduct_b92_q3 (X : CXq p s m args meth c cX3_readProduct 6 yX3_readProduct.cls ad cy D (AW ad) s.heap) (hr : meth.sig.returnType = (some .boolean))  {k1 : Nat} (hk1 : isLaw k1) {Q : Int32 → Mem → Prop} {L10 : Int32 → Int32 → Int32 → Mem → Prop} (HL10 : ∀ (l2 : Int32) (l3 : Int32) (l4 : Int32) (w : Mem), L10 l2 l3 l4 w → V p l e (RM 13) s m args below meth c 6 ad cy D (AW ad) s.heap 0 0 (MQ below (va_Qi Q (BC ad cy D wm wl0) (AW ad)) args s 0 0 (AW ad)) w wm wl0 10 [(0, .ref (ad 7)), (1, .ref (ad k1)), (2, .int l2), (3, .int l3), (4, .int l4)] []) : ∀ (l2 : Int32) (l4 : Int32) (l5 : Int32) (w : Mem), wp_3_readProduct_b92 (wp_3_readSum 3) k1 Q L10 l2 l4 l5 w → V p l e (RM 13) s m args below meth c 6 ad cy D (AW ad) s.heap 0 0 (MQ below (va_Qi Q (BC ad cy D wm wl0) (AW ad)) args s 0 0 (AW ad)) w wm wl0 92 [(0, .ref (ad 7)), (1, .ref (ad k1)), (2, .int l2), (4, .int l4), (5, .int l5)] [] := by
  intro l2 l4 l5 w h
  unfold wp_3_readProduct_b92 at h
  refine V_iconst X (v := (0 : Int32)) dX3_readProduct_92 (by decide) ?_
  refine V_sub X (ls1 := [(0, .ref (ad 7)), (1, .ref (ad k1)), (2, .int l2), (4, .int l4), (5, .int l5)]) [0, 1, 2, 3, 4] rfl ?_
  exact v_3_readProduct_b93_q3 X hr hk1 HL10 _ _ _ _ _ h
set_option maxRecDepth 20000 in
theorem v_3_readProduct_b56_q3 (X : CXq p s m args meth c cX3_readProduct 6 yX3_readProduct.cls ad cy D (AW ad) s.heap) (hr : meth.sig.returnType = (some .boolean))  {k1 : Nat} (hk1 : isLaw k1) {Q : Int32 → Mem → Prop} {L10 : Int32 → Int32 → Int32 → Mem → Prop} (HL10 : ∀ (l2 : Int32) (l3 : Int32) (l4 : Int32) (w : Mem), L10 l2 l3 l4 w → V p l e (RM 13) s m args below meth c 6 ad cy D (AW ad) s.heap 0 0 (MQ below (va_Qi Q (BC ad cy D wm wl0) (AW ad)) args s 0 0 (AW ad)) w wm wl0 10 [(0, .ref (ad 7)), (1, .ref (ad k1)), (2, .int l2), (3, .int l3), (4, .int l4)] []) : ∀ (l2 : Int32) (l4 : Int32) (w : Mem), wp_3_readProduct_b56 (wp_3_readSum 3) k1 Q L10 l2 l4 w → V p l e (RM 13) s m args below meth c 6 ad cy D (AW ad) s.heap 0 0 (MQ below (va_Qi Q (BC ad cy D wm wl0) (AW ad)) args s 0 0 (AW ad)) w wm wl0 56 [(0, .ref (ad 7)), (1, .ref (ad k1)), (2, .int l2), (4, .int l4)] [] := by
  intro l2 l4 w h
  unfold wp_3_readProduct_b56 at h
  refine V_aload_n X (i := 0) 0 dX3_readProduct_56 rfl rfl ?_
  refine G_3_15 X dX3_readProduct_57 ?_
  refine G_3_45 X dX3_readProduct_60 ?_
  refine V_aload_n X (i := 0) 0 dX3_readProduct_63 rfl rfl ?_
  refine G_3_19 X dX3_readProduct_64 ?_
  obtain ⟨g1, h⟩ := h
  refine V_iald_c X (rfl : SLq 4 = 401) (by decide) (rfl : SK 4 = 14) g1 dX3_readProduct_67 ?_
  obtain ⟨x2, ex2⟩ : ∃ y : Int32, y = (w 4 (ix (w 7 3))) := ⟨_, rfl⟩
  have h := h x2 ex2
  refine V_istore X dX3_readProduct_68 (by decide) ex2 (ls1 := [(5, .int x2), (0, .ref (ad 7)), (1, .ref (ad k1)), (2, .int l2), (4, .int l4)]) rfl ?_
  refine V_aload_n X (i := 0) 1 dX3_readProduct_70 rfl rfl ?_
  refine V_iload X (i := 5) 0 dX3_readProduct_71 rfl ?_
  refine K_3_takes X (Or.inl q_702) h ⟨Nat.le_of_ble_eq_true rfl, Nat.le_of_ble_eq_true rfl⟩ ⟨Nat.zero_le _, Nat.zero_le _⟩ (st1 := []) (Nat.le_of_ble_eq_true rfl) dX3_readProduct_73 (fun r4 w3 h => ?_)
  obtain ⟨ht, hf⟩ := h
  refine V_if_eq X (tgt := 92) dX3_readProduct_76 (by decide) (fun c => ?_) (fun c => ?_)
  · have h := ht c
    refine V_sub X (ls1 := [(0, .ref (ad 7)), (1, .ref (ad k1)), (2, .int l2), (4, .int l4), (5, .int x2)]) [1, 2, 3, 4, 0] rfl ?_
    exact v_3_readProduct_b92_q3 X hr hk1 HL10 _ _ _ _ h
  · have h := hf c
    refine V_aload_n X (i := 0) 1 dX3_readProduct_79 rfl rfl ?_
    refine V_aload_n X (i := 1) 2 dX3_readProduct_80 rfl rfl ?_
    refine V_iload_n X (i := 2) 3 dX3_readProduct_81 rfl rfl ?_
    refine K_3_readUnit_q3 X (Or.inl q_732) hk1 h ⟨Nat.le_of_ble_eq_true rfl, Nat.le_of_ble_eq_true rfl⟩ ⟨Nat.zero_le _, Nat.zero_le _⟩ (st1 := []) (Nat.le_of_ble_eq_true rfl) dX3_readProduct_82 (fun r6 w5 h => ?_)
    obtain ⟨ht, hf⟩ := h
    refine V_if_eq X (tgt := 92) dX3_readProduct_85 (by decide) (fun c => ?_) (fun c => ?_)
    · have h := ht c
      refine V_sub X (ls1 := [(0, .ref (ad 7)), (1, .ref (ad k1)), (2, .int l2), (4, .int l4), (5, .int x2)]) [1, 2, 3, 4, 0] rfl ?_
      exact v_3_readProduct_b92_q3 X hr hk1 HL10 _ _ _ _ h
    · have h := hf c
      refine V_iconst X (v := (1 : Int32)) dX3_readProduct_88 (by decide) ?_
      refine V_goto X (tgt := 93) dX3_readProduct_89 (by decide) ?_
      refine V_sub X (ls1 := [(0, .ref (ad 7)), (1, .ref (ad k1)), (2, .int l2), (4, .int l4), (5, .int x2)]) [1, 2, 3, 4, 0] rfl ?_
      exact v_3_readProduct_b93_q3 X hr hk1 HL10 _ _ _ _ _ h
set_option maxRecDepth 20000 in
theorem v_3_readProduct_b10_q3 (X : CXq p s m args meth c cX3_readProduct 6 yX3_readProduct.cls ad cy D (AW ad) s.heap) (hr : meth.sig.returnType = (some .boolean))  {k1 : Nat} (hk1 : isLaw k1) {Q : Int32 → Mem → Prop} : ∀ (n : Nat) (l2 : Int32) (l3 : Int32) (l4 : Int32) (w : Mem), wp_3_readProduct_b10 (wp_3_readSum 3) k1 Q n l2 l3 l4 w → V p l e (RM 13) s m args below meth c 6 ad cy D (AW ad) s.heap 0 0 (MQ below (va_Qi Q (BC ad cy D wm wl0) (AW ad)) args s 0 0 (AW ad)) w wm wl0 10 [(0, .ref (ad 7)), (1, .ref (ad k1)), (2, .int l2), (3, .int l3), (4, .int l4)] [] := by
  intro n
  induction n with
  | zero =>
    intro l2 l3 l4 w h
    exact h.elim
  | succ n ih =>
    intro l2 l3 l4 w h
    unfold wp_3_readProduct_b10 at h
    refine V_iload X (i := 4) 4 dX3_readProduct_10 rfl ?_
    refine V_sipush X (v := (400 : Int32)) dX3_readProduct_12 (by decide) ?_
    obtain ⟨ht, hf⟩ := h
    refine V_icmp_ge X (tgt := 107) dX3_readProduct_15 (by decide) (fun c => ?_) (fun c => ?_)
    · have h := ht c
      refine V_iload_n X (i := 3) 3 dX3_readProduct_107 rfl rfl ?_
      exact V_zret_c X hr dX3_readProduct_108 (bo_z h.1) h.2
    · have h := hf c
      refine V_iload_n X (i := 3) 3 dX3_readProduct_18 rfl rfl ?_
      obtain ⟨ht, hf⟩ := h
      refine V_if_eq X (tgt := 107) dX3_readProduct_19 (by decide) (fun c => ?_) (fun c => ?_)
      · have h := ht c
        refine V_iload_n X (i := 3) 3 dX3_readProduct_107 rfl rfl ?_
        exact V_zret_c X hr dX3_readProduct_108 (bo_z h.1) h.2
      · have h := hf c
        refine V_aload_n X (i := 0) 0 dX3_readProduct_22 rfl rfl ?_
        refine G_3_15 X dX3_readProduct_23 ?_
        refine G_3_45 X dX3_readProduct_26 ?_
        refine V_aload_n X (i := 0) 0 dX3_readProduct_29 rfl rfl ?_
        refine G_3_19 X dX3_readProduct_30 ?_
        obtain ⟨g1, h⟩ := h
        refine V_iald_c X (rfl : SLq 4 = 401) (by decide) (rfl : SK 4 = 14) g1 dX3_readProduct_33 ?_
        refine V_bipush X (v := (42 : Int32)) dX3_readProduct_34 (by decide) ?_
        obtain ⟨ht, hf⟩ := h
        refine V_icmp_eq X (tgt := 56) dX3_readProduct_36 (by decide) (fun c => ?_) (fun c => ?_)
        · have h := ht c
          refine V_sub X (ls1 := [(0, .ref (ad 7)), (1, .ref (ad k1)), (2, .int l2), (4, .int l4)]) [0, 1, 2, 4] rfl ?_
          exact v_3_readProduct_b56_q3 X hr hk1 ih _ _ _ h
        · have h := hf c
          refine V_aload_n X (i := 0) 0 dX3_readProduct_39 rfl rfl ?_
          refine G_3_15 X dX3_readProduct_40 ?_
          refine G_3_45 X dX3_readProduct_43 ?_
          refine V_aload_n X (i := 0) 0 dX3_readProduct_46 rfl rfl ?_
          refine G_3_19 X dX3_readProduct_47 ?_
          obtain ⟨g2, h⟩ := h
          refine V_iald_c X (rfl : SLq 4 = 401) (by decide) (rfl : SK 4 = 14) g2 dX3_readProduct_50 ?_
          refine V_bipush X (v := (47 : Int32)) dX3_readProduct_51 (by decide) ?_
          obtain ⟨ht, hf⟩ := h
          refine V_icmp_ne X (tgt := 107) dX3_readProduct_53 (by decide) (fun c => ?_) (fun c => ?_)
          · have h := ht c
            refine V_iload_n X (i := 3) 3 dX3_readProduct_107 rfl rfl ?_
            exact V_zret_c X hr dX3_readProduct_108 (bo_z h.1) h.2
          · have h := hf c
            refine V_sub X (ls1 := [(0, .ref (ad 7)), (1, .ref (ad k1)), (2, .int l2), (4, .int l4)]) [0, 1, 2, 4] rfl ?_
            exact v_3_readProduct_b56_q3 X hr hk1 ih _ _ _ h
set_option maxRecDepth 20000 in
theorem v_3_readProduct_q3  {k1 : Nat} {a2 : Int32} (X : CXq p s m args meth c cX3_readProduct 6 yX3_readProduct.cls ad cy D (AW ad) s.heap) (hr : meth.sig.returnType = (some .boolean)) (hk1 : isLaw k1) {w : Mem} {Q : Int32 → Mem → Prop} (h : wp_3_readProduct (wp_3_readSum 3) k1 a2 w Q) : V p l e (RM 13) s m args below meth c 6 ad cy D (AW ad) s.heap 0 0 (MQ below (va_Qi Q (BC ad cy D wm wl0) (AW ad)) args s 0 0 (AW ad)) w wm wl0 0 [(0, .ref (ad 7)), (1, .ref (ad k1)), (2, .int a2)] [] := by
  unfold wp_3_readProduct at h
  refine V_aload_n X (i := 0) 0 dX3_readProduct_0 rfl rfl ?_
  refine V_aload_n X (i := 1) 1 dX3_readProduct_1 rfl rfl ?_
  refine V_iload_n X (i := 2) 2 dX3_readProduct_2 rfl rfl ?_
  refine K_3_readUnit_q3 X (Or.inl q_732) hk1 h ⟨Nat.le_of_ble_eq_true rfl, Nat.le_of_ble_eq_true rfl⟩ ⟨Nat.zero_le _, Nat.zero_le _⟩ (st1 := []) (Nat.le_of_ble_eq_true rfl) dX3_readProduct_3 (fun r2 w1 h => ?_)
  refine V_istore_n X dX3_readProduct_6 rfl (by decide) rfl (ls1 := [(3, .int r2), (0, .ref (ad 7)), (1, .ref (ad k1)), (2, .int a2)]) rfl ?_
  refine V_iconst X (v := (0 : Int32)) dX3_readProduct_7 (by decide) ?_
  refine V_istore X dX3_readProduct_8 (by decide) rfl (ls1 := [(4, .int (0 : Int32)), (3, .int r2), (0, .ref (ad 7)), (1, .ref (ad k1)), (2, .int a2)]) rfl ?_
  refine V_sub X (ls1 := [(0, .ref (ad 7)), (1, .ref (ad k1)), (2, .int a2), (3, .int r2), (4, .int (0 : Int32))]) [2, 3, 4, 1, 0] rfl ?_
  obtain ⟨nn, h⟩ := h
  exact v_3_readProduct_b10_q3 X hr hk1 nn _ _ _ _ h
theorem c_3_readProduct_q3  {k1 : Nat} {a2 : Int32} (hinj : INJ ad) (hk1 : isLaw k1) {w : Mem} {Q : Int32 → Mem → Prop} (h : wp_3_readProduct (wp_3_readSum 3) k1 a2 w Q) : Met l yX3_readProduct (TBq yX3_readProduct cX3_readProduct 6 (some .boolean)) (RM 13) (va_Pc [.ref (ad 7), .ref (ad k1), .int a2] (PB ad cy D (cmb w wm) wl0)) (va_Qi Q (BC ad cy D wm wl0) (AW ad)) 0 0 (AW ad) := M_enter (by decide) (Nat.le_of_ble_eq_true rfl) hinj (fun p e s m args below meth c X hr => v_3_readProduct_q3 X hr hk1 h)
theorem K_3_readProduct_q3 {own : String} {idx : Nat}  {k1 : Nat} {a2 : Int32} (X : CXq p s m args meth c cc nL own ad cy D A H0) (hL : LK own idx yX3_readProduct) (hk1 : isLaw k1) {w : Mem} {Q : Int32 → Mem → Prop} (h : wp_3_readProduct (wp_3_readSum 3) k1 a2 w Q) (hR : (RM 13).frames + 1 ≤ R.frames ∧ 8 + (6 + 11) + (RM 13).locals ≤ R.locals) (hce : ce ≤ R.cells ∧ sl ≤ R.slots) (hcat : (st1.map fun v => v.category).sum ≤ 8) (hd : decode cc pc = .ok (.invokevirtual idx, 3)) (kk : ∀ (r : Int32) (u : Mem), Q r u → V p l e R s m args below meth c nL ad cy D A H0 ce sl Qs u wm wl0 (pc + 3) ls (.int r :: st1)) : V p l e R s m args below meth c nL ad cy D A H0 ce sl Qs w wm wl0 pc ls (.int a2 :: .ref (ad k1) :: .ref (ad 7) :: st1) := V_callVI_c X mf_3_readProduct hL (rfl : vwCl[3]? = some (RX3, TX3, 9)) (by decide) (rfl : SK 7 = 3) (Nat.lt_of_lt_of_le (by decide : 7 < 150) (CX_nn X)) (c_3_readProduct_q3 X.2.2.2.2.2.2.2.1 hk1 h) (As := [.ref (ad k1), .int a2]) rfl ⟨rfl, rfl⟩ hR hce st1 rfl hcat hd kk
set_option maxRecDepth 20000 in
theorem v_3_readSumF_b107_q3 (X : CXq p s m args meth c cX3_readSum 6 yX3_readSum.cls ad cy D (AW ad) s.heap) (hr : meth.sig.returnType = (some .boolean))  {k1 : Nat} (hk1 : isLaw k1) {Q : Int32 → Mem → Prop} : ∀ (l2 : Int32) (l3 : Int32) (w : Mem), wp_3_readSumF_b107 (wp_3_readSum 3) k1 Q l2 l3 w → V p l e (RM 14) s m args below meth c 6 ad cy D (AW ad) s.heap 0 0 (MQ below (va_Qi Q (BC ad cy D wm wl0) (AW ad)) args s 0 0 (AW ad)) w wm wl0 107 [(1, .ref (ad k1)), (2, .int l2), (3, .int l3)] [] := by
  intro l2 l3 w h
  unfold wp_3_readSumF_b107 at h
  refine V_iload_n X (i := 2) 1 dX3_readSum_107 rfl rfl ?_
  obtain ⟨ht, hf⟩ := h
  refine V_if_ne X (tgt := 115) dX3_readSum_108 (by decide) (fun c => ?_) (fun c => ?_)
  · have h := ht c
    refine V_iload_n X (i := 3) 2 dX3_readSum_115 rfl rfl ?_
    exact V_zret_c X hr dX3_readSum_116 (bo_z h.1) h.2
  · have h := hf c
    refine V_aload_n X (i := 1) 0 dX3_readSum_111 rfl rfl ?_
    refine K_2_endPiece X (Or.inl q_737) hk1 h ⟨Nat.le_of_ble_eq_true rfl, Nat.le_of_ble_eq_true rfl⟩ ⟨Nat.zero_le _, Nat.zero_le _⟩ (st1 := []) (Nat.le_of_ble_eq_true rfl) dX3_readSum_112 (fun w1 h => ?_)
    refine V_iload_n X (i := 3) 2 dX3_readSum_115 rfl rfl ?_
    exact V_zret_c X hr dX3_readSum_116 (bo_z h.1) h.2
set_option maxRecDepth 20000 in
theorem v_3_readSumF_b93_q3 (X : CXq p s m args meth c cX3_readSum 6 yX3_readSum.cls ad cy D (AW ad) s.heap) (hr : meth.sig.returnType = (some .boolean))  {k1 : Nat} (hk1 : isLaw k1) {Q : Int32 → Mem → Prop} {L10 : Int32 → Int32 → Int32 → Mem → Prop} (HL10 : ∀ (l2 : Int32) (l3 : Int32) (l4 : Int32) (w : Mem), L10 l2 l3 l4 w → V p l e (RM 14) s m args below meth c 6 ad cy D (AW ad) s.heap 0 0 (MQ below (va_Qi Q (BC ad cy D wm wl0) (AW ad)) args s 0 0 (AW ad)) w wm wl0 10 [(0, .ref (ad 7)), (1, .ref (ad k1)), (2, .int l2), (3, .int l3), (4, .int l4)] []) : ∀ (l2 : Int32) (l4 : Int32) (l5 : Int32) (s0 : Int32) (w : Mem), wp_3_readSumF_b93 (wp_3_readSum 3) k1 Q L10 l2 l4 l5 s0 w → V p l e (RM 14) s m args below meth c 6 ad cy D (AW ad) s.heap 0 0 (MQ below (va_Qi Q (BC ad cy D wm wl0) (AW ad)) args s 0 0 (AW ad)) w wm wl0 93 [(0, .ref (ad 7)), (1, .ref (ad k1)), (2, .int l2), (4, .int l4), (5, .int l5)] [.int s0] := by
  intro l2 l4 l5 s0 w h
  unfold wp_3_readSumF_b93 at h
  refine V_istore_n X dX3_readSum_93 rfl (by decide) rfl (ls1 := [(3, .int s0), (0, .ref (ad 7)), (1, .ref (ad k1)), (2, .int l2), (4, .int l4), (5, .int l5)]) rfl ?_
  refine V_aload_n X (i := 1) 2 dX3_readSum_94 rfl rfl ?_
  refine V_iload X (i := 5) 5 dX3_readSum_95 rfl ?_
  refine V_iconst X (v := (0 : Int32)) dX3_readSum_97 (by decide) ?_
  refine K_2_add X (Or.inl q_736) hk1 h ⟨Nat.le_of_ble_eq_true rfl, Nat.le_of_ble_eq_true rfl⟩ ⟨Nat.zero_le _, Nat.zero_le _⟩ (st1 := []) (Nat.le_of_ble_eq_true rfl) dX3_readSum_98 (fun w1 h => ?_)
  obtain ⟨x2, ex2⟩ : ∃ y : Int32, y = l4 + (1 : Int32) := ⟨_, rfl⟩
  have h := h x2 ex2
  refine V_iinc X 4 dX3_readSum_101 rfl (by decide) (by rw [ex2]; rfl) (ls1 := [(4, .int x2), (3, .int s0), (0, .ref (ad 7)), (1, .ref (ad k1)), (2, .int l2), (5, .int l5)]) rfl ?_
  refine V_goto X (tgt := 10) dX3_readSum_104 (by decide) ?_
  refine V_sub X (ls1 := [(0, .ref (ad 7)), (1, .ref (ad k1)), (2, .int l2), (3, .int s0), (4, .int x2)]) [2, 3, 4, 1, 0] rfl ?_
  exact HL10 _ _ _ _ h
set_option maxRecDepth 20000 in
theorem v_3_readSumF_b92_q3 (X : CXq p s m args meth c cX3_readSum 6 yX3_readSum.cls ad cy D (AW ad) s.heap) (hr : meth.sig.returnType = (some .boolean))  {k1 : Nat} (hk1 : isLaw k1) {Q : Int32 → Mem → Prop} {L10 : Int32 → Int32 → Int32 → Mem → Prop} (HL10 : ∀ (l2 : Int32) (l3 : Int32) (l4 : Int32) (w : Mem), L10 l2 l3 l4 w → V p l e (RM 14) s m args below meth c 6 ad cy D (AW ad) s.heap 0 0 (MQ below (va_Qi Q (BC ad cy D wm wl0) (AW ad)) args s 0 0 (AW ad)) w wm wl0 10 [(0, .ref (ad 7)), (1, .ref (ad k1)), (2, .int l2), (3, .int l3), (4, .int l4)] []) : ∀ (l2 : Int32) (l4 : Int32) (l5 : Int32) (w : Mem), wp_3_readSumF_b92 (wp_3_readSum 3) k1 Q L10 l2 l4 l5 w → V p l e (RM 14) s m args below meth c 6 ad cy D (AW ad) s.heap 0 0 (MQ below (va_Qi Q (BC ad cy D wm wl0) (AW ad)) args s 0 0 (AW ad)) w wm wl0 92 [(0, .ref (ad 7)), (1, .ref (ad k1)), (2, .int l2), (4, .int l4), (5, .int l5)] [] := by
  intro l2 l4 l5 w h
  unfold wp_3_readSumF_b92 at h
  refine V_iconst X (v := (0 : Int32)) dX3_readSum_92 (by decide) ?_
  refine V_sub X (ls1 := [(0, .ref (ad 7)), (1, .ref (ad k1)), (2, .int l2), (4, .int l4), (5, .int l5)]) [0, 1, 2, 3, 4] rfl ?_
  exact v_3_readSumF_b93_q3 X hr hk1 HL10 _ _ _ _ _ h
set_option maxRecDepth 20000 in
theorem v_3_readSumF_b56_q3 (X : CXq p s m args meth c cX3_readSum 6 yX3_readSum.cls ad cy D (AW ad) s.heap) (hr : meth.sig.returnType = (some .boolean))  {k1 : Nat} (hk1 : isLaw k1) {Q : Int32 → Mem → Prop} {L10 : Int32 → Int32 → Int32 → Mem → Prop} (HL10 : ∀ (l2 : Int32) (l3 : Int32) (l4 : Int32) (w : Mem), L10 l2 l3 l4 w → V p l e (RM 14) s m args below meth c 6 ad cy D (AW ad) s.heap 0 0 (MQ below (va_Qi Q (BC ad cy D wm wl0) (AW ad)) args s 0 0 (AW ad)) w wm wl0 10 [(0, .ref (ad 7)), (1, .ref (ad k1)), (2, .int l2), (3, .int l3), (4, .int l4)] []) : ∀ (l2 : Int32) (l4 : Int32) (w : Mem), wp_3_readSumF_b56 (wp_3_readSum 3) k1 Q L10 l2 l4 w → V p l e (RM 14) s m args below meth c 6 ad cy D (AW ad) s.heap 0 0 (MQ below (va_Qi Q (BC ad cy D wm wl0) (AW ad)) args s 0 0 (AW ad)) w wm wl0 56 [(0, .ref (ad 7)), (1, .ref (ad k1)), (2, .int l2), (4, .int l4)] [] := by
  intro l2 l4 w h
  unfold wp_3_readSumF_b56 at h
  refine V_aload_n X (i := 0) 0 dX3_readSum_56 rfl rfl ?_
  refine G_3_15 X dX3_readSum_57 ?_
  refine G_3_45 X dX3_readSum_60 ?_
  refine V_aload_n X (i := 0) 0 dX3_readSum_63 rfl rfl ?_
  refine G_3_19 X dX3_readSum_64 ?_
  obtain ⟨g1, h⟩ := h
  refine V_iald_c X (rfl : SLq 4 = 401) (by decide) (rfl : SK 4 = 14) g1 dX3_readSum_67 ?_
  obtain ⟨x2, ex2⟩ : ∃ y : Int32, y = (w 4 (ix (w 7 3))) := ⟨_, rfl⟩
  have h := h x2 ex2
  refine V_istore X dX3_readSum_68 (by decide) ex2 (ls1 := [(5, .int x2), (0, .ref (ad 7)), (1, .ref (ad k1)), (2, .int l2), (4, .int l4)]) rfl ?_
  refine V_aload_n X (i := 0) 1 dX3_readSum_70 rfl rfl ?_
  refine V_iload X (i := 5) 0 dX3_readSum_71 rfl ?_
  refine K_3_takes X (Or.inl q_702) h ⟨Nat.le_of_ble_eq_true rfl, Nat.le_of_ble_eq_true rfl⟩ ⟨Nat.zero_le _, Nat.zero_le _⟩ (st1 := []) (Nat.le_of_ble_eq_true rfl) dX3_readSum_73 (fun r4 w3 h => ?_)
  obtain ⟨ht, hf⟩ := h
  refine V_if_eq X (tgt := 92) dX3_readSum_76 (by decide) (fun c => ?_) (fun c => ?_)
  · have h := ht c
    refine V_sub X (ls1 := [(0, .ref (ad 7)), (1, .ref (ad k1)), (2, .int l2), (4, .int l4), (5, .int x2)]) [1, 2, 3, 4, 0] rfl ?_
    exact v_3_readSumF_b92_q3 X hr hk1 HL10 _ _ _ _ h
  · have h := hf c
    refine V_aload_n X (i := 0) 1 dX3_readSum_79 rfl rfl ?_
    refine V_aload_n X (i := 1) 2 dX3_readSum_80 rfl rfl ?_
    refine V_iload_n X (i := 2) 3 dX3_readSum_81 rfl rfl ?_
    refine K_3_readProduct_q3 X (Or.inl q_728) hk1 h ⟨Nat.le_of_ble_eq_true rfl, Nat.le_of_ble_eq_true rfl⟩ ⟨Nat.zero_le _, Nat.zero_le _⟩ (st1 := []) (Nat.le_of_ble_eq_true rfl) dX3_readSum_82 (fun r6 w5 h => ?_)
    obtain ⟨ht, hf⟩ := h
    refine V_if_eq X (tgt := 92) dX3_readSum_85 (by decide) (fun c => ?_) (fun c => ?_)
    · have h := ht c
      refine V_sub X (ls1 := [(0, .ref (ad 7)), (1, .ref (ad k1)), (2, .int l2), (4, .int l4), (5, .int x2)]) [1, 2, 3, 4, 0] rfl ?_
      exact v_3_readSumF_b92_q3 X hr hk1 HL10 _ _ _ _ h
    · have h := hf c
      refine V_iconst X (v := (1 : Int32)) dX3_readSum_88 (by decide) ?_
      refine V_goto X (tgt := 93) dX3_readSum_89 (by decide) ?_
      refine V_sub X (ls1 := [(0, .ref (ad 7)), (1, .ref (ad k1)), (2, .int l2), (4, .int l4), (5, .int x2)]) [1, 2, 3, 4, 0] rfl ?_
      exact v_3_readSumF_b93_q3 X hr hk1 HL10 _ _ _ _ _ h
set_option maxRecDepth 20000 in
theorem v_3_readSumF_b10_q3 (X : CXq p s m args meth c cX3_readSum 6 yX3_readSum.cls ad cy D (AW ad) s.heap) (hr : meth.sig.returnType = (some .boolean))  {k1 : Nat} (hk1 : isLaw k1) {Q : Int32 → Mem → Prop} : ∀ (n : Nat) (l2 : Int32) (l3 : Int32) (l4 : Int32) (w : Mem), wp_3_readSumF_b10 (wp_3_readSum 3) k1 Q n l2 l3 l4 w → V p l e (RM 14) s m args below meth c 6 ad cy D (AW ad) s.heap 0 0 (MQ below (va_Qi Q (BC ad cy D wm wl0) (AW ad)) args s 0 0 (AW ad)) w wm wl0 10 [(0, .ref (ad 7)), (1, .ref (ad k1)), (2, .int l2), (3, .int l3), (4, .int l4)] [] := by
  intro n
  induction n with
  | zero =>
    intro l2 l3 l4 w h
    exact h.elim
  | succ n ih =>
    intro l2 l3 l4 w h
    unfold wp_3_readSumF_b10 at h
    refine V_iload X (i := 4) 4 dX3_readSum_10 rfl ?_
    refine V_sipush X (v := (400 : Int32)) dX3_readSum_12 (by decide) ?_
    obtain ⟨ht, hf⟩ := h
    refine V_icmp_ge X (tgt := 107) dX3_readSum_15 (by decide) (fun c => ?_) (fun c => ?_)
    · have h := ht c
      refine V_sub X (ls1 := [(1, .ref (ad k1)), (2, .int l2), (3, .int l3)]) [1, 2, 3] rfl ?_
      exact v_3_readSumF_b107_q3 X hr hk1 _ _ _ h
    · have h := hf c
      refine V_iload_n X (i := 3) 3 dX3_readSum_18 rfl rfl ?_
      obtain ⟨ht, hf⟩ := h
      refine V_if_eq X (tgt := 107) dX3_readSum_19 (by decide) (fun c => ?_) (fun c => ?_)
      · have h := ht c
        refine V_sub X (ls1 := [(1, .ref (ad k1)), (2, .int l2), (3, .int l3)]) [1, 2, 3] rfl ?_
        exact v_3_readSumF_b107_q3 X hr hk1 _ _ _ h
      · have h := hf c
        refine V_aload_n X (i := 0) 0 dX3_readSum_22 rfl rfl ?_
        refine G_3_15 X dX3_readSum_23 ?_
        refine G_3_45 X dX3_readSum_26 ?_
        refine V_aload_n X (i := 0) 0 dX3_readSum_29 rfl rfl ?_
        refine G_3_19 X dX3_readSum_30 ?_
        obtain ⟨g1, h⟩ := h
        refine V_iald_c X (rfl : SLq 4 = 401) (by decide) (rfl : SK 4 = 14) g1 dX3_readSum_33 ?_
        refine V_bipush X (v := (43 : Int32)) dX3_readSum_34 (by decide) ?_
        obtain ⟨ht, hf⟩ := h
        refine V_icmp_eq X (tgt := 56) dX3_readSum_36 (by decide) (fun c => ?_) (fun c => ?_)
        · have h := ht c
          refine V_sub X (ls1 := [(0, .ref (ad 7)), (1, .ref (ad k1)), (2, .int l2), (4, .int l4)]) [0, 1, 2, 4] rfl ?_
          exact v_3_readSumF_b56_q3 X hr hk1 ih _ _ _ h
        · have h := hf c
          refine V_aload_n X (i := 0) 0 dX3_readSum_39 rfl rfl ?_
          refine G_3_15 X dX3_readSum_40 ?_
          refine G_3_45 X dX3_readSum_43 ?_
          refine V_aload_n X (i := 0) 0 dX3_readSum_46 rfl rfl ?_
          refine G_3_19 X dX3_readSum_47 ?_
          obtain ⟨g2, h⟩ := h
          refine V_iald_c X (rfl : SLq 4 = 401) (by decide) (rfl : SK 4 = 14) g2 dX3_readSum_50 ?_
          refine V_bipush X (v := (45 : Int32)) dX3_readSum_51 (by decide) ?_
          obtain ⟨ht, hf⟩ := h
          refine V_icmp_ne X (tgt := 107) dX3_readSum_53 (by decide) (fun c => ?_) (fun c => ?_)
          · have h := ht c
            refine V_sub X (ls1 := [(1, .ref (ad k1)), (2, .int l2), (3, .int l3)]) [1, 2, 3] rfl ?_
            exact v_3_readSumF_b107_q3 X hr hk1 _ _ _ h
          · have h := hf c
            refine V_sub X (ls1 := [(0, .ref (ad 7)), (1, .ref (ad k1)), (2, .int l2), (4, .int l4)]) [0, 1, 2, 4] rfl ?_
            exact v_3_readSumF_b56_q3 X hr hk1 ih _ _ _ h
set_option maxRecDepth 20000 in
theorem v_3_readSumF_q3  {k1 : Nat} {a2 : Int32} (X : CXq p s m args meth c cX3_readSum 6 yX3_readSum.cls ad cy D (AW ad) s.heap) (hr : meth.sig.returnType = (some .boolean)) (hk1 : isLaw k1) {w : Mem} {Q : Int32 → Mem → Prop} (h : wp_3_readSumF (wp_3_readSum 3) k1 a2 w Q) : V p l e (RM 14) s m args below meth c 6 ad cy D (AW ad) s.heap 0 0 (MQ below (va_Qi Q (BC ad cy D wm wl0) (AW ad)) args s 0 0 (AW ad)) w wm wl0 0 [(0, .ref (ad 7)), (1, .ref (ad k1)), (2, .int a2)] [] := by
  unfold wp_3_readSumF at h
  refine V_aload_n X (i := 0) 0 dX3_readSum_0 rfl rfl ?_
  refine V_aload_n X (i := 1) 1 dX3_readSum_1 rfl rfl ?_
  refine V_iload_n X (i := 2) 2 dX3_readSum_2 rfl rfl ?_
  refine K_3_readProduct_q3 X (Or.inl q_728) hk1 h ⟨Nat.le_of_ble_eq_true rfl, Nat.le_of_ble_eq_true rfl⟩ ⟨Nat.zero_le _, Nat.zero_le _⟩ (st1 := []) (Nat.le_of_ble_eq_true rfl) dX3_readSum_3 (fun r2 w1 h => ?_)
  refine V_istore_n X dX3_readSum_6 rfl (by decide) rfl (ls1 := [(3, .int r2), (0, .ref (ad 7)), (1, .ref (ad k1)), (2, .int a2)]) rfl ?_
  refine V_iconst X (v := (0 : Int32)) dX3_readSum_7 (by decide) ?_
  refine V_istore X dX3_readSum_8 (by decide) rfl (ls1 := [(4, .int (0 : Int32)), (3, .int r2), (0, .ref (ad 7)), (1, .ref (ad k1)), (2, .int a2)]) rfl ?_
  refine V_sub X (ls1 := [(0, .ref (ad 7)), (1, .ref (ad k1)), (2, .int a2), (3, .int r2), (4, .int (0 : Int32))]) [2, 3, 4, 1, 0] rfl ?_
  obtain ⟨nn, h⟩ := h
  exact v_3_readSumF_b10_q3 X hr hk1 nn _ _ _ _ h
theorem c_3_readSumF_q3  {k1 : Nat} {a2 : Int32} (hinj : INJ ad) (hk1 : isLaw k1) {w : Mem} {Q : Int32 → Mem → Prop} (h : wp_3_readSumF (wp_3_readSum 3) k1 a2 w Q) : Met l yX3_readSum (TBq yX3_readSum cX3_readSum 6 (some .boolean)) (RM 14) (va_Pc [.ref (ad 7), .ref (ad k1), .int a2] (PB ad cy D (cmb w wm) wl0)) (va_Qi Q (BC ad cy D wm wl0) (AW ad)) 0 0 (AW ad) := M_enter (by decide) (Nat.le_of_ble_eq_true rfl) hinj (fun p e s m args below meth c X hr => v_3_readSumF_q3 X hr hk1 h)
theorem K_3_readSumF_q3 {own : String} {idx : Nat}  {k1 : Nat} {a2 : Int32} (X : CXq p s m args meth c cc nL own ad cy D A H0) (hL : LK own idx yX3_readSum) (hk1 : isLaw k1) {w : Mem} {Q : Int32 → Mem → Prop} (h : wp_3_readSumF (wp_3_readSum 3) k1 a2 w Q) (hR : (RM 14).frames + 1 ≤ R.frames ∧ 8 + (6 + 11) + (RM 14).locals ≤ R.locals) (hce : ce ≤ R.cells ∧ sl ≤ R.slots) (hcat : (st1.map fun v => v.category).sum ≤ 8) (hd : decode cc pc = .ok (.invokevirtual idx, 3)) (kk : ∀ (r : Int32) (u : Mem), Q r u → V p l e R s m args below meth c nL ad cy D A H0 ce sl Qs u wm wl0 (pc + 3) ls (.int r :: st1)) : V p l e R s m args below meth c nL ad cy D A H0 ce sl Qs w wm wl0 pc ls (.int a2 :: .ref (ad k1) :: .ref (ad 7) :: st1) := V_callVI_c X mf_3_readSumF hL (rfl : vwCl[3]? = some (RX3, TX3, 9)) (by decide) (rfl : SK 7 = 3) (Nat.lt_of_lt_of_le (by decide : 7 < 150) (CX_nn X)) (c_3_readSumF_q3 X.2.2.2.2.2.2.2.1 hk1 h) (As := [.ref (ad k1), .int a2]) rfl ⟨rfl, rfl⟩ hR hce st1 rfl hcat hd kk
theorem K_3_readSum_4 {own : String} {idx : Nat}  {k1 : Nat} {a2 : Int32} (X : CXq p s m args meth c cc nL own ad cy D A H0) (hL : LK own idx yX3_readSum) (hk1 : isLaw k1) {w : Mem} {Q : Int32 → Mem → Prop} (h : wp_3_readSum 4 k1 a2 w Q) (hR : (RM 14).frames + 1 ≤ R.frames ∧ 8 + (6 + 11) + (RM 14).locals ≤ R.locals) (hce : ce ≤ R.cells ∧ sl ≤ R.slots) (hcat : (st1.map fun v => v.category).sum ≤ 8) (hd : decode cc pc = .ok (.invokevirtual idx, 3)) (kk : ∀ (r : Int32) (u : Mem), Q r u → V p l e R s m args below meth c nL ad cy D A H0 ce sl Qs u wm wl0 (pc + 3) ls (.int r :: st1)) : V p l e R s m args below meth c nL ad cy D A H0 ce sl Qs w wm wl0 pc ls (.int a2 :: .ref (ad k1) :: .ref (ad 7) :: st1) := K_3_readSumF_q3 X hL hk1 h hR hce hcat hd kk
set_option maxRecDepth 20000 in
theorem v_3_readUnit_b127_q4 (X : CXq p s m args meth c cX3_readUnit 4 yX3_readUnit.cls ad cy D (AW ad) s.heap) (hr : meth.sig.returnType = (some .boolean))  {k1 : Nat} (hk1 : isLaw k1) {Q : Int32 → Mem → Prop} : ∀ (w : Mem), wp_3_readUnit_b127 (wp_3_readSum 4) k1 Q w → V p l e (RM 15) s m args below meth c 4 ad cy D (AW ad) s.heap 0 0 (MQ below (va_Qi Q (BC ad cy D wm wl0) (AW ad)) args s 0 0 (AW ad)) w wm wl0 127 [] [] := by
  intro w h
  unfold wp_3_readUnit_b127 at h
  refine V_iconst X (v := (0 : Int32)) dX3_readUnit_127 (by decide) ?_
  exact V_zret_c X hr dX3_readUnit_128 rfl h
set_option maxRecDepth 20000 in
theorem v_3_readUnit_q4  {k1 : Nat} {a2 : Int32} (X : CXq p s m args meth c cX3_readUnit 4 yX3_readUnit.cls ad cy D (AW ad) s.heap) (hr : meth.sig.returnType = (some .boolean)) (hk1 : isLaw k1) {w : Mem} {Q : Int32 → Mem → Prop} (h : wp_3_readUnit (wp_3_readSum 4) k1 a2 w Q) : V p l e (RM 15) s m args below meth c 4 ad cy D (AW ad) s.heap 0 0 (MQ below (va_Qi Q (BC ad cy D wm wl0) (AW ad)) args s 0 0 (AW ad)) w wm wl0 0 [(0, .ref (ad 7)), (1, .ref (ad k1)), (2, .int a2)] [] := by
  unfold wp_3_readUnit at h
  refine V_aload_n X (i := 0) 0 dX3_readUnit_0 rfl rfl ?_
  refine G_3_15 X dX3_readUnit_1 ?_
  refine G_3_45 X dX3_readUnit_4 ?_
  refine V_aload_n X (i := 0) 0 dX3_readUnit_7 rfl rfl ?_
  refine G_3_19 X dX3_readUnit_8 ?_
  obtain ⟨g1, h⟩ := h
  refine V_iald_c X (rfl : SLq 4 = 401) (by decide) (rfl : SK 4 = 14) g1 dX3_readUnit_11 ?_
  obtain ⟨x2, ex2⟩ : ∃ y : Int32, y = (w 4 (ix (w 7 3))) := ⟨_, rfl⟩
  have h := h x2 ex2
  refine V_istore_n X dX3_readUnit_12 rfl (by decide) ex2 (ls1 := [(3, .int x2), (0, .ref (ad 7)), (1, .ref (ad k1)), (2, .int a2)]) rfl ?_
  refine V_iload_n X (i := 3) 0 dX3_readUnit_13 rfl rfl ?_
  refine V_iconst X (v := (3 : Int32)) dX3_readUnit_14 (by decide) ?_
  obtain ⟨ht, hf⟩ := h
  refine V_icmp_ne X (tgt := 41) dX3_readUnit_15 (by decide) (fun c => ?_) (fun c => ?_)
  · have h := ht c
    refine V_iload_n X (i := 3) 0 dX3_readUnit_41 rfl rfl ?_
    refine V_sipush X (v := (146 : Int32)) dX3_readUnit_42 (by decide) ?_
    refine V_sipush X (v := (156 : Int32)) dX3_readUnit_45 (by decide) ?_
    refine K_11_within X (Or.inr ⟨_, q_714⟩) h ⟨Nat.le_of_ble_eq_true rfl, Nat.le_of_ble_eq_true rfl⟩ ⟨Nat.zero_le _, Nat.zero_le _⟩ (st1 := []) (Nat.le_of_ble_eq_true rfl) dX3_readUnit_48 (fun r4 w3 h => ?_)
    obtain ⟨ht, hf⟩ := h
    refine V_if_eq X (tgt := 70) dX3_readUnit_51 (by decide) (fun c => ?_) (fun c => ?_)
    · have h := ht c
      refine V_iload_n X (i := 3) 0 dX3_readUnit_70 rfl rfl ?_
      refine V_bipush X (v := (40 : Int32)) dX3_readUnit_71 (by decide) ?_
      obtain ⟨ht, hf⟩ := h
      refine V_icmp_eq X (tgt := 82) dX3_readUnit_73 (by decide) (fun c => ?_) (fun c => ?_)
      · have h := ht c
        refine V_iload_n X (i := 2) 3 dX3_readUnit_82 rfl rfl ?_
        refine V_bipush X (v := (6 : Int32)) dX3_readUnit_83 (by decide) ?_
        obtain ⟨ht, hf⟩ := h
        refine V_icmp_lt X (tgt := 94) dX3_readUnit_85 (by decide) (fun c => ?_) (fun c => ?_)
        · have h := ht c
          refine V_aload_n X (i := 0) 1 dX3_readUnit_94 rfl rfl ?_
          refine V_bipush X (v := (40 : Int32)) dX3_readUnit_95 (by decide) ?_
          refine K_3_takes X (Or.inl q_702) h ⟨Nat.le_of_ble_eq_true rfl, Nat.le_of_ble_eq_true rfl⟩ ⟨Nat.zero_le _, Nat.zero_le _⟩ (st1 := []) (Nat.le_of_ble_eq_true rfl) dX3_readUnit_97 (fun r6 w5 h => ?_)
          obtain ⟨ht, hf⟩ := h
          refine V_if_eq X (tgt := 127) dX3_readUnit_100 (by decide) (fun c => ?_) (fun c => ?_)
          · have h := ht c
            refine V_sub X (ls1 := []) [] rfl ?_
            exact v_3_readUnit_b127_q4 X hr hk1 _ h
          · have h := hf c
            refine V_aload_n X (i := 0) 1 dX3_readUnit_103 rfl rfl ?_
            refine V_aload_n X (i := 1) 2 dX3_readUnit_104 rfl rfl ?_
            refine V_iload_n X (i := 2) 3 dX3_readUnit_105 rfl rfl ?_
            refine V_iconst X (v := (1 : Int32)) dX3_readUnit_106 (by decide) ?_
            refine V_iadd X dX3_readUnit_107 ?_
            refine K_3_readSum_4 X (Or.inl q_724) hk1 h ⟨Nat.le_of_ble_eq_true rfl, Nat.le_of_ble_eq_true rfl⟩ ⟨Nat.zero_le _, Nat.zero_le _⟩ (st1 := []) (Nat.le_of_ble_eq_true rfl) dX3_readUnit_108 (fun r8 w7 h => ?_)
            obtain ⟨ht, hf⟩ := h
            refine V_if_eq X (tgt := 127) dX3_readUnit_111 (by decide) (fun c => ?_) (fun c => ?_)
            · have h := ht c
              refine V_sub X (ls1 := []) [] rfl ?_
              exact v_3_readUnit_b127_q4 X hr hk1 _ h
            · have h := hf c
              refine V_aload_n X (i := 0) 1 dX3_readUnit_114 rfl rfl ?_
              refine V_bipush X (v := (41 : Int32)) dX3_readUnit_115 (by decide) ?_
              refine K_3_takes X (Or.inl q_702) h ⟨Nat.le_of_ble_eq_true rfl, Nat.le_of_ble_eq_true rfl⟩ ⟨Nat.zero_le _, Nat.zero_le _⟩ (st1 := []) (Nat.le_of_ble_eq_true rfl) dX3_readUnit_117 (fun r10 w9 h => ?_)
              obtain ⟨ht, hf⟩ := h
              refine V_if_eq X (tgt := 127) dX3_readUnit_120 (by decide) (fun c => ?_) (fun c => ?_)
              · have h := ht c
                refine V_sub X (ls1 := []) [] rfl ?_
                exact v_3_readUnit_b127_q4 X hr hk1 _ h
              · have h := hf c
                refine V_iconst X (v := (1 : Int32)) dX3_readUnit_123 (by decide) ?_
                refine V_goto X (tgt := 128) dX3_readUnit_124 (by decide) ?_
                exact V_zret_c X hr dX3_readUnit_128 rfl h
        · have h := hf c
          refine V_aload_n X (i := 0) 1 dX3_readUnit_88 rfl rfl ?_
          refine V_iconst X (v := (2 : Int32)) dX3_readUnit_89 (by decide) ?_
          refine K_3_fails X (Or.inl q_694) h ⟨Nat.le_of_ble_eq_true rfl, Nat.le_of_ble_eq_true rfl⟩ ⟨Nat.zero_le _, Nat.zero_le _⟩ (st1 := []) (Nat.le_of_ble_eq_true rfl) dX3_readUnit_90 (fun r12 w11 h => ?_)
          exact V_zret_c X hr dX3_readUnit_93 (bo_z h.1) h.2
      · have h := hf c
        refine V_aload_n X (i := 0) 1 dX3_readUnit_76 rfl rfl ?_
        refine V_iconst X (v := (1 : Int32)) dX3_readUnit_77 (by decide) ?_
        refine K_3_fails X (Or.inl q_694) h ⟨Nat.le_of_ble_eq_true rfl, Nat.le_of_ble_eq_true rfl⟩ ⟨Nat.zero_le _, Nat.zero_le _⟩ (st1 := []) (Nat.le_of_ble_eq_true rfl) dX3_readUnit_78 (fun r14 w13 h => ?_)
        exact V_zret_c X hr dX3_readUnit_81 (bo_z h.1) h.2
    · have h := hf c
      refine V_aload_n X (i := 1) 2 dX3_readUnit_54 rfl rfl ?_
      refine V_iconst X (v := (1 : Int32)) dX3_readUnit_55 (by decide) ?_
      refine V_iload_n X (i := 3) 0 dX3_readUnit_56 rfl rfl ?_
      refine V_sipush X (v := (146 : Int32)) dX3_readUnit_57 (by decide) ?_
      refine V_isub X dX3_readUnit_60 ?_
      refine K_2_add X (Or.inl q_736) hk1 h ⟨Nat.le_of_ble_eq_true rfl, Nat.le_of_ble_eq_true rfl⟩ ⟨Nat.zero_le _, Nat.zero_le _⟩ (st1 := []) (Nat.le_of_ble_eq_true rfl) dX3_readUnit_61 (fun w15 h => ?_)
      refine V_aload_n X (i := 0) 1 dX3_readUnit_64 rfl rfl ?_
      refine V_iload_n X (i := 3) 0 dX3_readUnit_65 rfl rfl ?_
      refine K_3_takes X (Or.inl q_702) h ⟨Nat.le_of_ble_eq_true rfl, Nat.le_of_ble_eq_true rfl⟩ ⟨Nat.zero_le _, Nat.zero_le _⟩ (st1 := []) (Nat.le_of_ble_eq_true rfl) dX3_readUnit_66 (fun r17 w16 h => ?_)
      exact V_zret_c X hr dX3_readUnit_69 (bo_z h.1) h.2
  · have h := hf c
    refine V_aload_n X (i := 1) 2 dX3_readUnit_18 rfl rfl ?_
    refine V_iconst X (v := (0 : Int32)) dX3_readUnit_19 (by decide) ?_
    refine V_aload_n X (i := 0) 1 dX3_readUnit_20 rfl rfl ?_
    refine G_3_15 X dX3_readUnit_21 ?_
    refine G_3_170 X dX3_readUnit_24 ?_
    refine V_aload_n X (i := 0) 1 dX3_readUnit_27 rfl rfl ?_
    refine G_3_19 X dX3_readUnit_28 ?_
    obtain ⟨g18, h⟩ := h
    refine V_iald_c X (rfl : SLq 6 = 401) (by decide) (rfl : SK 6 = 14) g18 dX3_readUnit_31 ?_
    refine K_2_add X (Or.inl q_736) hk1 h ⟨Nat.le_of_ble_eq_true rfl, Nat.le_of_ble_eq_true rfl⟩ ⟨Nat.zero_le _, Nat.zero_le _⟩ (st1 := []) (Nat.le_of_ble_eq_true rfl) dX3_readUnit_32 (fun w19 h => ?_)
    refine V_aload_n X (i := 0) 1 dX3_readUnit_35 rfl rfl ?_
    refine V_iconst X (v := (3 : Int32)) dX3_readUnit_36 (by decide) ?_
    refine K_3_takes X (Or.inl q_702) h ⟨Nat.le_of_ble_eq_true rfl, Nat.le_of_ble_eq_true rfl⟩ ⟨Nat.zero_le _, Nat.zero_le _⟩ (st1 := []) (Nat.le_of_ble_eq_true rfl) dX3_readUnit_37 (fun r21 w20 h => ?_)
    exact V_zret_c X hr dX3_readUnit_40 (bo_z h.1) h.2
theorem c_3_readUnit_q4  {k1 : Nat} {a2 : Int32} (hinj : INJ ad) (hk1 : isLaw k1) {w : Mem} {Q : Int32 → Mem → Prop} (h : wp_3_readUnit (wp_3_readSum 4) k1 a2 w Q) : Met l yX3_readUnit (TBq yX3_readUnit cX3_readUnit 4 (some .boolean)) (RM 15) (va_Pc [.ref (ad 7), .ref (ad k1), .int a2] (PB ad cy D (cmb w wm) wl0)) (va_Qi Q (BC ad cy D wm wl0) (AW ad)) 0 0 (AW ad) := M_enter (by decide) (Nat.le_of_ble_eq_true rfl) hinj (fun p e s m args below meth c X hr => v_3_readUnit_q4 X hr hk1 h)
theorem K_3_readUnit_q4 {own : String} {idx : Nat}  {k1 : Nat} {a2 : Int32} (X : CXq p s m args meth c cc nL own ad cy D A H0) (hL : LK own idx yX3_readUnit) (hk1 : isLaw k1) {w : Mem} {Q : Int32 → Mem → Prop} (h : wp_3_readUnit (wp_3_readSum 4) k1 a2 w Q) (hR : (RM 15).frames + 1 ≤ R.frames ∧ 8 + (4 + 11) + (RM 15).locals ≤ R.locals) (hce : ce ≤ R.cells ∧ sl ≤ R.slots) (hcat : (st1.map fun v => v.category).sum ≤ 8) (hd : decode cc pc = .ok (.invokevirtual idx, 3)) (kk : ∀ (r : Int32) (u : Mem), Q r u → V p l e R s m args below meth c nL ad cy D A H0 ce sl Qs u wm wl0 (pc + 3) ls (.int r :: st1)) : V p l e R s m args below meth c nL ad cy D A H0 ce sl Qs w wm wl0 pc ls (.int a2 :: .ref (ad k1) :: .ref (ad 7) :: st1) := V_callVI_c X mf_3_readUnit hL (rfl : vwCl[3]? = some (RX3, TX3, 9)) (by decide) (rfl : SK 7 = 3) (Nat.lt_of_lt_of_le (by decide : 7 < 150) (CX_nn X)) (c_3_readUnit_q4 X.2.2.2.2.2.2.2.1 hk1 h) (As := [.ref (ad k1), .int a2]) rfl ⟨rfl, rfl⟩ hR hce st1 rfl hcat hd kk
set_option maxRecDepth 20000 in
theorem v_3_readProduct_b93_q4 (X : CXq p s m args meth c cX3_readProduct 6 yX3_readProduct.cls ad cy D (AW ad) s.heap) (hr : meth.sig.returnType = (some .boolean))  {k1 : Nat} (hk1 : isLaw k1) {Q : Int32 → Mem → Prop} {L10 : Int32 → Int32 → Int32 → Mem → Prop} (HL10 : ∀ (l2 : Int32) (l3 : Int32) (l4 : Int32) (w : Mem), L10 l2 l3 l4 w → V p l e (RM 16) s m args below meth c 6 ad cy D (AW ad) s.heap 0 0 (MQ below (va_Qi Q (BC ad cy D wm wl0) (AW ad)) args s 0 0 (AW ad)) w wm wl0 10 [(0, .ref (ad 7)), (1, .ref (ad k1)), (2, .int l2), (3, .int l3), (4, .int l4)] []) : ∀ (l2 : Int32) (l4 : Int32) (l5 : Int32) (s0 : Int32) (w : Mem), wp_3_readProduct_b93 (wp_3_readSum 4) k1 Q L10 l2 l4 l5 s0 w → V p l e (RM 16) s m args below meth c 6 ad cy D (AW ad) s.heap 0 0 (MQ below (va_Qi Q (BC ad cy D wm wl0) (AW ad)) args s 0 0 (AW ad)) w wm wl0 93 [(0, .ref (ad 7)), (1, .ref (ad k1)), (2, .int l2), (4, .int l4), (5, .int l5)] [.int s0] := by
  intro l2 l4 l5 s0 w h
  unfold wp_3_readProduct_b93 at h
  refine V_istore_n X dX3_readProduct_93 rfl (by decide) rfl (ls1 := [(3, .int s0), (0, .ref (ad 7)), (1, .ref (ad k1)), (2, .int l2), (4, .int l4), (5, .int l5)]) rfl ?_
  refine V_aload_n X (i := 1) 2 dX3_readProduct_94 rfl rfl ?_
  refine V_iload X (i := 5) 5 dX3_readProduct_95 rfl ?_
  refine V_iconst X (v := (0 : Int32)) dX3_readProduct_97 (by decide) ?_
  refine K_2_add X (Or.inl q_736) hk1 h ⟨Nat.le_of_ble_eq_true rfl, Nat.le_of_ble_eq_true rfl⟩ ⟨Nat.zero_le _, Nat.zero_le _⟩ (st1 := []) (Nat.le_of_ble_eq_true rfl) dX3_readProduct_98 (fun w1 h => ?_)
  obtain ⟨x2, ex2⟩ : ∃ y : Int32, y = l4 + (1 : Int32) := ⟨_, rfl⟩
  have h := h x2 ex2
  refine V_iinc X 4 dX3_readProduct_101 rfl (by decide) (by rw [ex2]; rfl) (ls1 := [(4, .int x2), (3, .int s0), (0, .ref (ad 7)), (1, .ref (ad k1)), (2, .int l2), (5, .int l5)]) rfl ?_
  refine V_goto X (tgt := 10) dX3_readProduct_104 (by decide) ?_
  refine V_sub X (ls1 := [(0, .ref (ad 7)), (1, .ref (ad k1)), (2, .int l2), (3, .int s0), (4, .int x2)]) [2, 3, 4, 1, 0] rfl ?_
  exact HL10 _ _ _ _ h
set_option maxRecDepth 20000 in
theorem v_3_readProduct_b92_q4 (X : CXq p s m args meth c cX3_readProduct 6 yX3_readProduct.cls ad cy D (AW ad) s.heap) (hr : meth.sig.returnType = (some .boolean))  {k1 : Nat} (hk1 : isLaw k1) {Q : Int32 → Mem → Prop} {L10 : Int32 → Int32 → Int32 → Mem → Prop} (HL10 : ∀ (l2 : Int32) (l3 : Int32) (l4 : Int32) (w : Mem), L10 l2 l3 l4 w → V p l e (RM 16) s m args below meth c 6 ad cy D (AW ad) s.heap 0 0 (MQ below (va_Qi Q (BC ad cy D wm wl0) (AW ad)) args s 0 0 (AW ad)) w wm wl0 10 [(0, .ref (ad 7)), (1, .ref (ad k1)), (2, .int l2), (3, .int l3), (4, .int l4)] []) : ∀ (l2 : Int32) (l4 : Int32) (l5 : Int32) (w : Mem), wp_3_readProduct_b92 (wp_3_readSum 4) k1 Q L10 l2 l4 l5 w → V p l e (RM 16) s m args below meth c 6 ad cy D (AW ad) s.heap 0 0 (MQ below (va_Qi Q (BC ad cy D wm wl0) (AW ad)) args s 0 0 (AW ad)) w wm wl0 92 [(0, .ref (ad 7)), (1, .ref (ad k1)), (2, .int l2), (4, .int l4), (5, .int l5)] [] := by
  intro l2 l4 l5 w h
  unfold wp_3_readProduct_b92 at h
  refine V_iconst X (v := (0 : Int32)) dX3_readProduct_92 (by decide) ?_
  refine V_sub X (ls1 := [(0, .ref (ad 7)), (1, .ref (ad k1)), (2, .int l2), (4, .int l4), (5, .int l5)]) [0, 1, 2, 3, 4] rfl ?_
  exact v_3_readProduct_b93_q4 X hr hk1 HL10 _ _ _ _ _ h
set_option maxRecDepth 20000 in
theorem v_3_readProduct_b56_q4 (X : CXq p s m args meth c cX3_readProduct 6 yX3_readProduct.cls ad cy D (AW ad) s.heap) (hr : meth.sig.returnType = (some .boolean))  {k1 : Nat} (hk1 : isLaw k1) {Q : Int32 → Mem → Prop} {L10 : Int32 → Int32 → Int32 → Mem → Prop} (HL10 : ∀ (l2 : Int32) (l3 : Int32) (l4 : Int32) (w : Mem), L10 l2 l3 l4 w → V p l e (RM 16) s m args below meth c 6 ad cy D (AW ad) s.heap 0 0 (MQ below (va_Qi Q (BC ad cy D wm wl0) (AW ad)) args s 0 0 (AW ad)) w wm wl0 10 [(0, .ref (ad 7)), (1, .ref (ad k1)), (2, .int l2), (3, .int l3), (4, .int l4)] []) : ∀ (l2 : Int32) (l4 : Int32) (w : Mem), wp_3_readProduct_b56 (wp_3_readSum 4) k1 Q L10 l2 l4 w → V p l e (RM 16) s m args below meth c 6 ad cy D (AW ad) s.heap 0 0 (MQ below (va_Qi Q (BC ad cy D wm wl0) (AW ad)) args s 0 0 (AW ad)) w wm wl0 56 [(0, .ref (ad 7)), (1, .ref (ad k1)), (2, .int l2), (4, .int l4)] [] := by
  intro l2 l4 w h
  unfold wp_3_readProduct_b56 at h
  refine V_aload_n X (i := 0) 0 dX3_readProduct_56 rfl rfl ?_
  refine G_3_15 X dX3_readProduct_57 ?_
  refine G_3_45 X dX3_readProduct_60 ?_
  refine V_aload_n X (i := 0) 0 dX3_readProduct_63 rfl rfl ?_
  refine G_3_19 X dX3_readProduct_64 ?_
  obtain ⟨g1, h⟩ := h
  refine V_iald_c X (rfl : SLq 4 = 401) (by decide) (rfl : SK 4 = 14) g1 dX3_readProduct_67 ?_
  obtain ⟨x2, ex2⟩ : ∃ y : Int32, y = (w 4 (ix (w 7 3))) := ⟨_, rfl⟩
  have h := h x2 ex2
  refine V_istore X dX3_readProduct_68 (by decide) ex2 (ls1 := [(5, .int x2), (0, .ref (ad 7)), (1, .ref (ad k1)), (2, .int l2), (4, .int l4)]) rfl ?_
  refine V_aload_n X (i := 0) 1 dX3_readProduct_70 rfl rfl ?_
  refine V_iload X (i := 5) 0 dX3_readProduct_71 rfl ?_
  refine K_3_takes X (Or.inl q_702) h ⟨Nat.le_of_ble_eq_true rfl, Nat.le_of_ble_eq_true rfl⟩ ⟨Nat.zero_le _, Nat.zero_le _⟩ (st1 := []) (Nat.le_of_ble_eq_true rfl) dX3_readProduct_73 (fun r4 w3 h => ?_)
  obtain ⟨ht, hf⟩ := h
  refine V_if_eq X (tgt := 92) dX3_readProduct_76 (by decide) (fun c => ?_) (fun c => ?_)
  · have h := ht c
    refine V_sub X (ls1 := [(0, .ref (ad 7)), (1, .ref (ad k1)), (2, .int l2), (4, .int l4), (5, .int x2)]) [1, 2, 3, 4, 0] rfl ?_
    exact v_3_readProduct_b92_q4 X hr hk1 HL10 _ _ _ _ h
  · have h := hf c
    refine V_aload_n X (i := 0) 1 dX3_readProduct_79 rfl rfl ?_
    refine V_aload_n X (i := 1) 2 dX3_readProduct_80 rfl rfl ?_
    refine V_iload_n X (i := 2) 3 dX3_readProduct_81 rfl rfl ?_
    refine K_3_readUnit_q4 X (Or.inl q_732) hk1 h ⟨Nat.le_of_ble_eq_true rfl, Nat.le_of_ble_eq_true rfl⟩ ⟨Nat.zero_le _, Nat.zero_le _⟩ (st1 := []) (Nat.le_of_ble_eq_true rfl) dX3_readProduct_82 (fun r6 w5 h => ?_)
    obtain ⟨ht, hf⟩ := h
    refine V_if_eq X (tgt := 92) dX3_readProduct_85 (by decide) (fun c => ?_) (fun c => ?_)
    · have h := ht c
      refine V_sub X (ls1 := [(0, .ref (ad 7)), (1, .ref (ad k1)), (2, .int l2), (4, .int l4), (5, .int x2)]) [1, 2, 3, 4, 0] rfl ?_
      exact v_3_readProduct_b92_q4 X hr hk1 HL10 _ _ _ _ h
    · have h := hf c
      refine V_iconst X (v := (1 : Int32)) dX3_readProduct_88 (by decide) ?_
      refine V_goto X (tgt := 93) dX3_readProduct_89 (by decide) ?_
      refine V_sub X (ls1 := [(0, .ref (ad 7)), (1, .ref (ad k1)), (2, .int l2), (4, .int l4), (5, .int x2)]) [1, 2, 3, 4, 0] rfl ?_
      exact v_3_readProduct_b93_q4 X hr hk1 HL10 _ _ _ _ _ h
set_option maxRecDepth 20000 in
theorem v_3_readProduct_b10_q4 (X : CXq p s m args meth c cX3_readProduct 6 yX3_readProduct.cls ad cy D (AW ad) s.heap) (hr : meth.sig.returnType = (some .boolean))  {k1 : Nat} (hk1 : isLaw k1) {Q : Int32 → Mem → Prop} : ∀ (n : Nat) (l2 : Int32) (l3 : Int32) (l4 : Int32) (w : Mem), wp_3_readProduct_b10 (wp_3_readSum 4) k1 Q n l2 l3 l4 w → V p l e (RM 16) s m args below meth c 6 ad cy D (AW ad) s.heap 0 0 (MQ below (va_Qi Q (BC ad cy D wm wl0) (AW ad)) args s 0 0 (AW ad)) w wm wl0 10 [(0, .ref (ad 7)), (1, .ref (ad k1)), (2, .int l2), (3, .int l3), (4, .int l4)] [] := by
  intro n
  induction n with
  | zero =>
    intro l2 l3 l4 w h
    exact h.elim
  | succ n ih =>
    intro l2 l3 l4 w h
    unfold wp_3_readProduct_b10 at h
    refine V_iload X (i := 4) 4 dX3_readProduct_10 rfl ?_
    refine V_sipush X (v := (400 : Int32)) dX3_readProduct_12 (by decide) ?_
    obtain ⟨ht, hf⟩ := h
    refine V_icmp_ge X (tgt := 107) dX3_readProduct_15 (by decide) (fun c => ?_) (fun c => ?_)
    · have h := ht c
      refine V_iload_n X (i := 3) 3 dX3_readProduct_107 rfl rfl ?_
      exact V_zret_c X hr dX3_readProduct_108 (bo_z h.1) h.2
    · have h := hf c
      refine V_iload_n X (i := 3) 3 dX3_readProduct_18 rfl rfl ?_
      obtain ⟨ht, hf⟩ := h
      refine V_if_eq X (tgt := 107) dX3_readProduct_19 (by decide) (fun c => ?_) (fun c => ?_)
      · have h := ht c
        refine V_iload_n X (i := 3) 3 dX3_readProduct_107 rfl rfl ?_
        exact V_zret_c X hr dX3_readProduct_108 (bo_z h.1) h.2
      · have h := hf c
        refine V_aload_n X (i := 0) 0 dX3_readProduct_22 rfl rfl ?_
        refine G_3_15 X dX3_readProduct_23 ?_
        refine G_3_45 X dX3_readProduct_26 ?_
        refine V_aload_n X (i := 0) 0 dX3_readProduct_29 rfl rfl ?_
        refine G_3_19 X dX3_readProduct_30 ?_
        obtain ⟨g1, h⟩ := h
        refine V_iald_c X (rfl : SLq 4 = 401) (by decide) (rfl : SK 4 = 14) g1 dX3_readProduct_33 ?_
        refine V_bipush X (v := (42 : Int32)) dX3_readProduct_34 (by decide) ?_
        obtain ⟨ht, hf⟩ := h
        refine V_icmp_eq X (tgt := 56) dX3_readProduct_36 (by decide) (fun c => ?_) (fun c => ?_)
        · have h := ht c
          refine V_sub X (ls1 := [(0, .ref (ad 7)), (1, .ref (ad k1)), (2, .int l2), (4, .int l4)]) [0, 1, 2, 4] rfl ?_
          exact v_3_readProduct_b56_q4 X hr hk1 ih _ _ _ h
        · have h := hf c
          refine V_aload_n X (i := 0) 0 dX3_readProduct_39 rfl rfl ?_
          refine G_3_15 X dX3_readProduct_40 ?_
          refine G_3_45 X dX3_readProduct_43 ?_
          refine V_aload_n X (i := 0) 0 dX3_readProduct_46 rfl rfl ?_
          refine G_3_19 X dX3_readProduct_47 ?_
          obtain ⟨g2, h⟩ := h
          refine V_iald_c X (rfl : SLq 4 = 401) (by decide) (rfl : SK 4 = 14) g2 dX3_readProduct_50 ?_
          refine V_bipush X (v := (47 : Int32)) dX3_readProduct_51 (by decide) ?_
          obtain ⟨ht, hf⟩ := h
          refine V_icmp_ne X (tgt := 107) dX3_readProduct_53 (by decide) (fun c => ?_) (fun c => ?_)
          · have h := ht c
            refine V_iload_n X (i := 3) 3 dX3_readProduct_107 rfl rfl ?_
            exact V_zret_c X hr dX3_readProduct_108 (bo_z h.1) h.2
          · have h := hf c
            refine V_sub X (ls1 := [(0, .ref (ad 7)), (1, .ref (ad k1)), (2, .int l2), (4, .int l4)]) [0, 1, 2, 4] rfl ?_
            exact v_3_readProduct_b56_q4 X hr hk1 ih _ _ _ h
set_option maxRecDepth 20000 in
theorem v_3_readProduct_q4  {k1 : Nat} {a2 : Int32} (X : CXq p s m args meth c cX3_readProduct 6 yX3_readProduct.cls ad cy D (AW ad) s.heap) (hr : meth.sig.returnType = (some .boolean)) (hk1 : isLaw k1) {w : Mem} {Q : Int32 → Mem → Prop} (h : wp_3_readProduct (wp_3_readSum 4) k1 a2 w Q) : V p l e (RM 16) s m args below meth c 6 ad cy D (AW ad) s.heap 0 0 (MQ below (va_Qi Q (BC ad cy D wm wl0) (AW ad)) args s 0 0 (AW ad)) w wm wl0 0 [(0, .ref (ad 7)), (1, .ref (ad k1)), (2, .int a2)] [] := by
  unfold wp_3_readProduct at h
  refine V_aload_n X (i := 0) 0 dX3_readProduct_0 rfl rfl ?_
  refine V_aload_n X (i := 1) 1 dX3_readProduct_1 rfl rfl ?_
  refine V_iload_n X (i := 2) 2 dX3_readProduct_2 rfl rfl ?_
  refine K_3_readUnit_q4 X (Or.inl q_732) hk1 h ⟨Nat.le_of_ble_eq_true rfl, Nat.le_of_ble_eq_true rfl⟩ ⟨Nat.zero_le _, Nat.zero_le _⟩ (st1 := []) (Nat.le_of_ble_eq_true rfl) dX3_readProduct_3 (fun r2 w1 h => ?_)
  refine V_istore_n X dX3_readProduct_6 rfl (by decide) rfl (ls1 := [(3, .int r2), (0, .ref (ad 7)), (1, .ref (ad k1)), (2, .int a2)]) rfl ?_
  refine V_iconst X (v := (0 : Int32)) dX3_readProduct_7 (by decide) ?_
  refine V_istore X dX3_readProduct_8 (by decide) rfl (ls1 := [(4, .int (0 : Int32)), (3, .int r2), (0, .ref (ad 7)), (1, .ref (ad k1)), (2, .int a2)]) rfl ?_
  refine V_sub X (ls1 := [(0, .ref (ad 7)), (1, .ref (ad k1)), (2, .int a2), (3, .int r2), (4, .int (0 : Int32))]) [2, 3, 4, 1, 0] rfl ?_
  obtain ⟨nn, h⟩ := h
  exact v_3_readProduct_b10_q4 X hr hk1 nn _ _ _ _ h
theorem c_3_readProduct_q4  {k1 : Nat} {a2 : Int32} (hinj : INJ ad) (hk1 : isLaw k1) {w : Mem} {Q : Int32 → Mem → Prop} (h : wp_3_readProduct (wp_3_readSum 4) k1 a2 w Q) : Met l yX3_readProduct (TBq yX3_readProduct cX3_readProduct 6 (some .boolean)) (RM 16) (va_Pc [.ref (ad 7), .ref (ad k1), .int a2] (PB ad cy D (cmb w wm) wl0)) (va_Qi Q (BC ad cy D wm wl0) (AW ad)) 0 0 (AW ad) := M_enter (by decide) (Nat.le_of_ble_eq_true rfl) hinj (fun p e s m args below meth c X hr => v_3_readProduct_q4 X hr hk1 h)
theorem K_3_readProduct_q4 {own : String} {idx : Nat}  {k1 : Nat} {a2 : Int32} (X : CXq p s m args meth c cc nL own ad cy D A H0) (hL : LK own idx yX3_readProduct) (hk1 : isLaw k1) {w : Mem} {Q : Int32 → Mem → Prop} (h : wp_3_readProduct (wp_3_readSum 4) k1 a2 w Q) (hR : (RM 16).frames + 1 ≤ R.frames ∧ 8 + (6 + 11) + (RM 16).locals ≤ R.locals) (hce : ce ≤ R.cells ∧ sl ≤ R.slots) (hcat : (st1.map fun v => v.category).sum ≤ 8) (hd : decode cc pc = .ok (.invokevirtual idx, 3)) (kk : ∀ (r : Int32) (u : Mem), Q r u → V p l e R s m args below meth c nL ad cy D A H0 ce sl Qs u wm wl0 (pc + 3) ls (.int r :: st1)) : V p l e R s m args below meth c nL ad cy D A H0 ce sl Qs w wm wl0 pc ls (.int a2 :: .ref (ad k1) :: .ref (ad 7) :: st1) := V_callVI_c X mf_3_readProduct hL (rfl : vwCl[3]? = some (RX3, TX3, 9)) (by decide) (rfl : SK 7 = 3) (Nat.lt_of_lt_of_le (by decide : 7 < 150) (CX_nn X)) (c_3_readProduct_q4 X.2.2.2.2.2.2.2.1 hk1 h) (As := [.ref (ad k1), .int a2]) rfl ⟨rfl, rfl⟩ hR hce st1 rfl hcat hd kk
set_option maxRecDepth 20000 in
theorem v_3_readSumF_b107_q4 (X : CXq p s m args meth c cX3_readSum 6 yX3_readSum.cls ad cy D (AW ad) s.heap) (hr : meth.sig.returnType = (some .boolean))  {k1 : Nat} (hk1 : isLaw k1) {Q : Int32 → Mem → Prop} : ∀ (l2 : Int32) (l3 : Int32) (w : Mem), wp_3_readSumF_b107 (wp_3_readSum 4) k1 Q l2 l3 w → V p l e (RM 17) s m args below meth c 6 ad cy D (AW ad) s.heap 0 0 (MQ below (va_Qi Q (BC ad cy D wm wl0) (AW ad)) args s 0 0 (AW ad)) w wm wl0 107 [(1, .ref (ad k1)), (2, .int l2), (3, .int l3)] [] := by
  intro l2 l3 w h
  unfold wp_3_readSumF_b107 at h
  refine V_iload_n X (i := 2) 1 dX3_readSum_107 rfl rfl ?_
  obtain ⟨ht, hf⟩ := h
  refine V_if_ne X (tgt := 115) dX3_readSum_108 (by decide) (fun c => ?_) (fun c => ?_)
  · have h := ht c
    refine V_iload_n X (i := 3) 2 dX3_readSum_115 rfl rfl ?_
    exact V_zret_c X hr dX3_readSum_116 (bo_z h.1) h.2
  · have h := hf c
    refine V_aload_n X (i := 1) 0 dX3_readSum_111 rfl rfl ?_
    refine K_2_endPiece X (Or.inl q_737) hk1 h ⟨Nat.le_of_ble_eq_true rfl, Nat.le_of_ble_eq_true rfl⟩ ⟨Nat.zero_le _, Nat.zero_le _⟩ (st1 := []) (Nat.le_of_ble_eq_true rfl) dX3_readSum_112 (fun w1 h => ?_)
    refine V_iload_n X (i := 3) 2 dX3_readSum_115 rfl rfl ?_
    exact V_zret_c X hr dX3_readSum_116 (bo_z h.1) h.2
set_option maxRecDepth 20000 in
theorem v_3_readSumF_b93_q4 (X : CXq p s m args meth c cX3_readSum 6 yX3_readSum.cls ad cy D (AW ad) s.heap) (hr : meth.sig.returnType = (some .boolean))  {k1 : Nat} (hk1 : isLaw k1) {Q : Int32 → Mem → Prop} {L10 : Int32 → Int32 → Int32 → Mem → Prop} (HL10 : ∀ (l2 : Int32) (l3 : Int32) (l4 : Int32) (w : Mem), L10 l2 l3 l4 w → V p l e (RM 17) s m args below meth c 6 ad cy D (AW ad) s.heap 0 0 (MQ below (va_Qi Q (BC ad cy D wm wl0) (AW ad)) args s 0 0 (AW ad)) w wm wl0 10 [(0, .ref (ad 7)), (1, .ref (ad k1)), (2, .int l2), (3, .int l3), (4, .int l4)] []) : ∀ (l2 : Int32) (l4 : Int32) (l5 : Int32) (s0 : Int32) (w : Mem), wp_3_readSumF_b93 (wp_3_readSum 4) k1 Q L10 l2 l4 l5 s0 w → V p l e (RM 17) s m args below meth c 6 ad cy D (AW ad) s.heap 0 0 (MQ below (va_Qi Q (BC ad cy D wm wl0) (AW ad)) args s 0 0 (AW ad)) w wm wl0 93 [(0, .ref (ad 7)), (1, .ref (ad k1)), (2, .int l2), (4, .int l4), (5, .int l5)] [.int s0] := by
  intro l2 l4 l5 s0 w h
  unfold wp_3_readSumF_b93 at h
  refine V_istore_n X dX3_readSum_93 rfl (by decide) rfl (ls1 := [(3, .int s0), (0, .ref (ad 7)), (1, .ref (ad k1)), (2, .int l2), (4, .int l4), (5, .int l5)]) rfl ?_
  refine V_aload_n X (i := 1) 2 dX3_readSum_94 rfl rfl ?_
  refine V_iload X (i := 5) 5 dX3_readSum_95 rfl ?_
  refine V_iconst X (v := (0 : Int32)) dX3_readSum_97 (by decide) ?_
  refine K_2_add X (Or.inl q_736) hk1 h ⟨Nat.le_of_ble_eq_true rfl, Nat.le_of_ble_eq_true rfl⟩ ⟨Nat.zero_le _, Nat.zero_le _⟩ (st1 := []) (Nat.le_of_ble_eq_true rfl) dX3_readSum_98 (fun w1 h => ?_)
  obtain ⟨x2, ex2⟩ : ∃ y : Int32, y = l4 + (1 : Int32) := ⟨_, rfl⟩
  have h := h x2 ex2
  refine V_iinc X 4 dX3_readSum_101 rfl (by decide) (by rw [ex2]; rfl) (ls1 := [(4, .int x2), (3, .int s0), (0, .ref (ad 7)), (1, .ref (ad k1)), (2, .int l2), (5, .int l5)]) rfl ?_
  refine V_goto X (tgt := 10) dX3_readSum_104 (by decide) ?_
  refine V_sub X (ls1 := [(0, .ref (ad 7)), (1, .ref (ad k1)), (2, .int l2), (3, .int s0), (4, .int x2)]) [2, 3, 4, 1, 0] rfl ?_
  exact HL10 _ _ _ _ h
set_option maxRecDepth 20000 in
theorem v_3_readSumF_b92_q4 (X : CXq p s m args meth c cX3_readSum 6 yX3_readSum.cls ad cy D (AW ad) s.heap) (hr : meth.sig.returnType = (some .boolean))  {k1 : Nat} (hk1 : isLaw k1) {Q : Int32 → Mem → Prop} {L10 : Int32 → Int32 → Int32 → Mem → Prop} (HL10 : ∀ (l2 : Int32) (l3 : Int32) (l4 : Int32) (w : Mem), L10 l2 l3 l4 w → V p l e (RM 17) s m args below meth c 6 ad cy D (AW ad) s.heap 0 0 (MQ below (va_Qi Q (BC ad cy D wm wl0) (AW ad)) args s 0 0 (AW ad)) w wm wl0 10 [(0, .ref (ad 7)), (1, .ref (ad k1)), (2, .int l2), (3, .int l3), (4, .int l4)] []) : ∀ (l2 : Int32) (l4 : Int32) (l5 : Int32) (w : Mem), wp_3_readSumF_b92 (wp_3_readSum 4) k1 Q L10 l2 l4 l5 w → V p l e (RM 17) s m args below meth c 6 ad cy D (AW ad) s.heap 0 0 (MQ below (va_Qi Q (BC ad cy D wm wl0) (AW ad)) args s 0 0 (AW ad)) w wm wl0 92 [(0, .ref (ad 7)), (1, .ref (ad k1)), (2, .int l2), (4, .int l4), (5, .int l5)] [] := by
  intro l2 l4 l5 w h
  unfold wp_3_readSumF_b92 at h
  refine V_iconst X (v := (0 : Int32)) dX3_readSum_92 (by decide) ?_
  refine V_sub X (ls1 := [(0, .ref (ad 7)), (1, .ref (ad k1)), (2, .int l2), (4, .int l4), (5, .int l5)]) [0, 1, 2, 3, 4] rfl ?_
  exact v_3_readSumF_b93_q4 X hr hk1 HL10 _ _ _ _ _ h
set_option maxRecDepth 20000 in
theorem v_3_readSumF_b56_q4 (X : CXq p s m args meth c cX3_readSum 6 yX3_readSum.cls ad cy D (AW ad) s.heap) (hr : meth.sig.returnType = (some .boolean))  {k1 : Nat} (hk1 : isLaw k1) {Q : Int32 → Mem → Prop} {L10 : Int32 → Int32 → Int32 → Mem → Prop} (HL10 : ∀ (l2 : Int32) (l3 : Int32) (l4 : Int32) (w : Mem), L10 l2 l3 l4 w → V p l e (RM 17) s m args below meth c 6 ad cy D (AW ad) s.heap 0 0 (MQ below (va_Qi Q (BC ad cy D wm wl0) (AW ad)) args s 0 0 (AW ad)) w wm wl0 10 [(0, .ref (ad 7)), (1, .ref (ad k1)), (2, .int l2), (3, .int l3), (4, .int l4)] []) : ∀ (l2 : Int32) (l4 : Int32) (w : Mem), wp_3_readSumF_b56 (wp_3_readSum 4) k1 Q L10 l2 l4 w → V p l e (RM 17) s m args below meth c 6 ad cy D (AW ad) s.heap 0 0 (MQ below (va_Qi Q (BC ad cy D wm wl0) (AW ad)) args s 0 0 (AW ad)) w wm wl0 56 [(0, .ref (ad 7)), (1, .ref (ad k1)), (2, .int l2), (4, .int l4)] [] := by
  intro l2 l4 w h
  unfold wp_3_readSumF_b56 at h
  refine V_aload_n X (i := 0) 0 dX3_readSum_56 rfl rfl ?_
  refine G_3_15 X dX3_readSum_57 ?_
  refine G_3_45 X dX3_readSum_60 ?_
  refine V_aload_n X (i := 0) 0 dX3_readSum_63 rfl rfl ?_
  refine G_3_19 X dX3_readSum_64 ?_
  obtain ⟨g1, h⟩ := h
  refine V_iald_c X (rfl : SLq 4 = 401) (by decide) (rfl : SK 4 = 14) g1 dX3_readSum_67 ?_
  obtain ⟨x2, ex2⟩ : ∃ y : Int32, y = (w 4 (ix (w 7 3))) := ⟨_, rfl⟩
  have h := h x2 ex2
  refine V_istore X dX3_readSum_68 (by decide) ex2 (ls1 := [(5, .int x2), (0, .ref (ad 7)), (1, .ref (ad k1)), (2, .int l2), (4, .int l4)]) rfl ?_
  refine V_aload_n X (i := 0) 1 dX3_readSum_70 rfl rfl ?_
  refine V_iload X (i := 5) 0 dX3_readSum_71 rfl ?_
  refine K_3_takes X (Or.inl q_702) h ⟨Nat.le_of_ble_eq_true rfl, Nat.le_of_ble_eq_true rfl⟩ ⟨Nat.zero_le _, Nat.zero_le _⟩ (st1 := []) (Nat.le_of_ble_eq_true rfl) dX3_readSum_73 (fun r4 w3 h => ?_)
  obtain ⟨ht, hf⟩ := h
  refine V_if_eq X (tgt := 92) dX3_readSum_76 (by decide) (fun c => ?_) (fun c => ?_)
  · have h := ht c
    refine V_sub X (ls1 := [(0, .ref (ad 7)), (1, .ref (ad k1)), (2, .int l2), (4, .int l4), (5, .int x2)]) [1, 2, 3, 4, 0] rfl ?_
    exact v_3_readSumF_b92_q4 X hr hk1 HL10 _ _ _ _ h
  · have h := hf c
    refine V_aload_n X (i := 0) 1 dX3_readSum_79 rfl rfl ?_
    refine V_aload_n X (i := 1) 2 dX3_readSum_80 rfl rfl ?_
    refine V_iload_n X (i := 2) 3 dX3_readSum_81 rfl rfl ?_
    refine K_3_readProduct_q4 X (Or.inl q_728) hk1 h ⟨Nat.le_of_ble_eq_true rfl, Nat.le_of_ble_eq_true rfl⟩ ⟨Nat.zero_le _, Nat.zero_le _⟩ (st1 := []) (Nat.le_of_ble_eq_true rfl) dX3_readSum_82 (fun r6 w5 h => ?_)
    obtain ⟨ht, hf⟩ := h
    refine V_if_eq X (tgt := 92) dX3_readSum_85 (by decide) (fun c => ?_) (fun c => ?_)
    · have h := ht c
      refine V_sub X (ls1 := [(0, .ref (ad 7)), (1, .ref (ad k1)), (2, .int l2), (4, .int l4), (5, .int x2)]) [1, 2, 3, 4, 0] rfl ?_
      exact v_3_readSumF_b92_q4 X hr hk1 HL10 _ _ _ _ h
    · have h := hf c
      refine V_iconst X (v := (1 : Int32)) dX3_readSum_88 (by decide) ?_
      refine V_goto X (tgt := 93) dX3_readSum_89 (by decide) ?_
      refine V_sub X (ls1 := [(0, .ref (ad 7)), (1, .ref (ad k1)), (2, .int l2), (4, .int l4), (5, .int x2)]) [1, 2, 3, 4, 0] rfl ?_
      exact v_3_readSumF_b93_q4 X hr hk1 HL10 _ _ _ _ _ h
set_option maxRecDepth 20000 in
theorem v_3_readSumF_b10_q4 (X : CXq p s m args meth c cX3_readSum 6 yX3_readSum.cls ad cy D (AW ad) s.heap) (hr : meth.sig.returnType = (some .boolean))  {k1 : Nat} (hk1 : isLaw k1) {Q : Int32 → Mem → Prop} : ∀ (n : Nat) (l2 : Int32) (l3 : Int32) (l4 : Int32) (w : Mem), wp_3_readSumF_b10 (wp_3_readSum 4) k1 Q n l2 l3 l4 w → V p l e (RM 17) s m args below meth c 6 ad cy D (AW ad) s.heap 0 0 (MQ below (va_Qi Q (BC ad cy D wm wl0) (AW ad)) args s 0 0 (AW ad)) w wm wl0 10 [(0, .ref (ad 7)), (1, .ref (ad k1)), (2, .int l2), (3, .int l3), (4, .int l4)] [] := by
  intro n
  induction n with
  | zero =>
    intro l2 l3 l4 w h
    exact h.elim
  | succ n ih =>
    intro l2 l3 l4 w h
    unfold wp_3_readSumF_b10 at h
    refine V_iload X (i := 4) 4 dX3_readSum_10 rfl ?_
    refine V_sipush X (v := (400 : Int32)) dX3_readSum_12 (by decide) ?_
    obtain ⟨ht, hf⟩ := h
    refine V_icmp_ge X (tgt := 107) dX3_readSum_15 (by decide) (fun c => ?_) (fun c => ?_)
    · have h := ht c
      refine V_sub X (ls1 := [(1, .ref (ad k1)), (2, .int l2), (3, .int l3)]) [1, 2, 3] rfl ?_
      exact v_3_readSumF_b107_q4 X hr hk1 _ _ _ h
    · have h := hf c
      refine V_iload_n X (i := 3) 3 dX3_readSum_18 rfl rfl ?_
      obtain ⟨ht, hf⟩ := h
      refine V_if_eq X (tgt := 107) dX3_readSum_19 (by decide) (fun c => ?_) (fun c => ?_)
      · have h := ht c
        refine V_sub X (ls1 := [(1, .ref (ad k1)), (2, .int l2), (3, .int l3)]) [1, 2, 3] rfl ?_
        exact v_3_readSumF_b107_q4 X hr hk1 _ _ _ h
      · have h := hf c
        refine V_aload_n X (i := 0) 0 dX3_readSum_22 rfl rfl ?_
        refine G_3_15 X dX3_readSum_23 ?_
        refine G_3_45 X dX3_readSum_26 ?_
        refine V_aload_n X (i := 0) 0 dX3_readSum_29 rfl rfl ?_
        refine G_3_19 X dX3_readSum_30 ?_
        obtain ⟨g1, h⟩ := h
        refine V_iald_c X (rfl : SLq 4 = 401) (by decide) (rfl : SK 4 = 14) g1 dX3_readSum_33 ?_
        refine V_bipush X (v := (43 : Int32)) dX3_readSum_34 (by decide) ?_
        obtain ⟨ht, hf⟩ := h
        refine V_icmp_eq X (tgt := 56) dX3_readSum_36 (by decide) (fun c => ?_) (fun c => ?_)
        · have h := ht c
          refine V_sub X (ls1 := [(0, .ref (ad 7)), (1, .ref (ad k1)), (2, .int l2), (4, .int l4)]) [0, 1, 2, 4] rfl ?_
          exact v_3_readSumF_b56_q4 X hr hk1 ih _ _ _ h
        · have h := hf c
          refine V_aload_n X (i := 0) 0 dX3_readSum_39 rfl rfl ?_
          refine G_3_15 X dX3_readSum_40 ?_
          refine G_3_45 X dX3_readSum_43 ?_
          refine V_aload_n X (i := 0) 0 dX3_readSum_46 rfl rfl ?_
          refine G_3_19 X dX3_readSum_47 ?_
          obtain ⟨g2, h⟩ := h
          refine V_iald_c X (rfl : SLq 4 = 401) (by decide) (rfl : SK 4 = 14) g2 dX3_readSum_50 ?_
          refine V_bipush X (v := (45 : Int32)) dX3_readSum_51 (by decide) ?_
          obtain ⟨ht, hf⟩ := h
          refine V_icmp_ne X (tgt := 107) dX3_readSum_53 (by decide) (fun c => ?_) (fun c => ?_)
          · have h := ht c
            refine V_sub X (ls1 := [(1, .ref (ad k1)), (2, .int l2), (3, .int l3)]) [1, 2, 3] rfl ?_
            exact v_3_readSumF_b107_q4 X hr hk1 _ _ _ h
          · have h := hf c
            refine V_sub X (ls1 := [(0, .ref (ad 7)), (1, .ref (ad k1)), (2, .int l2), (4, .int l4)]) [0, 1, 2, 4] rfl ?_
            exact v_3_readSumF_b56_q4 X hr hk1 ih _ _ _ h
set_option maxRecDepth 20000 in
theorem v_3_readSumF_q4  {k1 : Nat} {a2 : Int32} (X : CXq p s m args meth c cX3_readSum 6 yX3_readSum.cls ad cy D (AW ad) s.heap) (hr : meth.sig.returnType = (some .boolean)) (hk1 : isLaw k1) {w : Mem} {Q : Int32 → Mem → Prop} (h : wp_3_readSumF (wp_3_readSum 4) k1 a2 w Q) : V p l e (RM 17) s m args below meth c 6 ad cy D (AW ad) s.heap 0 0 (MQ below (va_Qi Q (BC ad cy D wm wl0) (AW ad)) args s 0 0 (AW ad)) w wm wl0 0 [(0, .ref (ad 7)), (1, .ref (ad k1)), (2, .int a2)] [] := by
  unfold wp_3_readSumF at h
  refine V_aload_n X (i := 0) 0 dX3_readSum_0 rfl rfl ?_
  refine V_aload_n X (i := 1) 1 dX3_readSum_1 rfl rfl ?_
  refine V_iload_n X (i := 2) 2 dX3_readSum_2 rfl rfl ?_
  refine K_3_readProduct_q4 X (Or.inl q_728) hk1 h ⟨Nat.le_of_ble_eq_true rfl, Nat.le_of_ble_eq_true rfl⟩ ⟨Nat.zero_le _, Nat.zero_le _⟩ (st1 := []) (Nat.le_of_ble_eq_true rfl) dX3_readSum_3 (fun r2 w1 h => ?_)
  refine V_istore_n X dX3_readSum_6 rfl (by decide) rfl (ls1 := [(3, .int r2), (0, .ref (ad 7)), (1, .ref (ad k1)), (2, .int a2)]) rfl ?_
  refine V_iconst X (v := (0 : Int32)) dX3_readSum_7 (by decide) ?_
  refine V_istore X dX3_readSum_8 (by decide) rfl (ls1 := [(4, .int (0 : Int32)), (3, .int r2), (0, .ref (ad 7)), (1, .ref (ad k1)), (2, .int a2)]) rfl ?_
  refine V_sub X (ls1 := [(0, .ref (ad 7)), (1, .ref (ad k1)), (2, .int a2), (3, .int r2), (4, .int (0 : Int32))]) [2, 3, 4, 1, 0] rfl ?_
  obtain ⟨nn, h⟩ := h
  exact v_3_readSumF_b10_q4 X hr hk1 nn _ _ _ _ h
theorem c_3_readSumF_q4  {k1 : Nat} {a2 : Int32} (hinj : INJ ad) (hk1 : isLaw k1) {w : Mem} {Q : Int32 → Mem → Prop} (h : wp_3_readSumF (wp_3_readSum 4) k1 a2 w Q) : Met l yX3_readSum (TBq yX3_readSum cX3_readSum 6 (some .boolean)) (RM 17) (va_Pc [.ref (ad 7), .ref (ad k1), .int a2] (PB ad cy D (cmb w wm) wl0)) (va_Qi Q (BC ad cy D wm wl0) (AW ad)) 0 0 (AW ad) := M_enter (by decide) (Nat.le_of_ble_eq_true rfl) hinj (fun p e s m args below meth c X hr => v_3_readSumF_q4 X hr hk1 h)
theorem K_3_readSumF_q4 {own : String} {idx : Nat}  {k1 : Nat} {a2 : Int32} (X : CXq p s m args meth c cc nL own ad cy D A H0) (hL : LK own idx yX3_readSum) (hk1 : isLaw k1) {w : Mem} {Q : Int32 → Mem → Prop} (h : wp_3_readSumF (wp_3_readSum 4) k1 a2 w Q) (hR : (RM 17).frames + 1 ≤ R.frames ∧ 8 + (6 + 11) + (RM 17).locals ≤ R.locals) (hce : ce ≤ R.cells ∧ sl ≤ R.slots) (hcat : (st1.map fun v => v.category).sum ≤ 8) (hd : decode cc pc = .ok (.invokevirtual idx, 3)) (kk : ∀ (r : Int32) (u : Mem), Q r u → V p l e R s m args below meth c nL ad cy D A H0 ce sl Qs u wm wl0 (pc + 3) ls (.int r :: st1)) : V p l e R s m args below meth c nL ad cy D A H0 ce sl Qs w wm wl0 pc ls (.int a2 :: .ref (ad k1) :: .ref (ad 7) :: st1) := V_callVI_c X mf_3_readSumF hL (rfl : vwCl[3]? = some (RX3, TX3, 9)) (by decide) (rfl : SK 7 = 3) (Nat.lt_of_lt_of_le (by decide : 7 < 150) (CX_nn X)) (c_3_readSumF_q4 X.2.2.2.2.2.2.2.1 hk1 h) (As := [.ref (ad k1), .int a2]) rfl ⟨rfl, rfl⟩ hR hce st1 rfl hcat hd kk
theorem K_3_readSum_5 {own : String} {idx : Nat}  {k1 : Nat} {a2 : Int32} (X : CXq p s m args meth c cc nL own ad cy D A H0) (hL : LK own idx yX3_readSum) (hk1 : isLaw k1) {w : Mem} {Q : Int32 → Mem → Prop} (h : wp_3_readSum 5 k1 a2 w Q) (hR : (RM 17).frames + 1 ≤ R.frames ∧ 8 + (6 + 11) + (RM 17).locals ≤ R.locals) (hce : ce ≤ R.cells ∧ sl ≤ R.slots) (hcat : (st1.map fun v => v.category).sum ≤ 8) (hd : decode cc pc = .ok (.invokevirtual idx, 3)) (kk : ∀ (r : Int32) (u : Mem), Q r u → V p l e R s m args below meth c nL ad cy D A H0 ce sl Qs u wm wl0 (pc + 3) ls (.int r :: st1)) : V p l e R s m args below meth c nL ad cy D A H0 ce sl Qs w wm wl0 pc ls (.int a2 :: .ref (ad k1) :: .ref (ad 7) :: st1) := K_3_readSumF_q4 X hL hk1 h hR hce hcat hd kk
set_option maxRecDepth 20000 in
theorem v_3_readUnit_b127_q5 (X : CXq p s m args meth c cX3_readUnit 4 yX3_readUnit.cls ad cy D (AW ad) s.heap) (hr : meth.sig.returnType = (some .boolean))  {k1 : Nat} (hk1 : isLaw k1) {Q : Int32 → Mem → Prop} : ∀ (w : Mem), wp_3_readUnit_b127 (wp_3_readSum 5) k1 Q w → V p l e (RM 18) s m args below meth c 4 ad cy D (AW ad) s.heap 0 0 (MQ below (va_Qi Q (BC ad cy D wm wl0) (AW ad)) args s 0 0 (AW ad)) w wm wl0 127 [] [] := by
  intro w h
  unfold wp_3_readUnit_b127 at h
  refine V_iconst X (v := (0 : Int32)) dX3_readUnit_127 (by decide) ?_
  exact V_zret_c X hr dX3_readUnit_128 rfl h
set_option maxRecDepth 20000 in
theorem v_3_readUnit_q5  {k1 : Nat} {a2 : Int32} (X : CXq p s m args meth c cX3_readUnit 4 yX3_readUnit.cls ad cy D (AW ad) s.heap) (hr : meth.sig.returnType = (some .boolean)) (hk1 : isLaw k1) {w : Mem} {Q : Int32 → Mem → Prop} (h : wp_3_readUnit (wp_3_readSum 5) k1 a2 w Q) : V p l e (RM 18) s m args below meth c 4 ad cy D (AW ad) s.heap 0 0 (MQ below (va_Qi Q (BC ad cy D wm wl0) (AW ad)) args s 0 0 (AW ad)) w wm wl0 0 [(0, .ref (ad 7)), (1, .ref (ad k1)), (2, .int a2)] [] := by
  unfold wp_3_readUnit at h
  refine V_aload_n X (i := 0) 0 dX3_readUnit_0 rfl rfl ?_
  refine G_3_15 X dX3_readUnit_1 ?_
  refine G_3_45 X dX3_readUnit_4 ?_
  refine V_aload_n X (i := 0) 0 dX3_readUnit_7 rfl rfl ?_
  refine G_3_19 X dX3_readUnit_8 ?_
  obtain ⟨g1, h⟩ := h
  refine V_iald_c X (rfl : SLq 4 = 401) (by decide) (rfl : SK 4 = 14) g1 dX3_readUnit_11 ?_
  obtain ⟨x2, ex2⟩ : ∃ y : Int32, y = (w 4 (ix (w 7 3))) := ⟨_, rfl⟩
  have h := h x2 ex2
  refine V_istore_n X dX3_readUnit_12 rfl (by decide) ex2 (ls1 := [(3, .int x2), (0, .ref (ad 7)), (1, .ref (ad k1)), (2, .int a2)]) rfl ?_
  refine V_iload_n X (i := 3) 0 dX3_readUnit_13 rfl rfl ?_
  refine V_iconst X (v := (3 : Int32)) dX3_readUnit_14 (by decide) ?_
  obtain ⟨ht, hf⟩ := h
  refine V_icmp_ne X (tgt := 41) dX3_readUnit_15 (by decide) (fun c => ?_) (fun c => ?_)
  · have h := ht c
    refine V_iload_n X (i := 3) 0 dX3_readUnit_41 rfl rfl ?_
    refine V_sipush X (v := (146 : Int32)) dX3_readUnit_42 (by decide) ?_
    refine V_sipush X (v := (156 : Int32)) dX3_readUnit_45 (by decide) ?_
    refine K_11_within X (Or.inr ⟨_, q_714⟩) h ⟨Nat.le_of_ble_eq_true rfl, Nat.le_of_ble_eq_true rfl⟩ ⟨Nat.zero_le _, Nat.zero_le _⟩ (st1 := []) (Nat.le_of_ble_eq_true rfl) dX3_readUnit_48 (fun r4 w3 h => ?_)
    obtain ⟨ht, hf⟩ := h
    refine V_if_eq X (tgt := 70) dX3_readUnit_51 (by decide) (fun c => ?_) (fun c => ?_)
    · have h := ht c
      refine V_iload_n X (i := 3) 0 dX3_readUnit_70 rfl rfl ?_
      refine V_bipush X (v := (40 : Int32)) dX3_readUnit_71 (by decide) ?_
      obtain ⟨ht, hf⟩ := h
      refine V_icmp_eq X (tgt := 82) dX3_readUnit_73 (by decide) (fun c => ?_) (fun c => ?_)
      · have h := ht c
        refine V_iload_n X (i := 2) 3 dX3_readUnit_82 rfl rfl ?_
        refine V_bipush X (v := (6 : Int32)) dX3_readUnit_83 (by decide) ?_
        obtain ⟨ht, hf⟩ := h
        refine V_icmp_lt X (tgt := 94) dX3_readUnit_85 (by decide) (fun c => ?_) (fun c => ?_)
        · have h := ht c
          refine V_aload_n X (i := 0) 1 dX3_readUnit_94 rfl rfl ?_
          refine V_bipush X (v := (40 : Int32)) dX3_readUnit_95 (by decide) ?_
          refine K_3_takes X (Or.inl q_702) h ⟨Nat.le_of_ble_eq_true rfl, Nat.le_of_ble_eq_true rfl⟩ ⟨Nat.zero_le _, Nat.zero_le _⟩ (st1 := []) (Nat.le_of_ble_eq_true rfl) dX3_readUnit_97 (fun r6 w5 h => ?_)
          obtain ⟨ht, hf⟩ := h
          refine V_if_eq X (tgt := 127) dX3_readUnit_100 (by decide) (fun c => ?_) (fun c => ?_)
          · have h := ht c
            refine V_sub X (ls1 := []) [] rfl ?_
            exact v_3_readUnit_b127_q5 X hr hk1 _ h
          · have h := hf c
            refine V_aload_n X (i := 0) 1 dX3_readUnit_103 rfl rfl ?_
            refine V_aload_n X (i := 1) 2 dX3_readUnit_104 rfl rfl ?_
            refine V_iload_n X (i := 2) 3 dX3_readUnit_105 rfl rfl ?_
            refine V_iconst X (v := (1 : Int32)) dX3_readUnit_106 (by decide) ?_
            refine V_iadd X dX3_readUnit_107 ?_
            refine K_3_readSum_5 X (Or.inl q_724) hk1 h ⟨Nat.le_of_ble_eq_true rfl, Nat.le_of_ble_eq_true rfl⟩ ⟨Nat.zero_le _, Nat.zero_le _⟩ (st1 := []) (Nat.le_of_ble_eq_true rfl) dX3_readUnit_108 (fun r8 w7 h => ?_)
            obtain ⟨ht, hf⟩ := h
            refine V_if_eq X (tgt := 127) dX3_readUnit_111 (by decide) (fun c => ?_) (fun c => ?_)
            · have h := ht c
              refine V_sub X (ls1 := []) [] rfl ?_
              exact v_3_readUnit_b127_q5 X hr hk1 _ h
            · have h := hf c
              refine V_aload_n X (i := 0) 1 dX3_readUnit_114 rfl rfl ?_
              refine V_bipush X (v := (41 : Int32)) dX3_readUnit_115 (by decide) ?_
              refine K_3_takes X (Or.inl q_702) h ⟨Nat.le_of_ble_eq_true rfl, Nat.le_of_ble_eq_true rfl⟩ ⟨Nat.zero_le _, Nat.zero_le _⟩ (st1 := []) (Nat.le_of_ble_eq_true rfl) dX3_readUnit_117 (fun r10 w9 h => ?_)
              obtain ⟨ht, hf⟩ := h
              refine V_if_eq X (tgt := 127) dX3_readUnit_120 (by decide) (fun c => ?_) (fun c => ?_)
              · have h := ht c
                refine V_sub X (ls1 := []) [] rfl ?_
                exact v_3_readUnit_b127_q5 X hr hk1 _ h
              · have h := hf c
                refine V_iconst X (v := (1 : Int32)) dX3_readUnit_123 (by decide) ?_
                refine V_goto X (tgt := 128) dX3_readUnit_124 (by decide) ?_
                exact V_zret_c X hr dX3_readUnit_128 rfl h
        · have h := hf c
          refine V_aload_n X (i := 0) 1 dX3_readUnit_88 rfl rfl ?_
          refine V_iconst X (v := (2 : Int32)) dX3_readUnit_89 (by decide) ?_
          refine K_3_fails X (Or.inl q_694) h ⟨Nat.le_of_ble_eq_true rfl, Nat.le_of_ble_eq_true rfl⟩ ⟨Nat.zero_le _, Nat.zero_le _⟩ (st1 := []) (Nat.le_of_ble_eq_true rfl) dX3_readUnit_90 (fun r12 w11 h => ?_)
          exact V_zret_c X hr dX3_readUnit_93 (bo_z h.1) h.2
      · have h := hf c
        refine V_aload_n X (i := 0) 1 dX3_readUnit_76 rfl rfl ?_
        refine V_iconst X (v := (1 : Int32)) dX3_readUnit_77 (by decide) ?_
        refine K_3_fails X (Or.inl q_694) h ⟨Nat.le_of_ble_eq_true rfl, Nat.le_of_ble_eq_true rfl⟩ ⟨Nat.zero_le _, Nat.zero_le _⟩ (st1 := []) (Nat.le_of_ble_eq_true rfl) dX3_readUnit_78 (fun r14 w13 h => ?_)
        exact V_zret_c X hr dX3_readUnit_81 (bo_z h.1) h.2
    · have h := hf c
      refine V_aload_n X (i := 1) 2 dX3_readUnit_54 rfl rfl ?_
      refine V_iconst X (v := (1 : Int32)) dX3_readUnit_55 (by decide) ?_
      refine V_iload_n X (i := 3) 0 dX3_readUnit_56 rfl rfl ?_
      refine V_sipush X (v := (146 : Int32)) dX3_readUnit_57 (by decide) ?_
      refine V_isub X dX3_readUnit_60 ?_
      refine K_2_add X (Or.inl q_736) hk1 h ⟨Nat.le_of_ble_eq_true rfl, Nat.le_of_ble_eq_true rfl⟩ ⟨Nat.zero_le _, Nat.zero_le _⟩ (st1 := []) (Nat.le_of_ble_eq_true rfl) dX3_readUnit_61 (fun w15 h => ?_)
      refine V_aload_n X (i := 0) 1 dX3_readUnit_64 rfl rfl ?_
      refine V_iload_n X (i := 3) 0 dX3_readUnit_65 rfl rfl ?_
      refine K_3_takes X (Or.inl q_702) h ⟨Nat.le_of_ble_eq_true rfl, Nat.le_of_ble_eq_true rfl⟩ ⟨Nat.zero_le _, Nat.zero_le _⟩ (st1 := []) (Nat.le_of_ble_eq_true rfl) dX3_readUnit_66 (fun r17 w16 h => ?_)
      exact V_zret_c X hr dX3_readUnit_69 (bo_z h.1) h.2
  · have h := hf c
    refine V_aload_n X (i := 1) 2 dX3_readUnit_18 rfl rfl ?_
    refine V_iconst X (v := (0 : Int32)) dX3_readUnit_19 (by decide) ?_
    refine V_aload_n X (i := 0) 1 dX3_readUnit_20 rfl rfl ?_
    refine G_3_15 X dX3_readUnit_21 ?_
    refine G_3_170 X dX3_readUnit_24 ?_
    refine V_aload_n X (i := 0) 1 dX3_readUnit_27 rfl rfl ?_
    refine G_3_19 X dX3_readUnit_28 ?_
    obtain ⟨g18, h⟩ := h
    refine V_iald_c X (rfl : SLq 6 = 401) (by decide) (rfl : SK 6 = 14) g18 dX3_readUnit_31 ?_
    refine K_2_add X (Or.inl q_736) hk1 h ⟨Nat.le_of_ble_eq_true rfl, Nat.le_of_ble_eq_true rfl⟩ ⟨Nat.zero_le _, Nat.zero_le _⟩ (st1 := []) (Nat.le_of_ble_eq_true rfl) dX3_readUnit_32 (fun w19 h => ?_)
    refine V_aload_n X (i := 0) 1 dX3_readUnit_35 rfl rfl ?_
    refine V_iconst X (v := (3 : Int32)) dX3_readUnit_36 (by decide) ?_
    refine K_3_takes X (Or.inl q_702) h ⟨Nat.le_of_ble_eq_true rfl, Nat.le_of_ble_eq_true rfl⟩ ⟨Nat.zero_le _, Nat.zero_le _⟩ (st1 := []) (Nat.le_of_ble_eq_true rfl) dX3_readUnit_37 (fun r21 w20 h => ?_)
    exact V_zret_c X hr dX3_readUnit_40 (bo_z h.1) h.2
theorem c_3_readUnit_q5  {k1 : Nat} {a2 : Int32} (hinj : INJ ad) (hk1 : isLaw k1) {w : Mem} {Q : Int32 → Mem → Prop} (h : wp_3_readUnit (wp_3_readSum 5) k1 a2 w Q) : Met l yX3_readUnit (TBq yX3_readUnit cX3_readUnit 4 (some .boolean)) (RM 18) (va_Pc [.ref (ad 7), .ref (ad k1), .int a2] (PB ad cy D (cmb w wm) wl0)) (va_Qi Q (BC ad cy D wm wl0) (AW ad)) 0 0 (AW ad) := M_enter (by decide) (Nat.le_of_ble_eq_true rfl) hinj (fun p e s m args below meth c X hr => v_3_readUnit_q5 X hr hk1 h)
theorem K_3_readUnit_q5 {own : String} {idx : Nat}  {k1 : Nat} {a2 : Int32} (X : CXq p s m args meth c cc nL own ad cy D A H0) (hL : LK own idx yX3_readUnit) (hk1 : isLaw k1) {w : Mem} {Q : Int32 → Mem → Prop} (h : wp_3_readUnit (wp_3_readSum 5) k1 a2 w Q) (hR : (RM 18).frames + 1 ≤ R.frames ∧ 8 + (4 + 11) + (RM 18).locals ≤ R.locals) (hce : ce ≤ R.cells ∧ sl ≤ R.slots) (hcat : (st1.map fun v => v.category).sum ≤ 8) (hd : decode cc pc = .ok (.invokevirtual idx, 3)) (kk : ∀ (r : Int32) (u : Mem), Q r u → V p l e R s m args below meth c nL ad cy D A H0 ce sl Qs u wm wl0 (pc + 3) ls (.int r :: st1)) : V p l e R s m args below meth c nL ad cy D A H0 ce sl Qs w wm wl0 pc ls (.int a2 :: .ref (ad k1) :: .ref (ad 7) :: st1) := V_callVI_c X mf_3_readUnit hL (rfl : vwCl[3]? = some (RX3, TX3, 9)) (by decide) (rfl : SK 7 = 3) (Nat.lt_of_lt_of_le (by decide : 7 < 150) (CX_nn X)) (c_3_readUnit_q5 X.2.2.2.2.2.2.2.1 hk1 h) (As := [.ref (ad k1), .int a2]) rfl ⟨rfl, rfl⟩ hR hce st1 rfl hcat hd kk
set_option maxRecDepth 20000 in
theorem v_3_readProduct_b93_q5 (X : CXq p s m args meth c cX3_readProduct 6 yX3_readProduct.cls ad cy D (AW ad) s.heap) (hr : meth.sig.returnType = (some .boolean))  {k1 : Nat} (hk1 : isLaw k1) {Q : Int32 → Mem → Prop} {L10 : Int32 → Int32 → Int32 → Mem → Prop} (HL10 : ∀ (l2 : Int32) (l3 : Int32) (l4 : Int32) (w : Mem), L10 l2 l3 l4 w → V p l e (RM 19) s m args below meth c 6 ad cy D (AW ad) s.heap 0 0 (MQ below (va_Qi Q (BC ad cy D wm wl0) (AW ad)) args s 0 0 (AW ad)) w wm wl0 10 [(0, .ref (ad 7)), (1, .ref (ad k1)), (2, .int l2), (3, .int l3), (4, .int l4)] []) : ∀ (l2 : Int32) (l4 : Int32) (l5 : Int32) (s0 : Int32) (w : Mem), wp_3_readProduct_b93 (wp_3_readSum 5) k1 Q L10 l2 l4 l5 s0 w → V p l e (RM 19) s m args below meth c 6 ad cy D (AW ad) s.heap 0 0 (MQ below (va_Qi Q (BC ad cy D wm wl0) (AW ad)) args s 0 0 (AW ad)) w wm wl0 93 [(0, .ref (ad 7)), (1, .ref (ad k1)), (2, .int l2), (4, .int l4), (5, .int l5)] [.int s0] := by
  intro l2 l4 l5 s0 w h
  unfold wp_3_readProduct_b93 at h
  refine V_istore_n X dX3_readProduct_93 rfl (by decide) rfl (ls1 := [(3, .int s0), (0, .ref (ad 7)), (1, .ref (ad k1)), (2, .int l2), (4, .int l4), (5, .int l5)]) rfl ?_
  refine V_aload_n X (i := 1) 2 dX3_readProduct_94 rfl rfl ?_
  refine V_iload X (i := 5) 5 dX3_readProduct_95 rfl ?_
  refine V_iconst X (v := (0 : Int32)) dX3_readProduct_97 (by decide) ?_
  refine K_2_add X (Or.inl q_736) hk1 h ⟨Nat.le_of_ble_eq_true rfl, Nat.le_of_ble_eq_true rfl⟩ ⟨Nat.zero_le _, Nat.zero_le _⟩ (st1 := []) (Nat.le_of_ble_eq_true rfl) dX3_readProduct_98 (fun w1 h => ?_)
  obtain ⟨x2, ex2⟩ : ∃ y : Int32, y = l4 + (1 : Int32) := ⟨_, rfl⟩
  have h := h x2 ex2
  refine V_iinc X 4 dX3_readProduct_101 rfl (by decide) (by rw [ex2]; rfl) (ls1 := [(4, .int x2), (3, .int s0), (0, .ref (ad 7)), (1, .ref (ad k1)), (2, .int l2), (5, .int l5)]) rfl ?_
  refine V_goto X (tgt := 10) dX3_readProduct_104 (by decide) ?_
  refine V_sub X (ls1 := [(0, .ref (ad 7)), (1, .ref (ad k1)), (2, .int l2), (3, .int s0), (4, .int x2)]) [2, 3, 4, 1, 0] rfl ?_
  exact HL10 _ _ _ _ h
set_option maxRecDepth 20000 in
theorem v_3_readProduct_b92_q5 (X : CXq p s m args meth c cX3_readProduct 6 yX3_readProduct.cls ad cy D (AW ad) s.heap) (hr : meth.sig.returnType = (some .boolean))  {k1 : Nat} (hk1 : isLaw k1) {Q : Int32 → Mem → Prop} {L10 : Int32 → Int32 → Int32 → Mem → Prop} (HL10 : ∀ (l2 : Int32) (l3 : Int32) (l4 : Int32) (w : Mem), L10 l2 l3 l4 w → V p l e (RM 19) s m args below meth c 6 ad cy D (AW ad) s.heap 0 0 (MQ below (va_Qi Q (BC ad cy D wm wl0) (AW ad)) args s 0 0 (AW ad)) w wm wl0 10 [(0, .ref (ad 7)), (1, .ref (ad k1)), (2, .int l2), (3, .int l3), (4, .int l4)] []) : ∀ (l2 : Int32) (l4 : Int32) (l5 : Int32) (w : Mem), wp_3_readProduct_b92 (wp_3_readSum 5) k1 Q L10 l2 l4 l5 w → V p l e (RM 19) s m args below meth c 6 ad cy D (AW ad) s.heap 0 0 (MQ below (va_Qi Q (BC ad cy D wm wl0) (AW ad)) args s 0 0 (AW ad)) w wm wl0 92 [(0, .ref (ad 7)), (1, .ref (ad k1)), (2, .int l2), (4, .int l4), (5, .int l5)] [] := by
  intro l2 l4 l5 w h
  unfold wp_3_readProduct_b92 at h
  refine V_iconst X (v := (0 : Int32)) dX3_readProduct_92 (by decide) ?_
  refine V_sub X (ls1 := [(0, .ref (ad 7)), (1, .ref (ad k1)), (2, .int l2), (4, .int l4), (5, .int l5)]) [0, 1, 2, 3, 4] rfl ?_
  exact v_3_readProduct_b93_q5 X hr hk1 HL10 _ _ _ _ _ h
set_option maxRecDepth 20000 in
theorem v_3_readProduct_b56_q5 (X : CXq p s m args meth c cX3_readProduct 6 yX3_readProduct.cls ad cy D (AW ad) s.heap) (hr : meth.sig.returnType = (some .boolean))  {k1 : Nat} (hk1 : isLaw k1) {Q : Int32 → Mem → Prop} {L10 : Int32 → Int32 → Int32 → Mem → Prop} (HL10 : ∀ (l2 : Int32) (l3 : Int32) (l4 : Int32) (w : Mem), L10 l2 l3 l4 w → V p l e (RM 19) s m args below meth c 6 ad cy D (AW ad) s.heap 0 0 (MQ below (va_Qi Q (BC ad cy D wm wl0) (AW ad)) args s 0 0 (AW ad)) w wm wl0 10 [(0, .ref (ad 7)), (1, .ref (ad k1)), (2, .int l2), (3, .int l3), (4, .int l4)] []) : ∀ (l2 : Int32) (l4 : Int32) (w : Mem), wp_3_readProduct_b56 (wp_3_readSum 5) k1 Q L10 l2 l4 w → V p l e (RM 19) s m args below meth c 6 ad cy D (AW ad) s.heap 0 0 (MQ below (va_Qi Q (BC ad cy D wm wl0) (AW ad)) args s 0 0 (AW ad)) w wm wl0 56 [(0, .ref (ad 7)), (1, .ref (ad k1)), (2, .int l2), (4, .int l4)] [] := by
  intro l2 l4 w h
  unfold wp_3_readProduct_b56 at h
  refine V_aload_n X (i := 0) 0 dX3_readProduct_56 rfl rfl ?_
  refine G_3_15 X dX3_readProduct_57 ?_
  refine G_3_45 X dX3_readProduct_60 ?_
  refine V_aload_n X (i := 0) 0 dX3_readProduct_63 rfl rfl ?_
  refine G_3_19 X dX3_readProduct_64 ?_
  obtain ⟨g1, h⟩ := h
  refine V_iald_c X (rfl : SLq 4 = 401) (by decide) (rfl : SK 4 = 14) g1 dX3_readProduct_67 ?_
  obtain ⟨x2, ex2⟩ : ∃ y : Int32, y = (w 4 (ix (w 7 3))) := ⟨_, rfl⟩
  have h := h x2 ex2
  refine V_istore X dX3_readProduct_68 (by decide) ex2 (ls1 := [(5, .int x2), (0, .ref (ad 7)), (1, .ref (ad k1)), (2, .int l2), (4, .int l4)]) rfl ?_
  refine V_aload_n X (i := 0) 1 dX3_readProduct_70 rfl rfl ?_
  refine V_iload X (i := 5) 0 dX3_readProduct_71 rfl ?_
  refine K_3_takes X (Or.inl q_702) h ⟨Nat.le_of_ble_eq_true rfl, Nat.le_of_ble_eq_true rfl⟩ ⟨Nat.zero_le _, Nat.zero_le _⟩ (st1 := []) (Nat.le_of_ble_eq_true rfl) dX3_readProduct_73 (fun r4 w3 h => ?_)
  obtain ⟨ht, hf⟩ := h
  refine V_if_eq X (tgt := 92) dX3_readProduct_76 (by decide) (fun c => ?_) (fun c => ?_)
  · have h := ht c
    refine V_sub X (ls1 := [(0, .ref (ad 7)), (1, .ref (ad k1)), (2, .int l2), (4, .int l4), (5, .int x2)]) [1, 2, 3, 4, 0] rfl ?_
    exact v_3_readProduct_b92_q5 X hr hk1 HL10 _ _ _ _ h
  · have h := hf c
    refine V_aload_n X (i := 0) 1 dX3_readProduct_79 rfl rfl ?_
    refine V_aload_n X (i := 1) 2 dX3_readProduct_80 rfl rfl ?_
    refine V_iload_n X (i := 2) 3 dX3_readProduct_81 rfl rfl ?_
    refine K_3_readUnit_q5 X (Or.inl q_732) hk1 h ⟨Nat.le_of_ble_eq_true rfl, Nat.le_of_ble_eq_true rfl⟩ ⟨Nat.zero_le _, Nat.zero_le _⟩ (st1 := []) (Nat.le_of_ble_eq_true rfl) dX3_readProduct_82 (fun r6 w5 h => ?_)
    obtain ⟨ht, hf⟩ := h
    refine V_if_eq X (tgt := 92) dX3_readProduct_85 (by decide) (fun c => ?_) (fun c => ?_)
    · have h := ht c
      refine V_sub X (ls1 := [(0, .ref (ad 7)), (1, .ref (ad k1)), (2, .int l2), (4, .int l4), (5, .int x2)]) [1, 2, 3, 4, 0] rfl ?_
      exact v_3_readProduct_b92_q5 X hr hk1 HL10 _ _ _ _ h
    · have h := hf c
      refine V_iconst X (v := (1 : Int32)) dX3_readProduct_88 (by decide) ?_
      refine V_goto X (tgt := 93) dX3_readProduct_89 (by decide) ?_
      refine V_sub X (ls1 := [(0, .ref (ad 7)), (1, .ref (ad k1)), (2, .int l2), (4, .int l4), (5, .int x2)]) [1, 2, 3, 4, 0] rfl ?_
      exact v_3_readProduct_b93_q5 X hr hk1 HL10 _ _ _ _ _ h
set_option maxRecDepth 20000 in
theorem v_3_readProduct_b10_q5 (X : CXq p s m args meth c cX3_readProduct 6 yX3_readProduct.cls ad cy D (AW ad) s.heap) (hr : meth.sig.returnType = (some .boolean))  {k1 : Nat} (hk1 : isLaw k1) {Q : Int32 → Mem → Prop} : ∀ (n : Nat) (l2 : Int32) (l3 : Int32) (l4 : Int32) (w : Mem), wp_3_readProduct_b10 (wp_3_readSum 5) k1 Q n l2 l3 l4 w → V p l e (RM 19) s m args below meth c 6 ad cy D (AW ad) s.heap 0 0 (MQ below (va_Qi Q (BC ad cy D wm wl0) (AW ad)) args s 0 0 (AW ad)) w wm wl0 10 [(0, .ref (ad 7)), (1, .ref (ad k1)), (2, .int l2), (3, .int l3), (4, .int l4)] [] := by
  intro n
  induction n with
  | zero =>
    intro l2 l3 l4 w h
    exact h.elim
  | succ n ih =>
    intro l2 l3 l4 w h
    unfold wp_3_readProduct_b10 at h
    refine V_iload X (i := 4) 4 dX3_readProduct_10 rfl ?_
    refine V_sipush X (v := (400 : Int32)) dX3_readProduct_12 (by decide) ?_
    obtain ⟨ht, hf⟩ := h
    refine V_icmp_ge X (tgt := 107) dX3_readProduct_15 (by decide) (fun c => ?_) (fun c => ?_)
    · have h := ht c
      refine V_iload_n X (i := 3) 3 dX3_readProduct_107 rfl rfl ?_
      exact V_zret_c X hr dX3_readProduct_108 (bo_z h.1) h.2
    · have h := hf c
      refine V_iload_n X (i := 3) 3 dX3_readProduct_18 rfl rfl ?_
      obtain ⟨ht, hf⟩ := h
      refine V_if_eq X (tgt := 107) dX3_readProduct_19 (by decide) (fun c => ?_) (fun c => ?_)
      · have h := ht c
        refine V_iload_n X (i := 3) 3 dX3_readProduct_107 rfl rfl ?_
        exact V_zret_c X hr dX3_readProduct_108 (bo_z h.1) h.2
      · have h := hf c
        refine V_aload_n X (i := 0) 0 dX3_readProduct_22 rfl rfl ?_
        refine G_3_15 X dX3_readProduct_23 ?_
        refine G_3_45 X dX3_readProduct_26 ?_
        refine V_aload_n X (i := 0) 0 dX3_readProduct_29 rfl rfl ?_
        refine G_3_19 X dX3_readProduct_30 ?_
        obtain ⟨g1, h⟩ := h
        refine V_iald_c X (rfl : SLq 4 = 401) (by decide) (rfl : SK 4 = 14) g1 dX3_readProduct_33 ?_
        refine V_bipush X (v := (42 : Int32)) dX3_readProduct_34 (by decide) ?_
        obtain ⟨ht, hf⟩ := h
        refine V_icmp_eq X (tgt := 56) dX3_readProduct_36 (by decide) (fun c => ?_) (fun c => ?_)
        · have h := ht c
          refine V_sub X (ls1 := [(0, .ref (ad 7)), (1, .ref (ad k1)), (2, .int l2), (4, .int l4)]) [0, 1, 2, 4] rfl ?_
          exact v_3_readProduct_b56_q5 X hr hk1 ih _ _ _ h
        · have h := hf c
          refine V_aload_n X (i := 0) 0 dX3_readProduct_39 rfl rfl ?_
          refine G_3_15 X dX3_readProduct_40 ?_
          refine G_3_45 X dX3_readProduct_43 ?_
          refine V_aload_n X (i := 0) 0 dX3_readProduct_46 rfl rfl ?_
          refine G_3_19 X dX3_readProduct_47 ?_
          obtain ⟨g2, h⟩ := h
          refine V_iald_c X (rfl : SLq 4 = 401) (by decide) (rfl : SK 4 = 14) g2 dX3_readProduct_50 ?_
          refine V_bipush X (v := (47 : Int32)) dX3_readProduct_51 (by decide) ?_
          obtain ⟨ht, hf⟩ := h
          refine V_icmp_ne X (tgt := 107) dX3_readProduct_53 (by decide) (fun c => ?_) (fun c => ?_)
          · have h := ht c
            refine V_iload_n X (i := 3) 3 dX3_readProduct_107 rfl rfl ?_
            exact V_zret_c X hr dX3_readProduct_108 (bo_z h.1) h.2
          · have h := hf c
            refine V_sub X (ls1 := [(0, .ref (ad 7)), (1, .ref (ad k1)), (2, .int l2), (4, .int l4)]) [0, 1, 2, 4] rfl ?_
            exact v_3_readProduct_b56_q5 X hr hk1 ih _ _ _ h
set_option maxRecDepth 20000 in
theorem v_3_readProduct_q5  {k1 : Nat} {a2 : Int32} (X : CXq p s m args meth c cX3_readProduct 6 yX3_readProduct.cls ad cy D (AW ad) s.heap) (hr : meth.sig.returnType = (some .boolean)) (hk1 : isLaw k1) {w : Mem} {Q : Int32 → Mem → Prop} (h : wp_3_readProduct (wp_3_readSum 5) k1 a2 w Q) : V p l e (RM 19) s m args below meth c 6 ad cy D (AW ad) s.heap 0 0 (MQ below (va_Qi Q (BC ad cy D wm wl0) (AW ad)) args s 0 0 (AW ad)) w wm wl0 0 [(0, .ref (ad 7)), (1, .ref (ad k1)), (2, .int a2)] [] := by
  unfold wp_3_readProduct at h
  refine V_aload_n X (i := 0) 0 dX3_readProduct_0 rfl rfl ?_
  refine V_aload_n X (i := 1) 1 dX3_readProduct_1 rfl rfl ?_
  refine V_iload_n X (i := 2) 2 dX3_readProduct_2 rfl rfl ?_
  refine K_3_readUnit_q5 X (Or.inl q_732) hk1 h ⟨Nat.le_of_ble_eq_true rfl, Nat.le_of_ble_eq_true rfl⟩ ⟨Nat.zero_le _, Nat.zero_le _⟩ (st1 := []) (Nat.le_of_ble_eq_true rfl) dX3_readProduct_3 (fun r2 w1 h => ?_)
  refine V_istore_n X dX3_readProduct_6 rfl (by decide) rfl (ls1 := [(3, .int r2), (0, .ref (ad 7)), (1, .ref (ad k1)), (2, .int a2)]) rfl ?_
  refine V_iconst X (v := (0 : Int32)) dX3_readProduct_7 (by decide) ?_
  refine V_istore X dX3_readProduct_8 (by decide) rfl (ls1 := [(4, .int (0 : Int32)), (3, .int r2), (0, .ref (ad 7)), (1, .ref (ad k1)), (2, .int a2)]) rfl ?_
  refine V_sub X (ls1 := [(0, .ref (ad 7)), (1, .ref (ad k1)), (2, .int a2), (3, .int r2), (4, .int (0 : Int32))]) [2, 3, 4, 1, 0] rfl ?_
  obtain ⟨nn, h⟩ := h
  exact v_3_readProduct_b10_q5 X hr hk1 nn _ _ _ _ h
theorem c_3_readProduct_q5  {k1 : Nat} {a2 : Int32} (hinj : INJ ad) (hk1 : isLaw k1) {w : Mem} {Q : Int32 → Mem → Prop} (h : wp_3_readProduct (wp_3_readSum 5) k1 a2 w Q) : Met l yX3_readProduct (TBq yX3_readProduct cX3_readProduct 6 (some .boolean)) (RM 19) (va_Pc [.ref (ad 7), .ref (ad k1), .int a2] (PB ad cy D (cmb w wm) wl0)) (va_Qi Q (BC ad cy D wm wl0) (AW ad)) 0 0 (AW ad) := M_enter (by decide) (Nat.le_of_ble_eq_true rfl) hinj (fun p e s m args below meth c X hr => v_3_readProduct_q5 X hr hk1 h)
theorem K_3_readProduct_q5 {own : String} {idx : Nat}  {k1 : Nat} {a2 : Int32} (X : CXq p s m args meth c cc nL own ad cy D A H0) (hL : LK own idx yX3_readProduct) (hk1 : isLaw k1) {w : Mem} {Q : Int32 → Mem → Prop} (h : wp_3_readProduct (wp_3_readSum 5) k1 a2 w Q) (hR : (RM 19).frames + 1 ≤ R.frames ∧ 8 + (6 + 11) + (RM 19).locals ≤ R.locals) (hce : ce ≤ R.cells ∧ sl ≤ R.slots) (hcat : (st1.map fun v => v.category).sum ≤ 8) (hd : decode cc pc = .ok (.invokevirtual idx, 3)) (kk : ∀ (r : Int32) (u : Mem), Q r u → V p l e R s m args below meth c nL ad cy D A H0 ce sl Qs u wm wl0 (pc + 3) ls (.int r :: st1)) : V p l e R s m args below meth c nL ad cy D A H0 ce sl Qs w wm wl0 pc ls (.int a2 :: .ref (ad k1) :: .ref (ad 7) :: st1) := V_callVI_c X mf_3_readProduct hL (rfl : vwCl[3]? = some (RX3, TX3, 9)) (by decide) (rfl : SK 7 = 3) (Nat.lt_of_lt_of_le (by decide : 7 < 150) (CX_nn X)) (c_3_readProduct_q5 X.2.2.2.2.2.2.2.1 hk1 h) (As := [.ref (ad k1), .int a2]) rfl ⟨rfl, rfl⟩ hR hce st1 rfl hcat hd kk
set_option maxRecDepth 20000 in
theorem v_3_readSumF_b107_q5 (X : CXq p s m args meth c cX3_readSum 6 yX3_readSum.cls ad cy D (AW ad) s.heap) (hr : meth.sig.returnType = (some .boolean))  {k1 : Nat} (hk1 : isLaw k1) {Q : Int32 → Mem → Prop} : ∀ (l2 : Int32) (l3 : Int32) (w : Mem), wp_3_readSumF_b107 (wp_3_readSum 5) k1 Q l2 l3 w → V p l e (RM 20) s m args below meth c 6 ad cy D (AW ad) s.heap 0 0 (MQ below (va_Qi Q (BC ad cy D wm wl0) (AW ad)) args s 0 0 (AW ad)) w wm wl0 107 [(1, .ref (ad k1)), (2, .int l2), (3, .int l3)] [] := by
  intro l2 l3 w h
  unfold wp_3_readSumF_b107 at h
  refine V_iload_n X (i := 2) 1 dX3_readSum_107 rfl rfl ?_
  obtain ⟨ht, hf⟩ := h
  refine V_if_ne X (tgt := 115) dX3_readSum_108 (by decide) (fun c => ?_) (fun c => ?_)
  · have h := ht c
    refine V_iload_n X (i := 3) 2 dX3_readSum_115 rfl rfl ?_
    exact V_zret_c X hr dX3_readSum_116 (bo_z h.1) h.2
  · have h := hf c
    refine V_aload_n X (i := 1) 0 dX3_readSum_111 rfl rfl ?_
    refine K_2_endPiece X (Or.inl q_737) hk1 h ⟨Nat.le_of_ble_eq_true rfl, Nat.le_of_ble_eq_true rfl⟩ ⟨Nat.zero_le _, Nat.zero_le _⟩ (st1 := []) (Nat.le_of_ble_eq_true rfl) dX3_readSum_112 (fun w1 h => ?_)
    refine V_iload_n X (i := 3) 2 dX3_readSum_115 rfl rfl ?_
    exact V_zret_c X hr dX3_readSum_116 (bo_z h.1) h.2
set_option maxRecDepth 20000 in
theorem v_3_readSumF_b93_q5 (X : CXq p s m args meth c cX3_readSum 6 yX3_readSum.cls ad cy D (AW ad) s.heap) (hr : meth.sig.returnType = (some .boolean))  {k1 : Nat} (hk1 : isLaw k1) {Q : Int32 → Mem → Prop} {L10 : Int32 → Int32 → Int32 → Mem → Prop} (HL10 : ∀ (l2 : Int32) (l3 : Int32) (l4 : Int32) (w : Mem), L10 l2 l3 l4 w → V p l e (RM 20) s m args below meth c 6 ad cy D (AW ad) s.heap 0 0 (MQ below (va_Qi Q (BC ad cy D wm wl0) (AW ad)) args s 0 0 (AW ad)) w wm wl0 10 [(0, .ref (ad 7)), (1, .ref (ad k1)), (2, .int l2), (3, .int l3), (4, .int l4)] []) : ∀ (l2 : Int32) (l4 : Int32) (l5 : Int32) (s0 : Int32) (w : Mem), wp_3_readSumF_b93 (wp_3_readSum 5) k1 Q L10 l2 l4 l5 s0 w → V p l e (RM 20) s m args below meth c 6 ad cy D (AW ad) s.heap 0 0 (MQ below (va_Qi Q (BC ad cy D wm wl0) (AW ad)) args s 0 0 (AW ad)) w wm wl0 93 [(0, .ref (ad 7)), (1, .ref (ad k1)), (2, .int l2), (4, .int l4), (5, .int l5)] [.int s0] := by
  intro l2 l4 l5 s0 w h
  unfold wp_3_readSumF_b93 at h
  refine V_istore_n X dX3_readSum_93 rfl (by decide) rfl (ls1 := [(3, .int s0), (0, .ref (ad 7)), (1, .ref (ad k1)), (2, .int l2), (4, .int l4), (5, .int l5)]) rfl ?_
  refine V_aload_n X (i := 1) 2 dX3_readSum_94 rfl rfl ?_
  refine V_iload X (i := 5) 5 dX3_readSum_95 rfl ?_
  refine V_iconst X (v := (0 : Int32)) dX3_readSum_97 (by decide) ?_
  refine K_2_add X (Or.inl q_736) hk1 h ⟨Nat.le_of_ble_eq_true rfl, Nat.le_of_ble_eq_true rfl⟩ ⟨Nat.zero_le _, Nat.zero_le _⟩ (st1 := []) (Nat.le_of_ble_eq_true rfl) dX3_readSum_98 (fun w1 h => ?_)
  obtain ⟨x2, ex2⟩ : ∃ y : Int32, y = l4 + (1 : Int32) := ⟨_, rfl⟩
  have h := h x2 ex2
  refine V_iinc X 4 dX3_readSum_101 rfl (by decide) (by rw [ex2]; rfl) (ls1 := [(4, .int x2), (3, .int s0), (0, .ref (ad 7)), (1, .ref (ad k1)), (2, .int l2), (5, .int l5)]) rfl ?_
  refine V_goto X (tgt := 10) dX3_readSum_104 (by decide) ?_
  refine V_sub X (ls1 := [(0, .ref (ad 7)), (1, .ref (ad k1)), (2, .int l2), (3, .int s0), (4, .int x2)]) [2, 3, 4, 1, 0] rfl ?_
  exact HL10 _ _ _ _ h
set_option maxRecDepth 20000 in
theorem v_3_readSumF_b92_q5 (X : CXq p s m args meth c cX3_readSum 6 yX3_readSum.cls ad cy D (AW ad) s.heap) (hr : meth.sig.returnType = (some .boolean))  {k1 : Nat} (hk1 : isLaw k1) {Q : Int32 → Mem → Prop} {L10 : Int32 → Int32 → Int32 → Mem → Prop} (HL10 : ∀ (l2 : Int32) (l3 : Int32) (l4 : Int32) (w : Mem), L10 l2 l3 l4 w → V p l e (RM 20) s m args below meth c 6 ad cy D (AW ad) s.heap 0 0 (MQ below (va_Qi Q (BC ad cy D wm wl0) (AW ad)) args s 0 0 (AW ad)) w wm wl0 10 [(0, .ref (ad 7)), (1, .ref (ad k1)), (2, .int l2), (3, .int l3), (4, .int l4)] []) : ∀ (l2 : Int32) (l4 : Int32) (l5 : Int32) (w : Mem), wp_3_readSumF_b92 (wp_3_readSum 5) k1 Q L10 l2 l4 l5 w → V p l e (RM 20) s m args below meth c 6 ad cy D (AW ad) s.heap 0 0 (MQ below (va_Qi Q (BC ad cy D wm wl0) (AW ad)) args s 0 0 (AW ad)) w wm wl0 92 [(0, .ref (ad 7)), (1, .ref (ad k1)), (2, .int l2), (4, .int l4), (5, .int l5)] [] := by
  intro l2 l4 l5 w h
  unfold wp_3_readSumF_b92 at h
  refine V_iconst X (v := (0 : Int32)) dX3_readSum_92 (by decide) ?_
  refine V_sub X (ls1 := [(0, .ref (ad 7)), (1, .ref (ad k1)), (2, .int l2), (4, .int l4), (5, .int l5)]) [0, 1, 2, 3, 4] rfl ?_
  exact v_3_readSumF_b93_q5 X hr hk1 HL10 _ _ _ _ _ h
set_option maxRecDepth 20000 in
theorem v_3_readSumF_b56_q5 (X : CXq p s m args meth c cX3_readSum 6 yX3_readSum.cls ad cy D (AW ad) s.heap) (hr : meth.sig.returnType = (some .boolean))  {k1 : Nat} (hk1 : isLaw k1) {Q : Int32 → Mem → Prop} {L10 : Int32 → Int32 → Int32 → Mem → Prop} (HL10 : ∀ (l2 : Int32) (l3 : Int32) (l4 : Int32) (w : Mem), L10 l2 l3 l4 w → V p l e (RM 20) s m args below meth c 6 ad cy D (AW ad) s.heap 0 0 (MQ below (va_Qi Q (BC ad cy D wm wl0) (AW ad)) args s 0 0 (AW ad)) w wm wl0 10 [(0, .ref (ad 7)), (1, .ref (ad k1)), (2, .int l2), (3, .int l3), (4, .int l4)] []) : ∀ (l2 : Int32) (l4 : Int32) (w : Mem), wp_3_readSumF_b56 (wp_3_readSum 5) k1 Q L10 l2 l4 w → V p l e (RM 20) s m args below meth c 6 ad cy D (AW ad) s.heap 0 0 (MQ below (va_Qi Q (BC ad cy D wm wl0) (AW ad)) args s 0 0 (AW ad)) w wm wl0 56 [(0, .ref (ad 7)), (1, .ref (ad k1)), (2, .int l2), (4, .int l4)] [] := by
  intro l2 l4 w h
  unfold wp_3_readSumF_b56 at h
  refine V_aload_n X (i := 0) 0 dX3_readSum_56 rfl rfl ?_
  refine G_3_15 X dX3_readSum_57 ?_
  refine G_3_45 X dX3_readSum_60 ?_
  refine V_aload_n X (i := 0) 0 dX3_readSum_63 rfl rfl ?_
  refine G_3_19 X dX3_readSum_64 ?_
  obtain ⟨g1, h⟩ := h
  refine V_iald_c X (rfl : SLq 4 = 401) (by decide) (rfl : SK 4 = 14) g1 dX3_readSum_67 ?_
  obtain ⟨x2, ex2⟩ : ∃ y : Int32, y = (w 4 (ix (w 7 3))) := ⟨_, rfl⟩
  have h := h x2 ex2
  refine V_istore X dX3_readSum_68 (by decide) ex2 (ls1 := [(5, .int x2), (0, .ref (ad 7)), (1, .ref (ad k1)), (2, .int l2), (4, .int l4)]) rfl ?_
  refine V_aload_n X (i := 0) 1 dX3_readSum_70 rfl rfl ?_
  refine V_iload X (i := 5) 0 dX3_readSum_71 rfl ?_
  refine K_3_takes X (Or.inl q_702) h ⟨Nat.le_of_ble_eq_true rfl, Nat.le_of_ble_eq_true rfl⟩ ⟨Nat.zero_le _, Nat.zero_le _⟩ (st1 := []) (Nat.le_of_ble_eq_true rfl) dX3_readSum_73 (fun r4 w3 h => ?_)
  obtain ⟨ht, hf⟩ := h
  refine V_if_eq X (tgt := 92) dX3_readSum_76 (by decide) (fun c => ?_) (fun c => ?_)
  · have h := ht c
    refine V_sub X (ls1 := [(0, .ref (ad 7)), (1, .ref (ad k1)), (2, .int l2), (4, .int l4), (5, .int x2)]) [1, 2, 3, 4, 0] rfl ?_
    exact v_3_readSumF_b92_q5 X hr hk1 HL10 _ _ _ _ h
  · have h := hf c
    refine V_aload_n X (i := 0) 1 dX3_readSum_79 rfl rfl ?_
    refine V_aload_n X (i := 1) 2 dX3_readSum_80 rfl rfl ?_
    refine V_iload_n X (i := 2) 3 dX3_readSum_81 rfl rfl ?_
    refine K_3_readProduct_q5 X (Or.inl q_728) hk1 h ⟨Nat.le_of_ble_eq_true rfl, Nat.le_of_ble_eq_true rfl⟩ ⟨Nat.zero_le _, Nat.zero_le _⟩ (st1 := []) (Nat.le_of_ble_eq_true rfl) dX3_readSum_82 (fun r6 w5 h => ?_)
    obtain ⟨ht, hf⟩ := h
    refine V_if_eq X (tgt := 92) dX3_readSum_85 (by decide) (fun c => ?_) (fun c => ?_)
    · have h := ht c
      refine V_sub X (ls1 := [(0, .ref (ad 7)), (1, .ref (ad k1)), (2, .int l2), (4, .int l4), (5, .int x2)]) [1, 2, 3, 4, 0] rfl ?_
      exact v_3_readSumF_b92_q5 X hr hk1 HL10 _ _ _ _ h
    · have h := hf c
      refine V_iconst X (v := (1 : Int32)) dX3_readSum_88 (by decide) ?_
      refine V_goto X (tgt := 93) dX3_readSum_89 (by decide) ?_
      refine V_sub X (ls1 := [(0, .ref (ad 7)), (1, .ref (ad k1)), (2, .int l2), (4, .int l4), (5, .int x2)]) [1, 2, 3, 4, 0] rfl ?_
      exact v_3_readSumF_b93_q5 X hr hk1 HL10 _ _ _ _ _ h
set_option maxRecDepth 20000 in
theorem v_3_readSumF_b10_q5 (X : CXq p s m args meth c cX3_readSum 6 yX3_readSum.cls ad cy D (AW ad) s.heap) (hr : meth.sig.returnType = (some .boolean))  {k1 : Nat} (hk1 : isLaw k1) {Q : Int32 → Mem → Prop} : ∀ (n : Nat) (l2 : Int32) (l3 : Int32) (l4 : Int32) (w : Mem), wp_3_readSumF_b10 (wp_3_readSum 5) k1 Q n l2 l3 l4 w → V p l e (RM 20) s m args below meth c 6 ad cy D (AW ad) s.heap 0 0 (MQ below (va_Qi Q (BC ad cy D wm wl0) (AW ad)) args s 0 0 (AW ad)) w wm wl0 10 [(0, .ref (ad 7)), (1, .ref (ad k1)), (2, .int l2), (3, .int l3), (4, .int l4)] [] := by
  intro n
  induction n with
  | zero =>
    intro l2 l3 l4 w h
    exact h.elim
  | succ n ih =>
    intro l2 l3 l4 w h
    unfold wp_3_readSumF_b10 at h
    refine V_iload X (i := 4) 4 dX3_readSum_10 rfl ?_
    refine V_sipush X (v := (400 : Int32)) dX3_readSum_12 (by decide) ?_
    obtain ⟨ht, hf⟩ := h
    refine V_icmp_ge X (tgt := 107) dX3_readSum_15 (by decide) (fun c => ?_) (fun c => ?_)
    · have h := ht c
      refine V_sub X (ls1 := [(1, .ref (ad k1)), (2, .int l2), (3, .int l3)]) [1, 2, 3] rfl ?_
      exact v_3_readSumF_b107_q5 X hr hk1 _ _ _ h
    · have h := hf c
      refine V_iload_n X (i := 3) 3 dX3_readSum_18 rfl rfl ?_
      obtain ⟨ht, hf⟩ := h
      refine V_if_eq X (tgt := 107) dX3_readSum_19 (by decide) (fun c => ?_) (fun c => ?_)
      · have h := ht c
        refine V_sub X (ls1 := [(1, .ref (ad k1)), (2, .int l2), (3, .int l3)]) [1, 2, 3] rfl ?_
        exact v_3_readSumF_b107_q5 X hr hk1 _ _ _ h
      · have h := hf c
        refine V_aload_n X (i := 0) 0 dX3_readSum_22 rfl rfl ?_
        refine G_3_15 X dX3_readSum_23 ?_
        refine G_3_45 X dX3_readSum_26 ?_
        refine V_aload_n X (i := 0) 0 dX3_readSum_29 rfl rfl ?_
        refine G_3_19 X dX3_readSum_30 ?_
        obtain ⟨g1, h⟩ := h
        refine V_iald_c X (rfl : SLq 4 = 401) (by decide) (rfl : SK 4 = 14) g1 dX3_readSum_33 ?_
        refine V_bipush X (v := (43 : Int32)) dX3_readSum_34 (by decide) ?_
        obtain ⟨ht, hf⟩ := h
        refine V_icmp_eq X (tgt := 56) dX3_readSum_36 (by decide) (fun c => ?_) (fun c => ?_)
        · have h := ht c
          refine V_sub X (ls1 := [(0, .ref (ad 7)), (1, .ref (ad k1)), (2, .int l2), (4, .int l4)]) [0, 1, 2, 4] rfl ?_
          exact v_3_readSumF_b56_q5 X hr hk1 ih _ _ _ h
        · have h := hf c
          refine V_aload_n X (i := 0) 0 dX3_readSum_39 rfl rfl ?_
          refine G_3_15 X dX3_readSum_40 ?_
          refine G_3_45 X dX3_readSum_43 ?_
          refine V_aload_n X (i := 0) 0 dX3_readSum_46 rfl rfl ?_
          refine G_3_19 X dX3_readSum_47 ?_
          obtain ⟨g2, h⟩ := h
          refine V_iald_c X (rfl : SLq 4 = 401) (by decide) (rfl : SK 4 = 14) g2 dX3_readSum_50 ?_
          refine V_bipush X (v := (45 : Int32)) dX3_readSum_51 (by decide) ?_
          obtain ⟨ht, hf⟩ := h
          refine V_icmp_ne X (tgt := 107) dX3_readSum_53 (by decide) (fun c => ?_) (fun c => ?_)
          · have h := ht c
            refine V_sub X (ls1 := [(1, .ref (ad k1)), (2, .int l2), (3, .int l3)]) [1, 2, 3] rfl ?_
            exact v_3_readSumF_b107_q5 X hr hk1 _ _ _ h
          · have h := hf c
            refine V_sub X (ls1 := [(0, .ref (ad 7)), (1, .ref (ad k1)), (2, .int l2), (4, .int l4)]) [0, 1, 2, 4] rfl ?_
            exact v_3_readSumF_b56_q5 X hr hk1 ih _ _ _ h
set_option maxRecDepth 20000 in
theorem v_3_readSumF_q5  {k1 : Nat} {a2 : Int32} (X : CXq p s m args meth c cX3_readSum 6 yX3_readSum.cls ad cy D (AW ad) s.heap) (hr : meth.sig.returnType = (some .boolean)) (hk1 : isLaw k1) {w : Mem} {Q : Int32 → Mem → Prop} (h : wp_3_readSumF (wp_3_readSum 5) k1 a2 w Q) : V p l e (RM 20) s m args below meth c 6 ad cy D (AW ad) s.heap 0 0 (MQ below (va_Qi Q (BC ad cy D wm wl0) (AW ad)) args s 0 0 (AW ad)) w wm wl0 0 [(0, .ref (ad 7)), (1, .ref (ad k1)), (2, .int a2)] [] := by
  unfold wp_3_readSumF at h
  refine V_aload_n X (i := 0) 0 dX3_readSum_0 rfl rfl ?_
  refine V_aload_n X (i := 1) 1 dX3_readSum_1 rfl rfl ?_
  refine V_iload_n X (i := 2) 2 dX3_readSum_2 rfl rfl ?_
  refine K_3_readProduct_q5 X (Or.inl q_728) hk1 h ⟨Nat.le_of_ble_eq_true rfl, Nat.le_of_ble_eq_true rfl⟩ ⟨Nat.zero_le _, Nat.zero_le _⟩ (st1 := []) (Nat.le_of_ble_eq_true rfl) dX3_readSum_3 (fun r2 w1 h => ?_)
  refine V_istore_n X dX3_readSum_6 rfl (by decide) rfl (ls1 := [(3, .int r2), (0, .ref (ad 7)), (1, .ref (ad k1)), (2, .int a2)]) rfl ?_
  refine V_iconst X (v := (0 : Int32)) dX3_readSum_7 (by decide) ?_
  refine V_istore X dX3_readSum_8 (by decide) rfl (ls1 := [(4, .int (0 : Int32)), (3, .int r2), (0, .ref (ad 7)), (1, .ref (ad k1)), (2, .int a2)]) rfl ?_
  refine V_sub X (ls1 := [(0, .ref (ad 7)), (1, .ref (ad k1)), (2, .int a2), (3, .int r2), (4, .int (0 : Int32))]) [2, 3, 4, 1, 0] rfl ?_
  obtain ⟨nn, h⟩ := h
  exact v_3_readSumF_b10_q5 X hr hk1 nn _ _ _ _ h
theorem c_3_readSumF_q5  {k1 : Nat} {a2 : Int32} (hinj : INJ ad) (hk1 : isLaw k1) {w : Mem} {Q : Int32 → Mem → Prop} (h : wp_3_readSumF (wp_3_readSum 5) k1 a2 w Q) : Met l yX3_readSum (TBq yX3_readSum cX3_readSum 6 (some .boolean)) (RM 20) (va_Pc [.ref (ad 7), .ref (ad k1), .int a2] (PB ad cy D (cmb w wm) wl0)) (va_Qi Q (BC ad cy D wm wl0) (AW ad)) 0 0 (AW ad) := M_enter (by decide) (Nat.le_of_ble_eq_true rfl) hinj (fun p e s m args below meth c X hr => v_3_readSumF_q5 X hr hk1 h)
theorem K_3_readSumF_q5 {own : String} {idx : Nat}  {k1 : Nat} {a2 : Int32} (X : CXq p s m args meth c cc nL own ad cy D A H0) (hL : LK own idx yX3_readSum) (hk1 : isLaw k1) {w : Mem} {Q : Int32 → Mem → Prop} (h : wp_3_readSumF (wp_3_readSum 5) k1 a2 w Q) (hR : (RM 20).frames + 1 ≤ R.frames ∧ 8 + (6 + 11) + (RM 20).locals ≤ R.locals) (hce : ce ≤ R.cells ∧ sl ≤ R.slots) (hcat : (st1.map fun v => v.category).sum ≤ 8) (hd : decode cc pc = .ok (.invokevirtual idx, 3)) (kk : ∀ (r : Int32) (u : Mem), Q r u → V p l e R s m args below meth c nL ad cy D A H0 ce sl Qs u wm wl0 (pc + 3) ls (.int r :: st1)) : V p l e R s m args below meth c nL ad cy D A H0 ce sl Qs w wm wl0 pc ls (.int a2 :: .ref (ad k1) :: .ref (ad 7) :: st1) := V_callVI_c X mf_3_readSumF hL (rfl : vwCl[3]? = some (RX3, TX3, 9)) (by decide) (rfl : SK 7 = 3) (Nat.lt_of_lt_of_le (by decide : 7 < 150) (CX_nn X)) (c_3_readSumF_q5 X.2.2.2.2.2.2.2.1 hk1 h) (As := [.ref (ad k1), .int a2]) rfl ⟨rfl, rfl⟩ hR hce st1 rfl hcat hd kk
theorem K_3_readSum_6 {own : String} {idx : Nat}  {k1 : Nat} {a2 : Int32} (X : CXq p s m args meth c cc nL own ad cy D A H0) (hL : LK own idx yX3_readSum) (hk1 : isLaw k1) {w : Mem} {Q : Int32 → Mem → Prop} (h : wp_3_readSum 6 k1 a2 w Q) (hR : (RM 20).frames + 1 ≤ R.frames ∧ 8 + (6 + 11) + (RM 20).locals ≤ R.locals) (hce : ce ≤ R.cells ∧ sl ≤ R.slots) (hcat : (st1.map fun v => v.category).sum ≤ 8) (hd : decode cc pc = .ok (.invokevirtual idx, 3)) (kk : ∀ (r : Int32) (u : Mem), Q r u → V p l e R s m args below meth c nL ad cy D A H0 ce sl Qs u wm wl0 (pc + 3) ls (.int r :: st1)) : V p l e R s m args below meth c nL ad cy D A H0 ce sl Qs w wm wl0 pc ls (.int a2 :: .ref (ad k1) :: .ref (ad 7) :: st1) := K_3_readSumF_q5 X hL hk1 h hR hce hcat hd kk
set_option maxRecDepth 20000 in
theorem v_3_readUnit_b127_q6 (X : CXq p s m args meth c cX3_readUnit 4 yX3_readUnit.cls ad cy D (AW ad) s.heap) (hr : meth.sig.returnType = (some .boolean))  {k1 : Nat} (hk1 : isLaw k1) {Q : Int32 → Mem → Prop} : ∀ (w : Mem), wp_3_readUnit_b127 (wp_3_readSum 6) k1 Q w → V p l e (RM 21) s m args below meth c 4 ad cy D (AW ad) s.heap 0 0 (MQ below (va_Qi Q (BC ad cy D wm wl0) (AW ad)) args s 0 0 (AW ad)) w wm wl0 127 [] [] := by
  intro w h
  unfold wp_3_readUnit_b127 at h
  refine V_iconst X (v := (0 : Int32)) dX3_readUnit_127 (by decide) ?_
  exact V_zret_c X hr dX3_readUnit_128 rfl h
set_option maxRecDepth 20000 in
theorem v_3_readUnit_q6  {k1 : Nat} {a2 : Int32} (X : CXq p s m args meth c cX3_readUnit 4 yX3_readUnit.cls ad cy D (AW ad) s.heap) (hr : meth.sig.returnType = (some .boolean)) (hk1 : isLaw k1) {w : Mem} {Q : Int32 → Mem → Prop} (h : wp_3_readUnit (wp_3_readSum 6) k1 a2 w Q) : V p l e (RM 21) s m args below meth c 4 ad cy D (AW ad) s.heap 0 0 (MQ below (va_Qi Q (BC ad cy D wm wl0) (AW ad)) args s 0 0 (AW ad)) w wm wl0 0 [(0, .ref (ad 7)), (1, .ref (ad k1)), (2, .int a2)] [] := by
  unfold wp_3_readUnit at h
  refine V_aload_n X (i := 0) 0 dX3_readUnit_0 rfl rfl ?_
  refine G_3_15 X dX3_readUnit_1 ?_
  refine G_3_45 X dX3_readUnit_4 ?_
  refine V_aload_n X (i := 0) 0 dX3_readUnit_7 rfl rfl ?_
  refine G_3_19 X dX3_readUnit_8 ?_
  obtain ⟨g1, h⟩ := h
  refine V_iald_c X (rfl : SLq 4 = 401) (by decide) (rfl : SK 4 = 14) g1 dX3_readUnit_11 ?_
  obtain ⟨x2, ex2⟩ : ∃ y : Int32, y = (w 4 (ix (w 7 3))) := ⟨_, rfl⟩
  have h := h x2 ex2
  refine V_istore_n X dX3_readUnit_12 rfl (by decide) ex2 (ls1 := [(3, .int x2), (0, .ref (ad 7)), (1, .ref (ad k1)), (2, .int a2)]) rfl ?_
  refine V_iload_n X (i := 3) 0 dX3_readUnit_13 rfl rfl ?_
  refine V_iconst X (v := (3 : Int32)) dX3_readUnit_14 (by decide) ?_
  obtain ⟨ht, hf⟩ := h
  refine V_icmp_ne X (tgt := 41) dX3_readUnit_15 (by decide) (fun c => ?_) (fun c => ?_)
  · have h := ht c
    refine V_iload_n X (i := 3) 0 dX3_readUnit_41 rfl rfl ?_
    refine V_sipush X (v := (146 : Int32)) dX3_readUnit_42 (by decide) ?_
    refine V_sipush X (v := (156 : Int32)) dX3_readUnit_45 (by decide) ?_
    refine K_11_within X (Or.inr ⟨_, q_714⟩) h ⟨Nat.le_of_ble_eq_true rfl, Nat.le_of_ble_eq_true rfl⟩ ⟨Nat.zero_le _, Nat.zero_le _⟩ (st1 := []) (Nat.le_of_ble_eq_true rfl) dX3_readUnit_48 (fun r4 w3 h => ?_)
    obtain ⟨ht, hf⟩ := h
    refine V_if_eq X (tgt := 70) dX3_readUnit_51 (by decide) (fun c => ?_) (fun c => ?_)
    · have h := ht c
      refine V_iload_n X (i := 3) 0 dX3_readUnit_70 rfl rfl ?_
      refine V_bipush X (v := (40 : Int32)) dX3_readUnit_71 (by decide) ?_
      obtain ⟨ht, hf⟩ := h
      refine V_icmp_eq X (tgt := 82) dX3_readUnit_73 (by decide) (fun c => ?_) (fun c => ?_)
      · have h := ht c
        refine V_iload_n X (i := 2) 3 dX3_readUnit_82 rfl rfl ?_
        refine V_bipush X (v := (6 : Int32)) dX3_readUnit_83 (by decide) ?_
        obtain ⟨ht, hf⟩ := h
        refine V_icmp_lt X (tgt := 94) dX3_readUnit_85 (by decide) (fun c => ?_) (fun c => ?_)
        · have h := ht c
          refine V_aload_n X (i := 0) 1 dX3_readUnit_94 rfl rfl ?_
          refine V_bipush X (v := (40 : Int32)) dX3_readUnit_95 (by decide) ?_
          refine K_3_takes X (Or.inl q_702) h ⟨Nat.le_of_ble_eq_true rfl, Nat.le_of_ble_eq_true rfl⟩ ⟨Nat.zero_le _, Nat.zero_le _⟩ (st1 := []) (Nat.le_of_ble_eq_true rfl) dX3_readUnit_97 (fun r6 w5 h => ?_)
          obtain ⟨ht, hf⟩ := h
          refine V_if_eq X (tgt := 127) dX3_readUnit_100 (by decide) (fun c => ?_) (fun c => ?_)
          · have h := ht c
            refine V_sub X (ls1 := []) [] rfl ?_
            exact v_3_readUnit_b127_q6 X hr hk1 _ h
          · have h := hf c
            refine V_aload_n X (i := 0) 1 dX3_readUnit_103 rfl rfl ?_
            refine V_aload_n X (i := 1) 2 dX3_readUnit_104 rfl rfl ?_
            refine V_iload_n X (i := 2) 3 dX3_readUnit_105 rfl rfl ?_
            refine V_iconst X (v := (1 : Int32)) dX3_readUnit_106 (by decide) ?_
            refine V_iadd X dX3_readUnit_107 ?_
            refine K_3_readSum_6 X (Or.inl q_724) hk1 h ⟨Nat.le_of_ble_eq_true rfl, Nat.le_of_ble_eq_true rfl⟩ ⟨Nat.zero_le _, Nat.zero_le _⟩ (st1 := []) (Nat.le_of_ble_eq_true rfl) dX3_readUnit_108 (fun r8 w7 h => ?_)
            obtain ⟨ht, hf⟩ := h
            refine V_if_eq X (tgt := 127) dX3_readUnit_111 (by decide) (fun c => ?_) (fun c => ?_)
            · have h := ht c
              refine V_sub X (ls1 := []) [] rfl ?_
              exact v_3_readUnit_b127_q6 X hr hk1 _ h
            · have h := hf c
              refine V_aload_n X (i := 0) 1 dX3_readUnit_114 rfl rfl ?_
              refine V_bipush X (v := (41 : Int32)) dX3_readUnit_115 (by decide) ?_
              refine K_3_takes X (Or.inl q_702) h ⟨Nat.le_of_ble_eq_true rfl, Nat.le_of_ble_eq_true rfl⟩ ⟨Nat.zero_le _, Nat.zero_le _⟩ (st1 := []) (Nat.le_of_ble_eq_true rfl) dX3_readUnit_117 (fun r10 w9 h => ?_)
              obtain ⟨ht, hf⟩ := h
              refine V_if_eq X (tgt := 127) dX3_readUnit_120 (by decide) (fun c => ?_) (fun c => ?_)
              · have h := ht c
                refine V_sub X (ls1 := []) [] rfl ?_
                exact v_3_readUnit_b127_q6 X hr hk1 _ h
              · have h := hf c
                refine V_iconst X (v := (1 : Int32)) dX3_readUnit_123 (by decide) ?_
                refine V_goto X (tgt := 128) dX3_readUnit_124 (by decide) ?_
                exact V_zret_c X hr dX3_readUnit_128 rfl h
        · have h := hf c
          refine V_aload_n X (i := 0) 1 dX3_readUnit_88 rfl rfl ?_
          refine V_iconst X (v := (2 : Int32)) dX3_readUnit_89 (by decide) ?_
          refine K_3_fails X (Or.inl q_694) h ⟨Nat.le_of_ble_eq_true rfl, Nat.le_of_ble_eq_true rfl⟩ ⟨Nat.zero_le _, Nat.zero_le _⟩ (st1 := []) (Nat.le_of_ble_eq_true rfl) dX3_readUnit_90 (fun r12 w11 h => ?_)
          exact V_zret_c X hr dX3_readUnit_93 (bo_z h.1) h.2
      · have h := hf c
        refine V_aload_n X (i := 0) 1 dX3_readUnit_76 rfl rfl ?_
        refine V_iconst X (v := (1 : Int32)) dX3_readUnit_77 (by decide) ?_
        refine K_3_fails X (Or.inl q_694) h ⟨Nat.le_of_ble_eq_true rfl, Nat.le_of_ble_eq_true rfl⟩ ⟨Nat.zero_le _, Nat.zero_le _⟩ (st1 := []) (Nat.le_of_ble_eq_true rfl) dX3_readUnit_78 (fun r14 w13 h => ?_)
        exact V_zret_c X hr dX3_readUnit_81 (bo_z h.1) h.2
    · have h := hf c
      refine V_aload_n X (i := 1) 2 dX3_readUnit_54 rfl rfl ?_
      refine V_iconst X (v := (1 : Int32)) dX3_readUnit_55 (by decide) ?_
      refine V_iload_n X (i := 3) 0 dX3_readUnit_56 rfl rfl ?_
      refine V_sipush X (v := (146 : Int32)) dX3_readUnit_57 (by decide) ?_
      refine V_isub X dX3_readUnit_60 ?_
      refine K_2_add X (Or.inl q_736) hk1 h ⟨Nat.le_of_ble_eq_true rfl, Nat.le_of_ble_eq_true rfl⟩ ⟨Nat.zero_le _, Nat.zero_le _⟩ (st1 := []) (Nat.le_of_ble_eq_true rfl) dX3_readUnit_61 (fun w15 h => ?_)
      refine V_aload_n X (i := 0) 1 dX3_readUnit_64 rfl rfl ?_
      refine V_iload_n X (i := 3) 0 dX3_readUnit_65 rfl rfl ?_
      refine K_3_takes X (Or.inl q_702) h ⟨Nat.le_of_ble_eq_true rfl, Nat.le_of_ble_eq_true rfl⟩ ⟨Nat.zero_le _, Nat.zero_le _⟩ (st1 := []) (Nat.le_of_ble_eq_true rfl) dX3_readUnit_66 (fun r17 w16 h => ?_)
      exact V_zret_c X hr dX3_readUnit_69 (bo_z h.1) h.2
  · have h := hf c
    refine V_aload_n X (i := 1) 2 dX3_readUnit_18 rfl rfl ?_
    refine V_iconst X (v := (0 : Int32)) dX3_readUnit_19 (by decide) ?_
    refine V_aload_n X (i := 0) 1 dX3_readUnit_20 rfl rfl ?_
    refine G_3_15 X dX3_readUnit_21 ?_
    refine G_3_170 X dX3_readUnit_24 ?_
    refine V_aload_n X (i := 0) 1 dX3_readUnit_27 rfl rfl ?_
    refine G_3_19 X dX3_readUnit_28 ?_
    obtain ⟨g18, h⟩ := h
    refine V_iald_c X (rfl : SLq 6 = 401) (by decide) (rfl : SK 6 = 14) g18 dX3_readUnit_31 ?_
    refine K_2_add X (Or.inl q_736) hk1 h ⟨Nat.le_of_ble_eq_true rfl, Nat.le_of_ble_eq_true rfl⟩ ⟨Nat.zero_le _, Nat.zero_le _⟩ (st1 := []) (Nat.le_of_ble_eq_true rfl) dX3_readUnit_32 (fun w19 h => ?_)
    refine V_aload_n X (i := 0) 1 dX3_readUnit_35 rfl rfl ?_
    refine V_iconst X (v := (3 : Int32)) dX3_readUnit_36 (by decide) ?_
    refine K_3_takes X (Or.inl q_702) h ⟨Nat.le_of_ble_eq_true rfl, Nat.le_of_ble_eq_true rfl⟩ ⟨Nat.zero_le _, Nat.zero_le _⟩ (st1 := []) (Nat.le_of_ble_eq_true rfl) dX3_readUnit_37 (fun r21 w20 h => ?_)
    exact V_zret_c X hr dX3_readUnit_40 (bo_z h.1) h.2
theorem c_3_readUnit_q6  {k1 : Nat} {a2 : Int32} (hinj : INJ ad) (hk1 : isLaw k1) {w : Mem} {Q : Int32 → Mem → Prop} (h : wp_3_readUnit (wp_3_readSum 6) k1 a2 w Q) : Met l yX3_readUnit (TBq yX3_readUnit cX3_readUnit 4 (some .boolean)) (RM 21) (va_Pc [.ref (ad 7), .ref (ad k1), .int a2] (PB ad cy D (cmb w wm) wl0)) (va_Qi Q (BC ad cy D wm wl0) (AW ad)) 0 0 (AW ad) := M_enter (by decide) (Nat.le_of_ble_eq_true rfl) hinj (fun p e s m args below meth c X hr => v_3_readUnit_q6 X hr hk1 h)
theorem K_3_readUnit_q6 {own : String} {idx : Nat}  {k1 : Nat} {a2 : Int32} (X : CXq p s m args meth c cc nL own ad cy D A H0) (hL : LK own idx yX3_readUnit) (hk1 : isLaw k1) {w : Mem} {Q : Int32 → Mem → Prop} (h : wp_3_readUnit (wp_3_readSum 6) k1 a2 w Q) (hR : (RM 21).frames + 1 ≤ R.frames ∧ 8 + (4 + 11) + (RM 21).locals ≤ R.locals) (hce : ce ≤ R.cells ∧ sl ≤ R.slots) (hcat : (st1.map fun v => v.category).sum ≤ 8) (hd : decode cc pc = .ok (.invokevirtual idx, 3)) (kk : ∀ (r : Int32) (u : Mem), Q r u → V p l e R s m args below meth c nL ad cy D A H0 ce sl Qs u wm wl0 (pc + 3) ls (.int r :: st1)) : V p l e R s m args below meth c nL ad cy D A H0 ce sl Qs w wm wl0 pc ls (.int a2 :: .ref (ad k1) :: .ref (ad 7) :: st1) := V_callVI_c X mf_3_readUnit hL (rfl : vwCl[3]? = some (RX3, TX3, 9)) (by decide) (rfl : SK 7 = 3) (Nat.lt_of_lt_of_le (by decide : 7 < 150) (CX_nn X)) (c_3_readUnit_q6 X.2.2.2.2.2.2.2.1 hk1 h) (As := [.ref (ad k1), .int a2]) rfl ⟨rfl, rfl⟩ hR hce st1 rfl hcat hd kk
set_option maxRecDepth 20000 in
theorem v_3_readProduct_b93_q6 (X : CXq p s m args meth c cX3_readProduct 6 yX3_readProduct.cls ad cy D (AW ad) s.heap) (hr : meth.sig.returnType = (some .boolean))  {k1 : Nat} (hk1 : isLaw k1) {Q : Int32 → Mem → Prop} {L10 : Int32 → Int32 → Int32 → Mem → Prop} (HL10 : ∀ (l2 : Int32) (l3 : Int32) (l4 : Int32) (w : Mem), L10 l2 l3 l4 w → V p l e (RM 22) s m args below meth c 6 ad cy D (AW ad) s.heap 0 0 (MQ below (va_Qi Q (BC ad cy D wm wl0) (AW ad)) args s 0 0 (AW ad)) w wm wl0 10 [(0, .ref (ad 7)), (1, .ref (ad k1)), (2, .int l2), (3, .int l3), (4, .int l4)] []) : ∀ (l2 : Int32) (l4 : Int32) (l5 : Int32) (s0 : Int32) (w : Mem), wp_3_readProduct_b93 (wp_3_readSum 6) k1 Q L10 l2 l4 l5 s0 w → V p l e (RM 22) s m args below meth c 6 ad cy D (AW ad) s.heap 0 0 (MQ below (va_Qi Q (BC ad cy D wm wl0) (AW ad)) args s 0 0 (AW ad)) w wm wl0 93 [(0, .ref (ad 7)), (1, .ref (ad k1)), (2, .int l2), (4, .int l4), (5, .int l5)] [.int s0] := by
  intro l2 l4 l5 s0 w h
  unfold wp_3_readProduct_b93 at h
  refine V_istore_n X dX3_readProduct_93 rfl (by decide) rfl (ls1 := [(3, .int s0), (0, .ref (ad 7)), (1, .ref (ad k1)), (2, .int l2), (4, .int l4), (5, .int l5)]) rfl ?_
  refine V_aload_n X (i := 1) 2 dX3_readProduct_94 rfl rfl ?_
  refine V_iload X (i := 5) 5 dX3_readProduct_95 rfl ?_
  refine V_iconst X (v := (0 : Int32)) dX3_readProduct_97 (by decide) ?_
  refine K_2_add X (Or.inl q_736) hk1 h ⟨Nat.le_of_ble_eq_true rfl, Nat.le_of_ble_eq_true rfl⟩ ⟨Nat.zero_le _, Nat.zero_le _⟩ (st1 := []) (Nat.le_of_ble_eq_true rfl) dX3_readProduct_98 (fun w1 h => ?_)
  obtain ⟨x2, ex2⟩ : ∃ y : Int32, y = l4 + (1 : Int32) := ⟨_, rfl⟩
  have h := h x2 ex2
  refine V_iinc X 4 dX3_readProduct_101 rfl (by decide) (by rw [ex2]; rfl) (ls1 := [(4, .int x2), (3, .int s0), (0, .ref (ad 7)), (1, .ref (ad k1)), (2, .int l2), (5, .int l5)]) rfl ?_
  refine V_goto X (tgt := 10) dX3_readProduct_104 (by decide) ?_
  refine V_sub X (ls1 := [(0, .ref (ad 7)), (1, .ref (ad k1)), (2, .int l2), (3, .int s0), (4, .int x2)]) [2, 3, 4, 1, 0] rfl ?_
  exact HL10 _ _ _ _ h
set_option maxRecDepth 20000 in
theorem v_3_readProduct_b92_q6 (X : CXq p s m args meth c cX3_readProduct 6 yX3_readProduct.cls ad cy D (AW ad) s.heap) (hr : meth.sig.returnType = (some .boolean))  {k1 : Nat} (hk1 : isLaw k1) {Q : Int32 → Mem → Prop} {L10 : Int32 → Int32 → Int32 → Mem → Prop} (HL10 : ∀ (l2 : Int32) (l3 : Int32) (l4 : Int32) (w : Mem), L10 l2 l3 l4 w → V p l e (RM 22) s m args below meth c 6 ad cy D (AW ad) s.heap 0 0 (MQ below (va_Qi Q (BC ad cy D wm wl0) (AW ad)) args s 0 0 (AW ad)) w wm wl0 10 [(0, .ref (ad 7)), (1, .ref (ad k1)), (2, .int l2), (3, .int l3), (4, .int l4)] []) : ∀ (l2 : Int32) (l4 : Int32) (l5 : Int32) (w : Mem), wp_3_readProduct_b92 (wp_3_readSum 6) k1 Q L10 l2 l4 l5 w → V p l e (RM 22) s m args below meth c 6 ad cy D (AW ad) s.heap 0 0 (MQ below (va_Qi Q (BC ad cy D wm wl0) (AW ad)) args s 0 0 (AW ad)) w wm wl0 92 [(0, .ref (ad 7)), (1, .ref (ad k1)), (2, .int l2), (4, .int l4), (5, .int l5)] [] := by
  intro l2 l4 l5 w h
  unfold wp_3_readProduct_b92 at h
  refine V_iconst X (v := (0 : Int32)) dX3_readProduct_92 (by decide) ?_
  refine V_sub X (ls1 := [(0, .ref (ad 7)), (1, .ref (ad k1)), (2, .int l2), (4, .int l4), (5, .int l5)]) [0, 1, 2, 3, 4] rfl ?_
  exact v_3_readProduct_b93_q6 X hr hk1 HL10 _ _ _ _ _ h
set_option maxRecDepth 20000 in
theorem v_3_readProduct_b56_q6 (X : CXq p s m args meth c cX3_readProduct 6 yX3_readProduct.cls ad cy D (AW ad) s.heap) (hr : meth.sig.returnType = (some .boolean))  {k1 : Nat} (hk1 : isLaw k1) {Q : Int32 → Mem → Prop} {L10 : Int32 → Int32 → Int32 → Mem → Prop} (HL10 : ∀ (l2 : Int32) (l3 : Int32) (l4 : Int32) (w : Mem), L10 l2 l3 l4 w → V p l e (RM 22) s m args below meth c 6 ad cy D (AW ad) s.heap 0 0 (MQ below (va_Qi Q (BC ad cy D wm wl0) (AW ad)) args s 0 0 (AW ad)) w wm wl0 10 [(0, .ref (ad 7)), (1, .ref (ad k1)), (2, .int l2), (3, .int l3), (4, .int l4)] []) : ∀ (l2 : Int32) (l4 : Int32) (w : Mem), wp_3_readProduct_b56 (wp_3_readSum 6) k1 Q L10 l2 l4 w → V p l e (RM 22) s m args below meth c 6 ad cy D (AW ad) s.heap 0 0 (MQ below (va_Qi Q (BC ad cy D wm wl0) (AW ad)) args s 0 0 (AW ad)) w wm wl0 56 [(0, .ref (ad 7)), (1, .ref (ad k1)), (2, .int l2), (4, .int l4)] [] := by
  intro l2 l4 w h
  unfold wp_3_readProduct_b56 at h
  refine V_aload_n X (i := 0) 0 dX3_readProduct_56 rfl rfl ?_
  refine G_3_15 X dX3_readProduct_57 ?_
  refine G_3_45 X dX3_readProduct_60 ?_
  refine V_aload_n X (i := 0) 0 dX3_readProduct_63 rfl rfl ?_
  refine G_3_19 X dX3_readProduct_64 ?_
  obtain ⟨g1, h⟩ := h
  refine V_iald_c X (rfl : SLq 4 = 401) (by decide) (rfl : SK 4 = 14) g1 dX3_readProduct_67 ?_
  obtain ⟨x2, ex2⟩ : ∃ y : Int32, y = (w 4 (ix (w 7 3))) := ⟨_, rfl⟩
  have h := h x2 ex2
  refine V_istore X dX3_readProduct_68 (by decide) ex2 (ls1 := [(5, .int x2), (0, .ref (ad 7)), (1, .ref (ad k1)), (2, .int l2), (4, .int l4)]) rfl ?_
  refine V_aload_n X (i := 0) 1 dX3_readProduct_70 rfl rfl ?_
  refine V_iload X (i := 5) 0 dX3_readProduct_71 rfl ?_
  refine K_3_takes X (Or.inl q_702) h ⟨Nat.le_of_ble_eq_true rfl, Nat.le_of_ble_eq_true rfl⟩ ⟨Nat.zero_le _, Nat.zero_le _⟩ (st1 := []) (Nat.le_of_ble_eq_true rfl) dX3_readProduct_73 (fun r4 w3 h => ?_)
  obtain ⟨ht, hf⟩ := h
  refine V_if_eq X (tgt := 92) dX3_readProduct_76 (by decide) (fun c => ?_) (fun c => ?_)
  · have h := ht c
    refine V_sub X (ls1 := [(0, .ref (ad 7)), (1, .ref (ad k1)), (2, .int l2), (4, .int l4), (5, .int x2)]) [1, 2, 3, 4, 0] rfl ?_
    exact v_3_readProduct_b92_q6 X hr hk1 HL10 _ _ _ _ h
  · have h := hf c
    refine V_aload_n X (i := 0) 1 dX3_readProduct_79 rfl rfl ?_
    refine V_aload_n X (i := 1) 2 dX3_readProduct_80 rfl rfl ?_
    refine V_iload_n X (i := 2) 3 dX3_readProduct_81 rfl rfl ?_
    refine K_3_readUnit_q6 X (Or.inl q_732) hk1 h ⟨Nat.le_of_ble_eq_true rfl, Nat.le_of_ble_eq_true rfl⟩ ⟨Nat.zero_le _, Nat.zero_le _⟩ (st1 := []) (Nat.le_of_ble_eq_true rfl) dX3_readProduct_82 (fun r6 w5 h => ?_)
    obtain ⟨ht, hf⟩ := h
    refine V_if_eq X (tgt := 92) dX3_readProduct_85 (by decide) (fun c => ?_) (fun c => ?_)
    · have h := ht c
      refine V_sub X (ls1 := [(0, .ref (ad 7)), (1, .ref (ad k1)), (2, .int l2), (4, .int l4), (5, .int x2)]) [1, 2, 3, 4, 0] rfl ?_
      exact v_3_readProduct_b92_q6 X hr hk1 HL10 _ _ _ _ h
    · have h := hf c
      refine V_iconst X (v := (1 : Int32)) dX3_readProduct_88 (by decide) ?_
      refine V_goto X (tgt := 93) dX3_readProduct_89 (by decide) ?_
      refine V_sub X (ls1 := [(0, .ref (ad 7)), (1, .ref (ad k1)), (2, .int l2), (4, .int l4), (5, .int x2)]) [1, 2, 3, 4, 0] rfl ?_
      exact v_3_readProduct_b93_q6 X hr hk1 HL10 _ _ _ _ _ h
set_option maxRecDepth 20000 in
theorem v_3_readProduct_b10_q6 (X : CXq p s m args meth c cX3_readProduct 6 yX3_readProduct.cls ad cy D (AW ad) s.heap) (hr : meth.sig.returnType = (some .boolean))  {k1 : Nat} (hk1 : isLaw k1) {Q : Int32 → Mem → Prop} : ∀ (n : Nat) (l2 : Int32) (l3 : Int32) (l4 : Int32) (w : Mem), wp_3_readProduct_b10 (wp_3_readSum 6) k1 Q n l2 l3 l4 w → V p l e (RM 22) s m args below meth c 6 ad cy D (AW ad) s.heap 0 0 (MQ below (va_Qi Q (BC ad cy D wm wl0) (AW ad)) args s 0 0 (AW ad)) w wm wl0 10 [(0, .ref (ad 7)), (1, .ref (ad k1)), (2, .int l2), (3, .int l3), (4, .int l4)] [] := by
  intro n
  induction n with
  | zero =>
    intro l2 l3 l4 w h
    exact h.elim
  | succ n ih =>
    intro l2 l3 l4 w h
    unfold wp_3_readProduct_b10 at h
    refine V_iload X (i := 4) 4 dX3_readProduct_10 rfl ?_
    refine V_sipush X (v := (400 : Int32)) dX3_readProduct_12 (by decide) ?_
    obtain ⟨ht, hf⟩ := h
    refine V_icmp_ge X (tgt := 107) dX3_readProduct_15 (by decide) (fun c => ?_) (fun c => ?_)
    · have h := ht c
      refine V_iload_n X (i := 3) 3 dX3_readProduct_107 rfl rfl ?_
      exact V_zret_c X hr dX3_readProduct_108 (bo_z h.1) h.2
    · have h := hf c
      refine V_iload_n X (i := 3) 3 dX3_readProduct_18 rfl rfl ?_
      obtain ⟨ht, hf⟩ := h
      refine V_if_eq X (tgt := 107) dX3_readProduct_19 (by decide) (fun c => ?_) (fun c => ?_)
      · have h := ht c
        refine V_iload_n X (i := 3) 3 dX3_readProduct_107 rfl rfl ?_
        exact V_zret_c X hr dX3_readProduct_108 (bo_z h.1) h.2
      · have h := hf c
        refine V_aload_n X (i := 0) 0 dX3_readProduct_22 rfl rfl ?_
        refine G_3_15 X dX3_readProduct_23 ?_
        refine G_3_45 X dX3_readProduct_26 ?_
        refine V_aload_n X (i := 0) 0 dX3_readProduct_29 rfl rfl ?_
        refine G_3_19 X dX3_readProduct_30 ?_
        obtain ⟨g1, h⟩ := h
        refine V_iald_c X (rfl : SLq 4 = 401) (by decide) (rfl : SK 4 = 14) g1 dX3_readProduct_33 ?_
        refine V_bipush X (v := (42 : Int32)) dX3_readProduct_34 (by decide) ?_
        obtain ⟨ht, hf⟩ := h
        refine V_icmp_eq X (tgt := 56) dX3_readProduct_36 (by decide) (fun c => ?_) (fun c => ?_)
        · have h := ht c
          refine V_sub X (ls1 := [(0, .ref (ad 7)), (1, .ref (ad k1)), (2, .int l2), (4, .int l4)]) [0, 1, 2, 4] rfl ?_
          exact v_3_readProduct_b56_q6 X hr hk1 ih _ _ _ h
        · have h := hf c
          refine V_aload_n X (i := 0) 0 dX3_readProduct_39 rfl rfl ?_
          refine G_3_15 X dX3_readProduct_40 ?_
          refine G_3_45 X dX3_readProduct_43 ?_
          refine V_aload_n X (i := 0) 0 dX3_readProduct_46 rfl rfl ?_
          refine G_3_19 X dX3_readProduct_47 ?_
          obtain ⟨g2, h⟩ := h
          refine V_iald_c X (rfl : SLq 4 = 401) (by decide) (rfl : SK 4 = 14) g2 dX3_readProduct_50 ?_
          refine V_bipush X (v := (47 : Int32)) dX3_readProduct_51 (by decide) ?_
          obtain ⟨ht, hf⟩ := h
          refine V_icmp_ne X (tgt := 107) dX3_readProduct_53 (by decide) (fun c => ?_) (fun c => ?_)
          · have h := ht c
            refine V_iload_n X (i := 3) 3 dX3_readProduct_107 rfl rfl ?_
            exact V_zret_c X hr dX3_readProduct_108 (bo_z h.1) h.2
          · have h := hf c
            refine V_sub X (ls1 := [(0, .ref (ad 7)), (1, .ref (ad k1)), (2, .int l2), (4, .int l4)]) [0, 1, 2, 4] rfl ?_
            exact v_3_readProduct_b56_q6 X hr hk1 ih _ _ _ h
set_option maxRecDepth 20000 in
theorem v_3_readProduct_q6  {k1 : Nat} {a2 : Int32} (X : CXq p s m args meth c cX3_readProduct 6 yX3_readProduct.cls ad cy D (AW ad) s.heap) (hr : meth.sig.returnType = (some .boolean)) (hk1 : isLaw k1) {w : Mem} {Q : Int32 → Mem → Prop} (h : wp_3_readProduct (wp_3_readSum 6) k1 a2 w Q) : V p l e (RM 22) s m args below meth c 6 ad cy D (AW ad) s.heap 0 0 (MQ below (va_Qi Q (BC ad cy D wm wl0) (AW ad)) args s 0 0 (AW ad)) w wm wl0 0 [(0, .ref (ad 7)), (1, .ref (ad k1)), (2, .int a2)] [] := by
  unfold wp_3_readProduct at h
  refine V_aload_n X (i := 0) 0 dX3_readProduct_0 rfl rfl ?_
  refine V_aload_n X (i := 1) 1 dX3_readProduct_1 rfl rfl ?_
  refine V_iload_n X (i := 2) 2 dX3_readProduct_2 rfl rfl ?_
  refine K_3_readUnit_q6 X (Or.inl q_732) hk1 h ⟨Nat.le_of_ble_eq_true rfl, Nat.le_of_ble_eq_true rfl⟩ ⟨Nat.zero_le _, Nat.zero_le _⟩ (st1 := []) (Nat.le_of_ble_eq_true rfl) dX3_readProduct_3 (fun r2 w1 h => ?_)
  refine V_istore_n X dX3_readProduct_6 rfl (by decide) rfl (ls1 := [(3, .int r2), (0, .ref (ad 7)), (1, .ref (ad k1)), (2, .int a2)]) rfl ?_
  refine V_iconst X (v := (0 : Int32)) dX3_readProduct_7 (by decide) ?_
  refine V_istore X dX3_readProduct_8 (by decide) rfl (ls1 := [(4, .int (0 : Int32)), (3, .int r2), (0, .ref (ad 7)), (1, .ref (ad k1)), (2, .int a2)]) rfl ?_
  refine V_sub X (ls1 := [(0, .ref (ad 7)), (1, .ref (ad k1)), (2, .int a2), (3, .int r2), (4, .int (0 : Int32))]) [2, 3, 4, 1, 0] rfl ?_
  obtain ⟨nn, h⟩ := h
  exact v_3_readProduct_b10_q6 X hr hk1 nn _ _ _ _ h
theorem c_3_readProduct_q6  {k1 : Nat} {a2 : Int32} (hinj : INJ ad) (hk1 : isLaw k1) {w : Mem} {Q : Int32 → Mem → Prop} (h : wp_3_readProduct (wp_3_readSum 6) k1 a2 w Q) : Met l yX3_readProduct (TBq yX3_readProduct cX3_readProduct 6 (some .boolean)) (RM 22) (va_Pc [.ref (ad 7), .ref (ad k1), .int a2] (PB ad cy D (cmb w wm) wl0)) (va_Qi Q (BC ad cy D wm wl0) (AW ad)) 0 0 (AW ad) := M_enter (by decide) (Nat.le_of_ble_eq_true rfl) hinj (fun p e s m args below meth c X hr => v_3_readProduct_q6 X hr hk1 h)
theorem K_3_readProduct_q6 {own : String} {idx : Nat}  {k1 : Nat} {a2 : Int32} (X : CXq p s m args meth c cc nL own ad cy D A H0) (hL : LK own idx yX3_readProduct) (hk1 : isLaw k1) {w : Mem} {Q : Int32 → Mem → Prop} (h : wp_3_readProduct (wp_3_readSum 6) k1 a2 w Q) (hR : (RM 22).frames + 1 ≤ R.frames ∧ 8 + (6 + 11) + (RM 22).locals ≤ R.locals) (hce : ce ≤ R.cells ∧ sl ≤ R.slots) (hcat : (st1.map fun v => v.category).sum ≤ 8) (hd : decode cc pc = .ok (.invokevirtual idx, 3)) (kk : ∀ (r : Int32) (u : Mem), Q r u → V p l e R s m args below meth c nL ad cy D A H0 ce sl Qs u wm wl0 (pc + 3) ls (.int r :: st1)) : V p l e R s m args below meth c nL ad cy D A H0 ce sl Qs w wm wl0 pc ls (.int a2 :: .ref (ad k1) :: .ref (ad 7) :: st1) := V_callVI_c X mf_3_readProduct hL (rfl : vwCl[3]? = some (RX3, TX3, 9)) (by decide) (rfl : SK 7 = 3) (Nat.lt_of_lt_of_le (by decide : 7 < 150) (CX_nn X)) (c_3_readProduct_q6 X.2.2.2.2.2.2.2.1 hk1 h) (As := [.ref (ad k1), .int a2]) rfl ⟨rfl, rfl⟩ hR hce st1 rfl hcat hd kk
set_option maxRecDepth 20000 in
theorem v_3_readSumF_b107_q6 (X : CXq p s m args meth c cX3_readSum 6 yX3_readSum.cls ad cy D (AW ad) s.heap) (hr : meth.sig.returnType = (some .boolean))  {k1 : Nat} (hk1 : isLaw k1) {Q : Int32 → Mem → Prop} : ∀ (l2 : Int32) (l3 : Int32) (w : Mem), wp_3_readSumF_b107 (wp_3_readSum 6) k1 Q l2 l3 w → V p l e (RM 23) s m args below meth c 6 ad cy D (AW ad) s.heap 0 0 (MQ below (va_Qi Q (BC ad cy D wm wl0) (AW ad)) args s 0 0 (AW ad)) w wm wl0 107 [(1, .ref (ad k1)), (2, .int l2), (3, .int l3)] [] := by
  intro l2 l3 w h
  unfold wp_3_readSumF_b107 at h
  refine V_iload_n X (i := 2) 1 dX3_readSum_107 rfl rfl ?_
  obtain ⟨ht, hf⟩ := h
  refine V_if_ne X (tgt := 115) dX3_readSum_108 (by decide) (fun c => ?_) (fun c => ?_)
  · have h := ht c
    refine V_iload_n X (i := 3) 2 dX3_readSum_115 rfl rfl ?_
    exact V_zret_c X hr dX3_readSum_116 (bo_z h.1) h.2
  · have h := hf c
    refine V_aload_n X (i := 1) 0 dX3_readSum_111 rfl rfl ?_
    refine K_2_endPiece X (Or.inl q_737) hk1 h ⟨Nat.le_of_ble_eq_true rfl, Nat.le_of_ble_eq_true rfl⟩ ⟨Nat.zero_le _, Nat.zero_le _⟩ (st1 := []) (Nat.le_of_ble_eq_true rfl) dX3_readSum_112 (fun w1 h => ?_)
    refine V_iload_n X (i := 3) 2 dX3_readSum_115 rfl rfl ?_
    exact V_zret_c X hr dX3_readSum_116 (bo_z h.1) h.2
set_option maxRecDepth 20000 in
theorem v_3_readSumF_b93_q6 (X : CXq p s m args meth c cX3_readSum 6 yX3_readSum.cls ad cy D (AW ad) s.heap) (hr : meth.sig.returnType = (some .boolean))  {k1 : Nat} (hk1 : isLaw k1) {Q : Int32 → Mem → Prop} {L10 : Int32 → Int32 → Int32 → Mem → Prop} (HL10 : ∀ (l2 : Int32) (l3 : Int32) (l4 : Int32) (w : Mem), L10 l2 l3 l4 w → V p l e (RM 23) s m args below meth c 6 ad cy D (AW ad) s.heap 0 0 (MQ below (va_Qi Q (BC ad cy D wm wl0) (AW ad)) args s 0 0 (AW ad)) w wm wl0 10 [(0, .ref (ad 7)), (1, .ref (ad k1)), (2, .int l2), (3, .int l3), (4, .int l4)] []) : ∀ (l2 : Int32) (l4 : Int32) (l5 : Int32) (s0 : Int32) (w : Mem), wp_3_readSumF_b93 (wp_3_readSum 6) k1 Q L10 l2 l4 l5 s0 w → V p l e (RM 23) s m args below meth c 6 ad cy D (AW ad) s.heap 0 0 (MQ below (va_Qi Q (BC ad cy D wm wl0) (AW ad)) args s 0 0 (AW ad)) w wm wl0 93 [(0, .ref (ad 7)), (1, .ref (ad k1)), (2, .int l2), (4, .int l4), (5, .int l5)] [.int s0] := by
  intro l2 l4 l5 s0 w h
  unfold wp_3_readSumF_b93 at h
  refine V_istore_n X dX3_readSum_93 rfl (by decide) rfl (ls1 := [(3, .int s0), (0, .ref (ad 7)), (1, .ref (ad k1)), (2, .int l2), (4, .int l4), (5, .int l5)]) rfl ?_
  refine V_aload_n X (i := 1) 2 dX3_readSum_94 rfl rfl ?_
  refine V_iload X (i := 5) 5 dX3_readSum_95 rfl ?_
  refine V_iconst X (v := (0 : Int32)) dX3_readSum_97 (by decide) ?_
  refine K_2_add X (Or.inl q_736) hk1 h ⟨Nat.le_of_ble_eq_true rfl, Nat.le_of_ble_eq_true rfl⟩ ⟨Nat.zero_le _, Nat.zero_le _⟩ (st1 := []) (Nat.le_of_ble_eq_true rfl) dX3_readSum_98 (fun w1 h => ?_)
  obtain ⟨x2, ex2⟩ : ∃ y : Int32, y = l4 + (1 : Int32) := ⟨_, rfl⟩
  have h := h x2 ex2
  refine V_iinc X 4 dX3_readSum_101 rfl (by decide) (by rw [ex2]; rfl) (ls1 := [(4, .int x2), (3, .int s0), (0, .ref (ad 7)), (1, .ref (ad k1)), (2, .int l2), (5, .int l5)]) rfl ?_
  refine V_goto X (tgt := 10) dX3_readSum_104 (by decide) ?_
  refine V_sub X (ls1 := [(0, .ref (ad 7)), (1, .ref (ad k1)), (2, .int l2), (3, .int s0), (4, .int x2)]) [2, 3, 4, 1, 0] rfl ?_
  exact HL10 _ _ _ _ h
set_option maxRecDepth 20000 in
theorem v_3_readSumF_b92_q6 (X : CXq p s m args meth c cX3_readSum 6 yX3_readSum.cls ad cy D (AW ad) s.heap) (hr : meth.sig.returnType = (some .boolean))  {k1 : Nat} (hk1 : isLaw k1) {Q : Int32 → Mem → Prop} {L10 : Int32 → Int32 → Int32 → Mem → Prop} (HL10 : ∀ (l2 : Int32) (l3 : Int32) (l4 : Int32) (w : Mem), L10 l2 l3 l4 w → V p l e (RM 23) s m args below meth c 6 ad cy D (AW ad) s.heap 0 0 (MQ below (va_Qi Q (BC ad cy D wm wl0) (AW ad)) args s 0 0 (AW ad)) w wm wl0 10 [(0, .ref (ad 7)), (1, .ref (ad k1)), (2, .int l2), (3, .int l3), (4, .int l4)] []) : ∀ (l2 : Int32) (l4 : Int32) (l5 : Int32) (w : Mem), wp_3_readSumF_b92 (wp_3_readSum 6) k1 Q L10 l2 l4 l5 w → V p l e (RM 23) s m args below meth c 6 ad cy D (AW ad) s.heap 0 0 (MQ below (va_Qi Q (BC ad cy D wm wl0) (AW ad)) args s 0 0 (AW ad)) w wm wl0 92 [(0, .ref (ad 7)), (1, .ref (ad k1)), (2, .int l2), (4, .int l4), (5, .int l5)] [] := by
  intro l2 l4 l5 w h
  unfold wp_3_readSumF_b92 at h
  refine V_iconst X (v := (0 : Int32)) dX3_readSum_92 (by decide) ?_
  refine V_sub X (ls1 := [(0, .ref (ad 7)), (1, .ref (ad k1)), (2, .int l2), (4, .int l4), (5, .int l5)]) [0, 1, 2, 3, 4] rfl ?_
  exact v_3_readSumF_b93_q6 X hr hk1 HL10 _ _ _ _ _ h
set_option maxRecDepth 20000 in
theorem v_3_readSumF_b56_q6 (X : CXq p s m args meth c cX3_readSum 6 yX3_readSum.cls ad cy D (AW ad) s.heap) (hr : meth.sig.returnType = (some .boolean))  {k1 : Nat} (hk1 : isLaw k1) {Q : Int32 → Mem → Prop} {L10 : Int32 → Int32 → Int32 → Mem → Prop} (HL10 : ∀ (l2 : Int32) (l3 : Int32) (l4 : Int32) (w : Mem), L10 l2 l3 l4 w → V p l e (RM 23) s m args below meth c 6 ad cy D (AW ad) s.heap 0 0 (MQ below (va_Qi Q (BC ad cy D wm wl0) (AW ad)) args s 0 0 (AW ad)) w wm wl0 10 [(0, .ref (ad 7)), (1, .ref (ad k1)), (2, .int l2), (3, .int l3), (4, .int l4)] []) : ∀ (l2 : Int32) (l4 : Int32) (w : Mem), wp_3_readSumF_b56 (wp_3_readSum 6) k1 Q L10 l2 l4 w → V p l e (RM 23) s m args below meth c 6 ad cy D (AW ad) s.heap 0 0 (MQ below (va_Qi Q (BC ad cy D wm wl0) (AW ad)) args s 0 0 (AW ad)) w wm wl0 56 [(0, .ref (ad 7)), (1, .ref (ad k1)), (2, .int l2), (4, .int l4)] [] := by
  intro l2 l4 w h
  unfold wp_3_readSumF_b56 at h
  refine V_aload_n X (i := 0) 0 dX3_readSum_56 rfl rfl ?_
  refine G_3_15 X dX3_readSum_57 ?_
  refine G_3_45 X dX3_readSum_60 ?_
  refine V_aload_n X (i := 0) 0 dX3_readSum_63 rfl rfl ?_
  refine G_3_19 X dX3_readSum_64 ?_
  obtain ⟨g1, h⟩ := h
  refine V_iald_c X (rfl : SLq 4 = 401) (by decide) (rfl : SK 4 = 14) g1 dX3_readSum_67 ?_
  obtain ⟨x2, ex2⟩ : ∃ y : Int32, y = (w 4 (ix (w 7 3))) := ⟨_, rfl⟩
  have h := h x2 ex2
  refine V_istore X dX3_readSum_68 (by decide) ex2 (ls1 := [(5, .int x2), (0, .ref (ad 7)), (1, .ref (ad k1)), (2, .int l2), (4, .int l4)]) rfl ?_
  refine V_aload_n X (i := 0) 1 dX3_readSum_70 rfl rfl ?_
  refine V_iload X (i := 5) 0 dX3_readSum_71 rfl ?_
  refine K_3_takes X (Or.inl q_702) h ⟨Nat.le_of_ble_eq_true rfl, Nat.le_of_ble_eq_true rfl⟩ ⟨Nat.zero_le _, Nat.zero_le _⟩ (st1 := []) (Nat.le_of_ble_eq_true rfl) dX3_readSum_73 (fun r4 w3 h => ?_)
  obtain ⟨ht, hf⟩ := h
  refine V_if_eq X (tgt := 92) dX3_readSum_76 (by decide) (fun c => ?_) (fun c => ?_)
  · have h := ht c
    refine V_sub X (ls1 := [(0, .ref (ad 7)), (1, .ref (ad k1)), (2, .int l2), (4, .int l4), (5, .int x2)]) [1, 2, 3, 4, 0] rfl ?_
    exact v_3_readSumF_b92_q6 X hr hk1 HL10 _ _ _ _ h
  · have h := hf c
    refine V_aload_n X (i := 0) 1 dX3_readSum_79 rfl rfl ?_
    refine V_aload_n X (i := 1) 2 dX3_readSum_80 rfl rfl ?_
    refine V_iload_n X (i := 2) 3 dX3_readSum_81 rfl rfl ?_
    refine K_3_readProduct_q6 X (Or.inl q_728) hk1 h ⟨Nat.le_of_ble_eq_true rfl, Nat.le_of_ble_eq_true rfl⟩ ⟨Nat.zero_le _, Nat.zero_le _⟩ (st1 := []) (Nat.le_of_ble_eq_true rfl) dX3_readSum_82 (fun r6 w5 h => ?_)
    obtain ⟨ht, hf⟩ := h
    refine V_if_eq X (tgt := 92) dX3_readSum_85 (by decide) (fun c => ?_) (fun c => ?_)
    · have h := ht c
      refine V_sub X (ls1 := [(0, .ref (ad 7)), (1, .ref (ad k1)), (2, .int l2), (4, .int l4), (5, .int x2)]) [1, 2, 3, 4, 0] rfl ?_
      exact v_3_readSumF_b92_q6 X hr hk1 HL10 _ _ _ _ h
    · have h := hf c
      refine V_iconst X (v := (1 : Int32)) dX3_readSum_88 (by decide) ?_
      refine V_goto X (tgt := 93) dX3_readSum_89 (by decide) ?_
      refine V_sub X (ls1 := [(0, .ref (ad 7)), (1, .ref (ad k1)), (2, .int l2), (4, .int l4), (5, .int x2)]) [1, 2, 3, 4, 0] rfl ?_
      exact v_3_readSumF_b93_q6 X hr hk1 HL10 _ _ _ _ _ h
set_option maxRecDepth 20000 in
theorem v_3_readSumF_b10_q6 (X : CXq p s m args meth c cX3_readSum 6 yX3_readSum.cls ad cy D (AW ad) s.heap) (hr : meth.sig.returnType = (some .boolean))  {k1 : Nat} (hk1 : isLaw k1) {Q : Int32 → Mem → Prop} : ∀ (n : Nat) (l2 : Int32) (l3 : Int32) (l4 : Int32) (w : Mem), wp_3_readSumF_b10 (wp_3_readSum 6) k1 Q n l2 l3 l4 w → V p l e (RM 23) s m args below meth c 6 ad cy D (AW ad) s.heap 0 0 (MQ below (va_Qi Q (BC ad cy D wm wl0) (AW ad)) args s 0 0 (AW ad)) w wm wl0 10 [(0, .ref (ad 7)), (1, .ref (ad k1)), (2, .int l2), (3, .int l3), (4, .int l4)] [] := by
  intro n
  induction n with
  | zero =>
    intro l2 l3 l4 w h
    exact h.elim
  | succ n ih =>
    intro l2 l3 l4 w h
    unfold wp_3_readSumF_b10 at h
    refine V_iload X (i := 4) 4 dX3_readSum_10 rfl ?_
    refine V_sipush X (v := (400 : Int32)) dX3_readSum_12 (by decide) ?_
    obtain ⟨ht, hf⟩ := h
    refine V_icmp_ge X (tgt := 107) dX3_readSum_15 (by decide) (fun c => ?_) (fun c => ?_)
    · have h := ht c
      refine V_sub X (ls1 := [(1, .ref (ad k1)), (2, .int l2), (3, .int l3)]) [1, 2, 3] rfl ?_
      exact v_3_readSumF_b107_q6 X hr hk1 _ _ _ h
    · have h := hf c
      refine V_iload_n X (i := 3) 3 dX3_readSum_18 rfl rfl ?_
      obtain ⟨ht, hf⟩ := h
      refine V_if_eq X (tgt := 107) dX3_readSum_19 (by decide) (fun c => ?_) (fun c => ?_)
      · have h := ht c
        refine V_sub X (ls1 := [(1, .ref (ad k1)), (2, .int l2), (3, .int l3)]) [1, 2, 3] rfl ?_
        exact v_3_readSumF_b107_q6 X hr hk1 _ _ _ h
      · have h := hf c
        refine V_aload_n X (i := 0) 0 dX3_readSum_22 rfl rfl ?_
        refine G_3_15 X dX3_readSum_23 ?_
        refine G_3_45 X dX3_readSum_26 ?_
        refine V_aload_n X (i := 0) 0 dX3_readSum_29 rfl rfl ?_
        refine G_3_19 X dX3_readSum_30 ?_
        obtain ⟨g1, h⟩ := h
        refine V_iald_c X (rfl : SLq 4 = 401) (by decide) (rfl : SK 4 = 14) g1 dX3_readSum_33 ?_
        refine V_bipush X (v := (43 : Int32)) dX3_readSum_34 (by decide) ?_
        obtain ⟨ht, hf⟩ := h
        refine V_icmp_eq X (tgt := 56) dX3_readSum_36 (by decide) (fun c => ?_) (fun c => ?_)
        · have h := ht c
          refine V_sub X (ls1 := [(0, .ref (ad 7)), (1, .ref (ad k1)), (2, .int l2), (4, .int l4)]) [0, 1, 2, 4] rfl ?_
          exact v_3_readSumF_b56_q6 X hr hk1 ih _ _ _ h
        · have h := hf c
          refine V_aload_n X (i := 0) 0 dX3_readSum_39 rfl rfl ?_
          refine G_3_15 X dX3_readSum_40 ?_
          refine G_3_45 X dX3_readSum_43 ?_
          refine V_aload_n X (i := 0) 0 dX3_readSum_46 rfl rfl ?_
          refine G_3_19 X dX3_readSum_47 ?_
          obtain ⟨g2, h⟩ := h
          refine V_iald_c X (rfl : SLq 4 = 401) (by decide) (rfl : SK 4 = 14) g2 dX3_readSum_50 ?_
          refine V_bipush X (v := (45 : Int32)) dX3_readSum_51 (by decide) ?_
          obtain ⟨ht, hf⟩ := h
          refine V_icmp_ne X (tgt := 107) dX3_readSum_53 (by decide) (fun c => ?_) (fun c => ?_)
          · have h := ht c
            refine V_sub X (ls1 := [(1, .ref (ad k1)), (2, .int l2), (3, .int l3)]) [1, 2, 3] rfl ?_
            exact v_3_readSumF_b107_q6 X hr hk1 _ _ _ h
          · have h := hf c
            refine V_sub X (ls1 := [(0, .ref (ad 7)), (1, .ref (ad k1)), (2, .int l2), (4, .int l4)]) [0, 1, 2, 4] rfl ?_
            exact v_3_readSumF_b56_q6 X hr hk1 ih _ _ _ h
set_option maxRecDepth 20000 in
theorem v_3_readSumF_q6  {k1 : Nat} {a2 : Int32} (X : CXq p s m args meth c cX3_readSum 6 yX3_readSum.cls ad cy D (AW ad) s.heap) (hr : meth.sig.returnType = (some .boolean)) (hk1 : isLaw k1) {w : Mem} {Q : Int32 → Mem → Prop} (h : wp_3_readSumF (wp_3_readSum 6) k1 a2 w Q) : V p l e (RM 23) s m args below meth c 6 ad cy D (AW ad) s.heap 0 0 (MQ below (va_Qi Q (BC ad cy D wm wl0) (AW ad)) args s 0 0 (AW ad)) w wm wl0 0 [(0, .ref (ad 7)), (1, .ref (ad k1)), (2, .int a2)] [] := by
  unfold wp_3_readSumF at h
  refine V_aload_n X (i := 0) 0 dX3_readSum_0 rfl rfl ?_
  refine V_aload_n X (i := 1) 1 dX3_readSum_1 rfl rfl ?_
  refine V_iload_n X (i := 2) 2 dX3_readSum_2 rfl rfl ?_
  refine K_3_readProduct_q6 X (Or.inl q_728) hk1 h ⟨Nat.le_of_ble_eq_true rfl, Nat.le_of_ble_eq_true rfl⟩ ⟨Nat.zero_le _, Nat.zero_le _⟩ (st1 := []) (Nat.le_of_ble_eq_true rfl) dX3_readSum_3 (fun r2 w1 h => ?_)
  refine V_istore_n X dX3_readSum_6 rfl (by decide) rfl (ls1 := [(3, .int r2), (0, .ref (ad 7)), (1, .ref (ad k1)), (2, .int a2)]) rfl ?_
  refine V_iconst X (v := (0 : Int32)) dX3_readSum_7 (by decide) ?_
  refine V_istore X dX3_readSum_8 (by decide) rfl (ls1 := [(4, .int (0 : Int32)), (3, .int r2), (0, .ref (ad 7)), (1, .ref (ad k1)), (2, .int a2)]) rfl ?_
  refine V_sub X (ls1 := [(0, .ref (ad 7)), (1, .ref (ad k1)), (2, .int a2), (3, .int r2), (4, .int (0 : Int32))]) [2, 3, 4, 1, 0] rfl ?_
  obtain ⟨nn, h⟩ := h
  exact v_3_readSumF_b10_q6 X hr hk1 nn _ _ _ _ h
theorem c_3_readSumF_q6  {k1 : Nat} {a2 : Int32} (hinj : INJ ad) (hk1 : isLaw k1) {w : Mem} {Q : Int32 → Mem → Prop} (h : wp_3_readSumF (wp_3_readSum 6) k1 a2 w Q) : Met l yX3_readSum (TBq yX3_readSum cX3_readSum 6 (some .boolean)) (RM 23) (va_Pc [.ref (ad 7), .ref (ad k1), .int a2] (PB ad cy D (cmb w wm) wl0)) (va_Qi Q (BC ad cy D wm wl0) (AW ad)) 0 0 (AW ad) := M_enter (by decide) (Nat.le_of_ble_eq_true rfl) hinj (fun p e s m args below meth c X hr => v_3_readSumF_q6 X hr hk1 h)
theorem K_3_readSumF_q6 {own : String} {idx : Nat}  {k1 : Nat} {a2 : Int32} (X : CXq p s m args meth c cc nL own ad cy D A H0) (hL : LK own idx yX3_readSum) (hk1 : isLaw k1) {w : Mem} {Q : Int32 → Mem → Prop} (h : wp_3_readSumF (wp_3_readSum 6) k1 a2 w Q) (hR : (RM 23).frames + 1 ≤ R.frames ∧ 8 + (6 + 11) + (RM 23).locals ≤ R.locals) (hce : ce ≤ R.cells ∧ sl ≤ R.slots) (hcat : (st1.map fun v => v.category).sum ≤ 8) (hd : decode cc pc = .ok (.invokevirtual idx, 3)) (kk : ∀ (r : Int32) (u : Mem), Q r u → V p l e R s m args below meth c nL ad cy D A H0 ce sl Qs u wm wl0 (pc + 3) ls (.int r :: st1)) : V p l e R s m args below meth c nL ad cy D A H0 ce sl Qs w wm wl0 pc ls (.int a2 :: .ref (ad k1) :: .ref (ad 7) :: st1) := V_callVI_c X mf_3_readSumF hL (rfl : vwCl[3]? = some (RX3, TX3, 9)) (by decide) (rfl : SK 7 = 3) (Nat.lt_of_lt_of_le (by decide : 7 < 150) (CX_nn X)) (c_3_readSumF_q6 X.2.2.2.2.2.2.2.1 hk1 h) (As := [.ref (ad k1), .int a2]) rfl ⟨rfl, rfl⟩ hR hce st1 rfl hcat hd kk
theorem K_3_readSum_7 {own : String} {idx : Nat}  {k1 : Nat} {a2 : Int32} (X : CXq p s m args meth c cc nL own ad cy D A H0) (hL : LK own idx yX3_readSum) (hk1 : isLaw k1) {w : Mem} {Q : Int32 → Mem → Prop} (h : wp_3_readSum 7 k1 a2 w Q) (hR : (RM 23).frames + 1 ≤ R.frames ∧ 8 + (6 + 11) + (RM 23).locals ≤ R.locals) (hce : ce ≤ R.cells ∧ sl ≤ R.slots) (hcat : (st1.map fun v => v.category).sum ≤ 8) (hd : decode cc pc = .ok (.invokevirtual idx, 3)) (kk : ∀ (r : Int32) (u : Mem), Q r u → V p l e R s m args below meth c nL ad cy D A H0 ce sl Qs u wm wl0 (pc + 3) ls (.int r :: st1)) : V p l e R s m args below meth c nL ad cy D A H0 ce sl Qs w wm wl0 pc ls (.int a2 :: .ref (ad k1) :: .ref (ad 7) :: st1) := K_3_readSumF_q6 X hL hk1 h hR hce hcat hd kk
end
