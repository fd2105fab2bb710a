-- printed by wip/whole/gen6.py out of the decode rows and the tables
section
variable {p : Program} {l : Launch} {e : Env} {R : Room} {s : State} {m : MethodId} {args : Array Value} {below : List Frame} {meth : Method} {c : Code} {cc : ByteArray} {nL : Nat} {ad : Nat → Nat} {cy : Nat → ClassId} {D : va_G} {A : Nat → Prop} {H0 : Heap} {ce sl : Nat} {Qs : State → Prop} {wc wm : Mem} {wl0 : MemL} {pc : Nat} {ls : List (Nat × Value)} {st1 : List Value}
set_option maxRecDepth 20000 in
theorem v_3_readUnit_b127_q7 (X : CXq p s m args meth c cX3_readUnit 4 yX3_readUnit.cls ad cy D (AW ad) s.heap) (hr : meth.sig.returnType = (some .boolean))  {k1 : Nat} (hk1 : isLaw k1) {Q : Int32 → Mem → Prop} : ∀ (w : Mem), wp_3_readUnit_b127 (wp_3_readSum 7) k1 Q w → V p l e (RM 24) s m args below meth c 4 ad cy D (AW ad) s.heap 0 0 (MQ below (va_Qi Q (BC ad cy D wm wl0) (AW ad)) args s 0 0 (AW ad)) w wm wl0 127 [] [] := by
  intro w h
  unfold wp_3_readUnit_b127 at h
  refine V_iconst X (v := (0 : Int32)) dX3_readUnit_127 (by decide) ?_
  exact V_zret_c X hr dX3_readUnit_128 rfl h
set_option maxRecDepth 20000 in
theorem v_3_readUnit_q7  {k1 : Nat} {a2 : Int32} (X : CXq p s m args meth c cX3_readUnit 4 yX3_readUnit.cls ad cy D (AW ad) s.heap) (hr : meth.sig.returnType = (some .boolean)) (hk1 : isLaw k1) {w : Mem} {Q : Int32 → Mem → Prop} (h : wp_3_readUnit (wp_3_readSum 7) k1 a2 w Q) : V p l e (RM 24) s m args below meth c 4 ad cy D (AW ad) s.heap 0 0 (MQ below (va_Qi Q (BC ad cy D wm wl0) (AW ad)) args s 0 0 (AW ad)) w wm wl0 0 [(0, .ref (ad 7)), (1, .ref (ad k1)), (2, .int a2)] [] := by
  unfold wp_3_readUnit at h
  refine V_aload_n X (i := 0) 0 dX3_readUnit_0 rfl rfl ?_
  refine G_3_15 X dX3_readUnit_1 ?_
  refine G_3_45 X dX3_readUnit_4 ?_
  refine V_aload_n X (i := 0) 0 dX3_readUnit_7 rfl rfl ?_
  refine G_3_19 X dX3_readUnit_8 ?_
  obtain ⟨g1, h⟩ := h
  refine V_iald_c X (rfl : SLq 4 = 401) (by decide) (rfl : SK 4 = 14) g1 dX3_readUnit_11 ?_
  obtain ⟨x2, ex2⟩ : ∃ y : Int32, y = (w 4 (ix (w 7 3))) := ⟨_, rfl⟩
  have h := h x2 ex2
  refine V_istore_n X dX3_readUnit_12 rfl (by decide) ex2 (ls1 := [(3, .int x2), (0, .ref (ad 7)), (1, .ref (ad k1)), (2, .int a2)]) rfl ?_
  refine V_iload_n X (i := 3) 0 dX3_readUnit_13 rfl rfl ?_
  refine V_iconst X (v := (3 : Int32)) dX3_readUnit_14 (by decide) ?_
  obtain ⟨ht, hf⟩ := h
  refine V_icmp_ne X (tgt := 41) dX3_readUnit_15 (by decide) (fun c => ?_) (fun c => ?_)
  · have h := ht c
    refine V_iload_n X (i := 3) 0 dX3_readUnit_41 rfl rfl ?_
    refine V_sipush X (v := (146 : Int32)) dX3_readUnit_42 (by decide) ?_
    refine V_sipush X (v := (156 : Int32)) dX3_readUnit_45 (by decide) ?_
    refine K_11_within X (Or.inr ⟨_, q_714⟩) h ⟨Nat.le_of_ble_eq_true rfl, Nat.le_of_ble_eq_true rfl⟩ ⟨Nat.zero_le _, Nat.zero_le _⟩ (st1 := []) (Nat.le_of_ble_eq_true rfl) dX3_readUnit_48 (fun r4 w3 h => ?_)
    obtain ⟨ht, hf⟩ := h
    refine V_if_eq X (tgt := 70) dX3_readUnit_51 (by decide) (fun c => ?_) (fun c => ?_)
    · have h := ht c
      refine V_iload_n X (i := 3) 0 dX3_readUnit_70 rfl rfl ?_
      refine V_bipush X (v := (40 : Int32)) dX3_readUnit_71 (by decide) ?_
      obtain ⟨ht, hf⟩ := h
      refine V_icmp_eq X (tgt := 82) dX3_readUnit_73 (by decide) (fun c => ?_) (fun c => ?_)
      · have h := ht c
        refine V_iload_n X (i := 2) 3 dX3_readUnit_82 rfl rfl ?_
        refine V_bipush X (v := (6 : Int32)) dX3_readUnit_83 (by decide) ?_
        obtain ⟨ht, hf⟩ := h
        refine V_icmp_lt X (tgt := 94) dX3_readUnit_85 (by decide) (fun c => ?_) (fun c => ?_)
        · have h := ht c
          refine V_aload_n X (i := 0) 1 dX3_readUnit_94 rfl rfl ?_
          refine V_bipush X (v := (40 : Int32)) dX3_readUnit_95 (by decide) ?_
          refine K_3_takes X (Or.inl q_702) h ⟨Nat.le_of_ble_eq_true rfl, Nat.le_of_ble_eq_true rfl⟩ ⟨Nat.zero_le _, Nat.zero_le _⟩ (st1 := []) (Nat.le_of_ble_eq_true rfl) dX3_readUnit_97 (fun r6 w5 h => ?_)
          obtain ⟨ht, hf⟩ := h
          refine V_if_eq X (tgt := 127) dX3_readUnit_100 (by decide) (fun c => ?_) (fun c => ?_)
          · have h := ht c
            refine V_sub X (ls1 := []) [] rfl ?_
            exact v_3_readUnit_b127_q7 X hr hk1 _ h
          · have h := hf c
            refine V_aload_n X (i := 0) 1 dX3_readUnit_103 rfl rfl ?_
            refine V_aload_n X (i := 1) 2 dX3_readUnit_104 rfl rfl ?_
            refine V_iload_n X (i := 2) 3 dX3_readUnit_105 rfl rfl ?_
            refine V_iconst X (v := (1 : Int32)) dX3_readUnit_106 (by decide) ?_
            refine V_iadd X dX3_readUnit_107 ?_
            refine K_3_readSum_7 X (Or.inl q_724) hk1 h ⟨Nat.le_of_ble_eq_true rfl, Nat.le_of_ble_eq_true rfl⟩ ⟨Nat.zero_le _, Nat.zero_le _⟩ (st1 := []) (Nat.le_of_ble_eq_true rfl) dX3_readUnit_108 (fun r8 w7 h => ?_)
            obtain ⟨ht, hf⟩ := h
            refine V_if_eq X (tgt := 127) dX3_readUnit_111 (by decide) (fun c => ?_) (fun c => ?_)
            · have h := ht c
              refine V_sub X (ls1 := []) [] rfl ?_
              exact v_3_readUnit_b127_q7 X hr hk1 _ h
            · have h := hf c
              refine V_aload_n X (i := 0) 1 dX3_readUnit_114 rfl rfl ?_
              refine V_bipush X (v := (41 : Int32)) dX3_readUnit_115 (by decide) ?_
              refine K_3_takes X (Or.inl q_702) h ⟨Nat.le_of_ble_eq_true rfl, Nat.le_of_ble_eq_true rfl⟩ ⟨Nat.zero_le _, Nat.zero_le _⟩ (st1 := []) (Nat.le_of_ble_eq_true rfl) dX3_readUnit_117 (fun r10 w9 h => ?_)
              obtain ⟨ht, hf⟩ := h
              refine V_if_eq X (tgt := 127) dX3_readUnit_120 (by decide) (fun c => ?_) (fun c => ?_)
              · have h := ht c
                refine V_sub X (ls1 := []) [] rfl ?_
                exact v_3_readUnit_b127_q7 X hr hk1 _ h
              · have h := hf c
                refine V_iconst X (v := (1 : Int32)) dX3_readUnit_123 (by decide) ?_
                refine V_goto X (tgt := 128) dX3_readUnit_124 (by decide) ?_
                exact V_zret_c X hr dX3_readUnit_128 rfl h
        · have h := hf c
          refine V_aload_n X (i := 0) 1 dX3_readUnit_88 rfl rfl ?_
          refine V_iconst X (v := (2 : Int32)) dX3_readUnit_89 (by decide) ?_
          refine K_3_fails X (Or.inl q_694) h ⟨Nat.le_of_ble_eq_true rfl, Nat.le_of_ble_eq_true rfl⟩ ⟨Nat.zero_le _, Nat.zero_le _⟩ (st1 := []) (Nat.le_of_ble_eq_true rfl) dX3_readUnit_90 (fun r12 w11 h => ?_)
          exact V_zret_c X hr dX3_readUnit_93 (bo_z h.1) h.2
      · have h := hf c
        refine V_aload_n X (i := 0) 1 dX3_readUnit_76 rfl rfl ?_
        refine V_iconst X (v := (1 : Int32)) dX3_readUnit_77 (by decide) ?_
        refine K_3_fails X (Or.inl q_694) h ⟨Nat.le_of_ble_eq_true rfl, Nat.le_of_ble_eq_true rfl⟩ ⟨Nat.zero_le _, Nat.zero_le _⟩ (st1 := []) (Nat.le_of_ble_eq_true rfl) dX3_readUnit_78 (fun r14 w13 h => ?_)
        exact V_zret_c X hr dX3_readUnit_81 (bo_z h.1) h.2
    · have h := hf c
      refine V_aload_n X (i := 1) 2 dX3_readUnit_54 rfl rfl ?_
      refine V_iconst X (v := (1 : Int32)) dX3_readUnit_55 (by decide) ?_
      refine V_iload_n X (i := 3) 0 dX3_readUnit_56 rfl rfl ?_
      refine V_sipush X (v := (146 : Int32)) dX3_readUnit_57 (by decide) ?_
      refine V_isub X dX3_readUnit_60 ?_
      refine K_2_add X (Or.inl q_736) hk1 h ⟨Nat.le_of_ble_eq_true rfl, Nat.le_of_ble_eq_true rfl⟩ ⟨Nat.zero_le _, Nat.zero_le _⟩ (st1 := []) (Nat.le_of_ble_eq_true rfl) dX3_readUnit_61 (fun w15 h => ?_)
      refine V_aload_n X (i := 0) 1 dX3_readUnit_64 rfl rfl ?_
      refine V_iload_n X (i := 3) 0 dX3_readUnit_65 rfl rfl ?_
      refine K_3_takes X (Or.inl q_702) h ⟨Nat.le_of_ble_eq_true rfl, Nat.le_of_ble_eq_true rfl⟩ ⟨Nat.zero_le _, Nat.zero_le _⟩ (st1 := []) (Nat.le_of_ble_eq_true rfl) dX3_readUnit_66 (fun r17 w16 h => ?_)
      exact V_zret_c X hr dX3_readUnit_69 (bo_z h.1) h.2
  · have h := hf c
    refine V_aload_n X (i := 1) 2 dX3_readUnit_18 rfl rfl ?_
    refine V_iconst X (v := (0 : Int32)) dX3_readUnit_19 (by decide) ?_
    refine V_aload_n X (i := 0) 1 dX3_readUnit_20 rfl rfl ?_
    refine G_3_15 X dX3_readUnit_21 ?_
    refine G_3_170 X dX3_readUnit_24 ?_
    refine V_aload_n X (i := 0) 1 dX3_readUnit_27 rfl rfl ?_
    refine G_3_19 X dX3_readUnit_28 ?_
    obtain ⟨g18, h⟩ := h
    refine V_iald_c X (rfl : SLq 6 = 401) (by decide) (rfl : SK 6 = 14) g18 dX3_readUnit_31 ?_
    refine K_2_add X (Or.inl q_736) hk1 h ⟨Nat.le_of_ble_eq_true rfl, Nat.le_of_ble_eq_true rfl⟩ ⟨Nat.zero_le _, Nat.zero_le _⟩ (st1 := []) (Nat.le_of_ble_eq_true rfl) dX3_readUnit_32 (fun w19 h => ?_)
    refine V_aload_n X (i := 0) 1 dX3_readUnit_35 rfl rfl ?_
    refine V_iconst X (v := (3 : Int32)) dX3_readUnit_36 (by decide) ?_
    refine K_3_takes X (Or.inl q_702) h ⟨Nat.le_of_ble_eq_true rfl, Nat.le_of_ble_eq_true rfl⟩ ⟨Nat.zero_le _, Nat.zero_le _⟩ (st1 := []) (Nat.le_of_ble_eq_true rfl) dX3_readUnit_37 (fun r21 w20 h => ?_)
    exact V_zret_c X hr dX3_readUnit_40 (bo_z h.1) h.2
theorem c_3_readUnit_q7  {k1 : Nat} {a2 : Int32} (hinj : INJ ad) (hk1 : isLaw k1) {w : Mem} {Q : Int32 → Mem → Prop} (h : wp_3_readUnit (wp_3_readSum 7) k1 a2 w Q) : Met l yX3_readUnit (TBq yX3_readUnit cX3_readUnit 4 (some .boolean)) (RM 24) (va_Pc [.ref (ad 7), .ref (ad k1), .int a2] (PB ad cy D (cmb w wm) wl0)) (va_Qi Q (BC ad cy D wm wl0) (AW ad)) 0 0 (AW ad) := M_enter (by decide) (Nat.le_of_ble_eq_true rfl) hinj (fun p e s m args below meth c X hr => v_3_readUnit_q7 X hr hk1 h)
theorem K_3_readUnit_q7 {own : String} {idx : Nat}  {k1 : Nat} {a2 : Int32} (X : CXq p s m args meth c cc nL own ad cy D A H0) (hL : LK own idx yX3_readUnit) (hk1 : isLaw k1) {w : Mem} {Q : Int32 → Mem → Prop} (h : wp_3_readUnit (wp_3_readSum 7) k1 a2 w Q) (hR : (RM 24).frames + 1 ≤ R.frames ∧ 8 + (4 + 11) + (RM 24).locals ≤ R.locals) (hce : ce ≤ R.cells ∧ sl ≤ R.slots) (hcat : (st1.map fun v => v.category).sum ≤ 8) (hd : decode cc pc = .ok (.invokevirtual idx, 3)) (kk : ∀ (r : Int32) (u : Mem), Q r u → V p l e R s m args below meth c nL ad cy D A H0 ce sl Qs u wm wl0 (pc + 3) ls (.int r :: st1)) : V p l e R s m args below meth c nL ad cy D A H0 ce sl Qs w wm wl0 pc ls (.int a2 :: .ref (ad k1) :: .ref (ad 7) :: st1) := V_callVI_c X mf_3_readUnit hL (rfl : vwCl[3]? = some (RX3, TX3, 9)) (by decide) (rfl : SK 7 = 3) (Nat.lt_of_lt_of_le (by decide : 7 < 150) (CX_nn X)) (c_3_readUnit_q7 X.2.2.2.2.2.2.2.1 hk1 h) (As := [.ref (ad k1), .int a2]) rfl ⟨rfl, rfl⟩ hR hce st1 rfl hcat hd kk
set_option maxRecDepth 20000 in
theorem v_3_readProduct_b93_q7 (X : CXq p s m args meth c cX3_readProduct 6 yX3_readProduct.cls ad cy D (AW ad) s.heap) (hr : meth.sig.returnType = (some .boolean))  {k1 : Nat} (hk1 : isLaw k1) {Q : Int32 → Mem → Prop} {L10 : Int32 → Int32 → Int32 → Mem → Prop} (HL10 : ∀ (l2 : Int32) (l3 : Int32) (l4 : Int32) (w : Mem), L10 l2 l3 l4 w → V p l e (RM 25) s m args below meth c 6 ad cy D (AW ad) s.heap 0 0 (MQ below (va_Qi Q (BC ad cy D wm wl0) (AW ad)) args s 0 0 (AW ad)) w wm wl0 10 [(0, .ref (ad 7)), (1, .ref (ad k1)), (2, .int l2), (3, .int l3), (4, .int l4)] []) : ∀ (l2 : Int32) (l4 : Int32) (l5 : Int32) (s0 : Int32) (w : Mem), wp_3_readProduct_b93 (wp_3_readSum 7) k1 Q L10 l2 l4 l5 s0 w → V p l e (RM 25) s m args below meth c 6 ad cy D (AW ad) s.heap 0 0 (MQ below (va_Qi Q (BC ad cy D wm wl0) (AW ad)) args s 0 0 (AW ad)) w wm wl0 93 [(0, .ref (ad 7)), (1, .ref (ad k1)), (2, .int l2), (4, .int l4), (5, .int l5)] [.int s0] := by
  intro l2 l4 l5 s0 w h
  unfold wp_3_readProduct_b93 at h
  refine V_istore_n X dX3_readProduct_93 rfl (by decide) rfl (ls1 := [(3, .int s0), (0, .ref (ad 7)), (1, .ref (ad k1)), (2, .int l2), (4, .int l4), (5, .int l5)]) rfl ?_
  refine V_aload_n X (i := 1) 2 dX3_readProduct_94 rfl rfl ?_
  refine V_iload X (i := 5) 5 dX3_readProduct_95 rfl ?_
  refine V_iconst X (v := (0 : Int32)) dX3_readProduct_97 (by decide) ?_
  refine K_2_add X (Or.inl q_736) hk1 h ⟨Nat.le_of_ble_eq_true rfl, Nat.le_of_ble_eq_true rfl⟩ ⟨Nat.zero_le _, Nat.zero_le _⟩ (st1 := []) (Nat.le_of_ble_eq_true rfl) dX3_readProduct_98 (fun w1 h => ?_)
  obtain ⟨x2, ex2⟩ : ∃ y : Int32, y = l4 + (1 : Int32) := ⟨_, rfl⟩
  have h := h x2 ex2
  refine V_iinc X 4 dX3_readProduct_101 rfl (by decide) (by rw [ex2]; rfl) (ls1 := [(4, .int x2), (3, .int s0), (0, .ref (ad 7)), (1, .ref (ad k1)), (2, .int l2), (5, .int l5)]) rfl ?_
  refine V_goto X (tgt := 10) dX3_readProduct_104 (by decide) ?_
  refine V_sub X (ls1 := [(0, .ref (ad 7)), (1, .ref (ad k1)), (2, .int l2), (3, .int s0), (4, .int x2)]) [2, 3, 4, 1, 0] rfl ?_
  exact HL10 _ _ _ _ h
set_option maxRecDepth 20000 in
theorem v_3_readProduct_b92_q7 (X : CXq p s m args meth c cX3_readProduct 6 yX3_readProduct.cls ad cy D (AW ad) s.heap) (hr : meth.sig.returnType = (some .boolean))  {k1 : Nat} (hk1 : isLaw k1) {Q : Int32 → Mem → Prop} {L10 : Int32 → Int32 → Int32 → Mem → Prop} (HL10 : ∀ (l2 : Int32) (l3 : Int32) (l4 : Int32) (w : Mem), L10 l2 l3 l4 w → V p l e (RM 25) s m args below meth c 6 ad cy D (AW ad) s.heap 0 0 (MQ below (va_Qi Q (BC ad cy D wm wl0) (AW ad)) args s 0 0 (AW ad)) w wm wl0 10 [(0, .ref (ad 7)), (1, .ref (ad k1)), (2, .int l2), (3, .int l3), (4, .int l4)] []) : ∀ (l2 : Int32) (l4 : Int32) (l5 : Int32) (w : Mem), wp_3_readProduct_b92 (wp_3_readSum 7) k1 Q L10 l2 l4 l5 w → V p l e (RM 25) s m args below meth c 6 ad cy D (AW ad) s.heap 0 0 (MQ below (va_Qi Q (BC ad cy D wm wl0) (AW ad)) args s 0 0 (AW ad)) w wm wl0 92 [(0, .ref (ad 7)), (1, .ref (ad k1)), (2, .int l2), (4, .int l4), (5, .int l5)] [] := by
  intro l2 l4 l5 w h
  unfold wp_3_readProduct_b92 at h
  refine V_iconst X (v := (0 : Int32)) dX3_readProduct_92 (by decide) ?_
  refine V_sub X (ls1 := [(0, .ref (ad 7)), (1, .ref (ad k1)), (2, .int l2), (4, .int l4), (5, .int l5)]) [0, 1, 2, 3, 4] rfl ?_
  exact v_3_readProduct_b93_q7 X hr hk1 HL10 _ _ _ _ _ h
set_option maxRecDepth 20000 in
theorem v_3_readProduct_b56_q7 (X : CXq p s m args meth c cX3_readProduct 6 yX3_readProduct.cls ad cy D (AW ad) s.heap) (hr : meth.sig.returnType = (some .boolean))  {k1 : Nat} (hk1 : isLaw k1) {Q : Int32 → Mem → Prop} {L10 : Int32 → Int32 → Int32 → Mem → Prop} (HL10 : ∀ (l2 : Int32) (l3 : Int32) (l4 : Int32) (w : Mem), L10 l2 l3 l4 w → V p l e (RM 25) s m args below meth c 6 ad cy D (AW ad) s.heap 0 0 (MQ below (va_Qi Q (BC ad cy D wm wl0) (AW ad)) args s 0 0 (AW ad)) w wm wl0 10 [(0, .ref (ad 7)), (1, .ref (ad k1)), (2, .int l2), (3, .int l3), (4, .int l4)] []) : ∀ (l2 : Int32) (l4 : Int32) (w : Mem), wp_3_readProduct_b56 (wp_3_readSum 7) k1 Q L10 l2 l4 w → V p l e (RM 25) s m args below meth c 6 ad cy D (AW ad) s.heap 0 0 (MQ below (va_Qi Q (BC ad cy D wm wl0) (AW ad)) args s 0 0 (AW ad)) w wm wl0 56 [(0, .ref (ad 7)), (1, .ref (ad k1)), (2, .int l2), (4, .int l4)] [] := by
  intro l2 l4 w h
  unfold wp_3_readProduct_b56 at h
  refine V_aload_n X (i := 0) 0 dX3_readProduct_56 rfl rfl ?_
  refine G_3_15 X dX3_readProduct_57 ?_
  refine G_3_45 X dX3_readProduct_60 ?_
  refine V_aload_n X (i := 0) 0 dX3_readProduct_63 rfl rfl ?_
  refine G_3_19 X dX3_readProduct_64 ?_
  obtain ⟨g1, h⟩ := h
  refine V_iald_c X (rfl : SLq 4 = 401) (by decide) (rfl : SK 4 = 14) g1 dX3_readProduct_67 ?_
  obtain ⟨x2, ex2⟩ : ∃ y : Int32, y = (w 4 (ix (w 7 3))) := ⟨_, rfl⟩
  have h := h x2 ex2
  refine V_istore X dX3_readProduct_68 (by decide) ex2 (ls1 := [(5, .int x2), (0, .ref (ad 7)), (1, .ref (ad k1)), (2, .int l2), (4, .int l4)]) rfl ?_
  refine V_aload_n X (i := 0) 1 dX3_readProduct_70 rfl rfl ?_
  refine V_iload X (i := 5) 0 dX3_readProduct_71 rfl ?_
  refine K_3_takes X (Or.inl q_702) h ⟨Nat.le_of_ble_eq_true rfl, Nat.le_of_ble_eq_true rfl⟩ ⟨Nat.zero_le _, Nat.zero_le _⟩ (st1 := []) (Nat.le_of_ble_eq_true rfl) dX3_readProduct_73 (fun r4 w3 h => ?_)
  obtain ⟨ht, hf⟩ := h
  refine V_if_eq X (tgt := 92) dX3_readProduct_76 (by decide) (fun c => ?_) (fun c => ?_)
  · have h := ht c
    refine V_sub X (ls1 := [(0, .ref (ad 7)), (1, .ref (ad k1)), (2, .int l2), (4, .int l4), (5, .int x2)]) [1, 2, 3, 4, 0] rfl ?_
    exact v_3_readProduct_b92_q7 X hr hk1 HL10 _ _ _ _ h
  · have h := hf c
    refine V_aload_n X (i := 0) 1 dX3_readProduct_79 rfl rfl ?_
    refine V_aload_n X (i := 1) 2 dX3_readProduct_80 rfl rfl ?_
    refine V_iload_n X (i := 2) 3 dX3_readProduct_81 rfl rfl ?_
    refine K_3_readUnit_q7 X (Or.inl q_732) hk1 h ⟨Nat.le_of_ble_eq_true rfl, Nat.le_of_ble_eq_true rfl⟩ ⟨Nat.zero_le _, Nat.zero_le _⟩ (st1 := []) (Nat.le_of_ble_eq_true rfl) dX3_readProduct_82 (fun r6 w5 h => ?_)
    obtain ⟨ht, hf⟩ := h
    refine V_if_eq X (tgt := 92) dX3_readProduct_85 (by decide) (fun c => ?_) (fun c => ?_)
    · have h := ht c
      refine V_sub X (ls1 := [(0, .ref (ad 7)), (1, .ref (ad k1)), (2, .int l2), (4, .int l4), (5, .int x2)]) [1, 2, 3, 4, 0] rfl ?_
      exact v_3_readProduct_b92_q7 X hr hk1 HL10 _ _ _ _ h
    · have h := hf c
      refine V_iconst X (v := (1 : Int32)) dX3_readProduct_88 (by decide) ?_
      refine V_goto X (tgt := 93) dX3_readProduct_89 (by decide) ?_
      refine V_sub X (ls1 := [(0, .ref (ad 7)), (1, .ref (ad k1)), (2, .int l2), (4, .int l4), (5, .int x2)]) [1, 2, 3, 4, 0] rfl ?_
      exact v_3_readProduct_b93_q7 X hr hk1 HL10 _ _ _ _ _ h
set_option maxRecDepth 20000 in
theorem v_3_readProduct_b10_q7 (X : CXq p s m args meth c cX3_readProduct 6 yX3_readProduct.cls ad cy D (AW ad) s.heap) (hr : meth.sig.returnType = (some .boolean))  {k1 : Nat} (hk1 : isLaw k1) {Q : Int32 → Mem → Prop} : ∀ (n : Nat) (l2 : Int32) (l3 : Int32) (l4 : Int32) (w : Mem), wp_3_readProduct_b10 (wp_3_readSum 7) k1 Q n l2 l3 l4 w → V p l e (RM 25) s m args below meth c 6 ad cy D (AW ad) s.heap 0 0 (MQ below (va_Qi Q (BC ad cy D wm wl0) (AW ad)) args s 0 0 (AW ad)) w wm wl0 10 [(0, .ref (ad 7)), (1, .ref (ad k1)), (2, .int l2), (3, .int l3), (4, .int l4)] [] := by
  intro n
  induction n with
  | zero =>
    intro l2 l3 l4 w h
    exact h.elim
  | succ n ih =>
    intro l2 l3 l4 w h
    unfold wp_3_readProduct_b10 at h
    refine V_iload X (i := 4) 4 dX3_readProduct_10 rfl ?_
    refine V_sipush X (v := (400 : Int32)) dX3_readProduct_12 (by decide) ?_
    obtain ⟨ht, hf⟩ := h
    refine V_icmp_ge X (tgt := 107) dX3_readProduct_15 (by decide) (fun c => ?_) (fun c => ?_)
    · have h := ht c
      refine V_iload_n X (i := 3) 3 dX3_readProduct_107 rfl rfl ?_
      exact V_zret_c X hr dX3_readProduct_108 (bo_z h.1) h.2
    · have h := hf c
      refine V_iload_n X (i := 3) 3 dX3_readProduct_18 rfl rfl ?_
      obtain ⟨ht, hf⟩ := h
      refine V_if_eq X (tgt := 107) dX3_readProduct_19 (by decide) (fun c => ?_) (fun c => ?_)
      · have h := ht c
        refine V_iload_n X (i := 3) 3 dX3_readProduct_107 rfl rfl ?_
        exact V_zret_c X hr dX3_readProduct_108 (bo_z h.1) h.2
      · have h := hf c
        refine V_aload_n X (i := 0) 0 dX3_readProduct_22 rfl rfl ?_
        refine G_3_15 X dX3_readProduct_23 ?_
        refine G_3_45 X dX3_readProduct_26 ?_
        refine V_aload_n X (i := 0) 0 dX3_readProduct_29 rfl rfl ?_
        refine G_3_19 X dX3_readProduct_30 ?_
        obtain ⟨g1, h⟩ := h
        refine V_iald_c X (rfl : SLq 4 = 401) (by decide) (rfl : SK 4 = 14) g1 dX3_readProduct_33 ?_
        refine V_bipush X (v := (42 : Int32)) dX3_readProduct_34 (by decide) ?_
        obtain ⟨ht, hf⟩ := h
        refine V_icmp_eq X (tgt := 56) dX3_readProduct_36 (by decide) (fun c => ?_) (fun c => ?_)
        · have h := ht c
          refine V_sub X (ls1 := [(0, .ref (ad 7)), (1, .ref (ad k1)), (2, .int l2), (4, .int l4)]) [0, 1, 2, 4] rfl ?_
          exact v_3_readProduct_b56_q7 X hr hk1 ih _ _ _ h
        · have h := hf c
          refine V_aload_n X (i := 0) 0 dX3_readProduct_39 rfl rfl ?_
          refine G_3_15 X dX3_readProduct_40 ?_
          refine G_3_45 X dX3_readProduct_43 ?_
          refine V_aload_n X (i := 0) 0 dX3_readProduct_46 rfl rfl ?_
          refine G_3_19 X dX3_readProduct_47 ?_
          obtain ⟨g2, h⟩ := h
          refine V_iald_c X (rfl : SLq 4 = 401) (by decide) (rfl : SK 4 = 14) g2 dX3_readProduct_50 ?_
          refine V_bipush X (v := (47 : Int32)) dX3_readProduct_51 (by decide) ?_
          obtain ⟨ht, hf⟩ := h
          refine V_icmp_ne X (tgt := 107) dX3_readProduct_53 (by decide) (fun c => ?_) (fun c => ?_)
          · have h := ht c
            refine V_iload_n X (i := 3) 3 dX3_readProduct_107 rfl rfl ?_
            exact V_zret_c X hr dX3_readProduct_108 (bo_z h.1) h.2
          · have h := hf c
            refine V_sub X (ls1 := [(0, .ref (ad 7)), (1, .ref (ad k1)), (2, .int l2), (4, .int l4)]) [0, 1, 2, 4] rfl ?_
            exact v_3_readProduct_b56_q7 X hr hk1 ih _ _ _ h
set_option maxRecDepth 20000 in
theorem v_3_readProduct_q7  {k1 : Nat} {a2 : Int32} (X : CXq p s m args meth c cX3_readProduct 6 yX3_readProduct.cls ad cy D (AW ad) s.heap) (hr : meth.sig.returnType = (some .boolean)) (hk1 : isLaw k1) {w : Mem} {Q : Int32 → Mem → Prop} (h : wp_3_readProduct (wp_3_readSum 7) k1 a2 w Q) : V p l e (RM 25) s m args below meth c 6 ad cy D (AW ad) s.heap 0 0 (MQ below (va_Qi Q (BC ad cy D wm wl0) (AW ad)) args s 0 0 (AW ad)) w wm wl0 0 [(0, .ref (ad 7)), (1, .ref (ad k1)), (2, .int a2)] [] := by
  unfold wp_3_readProduct at h
  refine V_aload_n X (i := 0) 0 dX3_readProduct_0 rfl rfl ?_
  refine V_aload_n X (i := 1) 1 dX3_readProduct_1 rfl rfl ?_
  refine V_iload_n X (i := 2) 2 dX3_readProduct_2 rfl rfl ?_
  refine K_3_readUnit_q7 X (Or.inl q_732) hk1 h ⟨Nat.le_of_ble_eq_true rfl, Nat.le_of_ble_eq_true rfl⟩ ⟨Nat.zero_le _, Nat.zero_le _⟩ (st1 := []) (Nat.le_of_ble_eq_true rfl) dX3_readProduct_3 (fun r2 w1 h => ?_)
  refine V_istore_n X dX3_readProduct_6 rfl (by decide) rfl (ls1 := [(3, .int r2), (0, .ref (ad 7)), (1, .ref (ad k1)), (2, .int a2)]) rfl ?_
  refine V_iconst X (v := (0 : Int32)) dX3_readProduct_7 (by decide) ?_
  refine V_istore X dX3_readProduct_8 (by decide) rfl (ls1 := [(4, .int (0 : Int32)), (3, .int r2), (0, .ref (ad 7)), (1, .ref (ad k1)), (2, .int a2)]) rfl ?_
  refine V_sub X (ls1 := [(0, .ref (ad 7)), (1, .ref (ad k1)), (2, .int a2), (3, .int r2), (4, .int (0 : Int32))]) [2, 3, 4, 1, 0] rfl ?_
  obtain ⟨nn, h⟩ := h
  exact v_3_readProduct_b10_q7 X hr hk1 nn _ _ _ _ h
theorem c_3_readProduct_q7  {k1 : Nat} {a2 : Int32} (hinj : INJ ad) (hk1 : isLaw k1) {w : Mem} {Q : Int32 → Mem → Prop} (h : wp_3_readProduct (wp_3_readSum 7) k1 a2 w Q) : Met l yX3_readProduct (TBq yX3_readProduct cX3_readProduct 6 (some .boolean)) (RM 25) (va_Pc [.ref (ad 7), .ref (ad k1), .int a2] (PB ad cy D (cmb w wm) wl0)) (va_Qi Q (BC ad cy D wm wl0) (AW ad)) 0 0 (AW ad) := M_enter (by decide) (Nat.le_of_ble_eq_true rfl) hinj (fun p e s m args below meth c X hr => v_3_readProduct_q7 X hr hk1 h)
theorem K_3_readProduct_q7 {own : String} {idx : Nat}  {k1 : Nat} {a2 : Int32} (X : CXq p s m args meth c cc nL own ad cy D A H0) (hL : LK own idx yX3_readProduct) (hk1 : isLaw k1) {w : Mem} {Q : Int32 → Mem → Prop} (h : wp_3_readProduct (wp_3_readSum 7) k1 a2 w Q) (hR : (RM 25).frames + 1 ≤ R.frames ∧ 8 + (6 + 11) + (RM 25).locals ≤ R.locals) (hce : ce ≤ R.cells ∧ sl ≤ R.slots) (hcat : (st1.map fun v => v.category).sum ≤ 8) (hd : decode cc pc = .ok (.invokevirtual idx, 3)) (kk : ∀ (r : Int32) (u : Mem), Q r u → V p l e R s m args below meth c nL ad cy D A H0 ce sl Qs u wm wl0 (pc + 3) ls (.int r :: st1)) : V p l e R s m args below meth c nL ad cy D A H0 ce sl Qs w wm wl0 pc ls (.int a2 :: .ref (ad k1) :: .ref (ad 7) :: st1) := V_callVI_c X mf_3_readProduct hL (rfl : vwCl[3]? = some (RX3, TX3, 9)) (by decide) (rfl : SK 7 = 3) (Nat.lt_of_lt_of_le (by decide : 7 < 150) (CX_nn X)) (c_3_readProduct_q7 X.2.2.2.2.2.2.2.1 hk1 h) (As := [.ref (ad k1), .int a2]) rfl ⟨rfl, rfl⟩ hR hce st1 rfl hcat hd kk
set_option maxRecDepth 20000 in
theorem v_3_readSumF_b107_q7 (X : CXq p s m args meth c cX3_readSum 6 yX3_readSum.cls ad cy D (AW ad) s.heap) (hr : meth.sig.returnType = (some .boolean))  {k1 : Nat} (hk1 : isLaw k1) {Q : Int32 → Mem → Prop} : ∀ (l2 : Int32) (l3 : Int32) (w : Mem), wp_3_readSumF_b107 (wp_3_readSum 7) k1 Q l2 l3 w → V p l e (RM 26) s m args below meth c 6 ad cy D (AW ad) s.heap 0 0 (MQ below (va_Qi Q (BC ad cy D wm wl0) (AW ad)) args s 0 0 (AW ad)) w wm wl0 107 [(1, .ref (ad k1)), (2, .int l2), (3, .int l3)] [] := by
  intro l2 l3 w h
  unfold wp_3_readSumF_b107 at h
  refine V_iload_n X (i := 2) 1 dX3_readSum_107 rfl rfl ?_
  obtain ⟨ht, hf⟩ := h
  refine V_if_ne X (tgt := 115) dX3_readSum_108 (by decide) (fun c => ?_) (fun c => ?_)
  · have h := ht c
    refine V_iload_n X (i := 3) 2 dX3_readSum_115 rfl rfl ?_
    exact V_zret_c X hr dX3_readSum_116 (bo_z h.1) h.2
  · have h := hf c
    refine V_aload_n X (i := 1) 0 dX3_readSum_111 rfl rfl ?_
    refine K_2_endPiece X (Or.inl q_737) hk1 h ⟨Nat.le_of_ble_eq_true rfl, Nat.le_of_ble_eq_true rfl⟩ ⟨Nat.zero_le _, Nat.zero_le _⟩ (st1 := []) (Nat.le_of_ble_eq_true rfl) dX3_readSum_112 (fun w1 h => ?_)
    refine V_iload_n X (i := 3) 2 dX3_readSum_115 rfl rfl ?_
    exact V_zret_c X hr dX3_readSum_116 (bo_z h.1) h.2
set_option maxRecDepth 20000 in
theorem v_3_readSumF_b93_q7 (X : CXq p s m args meth c cX3_readSum 6 yX3_readSum.cls ad cy D (AW ad) s.heap) (hr : meth.sig.returnType = (some .boolean))  {k1 : Nat} (hk1 : isLaw k1) {Q : Int32 → Mem → Prop} {L10 : Int32 → Int32 → Int32 → Mem → Prop} (HL10 : ∀ (l2 : Int32) (l3 : Int32) (l4 : Int32) (w : Mem), L10 l2 l3 l4 w → V p l e (RM 26) s m args below meth c 6 ad cy D (AW ad) s.heap 0 0 (MQ below (va_Qi Q (BC ad cy D wm wl0) (AW ad)) args s 0 0 (AW ad)) w wm wl0 10 [(0, .ref (ad 7)), (1, .ref (ad k1)), (2, .int l2), (3, .int l3), (4, .int l4)] []) : ∀ (l2 : Int32) (l4 : Int32) (l5 : Int32) (s0 : Int32) (w : Mem), wp_3_readSumF_b93 (wp_3_readSum 7) k1 Q L10 l2 l4 l5 s0 w → V p l e (RM 26) s m args below meth c 6 ad cy D (AW ad) s.heap 0 0 (MQ below (va_Qi Q (BC ad cy D wm wl0) (AW ad)) args s 0 0 (AW ad)) w wm wl0 93 [(0, .ref (ad 7)), (1, .ref (ad k1)), (2, .int l2), (4, .int l4), (5, .int l5)] [.int s0] := by
  intro l2 l4 l5 s0 w h
  unfold wp_3_readSumF_b93 at h
  refine V_istore_n X dX3_readSum_93 rfl (by decide) rfl (ls1 := [(3, .int s0), (0, .ref (ad 7)), (1, .ref (ad k1)), (2, .int l2), (4, .int l4), (5, .int l5)]) rfl ?_
  refine V_aload_n X (i := 1) 2 dX3_readSum_94 rfl rfl ?_
  refine V_iload X (i := 5) 5 dX3_readSum_95 rfl ?_
  refine V_iconst X (v := (0 : Int32)) dX3_readSum_97 (by decide) ?_
  refine K_2_add X (Or.inl q_736) hk1 h ⟨Nat.le_of_ble_eq_true rfl, Nat.le_of_ble_eq_true rfl⟩ ⟨Nat.zero_le _, Nat.zero_le _⟩ (st1 := []) (Nat.le_of_ble_eq_true rfl) dX3_readSum_98 (fun w1 h => ?_)
  obtain ⟨x2, ex2⟩ : ∃ y : Int32, y = l4 + (1 : Int32) := ⟨_, rfl⟩
  have h := h x2 ex2
  refine V_iinc X 4 dX3_readSum_101 rfl (by decide) (by rw [ex2]; rfl) (ls1 := [(4, .int x2), (3, .int s0), (0, .ref (ad 7)), (1, .ref (ad k1)), (2, .int l2), (5, .int l5)]) rfl ?_
  refine V_goto X (tgt := 10) dX3_readSum_104 (by decide) ?_
  refine V_sub X (ls1 := [(0, .ref (ad 7)), (1, .ref (ad k1)), (2, .int l2), (3, .int s0), (4, .int x2)]) [2, 3, 4, 1, 0] rfl ?_
  exact HL10 _ _ _ _ h
set_option maxRecDepth 20000 in
theorem v_3_readSumF_b92_q7 (X : CXq p s m args meth c cX3_readSum 6 yX3_readSum.cls ad cy D (AW ad) s.heap) (hr : meth.sig.returnType = (some .boolean))  {k1 : Nat} (hk1 : isLaw k1) {Q : Int32 → Mem → Prop} {L10 : Int32 → Int32 → Int32 → Mem → Prop} (HL10 : ∀ (l2 : Int32) (l3 : Int32) (l4 : Int32) (w : Mem), L10 l2 l3 l4 w → V p l e (RM 26) s m args below meth c 6 ad cy D (AW ad) s.heap 0 0 (MQ below (va_Qi Q (BC ad cy D wm wl0) (AW ad)) args s 0 0 (AW ad)) w wm wl0 10 [(0, .ref (ad 7)), (1, .ref (ad k1)), (2, .int l2), (3, .int l3), (4, .int l4)] []) : ∀ (l2 : Int32) (l4 : Int32) (l5 : Int32) (w : Mem), wp_3_readSumF_b92 (wp_3_readSum 7) k1 Q L10 l2 l4 l5 w → V p l e (RM 26) s m args below meth c 6 ad cy D (AW ad) s.heap 0 0 (MQ below (va_Qi Q (BC ad cy D wm wl0) (AW ad)) args s 0 0 (AW ad)) w wm wl0 92 [(0, .ref (ad 7)), (1, .ref (ad k1)), (2, .int l2), (4, .int l4), (5, .int l5)] [] := by
  intro l2 l4 l5 w h
  unfold wp_3_readSumF_b92 at h
  refine V_iconst X (v := (0 : Int32)) dX3_readSum_92 (by decide) ?_
  refine V_sub X (ls1 := [(0, .ref (ad 7)), (1, .ref (ad k1)), (2, .int l2), (4, .int l4), (5, .int l5)]) [0, 1, 2, 3, 4] rfl ?_
  exact v_3_readSumF_b93_q7 X hr hk1 HL10 _ _ _ _ _ h
set_option maxRecDepth 20000 in
theorem v_3_readSumF_b56_q7 (X : CXq p s m args meth c cX3_readSum 6 yX3_readSum.cls ad cy D (AW ad) s.heap) (hr : meth.sig.returnType = (some .boolean))  {k1 : Nat} (hk1 : isLaw k1) {Q : Int32 → Mem → Prop} {L10 : Int32 → Int32 → Int32 → Mem → Prop} (HL10 : ∀ (l2 : Int32) (l3 : Int32) (l4 : Int32) (w : Mem), L10 l2 l3 l4 w → V p l e (RM 26) s m args below meth c 6 ad cy D (AW ad) s.heap 0 0 (MQ below (va_Qi Q (BC ad cy D wm wl0) (AW ad)) args s 0 0 (AW ad)) w wm wl0 10 [(0, .ref (ad 7)), (1, .ref (ad k1)), (2, .int l2), (3, .int l3), (4, .int l4)] []) : ∀ (l2 : Int32) (l4 : Int32) (w : Mem), wp_3_readSumF_b56 (wp_3_readSum 7) k1 Q L10 l2 l4 w → V p l e (RM 26) s m args below meth c 6 ad cy D (AW ad) s.heap 0 0 (MQ below (va_Qi Q (BC ad cy D wm wl0) (AW ad)) args s 0 0 (AW ad)) w wm wl0 56 [(0, .ref (ad 7)), (1, .ref (ad k1)), (2, .int l2), (4, .int l4)] [] := by
  intro l2 l4 w h
  unfold wp_3_readSumF_b56 at h
  refine V_aload_n X (i := 0) 0 dX3_readSum_56 rfl rfl ?_
  refine G_3_15 X dX3_readSum_57 ?_
  refine G_3_45 X dX3_readSum_60 ?_
  refine V_aload_n X (i := 0) 0 dX3_readSum_63 rfl rfl ?_
  refine G_3_19 X dX3_readSum_64 ?_
  obtain ⟨g1, h⟩ := h
  refine V_iald_c X (rfl : SLq 4 = 401) (by decide) (rfl : SK 4 = 14) g1 dX3_readSum_67 ?_
  obtain ⟨x2, ex2⟩ : ∃ y : Int32, y = (w 4 (ix (w 7 3))) := ⟨_, rfl⟩
  have h := h x2 ex2
  refine V_istore X dX3_readSum_68 (by decide) ex2 (ls1 := [(5, .int x2), (0, .ref (ad 7)), (1, .ref (ad k1)), (2, .int l2), (4, .int l4)]) rfl ?_
  refine V_aload_n X (i := 0) 1 dX3_readSum_70 rfl rfl ?_
  refine V_iload X (i := 5) 0 dX3_readSum_71 rfl ?_
  refine K_3_takes X (Or.inl q_702) h ⟨Nat.le_of_ble_eq_true rfl, Nat.le_of_ble_eq_true rfl⟩ ⟨Nat.zero_le _, Nat.zero_le _⟩ (st1 := []) (Nat.le_of_ble_eq_true rfl) dX3_readSum_73 (fun r4 w3 h => ?_)
  obtain ⟨ht, hf⟩ := h
  refine V_if_eq X (tgt := 92) dX3_readSum_76 (by decide) (fun c => ?_) (fun c => ?_)
  · have h := ht c
    refine V_sub X (ls1 := [(0, .ref (ad 7)), (1, .ref (ad k1)), (2, .int l2), (4, .int l4), (5, .int x2)]) [1, 2, 3, 4, 0] rfl ?_
    exact v_3_readSumF_b92_q7 X hr hk1 HL10 _ _ _ _ h
  · have h := hf c
    refine V_aload_n X (i := 0) 1 dX3_readSum_79 rfl rfl ?_
    refine V_aload_n X (i := 1) 2 dX3_readSum_80 rfl rfl ?_
    refine V_iload_n X (i := 2) 3 dX3_readSum_81 rfl rfl ?_
    refine K_3_readProduct_q7 X (Or.inl q_728) hk1 h ⟨Nat.le_of_ble_eq_true rfl, Nat.le_of_ble_eq_true rfl⟩ ⟨Nat.zero_le _, Nat.zero_le _⟩ (st1 := []) (Nat.le_of_ble_eq_true rfl) dX3_readSum_82 (fun r6 w5 h => ?_)
    obtain ⟨ht, hf⟩ := h
    refine V_if_eq X (tgt := 92) dX3_readSum_85 (by decide) (fun c => ?_) (fun c => ?_)
    · have h := ht c
      refine V_sub X (ls1 := [(0, .ref (ad 7)), (1, .ref (ad k1)), (2, .int l2), (4, .int l4), (5, .int x2)]) [1, 2, 3, 4, 0] rfl ?_
      exact v_3_readSumF_b92_q7 X hr hk1 HL10 _ _ _ _ h
    · have h := hf c
      refine V_iconst X (v := (1 : Int32)) dX3_readSum_88 (by decide) ?_
      refine V_goto X (tgt := 93) dX3_readSum_89 (by decide) ?_
      refine V_sub X (ls1 := [(0, .ref (ad 7)), (1, .ref (ad k1)), (2, .int l2), (4, .int l4), (5, .int x2)]) [1, 2, 3, 4, 0] rfl ?_
      exact v_3_readSumF_b93_q7 X hr hk1 HL10 _ _ _ _ _ h
set_option maxRecDepth 20000 in
theorem v_3_readSumF_b10_q7 (X : CXq p s m args meth c cX3_readSum 6 yX3_readSum.cls ad cy D (AW ad) s.heap) (hr : meth.sig.returnType = (some .boolean))  {k1 : Nat} (hk1 : isLaw k1) {Q : Int32 → Mem → Prop} : ∀ (n : Nat) (l2 : Int32) (l3 : Int32) (l4 : Int32) (w : Mem), wp_3_readSumF_b10 (wp_3_readSum 7) k1 Q n l2 l3 l4 w → V p l e (RM 26) s m args below meth c 6 ad cy D (AW ad) s.heap 0 0 (MQ below (va_Qi Q (BC ad cy D wm wl0) (AW ad)) args s 0 0 (AW ad)) w wm wl0 10 [(0, .ref (ad 7)), (1, .ref (ad k1)), (2, .int l2), (3, .int l3), (4, .int l4)] [] := by
  intro n
  induction n with
  | zero =>
    intro l2 l3 l4 w h
    exact h.elim
  | succ n ih =>
    intro l2 l3 l4 w h
    unfold wp_3_readSumF_b10 at h
    refine V_iload X (i := 4) 4 dX3_readSum_10 rfl ?_
    refine V_sipush X (v := (400 : Int32)) dX3_readSum_12 (by decide) ?_
    obtain ⟨ht, hf⟩ := h
    refine V_icmp_ge X (tgt := 107) dX3_readSum_15 (by decide) (fun c => ?_) (fun c => ?_)
    · have h := ht c
      refine V_sub X (ls1 := [(1, .ref (ad k1)), (2, .int l2), (3, .int l3)]) [1, 2, 3] rfl ?_
      exact v_3_readSumF_b107_q7 X hr hk1 _ _ _ h
    · have h := hf c
      refine V_iload_n X (i := 3) 3 dX3_readSum_18 rfl rfl ?_
      obtain ⟨ht, hf⟩ := h
      refine V_if_eq X (tgt := 107) dX3_readSum_19 (by decide) (fun c => ?_) (fun c => ?_)
      · have h := ht c
        refine V_sub X (ls1 := [(1, .ref (ad k1)), (2, .int l2), (3, .int l3)]) [1, 2, 3] rfl ?_
        exact v_3_readSumF_b107_q7 X hr hk1 _ _ _ h
      · have h := hf c
        refine V_aload_n X (i := 0) 0 dX3_readSum_22 rfl rfl ?_
        refine G_3_15 X dX3_readSum_23 ?_
        refine G_3_45 X dX3_readSum_26 ?_
        refine V_aload_n X (i := 0) 0 dX3_readSum_29 rfl rfl ?_
        refine G_3_19 X dX3_readSum_30 ?_
        obtain ⟨g1, h⟩ := h
        refine V_iald_c X (rfl : SLq 4 = 401) (by decide) (rfl : SK 4 = 14) g1 dX3_readSum_33 ?_
        refine V_bipush X (v := (43 : Int32)) dX3_readSum_34 (by decide) ?_
        obtain ⟨ht, hf⟩ := h
        refine V_icmp_eq X (tgt := 56) dX3_readSum_36 (by decide) (fun c => ?_) (fun c => ?_)
        · have h := ht c
          refine V_sub X (ls1 := [(0, .ref (ad 7)), (1, .ref (ad k1)), (2, .int l2), (4, .int l4)]) [0, 1, 2, 4] rfl ?_
          exact v_3_readSumF_b56_q7 X hr hk1 ih _ _ _ h
        · have h := hf c
          refine V_aload_n X (i := 0) 0 dX3_readSum_39 rfl rfl ?_
          refine G_3_15 X dX3_readSum_40 ?_
          refine G_3_45 X dX3_readSum_43 ?_
          refine V_aload_n X (i := 0) 0 dX3_readSum_46 rfl rfl ?_
          refine G_3_19 X dX3_readSum_47 ?_
          obtain ⟨g2, h⟩ := h
          refine V_iald_c X (rfl : SLq 4 = 401) (by decide) (rfl : SK 4 = 14) g2 dX3_readSum_50 ?_
          refine V_bipush X (v := (45 : Int32)) dX3_readSum_51 (by decide) ?_
          obtain ⟨ht, hf⟩ := h
          refine V_icmp_ne X (tgt := 107) dX3_readSum_53 (by decide) (fun c => ?_) (fun c => ?_)
          · have h := ht c
            refine V_sub X (ls1 := [(1, .ref (ad k1)), (2, .int l2), (3, .int l3)]) [1, 2, 3] rfl ?_
            exact v_3_readSumF_b107_q7 X hr hk1 _ _ _ h
          · have h := hf c
            refine V_sub X (ls1 := [(0, .ref (ad 7)), (1, .ref (ad k1)), (2, .int l2), (4, .int l4)]) [0, 1, 2, 4] rfl ?_
            exact v_3_readSumF_b56_q7 X hr hk1 ih _ _ _ h
set_option maxRecDepth 20000 in
theorem v_3_readSumF_q7  {k1 : Nat} {a2 : Int32} (X : CXq p s m args meth c cX3_readSum 6 yX3_readSum.cls ad cy D (AW ad) s.heap) (hr : meth.sig.returnType = (some .boolean)) (hk1 : isLaw k1) {w : Mem} {Q : Int32 → Mem → Prop} (h : wp_3_readSumF (wp_3_readSum 7) k1 a2 w Q) : V p l e (RM 26) s m args below meth c 6 ad cy D (AW ad) s.heap 0 0 (MQ below (va_Qi Q (BC ad cy D wm wl0) (AW ad)) args s 0 0 (AW ad)) w wm wl0 0 [(0, .ref (ad 7)), (1, .ref (ad k1)), (2, .int a2)] [] := by
  unfold wp_3_readSumF at h
  refine V_aload_n X (i := 0) 0 dX3_readSum_0 rfl rfl ?_
  refine V_aload_n X (i := 1) 1 dX3_readSum_1 rfl rfl ?_
  refine V_iload_n X (i := 2) 2 dX3_readSum_2 rfl rfl ?_
  refine K_3_readProduct_q7 X (Or.inl q_728) hk1 h ⟨Nat.le_of_ble_eq_true rfl, Nat.le_of_ble_eq_true rfl⟩ ⟨Nat.zero_le _, Nat.zero_le _⟩ (st1 := []) (Nat.le_of_ble_eq_true rfl) dX3_readSum_3 (fun r2 w1 h => ?_)
  refine V_istore_n X dX3_readSum_6 rfl (by decide) rfl (ls1 := [(3, .int r2), (0, .ref (ad 7)), (1, .ref (ad k1)), (2, .int a2)]) rfl ?_
  refine V_iconst X (v := (0 : Int32)) dX3_readSum_7 (by decide) ?_
  refine V_istore X dX3_readSum_8 (by decide) rfl (ls1 := [(4, .int (0 : Int32)), (3, .int r2), (0, .ref (ad 7)), (1, .ref (ad k1)), (2, .int a2)]) rfl ?_
  refine V_sub X (ls1 := [(0, .ref (ad 7)), (1, .ref (ad k1)), (2, .int a2), (3, .int r2), (4, .int (0 : Int32))]) [2, 3, 4, 1, 0] rfl ?_
  obtain ⟨nn, h⟩ := h
  exact v_3_readSumF_b10_q7 X hr hk1 nn _ _ _ _ h
theorem c_3_readSumF_q7  {k1 : Nat} {a2 : Int32} (hinj : INJ ad) (hk1 : isLaw k1) {w : Mem} {Q : Int32 → Mem → Prop} (h : wp_3_readSumF (wp_3_readSum 7) k1 a2 w Q) : Met l yX3_readSum (TBq yX3_readSum cX3_readSum 6 (some .boolean)) (RM 26) (va_Pc [.ref (ad 7), .ref (ad k1), .int a2] (PB ad cy D (cmb w wm) wl0)) (va_Qi Q (BC ad cy D wm wl0) (AW ad)) 0 0 (AW ad) := M_enter (by decide) (Nat.le_of_ble_eq_true rfl) hinj (fun p e s m args below meth c X hr => v_3_readSumF_q7 X hr hk1 h)
theorem K_3_readSumF_q7 {own : String} {idx : Nat}  {k1 : Nat} {a2 : Int32} (X : CXq p s m args meth c cc nL own ad cy D A H0) (hL : LK own idx yX3_readSum) (hk1 : isLaw k1) {w : Mem} {Q : Int32 → Mem → Prop} (h : wp_3_readSumF (wp_3_readSum 7) k1 a2 w Q) (hR : (RM 26).frames + 1 ≤ R.frames ∧ 8 + (6 + 11) + (RM 26).locals ≤ R.locals) (hce : ce ≤ R.cells ∧ sl ≤ R.slots) (hcat : (st1.map fun v => v.category).sum ≤ 8) (hd : decode cc pc = .ok (.invokevirtual idx, 3)) (kk : ∀ (r : Int32) (u : Mem), Q r u → V p l e R s m args below meth c nL ad cy D A H0 ce sl Qs u wm wl0 (pc + 3) ls (.int r :: st1)) : V p l e R s m args below meth c nL ad cy D A H0 ce sl Qs w wm wl0 pc ls (.int a2 :: .ref (ad k1) :: .ref (ad 7) :: st1) := V_callVI_c X mf_3_readSumF hL (rfl : vwCl[3]? = some (RX3, TX3, 9)) (by decide) (rfl : SK 7 = 3) (Nat.lt_of_lt_of_le (by decide : 7 < 150) (CX_nn X)) (c_3_readSumF_q7 X.2.2.2.2.2.2.2.1 hk1 h) (As := [.ref (ad k1), .int a2]) rfl ⟨rfl, rfl⟩ hR hce st1 rfl hcat hd kk
theorem K_3_readSum_8 {own : String} {idx : Nat}  {k1 : Nat} {a2 : Int32} (X : CXq p s m args meth c cc nL own ad cy D A H0) (hL : LK own idx yX3_readSum) (hk1 : isLaw k1) {w : Mem} {Q : Int32 → Mem → Prop} (h : wp_3_readSum 8 k1 a2 w Q) (hR : (RM 26).frames + 1 ≤ R.frames ∧ 8 + (6 + 11) + (RM 26).locals ≤ R.locals) (hce : ce ≤ R.cells ∧ sl ≤ R.slots) (hcat : (st1.map fun v => v.category).sum ≤ 8) (hd : decode cc pc = .ok (.invokevirtual idx, 3)) (kk : ∀ (r : Int32) (u : Mem), Q r u → V p l e R s m args below meth c nL ad cy D A H0 ce sl Qs u wm wl0 (pc + 3) ls (.int r :: st1)) : V p l e R s m args below meth c nL ad cy D A H0 ce sl Qs w wm wl0 pc ls (.int a2 :: .ref (ad k1) :: .ref (ad 7) :: st1) := K_3_readSumF_q7 X hL hk1 h hR hce hcat hd kk
set_option maxRecDepth 20000 in
theorem v_3_readLaw_b135 (X : CXq p s m args meth c cX3_readLaw 4 yX3_readLaw.cls ad cy D (AW ad) s.heap) (hr : meth.sig.returnType = (some .boolean)) {k1 : Nat} (hk1 : isLaw k1) {Q : Int32 → Mem → Prop} : ∀ (w : Mem), wp_3_readLaw_b135 k1 Q w → V p l e (RM 27) s m args below meth c 4 ad cy D (AW ad) s.heap 0 0 (MQ below (va_Qi Q (BC ad cy D wm wl0) (AW ad)) args s 0 0 (AW ad)) w wm wl0 135 [(0, .ref (ad 7)), (1, .ref (ad k1))] [] := by
  intro w h
  unfold wp_3_readLaw_b135 at h
  refine V_aload_n X (i := 0) 0 dX3_readLaw_135 rfl rfl ?_
  refine V_aload_n X (i := 1) 1 dX3_readLaw_136 rfl rfl ?_
  refine V_iconst X (v := (0 : Int32)) dX3_readLaw_137 (by decide) ?_
  refine K_3_readSum_8 X (Or.inl q_724) hk1 h ⟨Nat.le_of_ble_eq_true rfl, Nat.le_of_ble_eq_true rfl⟩ ⟨Nat.zero_le _, Nat.zero_le _⟩ (st1 := []) (Nat.le_of_ble_eq_true rfl) dX3_readLaw_138 (fun r2 w1 h => ?_)
  exact V_zret_c X hr dX3_readLaw_141 (bo_z h.1) h.2
set_option maxRecDepth 20000 in
theorem v_3_readLaw_b122 (X : CXq p s m args meth c cX3_readLaw 4 yX3_readLaw.cls ad cy D (AW ad) s.heap) (hr : meth.sig.returnType = (some .boolean)) {k1 : Nat} (hk1 : isLaw k1) {Q : Int32 → Mem → Prop} {L17 : Int32 → Mem → Prop} (HL17 : ∀ (l2 : Int32) (w : Mem), L17 l2 w → V p l e (RM 27) s m args below meth c 4 ad cy D (AW ad) s.heap 0 0 (MQ below (va_Qi Q (BC ad cy D wm wl0) (AW ad)) args s 0 0 (AW ad)) w wm wl0 17 [(0, .ref (ad 7)), (1, .ref (ad k1)), (2, .int l2)] []) : ∀ (l2 : Int32) (s0 : Int32) (w : Mem), wp_3_readLaw_b122 k1 Q L17 l2 s0 w → V p l e (RM 27) s m args below meth c 4 ad cy D (AW ad) s.heap 0 0 (MQ below (va_Qi Q (BC ad cy D wm wl0) (AW ad)) args s 0 0 (AW ad)) w wm wl0 122 [(0, .ref (ad 7)), (1, .ref (ad k1)), (2, .int l2)] [.int s0] := by
  intro l2 s0 w h
  unfold wp_3_readLaw_b122 at h
  refine V_istore_n X dX3_readLaw_122 rfl (by decide) rfl (ls1 := [(3, .int s0), (0, .ref (ad 7)), (1, .ref (ad k1)), (2, .int l2)]) rfl ?_
  refine V_iload_n X (i := 3) 0 dX3_readLaw_123 rfl rfl ?_
  obtain ⟨ht, hf⟩ := h
  refine V_if_ne X (tgt := 129) dX3_readLaw_124 (by decide) (fun c => ?_) (fun c => ?_)
  · have h := ht c
    obtain ⟨x1, ex1⟩ : ∃ y : Int32, y = l2 + (1 : Int32) := ⟨_, rfl⟩
    have h := h x1 ex1
    refine V_iinc X 3 dX3_readLaw_129 rfl (by decide) (by rw [ex1]; rfl) (ls1 := [(2, .int x1), (3, .int s0), (0, .ref (ad 7)), (1, .ref (ad k1))]) rfl ?_
    refine V_goto X (tgt := 17) dX3_readLaw_132 (by decide) ?_
    refine V_sub X (ls1 := [(0, .ref (ad 7)), (1, .ref (ad k1)), (2, .int x1)]) [2, 3, 0] rfl ?_
    exact HL17 _ _ h
  · have h := hf c
    refine V_iconst X (v := (0 : Int32)) dX3_readLaw_127 (by decide) ?_
    exact V_zret_c X hr dX3_readLaw_128 rfl h
set_option maxRecDepth 20000 in
theorem v_3_readLaw_b121 (X : CXq p s m args meth c cX3_readLaw 4 yX3_readLaw.cls ad cy D (AW ad) s.heap) (hr : meth.sig.returnType = (some .boolean)) {k1 : Nat} (hk1 : isLaw k1) {Q : Int32 → Mem → Prop} {L17 : Int32 → Mem → Prop} (HL17 : ∀ (l2 : Int32) (w : Mem), L17 l2 w → V p l e (RM 27) s m args below meth c 4 ad cy D (AW ad) s.heap 0 0 (MQ below (va_Qi Q (BC ad cy D wm wl0) (AW ad)) args s 0 0 (AW ad)) w wm wl0 17 [(0, .ref (ad 7)), (1, .ref (ad k1)), (2, .int l2)] []) : ∀ (l2 : Int32) (w : Mem), wp_3_readLaw_b121 k1 Q L17 l2 w → V p l e (RM 27) s m args below meth c 4 ad cy D (AW ad) s.heap 0 0 (MQ below (va_Qi Q (BC ad cy D wm wl0) (AW ad)) args s 0 0 (AW ad)) w wm wl0 121 [(0, .ref (ad 7)), (1, .ref (ad k1)), (2, .int l2)] [] := by
  intro l2 w h
  unfold wp_3_readLaw_b121 at h
  refine V_iconst X (v := (0 : Int32)) dX3_readLaw_121 (by decide) ?_
  refine V_sub X (ls1 := [(0, .ref (ad 7)), (1, .ref (ad k1)), (2, .int l2)]) [0, 1, 2] rfl ?_
  exact v_3_readLaw_b122 X hr hk1 HL17 _ _ _ h
set_option maxRecDepth 20000 in
theorem v_3_readLaw_b17 (X : CXq p s m args meth c cX3_readLaw 4 yX3_readLaw.cls ad cy D (AW ad) s.heap) (hr : meth.sig.returnType = (some .boolean)) {k1 : Nat} (hk1 : isLaw k1) {Q : Int32 → Mem → Prop} : ∀ (n : Nat) (l2 : Int32) (w : Mem), wp_3_readLaw_b17 k1 Q n l2 w → V p l e (RM 27) s m args below meth c 4 ad cy D (AW ad) s.heap 0 0 (MQ below (va_Qi Q (BC ad cy D wm wl0) (AW ad)) args s 0 0 (AW ad)) w wm wl0 17 [(0, .ref (ad 7)), (1, .ref (ad k1)), (2, .int l2)] [] := by
  intro n
  induction n with
  | zero =>
    intro l2 w h
    exact h.elim
  | succ n ih =>
    intro l2 w h
    unfold wp_3_readLaw_b17 at h
    refine V_iload_n X (i := 2) 2 dX3_readLaw_17 rfl rfl ?_
    refine V_iconst X (v := (4 : Int32)) dX3_readLaw_18 (by decide) ?_
    obtain ⟨ht, hf⟩ := h
    refine V_icmp_gt X (tgt := 135) dX3_readLaw_19 (by decide) (fun c => ?_) (fun c => ?_)
    · have h := ht c
      refine V_sub X (ls1 := [(0, .ref (ad 7)), (1, .ref (ad k1))]) [0, 1] rfl ?_
      exact v_3_readLaw_b135 X hr hk1 _ h
    · have h := hf c
      refine V_aload_n X (i := 0) 0 dX3_readLaw_22 rfl rfl ?_
      refine G_3_15 X dX3_readLaw_23 ?_
      refine G_3_45 X dX3_readLaw_26 ?_
      refine V_aload_n X (i := 0) 0 dX3_readLaw_29 rfl rfl ?_
      refine G_3_19 X dX3_readLaw_30 ?_
      obtain ⟨g1, h⟩ := h
      refine V_iald_c X (rfl : SLq 4 = 401) (by decide) (rfl : SK 4 = 14) g1 dX3_readLaw_33 ?_
      refine V_sipush X (v := (143 : Int32)) dX3_readLaw_34 (by decide) ?_
      obtain ⟨ht, hf⟩ := h
      refine V_icmp_ne X (tgt := 135) dX3_readLaw_37 (by decide) (fun c => ?_) (fun c => ?_)
      · have h := ht c
        refine V_sub X (ls1 := [(0, .ref (ad 7)), (1, .ref (ad k1))]) [0, 1] rfl ?_
        exact v_3_readLaw_b135 X hr hk1 _ h
      · have h := hf c
        refine V_iload_n X (i := 2) 2 dX3_readLaw_40 rfl rfl ?_
        refine V_iconst X (v := (4 : Int32)) dX3_readLaw_41 (by decide) ?_
        obtain ⟨ht, hf⟩ := h
        refine V_icmp_ne X (tgt := 51) dX3_readLaw_42 (by decide) (fun c => ?_) (fun c => ?_)
        · have h := ht c
          refine V_aload_n X (i := 0) 0 dX3_readLaw_51 rfl rfl ?_
          refine V_sipush X (v := (143 : Int32)) dX3_readLaw_52 (by decide) ?_
          refine K_3_takes X (Or.inl q_702) h ⟨Nat.le_of_ble_eq_true rfl, Nat.le_of_ble_eq_true rfl⟩ ⟨Nat.zero_le _, Nat.zero_le _⟩ (st1 := []) (Nat.le_of_ble_eq_true rfl) dX3_readLaw_55 (fun r3 w2 h => ?_)
          obtain ⟨ht, hf⟩ := h
          refine V_if_eq X (tgt := 121) dX3_readLaw_58 (by decide) (fun c => ?_) (fun c => ?_)
          · have h := ht c
            refine V_sub X (ls1 := [(0, .ref (ad 7)), (1, .ref (ad k1)), (2, .int l2)]) [0, 1, 2] rfl ?_
            exact v_3_readLaw_b121 X hr hk1 ih _ _ h
          · have h := hf c
            refine V_aload_n X (i := 0) 0 dX3_readLaw_61 rfl rfl ?_
            refine V_aload_n X (i := 1) 1 dX3_readLaw_62 rfl rfl ?_
            refine V_iconst X (v := (0 : Int32)) dX3_readLaw_63 (by decide) ?_
            refine K_3_readSum_8 X (Or.inl q_724) hk1 h ⟨Nat.le_of_ble_eq_true rfl, Nat.le_of_ble_eq_true rfl⟩ ⟨Nat.zero_le _, Nat.zero_le _⟩ (st1 := []) (Nat.le_of_ble_eq_true rfl) dX3_readLaw_64 (fun r5 w4 h => ?_)
            obtain ⟨ht, hf⟩ := h
            refine V_if_eq X (tgt := 121) dX3_readLaw_67 (by decide) (fun c => ?_) (fun c => ?_)
            · have h := ht c
              refine V_sub X (ls1 := [(0, .ref (ad 7)), (1, .ref (ad k1)), (2, .int l2)]) [0, 1, 2] rfl ?_
              exact v_3_readLaw_b121 X hr hk1 ih _ _ h
            · have h := hf c
              refine V_aload_n X (i := 0) 0 dX3_readLaw_70 rfl rfl ?_
              refine V_bipush X (v := (60 : Int32)) dX3_readLaw_71 (by decide) ?_
              refine K_3_takes X (Or.inl q_702) h ⟨Nat.le_of_ble_eq_true rfl, Nat.le_of_ble_eq_true rfl⟩ ⟨Nat.zero_le _, Nat.zero_le _⟩ (st1 := []) (Nat.le_of_ble_eq_true rfl) dX3_readLaw_73 (fun r7 w6 h => ?_)
              obtain ⟨ht, hf⟩ := h
              refine V_if_eq X (tgt := 121) dX3_readLaw_76 (by decide) (fun c => ?_) (fun c => ?_)
              · have h := ht c
                refine V_sub X (ls1 := [(0, .ref (ad 7)), (1, .ref (ad k1)), (2, .int l2)]) [0, 1, 2] rfl ?_
                exact v_3_readLaw_b121 X hr hk1 ih _ _ h
              · have h := hf c
                refine V_aload_n X (i := 0) 0 dX3_readLaw_79 rfl rfl ?_
                refine V_aload_n X (i := 1) 1 dX3_readLaw_80 rfl rfl ?_
                refine V_iconst X (v := (0 : Int32)) dX3_readLaw_81 (by decide) ?_
                refine K_3_readSum_8 X (Or.inl q_724) hk1 h ⟨Nat.le_of_ble_eq_true rfl, Nat.le_of_ble_eq_true rfl⟩ ⟨Nat.zero_le _, Nat.zero_le _⟩ (st1 := []) (Nat.le_of_ble_eq_true rfl) dX3_readLaw_82 (fun r9 w8 h => ?_)
                obtain ⟨ht, hf⟩ := h
                refine V_if_eq X (tgt := 121) dX3_readLaw_85 (by decide) (fun c => ?_) (fun c => ?_)
                · have h := ht c
                  refine V_sub X (ls1 := [(0, .ref (ad 7)), (1, .ref (ad k1)), (2, .int l2)]) [0, 1, 2] rfl ?_
                  exact v_3_readLaw_b121 X hr hk1 ih _ _ h
                · have h := hf c
                  refine V_aload_n X (i := 0) 0 dX3_readLaw_88 rfl rfl ?_
                  refine V_sipush X (v := (144 : Int32)) dX3_readLaw_89 (by decide) ?_
                  refine K_3_takes X (Or.inl q_702) h ⟨Nat.le_of_ble_eq_true rfl, Nat.le_of_ble_eq_true rfl⟩ ⟨Nat.zero_le _, Nat.zero_le _⟩ (st1 := []) (Nat.le_of_ble_eq_true rfl) dX3_readLaw_92 (fun r11 w10 h => ?_)
                  obtain ⟨ht, hf⟩ := h
                  refine V_if_eq X (tgt := 121) dX3_readLaw_95 (by decide) (fun c => ?_) (fun c => ?_)
                  · have h := ht c
                    refine V_sub X (ls1 := [(0, .ref (ad 7)), (1, .ref (ad k1)), (2, .int l2)]) [0, 1, 2] rfl ?_
                    exact v_3_readLaw_b121 X hr hk1 ih _ _ h
                  · have h := hf c
                    refine V_aload_n X (i := 0) 0 dX3_readLaw_98 rfl rfl ?_
                    refine V_aload_n X (i := 1) 1 dX3_readLaw_99 rfl rfl ?_
                    refine V_iconst X (v := (0 : Int32)) dX3_readLaw_100 (by decide) ?_
                    refine K_3_readSum_8 X (Or.inl q_724) hk1 h ⟨Nat.le_of_ble_eq_true rfl, Nat.le_of_ble_eq_true rfl⟩ ⟨Nat.zero_le _, Nat.zero_le _⟩ (st1 := []) (Nat.le_of_ble_eq_true rfl) dX3_readLaw_101 (fun r13 w12 h => ?_)
                    obtain ⟨ht, hf⟩ := h
                    refine V_if_eq X (tgt := 121) dX3_readLaw_104 (by decide) (fun c => ?_) (fun c => ?_)
                    · have h := ht c
                      refine V_sub X (ls1 := [(0, .ref (ad 7)), (1, .ref (ad k1)), (2, .int l2)]) [0, 1, 2] rfl ?_
                      exact v_3_readLaw_b121 X hr hk1 ih _ _ h
                    · have h := hf c
                      refine V_aload_n X (i := 0) 0 dX3_readLaw_107 rfl rfl ?_
                      refine V_sipush X (v := (145 : Int32)) dX3_readLaw_108 (by decide) ?_
                      refine K_3_takes X (Or.inl q_702) h ⟨Nat.le_of_ble_eq_true rfl, Nat.le_of_ble_eq_true rfl⟩ ⟨Nat.zero_le _, Nat.zero_le _⟩ (st1 := []) (Nat.le_of_ble_eq_true rfl) dX3_readLaw_111 (fun r15 w14 h => ?_)
                      obtain ⟨ht, hf⟩ := h
                      refine V_if_eq X (tgt := 121) dX3_readLaw_114 (by decide) (fun c => ?_) (fun c => ?_)
                      · have h := ht c
                        refine V_sub X (ls1 := [(0, .ref (ad 7)), (1, .ref (ad k1)), (2, .int l2)]) [0, 1, 2] rfl ?_
                        exact v_3_readLaw_b121 X hr hk1 ih _ _ h
                      · have h := hf c
                        refine V_iconst X (v := (1 : Int32)) dX3_readLaw_117 (by decide) ?_
                        refine V_goto X (tgt := 122) dX3_readLaw_118 (by decide) ?_
                        refine V_sub X (ls1 := [(0, .ref (ad 7)), (1, .ref (ad k1)), (2, .int l2)]) [0, 1, 2] rfl ?_
                        exact v_3_readLaw_b122 X hr hk1 ih _ _ _ h
        · have h := hf c
          refine V_aload_n X (i := 0) 0 dX3_readLaw_45 rfl rfl ?_
          refine V_iconst X (v := (2 : Int32)) dX3_readLaw_46 (by decide) ?_
          refine K_3_fails X (Or.inl q_694) h ⟨Nat.le_of_ble_eq_true rfl, Nat.le_of_ble_eq_true rfl⟩ ⟨Nat.zero_le _, Nat.zero_le _⟩ (st1 := []) (Nat.le_of_ble_eq_true rfl) dX3_readLaw_47 (fun r17 w16 h => ?_)
          exact V_zret_c X hr dX3_readLaw_50 (bo_z h.1) h.2
set_option maxRecDepth 20000 in
theorem v_3_readLaw {k1 : Nat} (X : CXq p s m args meth c cX3_readLaw 4 yX3_readLaw.cls ad cy D (AW ad) s.heap) (hr : meth.sig.returnType = (some .boolean)) (hk1 : isLaw k1) {w : Mem} {Q : Int32 → Mem → Prop} (h : wp_3_readLaw k1 w Q) : V p l e (RM 27) s m args below meth c 4 ad cy D (AW ad) s.heap 0 0 (MQ below (va_Qi Q (BC ad cy D wm wl0) (AW ad)) args s 0 0 (AW ad)) w wm wl0 0 [(0, .ref (ad 7)), (1, .ref (ad k1))] [] := by
  unfold wp_3_readLaw at h
  refine V_aload_n X (i := 1) 1 dX3_readLaw_0 rfl rfl ?_
  refine K_2_clear X (Or.inl q_723) hk1 h ⟨Nat.le_of_ble_eq_true rfl, Nat.le_of_ble_eq_true rfl⟩ ⟨Nat.zero_le _, Nat.zero_le _⟩ (st1 := []) (Nat.le_of_ble_eq_true rfl) dX3_readLaw_1 (fun w1 h => ?_)
  refine V_aload_n X (i := 0) 0 dX3_readLaw_4 rfl rfl ?_
  refine V_bipush X (v := (61 : Int32)) dX3_readLaw_5 (by decide) ?_
  refine K_3_takes X (Or.inl q_702) h ⟨Nat.le_of_ble_eq_true rfl, Nat.le_of_ble_eq_true rfl⟩ ⟨Nat.zero_le _, Nat.zero_le _⟩ (st1 := []) (Nat.le_of_ble_eq_true rfl) dX3_readLaw_7 (fun r3 w2 h => ?_)
  obtain ⟨ht, hf⟩ := h
  refine V_if_ne X (tgt := 15) dX3_readLaw_10 (by decide) (fun c => ?_) (fun c => ?_)
  · have h := ht c
    refine V_iconst X (v := (0 : Int32)) dX3_readLaw_15 (by decide) ?_
    refine V_istore_n X dX3_readLaw_16 rfl (by decide) rfl (ls1 := [(2, .int (0 : Int32)), (0, .ref (ad 7)), (1, .ref (ad k1))]) rfl ?_
    refine V_sub X (ls1 := [(0, .ref (ad 7)), (1, .ref (ad k1)), (2, .int (0 : Int32))]) [1, 2, 0] rfl ?_
    obtain ⟨nn, h⟩ := h
    exact v_3_readLaw_b17 X hr hk1 nn _ _ h
  · have h := hf c
    refine V_iconst X (v := (0 : Int32)) dX3_readLaw_13 (by decide) ?_
    exact V_zret_c X hr dX3_readLaw_14 rfl h
theorem c_3_readLaw {k1 : Nat} (hinj : INJ ad) (hk1 : isLaw k1) {w : Mem} {Q : Int32 → Mem → Prop} (h : wp_3_readLaw k1 w Q) : Met l yX3_readLaw (TBq yX3_readLaw cX3_readLaw 4 (some .boolean)) (RM 27) (va_Pc [.ref (ad 7), .ref (ad k1)] (PB ad cy D (cmb w wm) wl0)) (va_Qi Q (BC ad cy D wm wl0) (AW ad)) 0 0 (AW ad) := M_enter (by decide) (Nat.le_of_ble_eq_true rfl) hinj (fun p e s m args below meth c X hr => v_3_readLaw X hr hk1 h)
theorem mf_3_readLaw : MFV yX3_readLaw cX3_readLaw 4 (some .boolean) yX3_readLaw.cls 1 := ⟨q_722, q_721, qs_12, q_4, by decide⟩
theorem K_3_readLaw {own : String} {idx : Nat} {k1 : Nat} (X : CXq p s m args meth c cc nL own ad cy D A H0) (hL : LK own idx yX3_readLaw) (hk1 : isLaw k1) {w : Mem} {Q : Int32 → Mem → Prop} (h : wp_3_readLaw k1 w Q) (hR : (RM 27).frames + 1 ≤ R.frames ∧ 8 + (4 + 11) + (RM 27).locals ≤ R.locals) (hce : ce ≤ R.cells ∧ sl ≤ R.slots) (hcat : (st1.map fun v => v.category).sum ≤ 8) (hd : decode cc pc = .ok (.invokevirtual idx, 3)) (kk : ∀ (r : Int32) (u : Mem), Q r u → V p l e R s m args below meth c nL ad cy D A H0 ce sl Qs u wm wl0 (pc + 3) ls (.int r :: st1)) : V p l e R s m args below meth c nL ad cy D A H0 ce sl Qs w wm wl0 pc ls (.ref (ad k1) :: .ref (ad 7) :: st1) := V_callVI_c X mf_3_readLaw hL (rfl : vwCl[3]? = some (RX3, TX3, 9)) (by decide) (rfl : SK 7 = 3) (Nat.lt_of_lt_of_le (by decide : 7 < 150) (CX_nn X)) (c_3_readLaw X.2.2.2.2.2.2.2.1 hk1 h) (As := [.ref (ad k1)]) rfl ⟨rfl, rfl⟩ hR hce st1 rfl hcat hd kk
set_option maxRecDepth 20000 in
theorem v_3_readParts_b4 (X : CXq p s m args meth c cX3_readParts 4 yX3_readParts.cls ad cy D (AW ad) s.heap) (hr : meth.sig.returnType = (some .boolean)) {b1 nb1 : Nat} (hb1 : isArr b1 14 nb1) {Q : Int32 → Mem → Prop} : ∀ (n : Nat) (l2 : Int32) (l3 : Int32) (w : Mem), wp_3_readParts_b4 b1 nb1 Q n l2 l3 w → V p l e (RM 2) s m args below meth c 4 ad cy D (AW ad) s.heap 0 0 (MQ below (va_Qi Q (BC ad cy D wm wl0) (AW ad)) args s 0 0 (AW ad)) w wm wl0 4 [(0, .ref (ad 7)), (1, .ref (ad b1)), (2, .int l2), (3, .int l3)] [] := by
  intro n
  induction n with
  | zero =>
    intro l2 l3 w h
    exact h.elim
  | succ n ih =>
    intro l2 l3 w h
    unfold wp_3_readParts_b4 at h
    refine V_iload_n X (i := 3) 3 dX3_readParts_4 rfl rfl ?_
    refine V_aload_n X (i := 1) 1 dX3_readParts_5 rfl rfl ?_
    refine V_alen_c X (hb1).2.1 (hb1).2.2 (hb1).1 (by decide) dX3_readParts_6 ?_
    obtain ⟨ht, hf⟩ := h
    refine V_icmp_ge X (tgt := 35) dX3_readParts_7 (by decide) (fun c => ?_) (fun c => ?_)
    · have h := ht c
      refine V_iload_n X (i := 2) 2 dX3_readParts_35 rfl rfl ?_
      exact V_zret_c X hr dX3_readParts_36 (bo_z h.1) h.2
    · have h := hf c
      refine V_iload_n X (i := 2) 2 dX3_readParts_10 rfl rfl ?_
      obtain ⟨ht, hf⟩ := h
      refine V_if_eq X (tgt := 35) dX3_readParts_11 (by decide) (fun c => ?_) (fun c => ?_)
      · have h := ht c
        refine V_iload_n X (i := 2) 2 dX3_readParts_35 rfl rfl ?_
        exact V_zret_c X hr dX3_readParts_36 (bo_z h.1) h.2
      · have h := hf c
        refine V_aload_n X (i := 0) 0 dX3_readParts_14 rfl rfl ?_
        refine V_iconst X (v := (0 : Int32)) dX3_readParts_15 (by decide) ?_
        refine V_bipush X (v := (9 : Int32)) dX3_readParts_16 (by decide) ?_
        refine K_3_readInt X (Or.inl q_710) h ⟨Nat.le_of_ble_eq_true rfl, Nat.le_of_ble_eq_true rfl⟩ ⟨Nat.zero_le _, Nat.zero_le _⟩ (st1 := []) (Nat.le_of_ble_eq_true rfl) dX3_readParts_18 (fun r2 w1 h => ?_)
        refine V_istore_n X dX3_readParts_21 rfl (by decide) rfl (ls1 := [(2, .int r2), (0, .ref (ad 7)), (1, .ref (ad b1)), (3, .int l3)]) rfl ?_
        refine V_aload_n X (i := 1) 2 dX3_readParts_22 rfl rfl ?_
        refine V_iload_n X (i := 3) 3 dX3_readParts_23 rfl rfl ?_
        refine V_aload_n X (i := 0) 1 dX3_readParts_24 rfl rfl ?_
        refine G_3_116 X dX3_readParts_25 ?_
        obtain ⟨g3, h⟩ := h
        obtain ⟨w4, ew4⟩ : ∃ y : Mem, y = st w1 b1 (ix l3) (w1 7 4) := ⟨_, rfl⟩
        have h := h w4 ew4
        refine V_iast_c X (hb1).2.1 (hb1).2.2 (hb1).1 g3 dX3_readParts_28 ew4 ?_
        obtain ⟨x5, ex5⟩ : ∃ y : Int32, y = l3 + (1 : Int32) := ⟨_, rfl⟩
        have h := h x5 ex5
        refine V_iinc X 3 dX3_readParts_29 rfl (by decide) (by rw [ex5]; rfl) (ls1 := [(3, .int x5), (2, .int r2), (0, .ref (ad 7)), (1, .ref (ad b1))]) rfl ?_
        refine V_goto X (tgt := 4) dX3_readParts_32 (by decide) ?_
        refine V_sub X (ls1 := [(0, .ref (ad 7)), (1, .ref (ad b1)), (2, .int r2), (3, .int x5)]) [2, 3, 1, 0] rfl ?_
        exact ih _ _ _ h
set_option maxRecDepth 20000 in
theorem v_3_readParts {b1 nb1 : Nat} (X : CXq p s m args meth c cX3_readParts 4 yX3_readParts.cls ad cy D (AW ad) s.heap) (hr : meth.sig.returnType = (some .boolean)) (hb1 : isArr b1 14 nb1) {w : Mem} {Q : Int32 → Mem → Prop} (h : wp_3_readParts b1 nb1 w Q) : V p l e (RM 2) s m args below meth c 4 ad cy D (AW ad) s.heap 0 0 (MQ below (va_Qi Q (BC ad cy D wm wl0) (AW ad)) args s 0 0 (AW ad)) w wm wl0 0 [(0, .ref (ad 7)), (1, .ref (ad b1))] [] := by
  unfold wp_3_readParts at h
  refine V_iconst X (v := (1 : Int32)) dX3_readParts_0 (by decide) ?_
  refine V_istore_n X dX3_readParts_1 rfl (by decide) rfl (ls1 := [(2, .int (1 : Int32)), (0, .ref (ad 7)), (1, .ref (ad b1))]) rfl ?_
  refine V_iconst X (v := (0 : Int32)) dX3_readParts_2 (by decide) ?_
  refine V_istore_n X dX3_readParts_3 rfl (by decide) rfl (ls1 := [(3, .int (0 : Int32)), (2, .int (1 : Int32)), (0, .ref (ad 7)), (1, .ref (ad b1))]) rfl ?_
  refine V_sub X (ls1 := [(0, .ref (ad 7)), (1, .ref (ad b1)), (2, .int (1 : Int32)), (3, .int (0 : Int32))]) [2, 3, 1, 0] rfl ?_
  obtain ⟨nn, h⟩ := h
  exact v_3_readParts_b4 X hr hb1 nn _ _ _ h
theorem c_3_readParts {b1 nb1 : Nat} (hinj : INJ ad) (hb1 : isArr b1 14 nb1) {w : Mem} {Q : Int32 → Mem → Prop} (h : wp_3_readParts b1 nb1 w Q) : Met l yX3_readParts (TBq yX3_readParts cX3_readParts 4 (some .boolean)) (RM 2) (va_Pc [.ref (ad 7), .ref (ad b1)] (PB ad cy D (cmb w wm) wl0)) (va_Qi Q (BC ad cy D wm wl0) (AW ad)) 0 0 (AW ad) := M_enter (by decide) (Nat.le_of_ble_eq_true rfl) hinj (fun p e s m args below meth c X hr => v_3_readParts X hr hb1 h)
theorem mf_3_readParts : MFV yX3_readParts cX3_readParts 4 (some .boolean) yX3_readParts.cls 1 := ⟨q_741, q_740, qs_16, q_4, by decide⟩
theorem K_3_readParts {own : String} {idx : Nat} {b1 nb1 : Nat} (X : CXq p s m args meth c cc nL own ad cy D A H0) (hL : LK own idx yX3_readParts) (hb1 : isArr b1 14 nb1) {w : Mem} {Q : Int32 → Mem → Prop} (h : wp_3_readParts b1 nb1 w Q) (hR : (RM 2).frames + 1 ≤ R.frames ∧ 8 + (4 + 11) + (RM 2).locals ≤ R.locals) (hce : ce ≤ R.cells ∧ sl ≤ R.slots) (hcat : (st1.map fun v => v.category).sum ≤ 8) (hd : decode cc pc = .ok (.invokevirtual idx, 3)) (kk : ∀ (r : Int32) (u : Mem), Q r u → V p l e R s m args below meth c nL ad cy D A H0 ce sl Qs u wm wl0 (pc + 3) ls (.int r :: st1)) : V p l e R s m args below meth c nL ad cy D A H0 ce sl Qs w wm wl0 pc ls (.ref (ad b1) :: .ref (ad 7) :: st1) := V_callVI_c X mf_3_readParts hL (rfl : vwCl[3]? = some (RX3, TX3, 9)) (by decide) (rfl : SK 7 = 3) (Nat.lt_of_lt_of_le (by decide : 7 < 150) (CX_nn X)) (c_3_readParts X.2.2.2.2.2.2.2.1 hb1 h) (As := [.ref (ad b1)]) rfl ⟨rfl, rfl⟩ hR hce st1 rfl hcat hd kk
set_option maxRecDepth 20000 in
theorem v_7_byteAt_b25 (X : CXq p s m args meth c cX7_byteAt 2 yX7_byteAt.cls ad cy D (AW ad) s.heap) (hr : meth.sig.returnType = (some .int)) {Q : Int32 → Mem → Prop} : ∀ (w : Mem), wp_7_byteAt_b25 Q w → V p l e (RM 0) s m args below meth c 2 ad cy D (AW ad) s.heap 0 0 (MQ below (va_Qi Q (BC ad cy D wm wl0) (AW ad)) args s 0 0 (AW ad)) w wm wl0 25 [] [] := by
  intro w h
  unfold wp_7_byteAt_b25 at h
  refine V_iconst X (v := (-1 : Int32)) dX7_byteAt_25 (by decide) ?_
  exact V_iret_c X hr dX7_byteAt_26 h
set_option maxRecDepth 20000 in
theorem v_7_byteAt {a1 : Int32} (X : CXq p s m args meth c cX7_byteAt 2 yX7_byteAt.cls ad cy D (AW ad) s.heap) (hr : meth.sig.returnType = (some .int)) {w : Mem} {Q : Int32 → Mem → Prop} (h : wp_7_byteAt a1 w Q) : V p l e (RM 0) s m args below meth c 2 ad cy D (AW ad) s.heap 0 0 (MQ below (va_Qi Q (BC ad cy D wm wl0) (AW ad)) args s 0 0 (AW ad)) w wm wl0 0 [(0, .ref (ad 1)), (1, .int a1)] [] := by
  unfold wp_7_byteAt at h
  refine V_iload_n X (i := 1) 1 dX7_byteAt_0 rfl rfl ?_
  obtain ⟨ht, hf⟩ := h
  refine V_if_lt X (tgt := 25) dX7_byteAt_1 (by decide) (fun c => ?_) (fun c => ?_)
  · have h := ht c
    refine V_sub X (ls1 := []) [] rfl ?_
    exact v_7_byteAt_b25 X hr _ h
  · have h := hf c
    refine V_iload_n X (i := 1) 1 dX7_byteAt_4 rfl rfl ?_
    refine V_aload_n X (i := 0) 0 dX7_byteAt_5 rfl rfl ?_
    refine G_7_15 X dX7_byteAt_6 ?_
    obtain ⟨ht, hf⟩ := h
    refine V_icmp_ge X (tgt := 25) dX7_byteAt_9 (by decide) (fun c => ?_) (fun c => ?_)
    · have h := ht c
      refine V_sub X (ls1 := []) [] rfl ?_
      exact v_7_byteAt_b25 X hr _ h
    · have h := hf c
      refine V_aload_n X (i := 0) 0 dX7_byteAt_12 rfl rfl ?_
      refine G_7_11 X dX7_byteAt_13 ?_
      refine V_iload_n X (i := 1) 1 dX7_byteAt_16 rfl rfl ?_
      obtain ⟨g1, h⟩ := h
      refine V_bald_c X (rfl : SLq 2 = 2000) (by decide) (rfl : SK 2 = 13) g1 dX7_byteAt_17 ?_
      refine V_sipush X (v := (255 : Int32)) dX7_byteAt_18 (by decide) ?_
      refine V_iand X dX7_byteAt_21 ?_
      refine V_goto X (tgt := 26) dX7_byteAt_22 (by decide) ?_
      exact V_iret_c X hr dX7_byteAt_26 h
theorem c_7_byteAt {a1 : Int32} (hinj : INJ ad) {w : Mem} {Q : Int32 → Mem → Prop} (h : wp_7_byteAt a1 w Q) : Met l yX7_byteAt (TBq yX7_byteAt cX7_byteAt 2 (some .int)) (RM 0) (va_Pc [.ref (ad 1), .int a1] (PB ad cy D (cmb w wm) wl0)) (va_Qi Q (BC ad cy D wm wl0) (AW ad)) 0 0 (AW ad) := M_enter (by decide) (Nat.le_of_ble_eq_true rfl) hinj (fun p e s m args below meth c X hr => v_7_byteAt X hr h)
theorem mf_7_byteAt : MFV yX7_byteAt cX7_byteAt 2 (some .int) yX7_byteAt.cls 1 := ⟨q_550, q_548, q_549, q_2, by decide⟩
theorem K_7_byteAt {own : String} {idx : Nat} {a1 : Int32} (X : CXq p s m args meth c cc nL own ad cy D A H0) (hL : LK own idx yX7_byteAt) {w : Mem} {Q : Int32 → Mem → Prop} (h : wp_7_byteAt a1 w Q) (hR : (RM 0).frames + 1 ≤ R.frames ∧ 8 + (2 + 11) + (RM 0).locals ≤ R.locals) (hce : ce ≤ R.cells ∧ sl ≤ R.slots) (hcat : (st1.map fun v => v.category).sum ≤ 8) (hd : decode cc pc = .ok (.invokevirtual idx, 3)) (kk : ∀ (r : Int32) (u : Mem), Q r u → V p l e R s m args below meth c nL ad cy D A H0 ce sl Qs u wm wl0 (pc + 3) ls (.int r :: st1)) : V p l e R s m args below meth c nL ad cy D A H0 ce sl Qs w wm wl0 pc ls (.int a1 :: .ref (ad 1) :: st1) := V_callVI_c X mf_7_byteAt hL (rfl : vwCl[7]? = some (RX7, TX7, 2)) (by decide) (rfl : SK 1 = 7) (Nat.lt_of_lt_of_le (by decide : 1 < 150) (CX_nn X)) (c_7_byteAt X.2.2.2.2.2.2.2.1 h) (As := [.int a1]) rfl ⟨rfl, rfl⟩ hR hce st1 rfl hcat hd kk
set_option maxRecDepth 20000 in
theorem v_9_isSameName_b19 (X : CXq p s m args meth c cX9_isSameName 4 yX9_isSameName.cls ad cy D (AW ad) s.heap) (hr : meth.sig.returnType = (some .boolean)) {Q : Int32 → Mem → Prop} : ∀ (n : Nat) (l1 : Int32) (l2 : Int32) (l3 : Int32) (w : Mem), wp_9_isSameName_b19 Q n l1 l2 l3 w → V p l e (RM 1) s m args below meth c 4 ad cy D (AW ad) s.heap 0 0 (MQ below (va_Qi Q (BC ad cy D wm wl0) (AW ad)) args s 0 0 (AW ad)) w wm wl0 19 [(0, .ref (ad 3)), (1, .int l1), (2, .int l2), (3, .int l3)] [] := by
  intro n
  induction n with
  | zero =>
    intro l1 l2 l3 w h
    exact h.elim
  | succ n ih =>
    intro l1 l2 l3 w h
    unfold wp_9_isSameName_b19 at h
    refine V_iload_n X (i := 3) 3 dX9_isSameName_19 rfl rfl ?_
    refine V_aload_n X (i := 0) 0 dX9_isSameName_20 rfl rfl ?_
    refine G_9_18 X dX9_isSameName_21 ?_
    refine V_iload_n X (i := 1) 1 dX9_isSameName_24 rfl rfl ?_
    obtain ⟨g1, h⟩ := h
    refine V_iald_c X (rfl : SLq 6 = 401) (by decide) (rfl : SK 6 = 14) g1 dX9_isSameName_25 ?_
    obtain ⟨ht, hf⟩ := h
    refine V_icmp_ge X (tgt := 70) dX9_isSameName_26 (by decide) (fun c => ?_) (fun c => ?_)
    · have h := ht c
      refine V_iconst X (v := (1 : Int32)) dX9_isSameName_70 (by decide) ?_
      exact V_zret_c X hr dX9_isSameName_71 rfl h
    · have h := hf c
      refine V_aload_n X (i := 0) 0 dX9_isSameName_29 rfl rfl ?_
      refine G_9_21 X dX9_isSameName_30 ?_
      refine V_aload_n X (i := 0) 0 dX9_isSameName_33 rfl rfl ?_
      refine G_9_15 X dX9_isSameName_34 ?_
      refine V_iload_n X (i := 1) 1 dX9_isSameName_37 rfl rfl ?_
      obtain ⟨g2, h⟩ := h
      refine V_iald_c X (rfl : SLq 5 = 401) (by decide) (rfl : SK 5 = 14) g2 dX9_isSameName_38 ?_
      refine V_iload_n X (i := 3) 3 dX9_isSameName_39 rfl rfl ?_
      refine V_iadd X dX9_isSameName_40 ?_
      refine K_7_byteAt X (Or.inl q_547) h ⟨Nat.le_of_ble_eq_true rfl, Nat.le_of_ble_eq_true rfl⟩ ⟨Nat.zero_le _, Nat.zero_le _⟩ (st1 := []) (Nat.le_of_ble_eq_true rfl) dX9_isSameName_41 (fun r4 w3 h => ?_)
      refine V_aload_n X (i := 0) 0 dX9_isSameName_44 rfl rfl ?_
      refine G_9_21 X dX9_isSameName_45 ?_
      refine V_aload_n X (i := 0) 0 dX9_isSameName_48 rfl rfl ?_
      refine G_9_15 X dX9_isSameName_49 ?_
      refine V_iload_n X (i := 2) 2 dX9_isSameName_52 rfl rfl ?_
      obtain ⟨g5, h⟩ := h
      refine V_iald_c X (rfl : SLq 5 = 401) (by decide) (rfl : SK 5 = 14) g5 dX9_isSameName_53 ?_
      refine V_iload_n X (i := 3) 3 dX9_isSameName_54 rfl rfl ?_
      refine V_iadd X dX9_isSameName_55 ?_
      refine K_7_byteAt X (Or.inl q_547) h ⟨Nat.le_of_ble_eq_true rfl, Nat.le_of_ble_eq_true rfl⟩ ⟨Nat.zero_le _, Nat.zero_le _⟩ (st1 := [.int r4]) (Nat.le_of_ble_eq_true rfl) dX9_isSameName_56 (fun r7 w6 h => ?_)
      obtain ⟨ht, hf⟩ := h
      refine V_icmp_eq X (tgt := 64) dX9_isSameName_59 (by decide) (fun c => ?_) (fun c => ?_)
      · have h := ht c
        obtain ⟨x8, ex8⟩ : ∃ y : Int32, y = l3 + (1 : Int32) := ⟨_, rfl⟩
        have h := h x8 ex8
        refine V_iinc X 3 dX9_isSameName_64 rfl (by decide) (by rw [ex8]; rfl) (ls1 := [(3, .int x8), (0, .ref (ad 3)), (1, .int l1), (2, .int l2)]) rfl ?_
        refine V_goto X (tgt := 19) dX9_isSameName_67 (by decide) ?_
        refine V_sub X (ls1 := [(0, .ref (ad 3)), (1, .int l1), (2, .int l2), (3, .int x8)]) [1, 2, 3, 0] rfl ?_
        exact ih _ _ _ _ h
      · have h := hf c
        refine V_iconst X (v := (0 : Int32)) dX9_isSameName_62 (by decide) ?_
        exact V_zret_c X hr dX9_isSameName_63 rfl h
set_option maxRecDepth 20000 in
theorem v_9_isSameName {a1 : Int32} {a2 : Int32} (X : CXq p s m args meth c cX9_isSameName 4 yX9_isSameName.cls ad cy D (AW ad) s.heap) (hr : meth.sig.returnType = (some .boolean)) {w : Mem} {Q : Int32 → Mem → Prop} (h : wp_9_isSameName a1 a2 w Q) : V p l e (RM 1) s m args below meth c 4 ad cy D (AW ad) s.heap 0 0 (MQ below (va_Qi Q (BC ad cy D wm wl0) (AW ad)) args s 0 0 (AW ad)) w wm wl0 0 [(0, .ref (ad 3)), (1, .int a1), (2, .int a2)] [] := by
  unfold wp_9_isSameName at h
  refine V_aload_n X (i := 0) 0 dX9_isSameName_0 rfl rfl ?_
  refine G_9_18 X dX9_isSameName_1 ?_
  refine V_iload_n X (i := 1) 1 dX9_isSameName_4 rfl rfl ?_
  obtain ⟨g1, h⟩ := h
  refine V_iald_c X (rfl : SLq 6 = 401) (by decide) (rfl : SK 6 = 14) g1 dX9_isSameName_5 ?_
  refine V_aload_n X (i := 0) 0 dX9_isSameName_6 rfl rfl ?_
  refine G_9_18 X dX9_isSameName_7 ?_
  refine V_iload_n X (i := 2) 2 dX9_isSameName_10 rfl rfl ?_
  obtain ⟨g2, h⟩ := h
  refine V_iald_c X (rfl : SLq 6 = 401) (by decide) (rfl : SK 6 = 14) g2 dX9_isSameName_11 ?_
  obtain ⟨ht, hf⟩ := h
  refine V_icmp_eq X (tgt := 17) dX9_isSameName_12 (by decide) (fun c => ?_) (fun c => ?_)
  · have h := ht c
    refine V_iconst X (v := (0 : Int32)) dX9_isSameName_17 (by decide) ?_
    refine V_istore_n X dX9_isSameName_18 rfl (by decide) rfl (ls1 := [(3, .int (0 : Int32)), (0, .ref (ad 3)), (1, .int a1), (2, .int a2)]) rfl ?_
    refine V_sub X (ls1 := [(0, .ref (ad 3)), (1, .int a1), (2, .int a2), (3, .int (0 : Int32))]) [1, 2, 3, 0] rfl ?_
    obtain ⟨nn, h⟩ := h
    exact v_9_isSameName_b19 X hr nn _ _ _ _ h
  · have h := hf c
    refine V_iconst X (v := (0 : Int32)) dX9_isSameName_15 (by decide) ?_
    exact V_zret_c X hr dX9_isSameName_16 rfl h
theorem c_9_isSameName {a1 : Int32} {a2 : Int32} (hinj : INJ ad) {w : Mem} {Q : Int32 → Mem → Prop} (h : wp_9_isSameName a1 a2 w Q) : Met l yX9_isSameName (TBq yX9_isSameName cX9_isSameName 4 (some .boolean)) (RM 1) (va_Pc [.ref (ad 3), .int a1, .int a2] (PB ad cy D (cmb w wm) wl0)) (va_Qi Q (BC ad cy D wm wl0) (AW ad)) 0 0 (AW ad) := M_enter (by decide) (Nat.le_of_ble_eq_true rfl) hinj (fun p e s m args below meth c X hr => v_9_isSameName X hr h)
theorem mf_9_isSameName : MFV yX9_isSameName cX9_isSameName 4 (some .boolean) yX9_isSameName.cls 2 := ⟨q_753, q_751, q_752, q_3, by decide⟩
theorem K_9_isSameName {own : String} {idx : Nat} {a1 : Int32} {a2 : Int32} (X : CXq p s m args meth c cc nL own ad cy D A H0) (hL : LK own idx yX9_isSameName) {w : Mem} {Q : Int32 → Mem → Prop} (h : wp_9_isSameName a1 a2 w Q) (hR : (RM 1).frames + 1 ≤ R.frames ∧ 8 + (4 + 11) + (RM 1).locals ≤ R.locals) (hce : ce ≤ R.cells ∧ sl ≤ R.slots) (hcat : (st1.map fun v => v.category).sum ≤ 8) (hd : decode cc pc = .ok (.invokevirtual idx, 3)) (kk : ∀ (r : Int32) (u : Mem), Q r u → V p l e R s m args below meth c nL ad cy D A H0 ce sl Qs u wm wl0 (pc + 3) ls (.int r :: st1)) : V p l e R s m args below meth c nL ad cy D A H0 ce sl Qs w wm wl0 pc ls (.int a2 :: .int a1 :: .ref (ad 3) :: st1) := V_callVI_c X mf_9_isSameName hL (rfl : vwCl[9]? = some (RX9, TX9, 5)) (by decide) (rfl : SK 3 = 9) (Nat.lt_of_lt_of_le (by decide : 3 < 150) (CX_nn X)) (c_9_isSameName X.2.2.2.2.2.2.2.1 h) (As := [.int a1, .int a2]) rfl ⟨rfl, rfl⟩ hR hce st1 rfl hcat hd kk
set_option maxRecDepth 20000 in
theorem v_3_readName_b48 (X : CXq p s m args meth c cX3_readName 3 yX3_readName.cls ad cy D (AW ad) s.heap) (hr : meth.sig.returnType = (some .boolean)) {Q : Int32 → Mem → Prop} {L17 : Int32 → Int32 → Mem → Prop} (HL17 : ∀ (l1 : Int32) (l2 : Int32) (w : Mem), L17 l1 l2 w → V p l e (RM 2) s m args below meth c 3 ad cy D (AW ad) s.heap 0 0 (MQ below (va_Qi Q (BC ad cy D wm wl0) (AW ad)) args s 0 0 (AW ad)) w wm wl0 17 [(0, .ref (ad 7)), (1, .int l1), (2, .int l2)] []) : ∀ (l1 : Int32) (l2 : Int32) (w : Mem), wp_3_readName_b48 Q L17 l1 l2 w → V p l e (RM 2) s m args below meth c 3 ad cy D (AW ad) s.heap 0 0 (MQ below (va_Qi Q (BC ad cy D wm wl0) (AW ad)) args s 0 0 (AW ad)) w wm wl0 48 [(0, .ref (ad 7)), (1, .int l1), (2, .int l2)] [] := by
  intro l1 l2 w h
  unfold wp_3_readName_b48 at h
  obtain ⟨x1, ex1⟩ : ∃ y : Int32, y = l2 + (1 : Int32) := ⟨_, rfl⟩
  have h := h x1 ex1
  refine V_iinc X 2 dX3_readName_48 rfl (by decide) (by rw [ex1]; rfl) (ls1 := [(2, .int x1), (0, .ref (ad 7)), (1, .int l1)]) rfl ?_
  refine V_goto X (tgt := 17) dX3_readName_51 (by decide) ?_
  refine V_sub X (ls1 := [(0, .ref (ad 7)), (1, .int l1), (2, .int x1)]) [1, 2, 0] rfl ?_
  exact HL17 _ _ _ h
set_option maxRecDepth 20000 in
theorem v_3_readName_b17 (X : CXq p s m args meth c cX3_readName 3 yX3_readName.cls ad cy D (AW ad) s.heap) (hr : meth.sig.returnType = (some .boolean)) {Q : Int32 → Mem → Prop} : ∀ (n : Nat) (l1 : Int32) (l2 : Int32) (w : Mem), wp_3_readName_b17 Q n l1 l2 w → V p l e (RM 2) s m args below meth c 3 ad cy D (AW ad) s.heap 0 0 (MQ below (va_Qi Q (BC ad cy D wm wl0) (AW ad)) args s 0 0 (AW ad)) w wm wl0 17 [(0, .ref (ad 7)), (1, .int l1), (2, .int l2)] [] := by
  intro n
  induction n with
  | zero =>
    intro l1 l2 w h
    exact h.elim
  | succ n ih =>
    intro l1 l2 w h
    unfold wp_3_readName_b17 at h
    refine V_iload_n X (i := 2) 2 dX3_readName_17 rfl rfl ?_
    refine V_aload_n X (i := 0) 0 dX3_readName_18 rfl rfl ?_
    refine G_3_23 X dX3_readName_19 ?_
    obtain ⟨ht, hf⟩ := h
    refine V_icmp_ge X (tgt := 54) dX3_readName_22 (by decide) (fun c => ?_) (fun c => ?_)
    · have h := ht c
      refine V_aload_n X (i := 0) 0 dX3_readName_54 rfl rfl ?_
      refine G_3_23 X dX3_readName_55 ?_
      refine V_aload_n X (i := 0) 0 dX3_readName_58 rfl rfl ?_
      refine G_3_9 X dX3_readName_59 ?_
      refine V_alenL_c X (v := (15 : Int32)) (rfl : SLq 8 = 15) (by decide) (by decide) (rfl : SK 8 = 14) (by decide) dX3_readName_62 ?_
      obtain ⟨ht, hf⟩ := h
      refine V_icmp_ge X (tgt := 86) dX3_readName_63 (by decide) (fun c => ?_) (fun c => ?_)
      · have h := ht c
        refine V_iconst X (v := (1 : Int32)) dX3_readName_86 (by decide) ?_
        exact V_zret_c X hr dX3_readName_87 rfl h
      · have h := hf c
        refine V_aload_n X (i := 0) 0 dX3_readName_66 rfl rfl ?_
        refine G_3_9 X dX3_readName_67 ?_
        refine V_aload_n X (i := 0) 0 dX3_readName_70 rfl rfl ?_
        refine G_3_23 X dX3_readName_71 ?_
        refine V_iload_n X (i := 1) 1 dX3_readName_74 rfl rfl ?_
        obtain ⟨g1, h⟩ := h
        obtain ⟨w2, ew2⟩ : ∃ y : Mem, y = st w 8 (ix (w 7 2)) l1 := ⟨_, rfl⟩
        have h := h w2 ew2
        refine V_iast_c X (rfl : SLq 8 = 15) (by decide) (rfl : SK 8 = 14) g1 dX3_readName_75 ew2 ?_
        refine V_aload_n X (i := 0) 0 dX3_readName_76 rfl rfl ?_
        refine V_dup X dX3_readName_77 rfl ?_
        refine G_3_23 X dX3_readName_78 ?_
        refine V_iconst X (v := (1 : Int32)) dX3_readName_81 (by decide) ?_
        refine V_iadd X dX3_readName_82 ?_
        obtain ⟨w3, ew3⟩ : ∃ y : Mem, y = st w2 7 2 ((w2 7 2) + (1 : Int32)) := ⟨_, rfl⟩
        have h := h w3 ew3
        refine U_3_23 X rfl rfl dX3_readName_83 ew3 ?_
        refine V_iconst X (v := (1 : Int32)) dX3_readName_86 (by decide) ?_
        exact V_zret_c X hr dX3_readName_87 rfl h
    · have h := hf c
      refine V_aload_n X (i := 0) 0 dX3_readName_25 rfl rfl ?_
      refine G_3_15 X dX3_readName_26 ?_
      refine V_aload_n X (i := 0) 0 dX3_readName_29 rfl rfl ?_
      refine G_3_9 X dX3_readName_30 ?_
      refine V_iload_n X (i := 2) 2 dX3_readName_33 rfl rfl ?_
      obtain ⟨g4, h⟩ := h
      refine V_iald_c X (rfl : SLq 8 = 15) (by decide) (rfl : SK 8 = 14) g4 dX3_readName_34 ?_
      refine V_iload_n X (i := 1) 1 dX3_readName_35 rfl rfl ?_
      refine K_9_isSameName X (Or.inl q_750) h ⟨Nat.le_of_ble_eq_true rfl, Nat.le_of_ble_eq_true rfl⟩ ⟨Nat.zero_le _, Nat.zero_le _⟩ (st1 := []) (Nat.le_of_ble_eq_true rfl) dX3_readName_36 (fun r6 w5 h => ?_)
      obtain ⟨ht, hf⟩ := h
      refine V_if_eq X (tgt := 48) dX3_readName_39 (by decide) (fun c => ?_) (fun c => ?_)
      · have h := ht c
        refine V_sub X (ls1 := [(0, .ref (ad 7)), (1, .int l1), (2, .int l2)]) [0, 1, 2] rfl ?_
        exact v_3_readName_b48 X hr ih _ _ _ h
      · have h := hf c
        refine V_aload_n X (i := 0) 0 dX3_readName_42 rfl rfl ?_
        refine V_iconst X (v := (3 : Int32)) dX3_readName_43 (by decide) ?_
        refine V_iload_n X (i := 1) 1 dX3_readName_44 rfl rfl ?_
        refine K_3_notes X (Or.inl q_715) h ⟨Nat.le_of_ble_eq_true rfl, Nat.le_of_ble_eq_true rfl⟩ ⟨Nat.zero_le _, Nat.zero_le _⟩ (st1 := []) (Nat.le_of_ble_eq_true rfl) dX3_readName_45 (fun w7 h => ?_)
        refine V_sub X (ls1 := [(0, .ref (ad 7)), (1, .int l1), (2, .int l2)]) [0, 1, 2] rfl ?_
        exact v_3_readName_b48 X hr ih _ _ _ h
set_option maxRecDepth 20000 in
theorem v_3_readName (X : CXq p s m args meth c cX3_readName 3 yX3_readName.cls ad cy D (AW ad) s.heap) (hr : meth.sig.returnType = (some .boolean)) {w : Mem} {Q : Int32 → Mem → Prop} (h : wp_3_readName w Q) : V p l e (RM 2) s m args below meth c 3 ad cy D (AW ad) s.heap 0 0 (MQ below (va_Qi Q (BC ad cy D wm wl0) (AW ad)) args s 0 0 (AW ad)) w wm wl0 0 [(0, .ref (ad 7))] [] := by
  unfold wp_3_readName at h
  refine V_aload_n X (i := 0) 0 dX3_readName_0 rfl rfl ?_
  refine G_3_19 X dX3_readName_1 ?_
  obtain ⟨x1, ex1⟩ : ∃ y : Int32, y = (w 7 3) := ⟨_, rfl⟩
  have h := h x1 ex1
  refine V_istore_n X dX3_readName_4 rfl (by decide) ex1 (ls1 := [(1, .int x1), (0, .ref (ad 7))]) rfl ?_
  refine V_aload_n X (i := 0) 1 dX3_readName_5 rfl rfl ?_
  refine V_iconst X (v := (2 : Int32)) dX3_readName_6 (by decide) ?_
  refine K_3_takes X (Or.inl q_702) h ⟨Nat.le_of_ble_eq_true rfl, Nat.le_of_ble_eq_true rfl⟩ ⟨Nat.zero_le _, Nat.zero_le _⟩ (st1 := []) (Nat.le_of_ble_eq_true rfl) dX3_readName_7 (fun r3 w2 h => ?_)
  obtain ⟨ht, hf⟩ := h
  refine V_if_ne X (tgt := 15) dX3_readName_10 (by decide) (fun c => ?_) (fun c => ?_)
  · have h := ht c
    refine V_iconst X (v := (0 : Int32)) dX3_readName_15 (by decide) ?_
    refine V_istore_n X dX3_readName_16 rfl (by decide) rfl (ls1 := [(2, .int (0 : Int32)), (1, .int x1), (0, .ref (ad 7))]) rfl ?_
    refine V_sub X (ls1 := [(0, .ref (ad 7)), (1, .int x1), (2, .int (0 : Int32))]) [2, 1, 0] rfl ?_
    obtain ⟨nn, h⟩ := h
    exact v_3_readName_b17 X hr nn _ _ _ h
  · have h := hf c
    refine V_iconst X (v := (0 : Int32)) dX3_readName_13 (by decide) ?_
    exact V_zret_c X hr dX3_readName_14 rfl h
theorem c_3_readName (hinj : INJ ad) {w : Mem} {Q : Int32 → Mem → Prop} (h : wp_3_readName w Q) : Met l yX3_readName (TBq yX3_readName cX3_readName 3 (some .boolean)) (RM 2) (va_Pc [.ref (ad 7)] (PB ad cy D (cmb w wm) wl0)) (va_Qi Q (BC ad cy D wm wl0) (AW ad)) 0 0 (AW ad) := M_enter (by decide) (Nat.le_of_ble_eq_true rfl) hinj (fun p e s m args below meth c X hr => v_3_readName X hr h)
theorem mf_3_readName : MFV yX3_readName cX3_readName 3 (some .boolean) yX3_readName.cls 0 := ⟨q_749, q_748, qs_18, q_4, by decide⟩
theorem K_3_readName {own : String} {idx : Nat} (X : CXq p s m args meth c cc nL own ad cy D A H0) (hL : LK own idx yX3_readName) {w : Mem} {Q : Int32 → Mem → Prop} (h : wp_3_readName w Q) (hR : (RM 2).frames + 1 ≤ R.frames ∧ 8 + (3 + 11) + (RM 2).locals ≤ R.locals) (hce : ce ≤ R.cells ∧ sl ≤ R.slots) (hcat : (st1.map fun v => v.category).sum ≤ 8) (hd : decode cc pc = .ok (.invokevirtual idx, 3)) (kk : ∀ (r : Int32) (u : Mem), Q r u → V p l e R s m args below meth c nL ad cy D A H0 ce sl Qs u wm wl0 (pc + 3) ls (.int r :: st1)) : V p l e R s m args below meth c nL ad cy D A H0 ce sl Qs w wm wl0 pc ls (.ref (ad 7) :: st1) := V_callVI_c X mf_3_readName hL (rfl : vwCl[3]? = some (RX3, TX3, 9)) (by decide) (rfl : SK 7 = 3) (Nat.lt_of_lt_of_le (by decide : 7 < 150) (CX_nn X)) (c_3_readName X.2.2.2.2.2.2.2.1 h) (As := []) rfl ⟨rfl, rfl⟩ hR hce st1 rfl hcat hd kk
set_option maxRecDepth 20000 in
theorem v_4_addMan {k : Nat} {a1 : Int32} {a2 : Int32} {a3 : Int32} {a4 : Int32} (X : CXq p s m args meth c cX4_addMan 5 yX4_addMan.cls ad cy D (AW ad) s.heap) (hr : meth.sig.returnType = none) (hk : isPeople k) {w : Mem} {Q : Mem → Prop} (h : wp_4_addMan k a1 a2 a3 a4 w Q) : V p l e (RM 0) s m args below meth c 5 ad cy D (AW ad) s.heap 0 0 (MQ below (va_Qv Q (BC ad cy D wm wl0) (AW ad)) args s 0 0 (AW ad)) w wm wl0 0 [(0, .ref (ad k)), (1, .int a1), (2, .int a2), (3, .int a3), (4, .int a4)] [] := by
  unfold wp_4_addMan at h
  refine V_aload_n X (i := 0) 0 dX4_addMan_0 rfl rfl ?_
  refine G_4_30 X (hk).1 (hk).2.1 (People_r6 hk) dX4_addMan_1 ?_
  refine V_bipush X (v := (8 : Int32)) dX4_addMan_4 (by decide) ?_
  obtain ⟨ht, hf⟩ := h
  refine V_icmp_ge X (tgt := 60) dX4_addMan_6 (by decide) (fun c => ?_) (fun c => ?_)
  · have h := ht c
    exact V_vret_c X hr dX4_addMan_60 h
  · have h := hf c
    refine V_aload_n X (i := 0) 0 dX4_addMan_9 rfl rfl ?_
    refine G_4_9 X (hk).1 (hk).2.1 (People_r0 hk) dX4_addMan_10 ?_
    refine V_aload_n X (i := 0) 0 dX4_addMan_13 rfl rfl ?_
    refine G_4_30 X (hk).1 (hk).2.1 (People_r6 hk) dX4_addMan_14 ?_
    refine V_iload_n X (i := 1) 1 dX4_addMan_17 rfl rfl ?_
    obtain ⟨g1, h⟩ := h
    obtain ⟨w2, ew2⟩ : ∃ y : Mem, y = st w (k + 1) (ix (w k 6)) a1 := ⟨_, rfl⟩
    have h := h w2 ew2
    refine V_iast_c X ((People_s0 hk)).2.1 ((People_s0 hk)).2.2 ((People_s0 hk)).1 g1 dX4_addMan_18 ew2 ?_
    refine V_aload_n X (i := 0) 0 dX4_addMan_19 rfl rfl ?_
    refine G_4_15 X (hk).1 (hk).2.1 (People_r1 hk) dX4_addMan_20 ?_
    refine V_aload_n X (i := 0) 0 dX4_addMan_23 rfl rfl ?_
    refine G_4_30 X (hk).1 (hk).2.1 (People_r6 hk) dX4_addMan_24 ?_
    refine V_iload_n X (i := 2) 2 dX4_addMan_27 rfl rfl ?_
    obtain ⟨g3, h⟩ := h
    obtain ⟨w4, ew4⟩ : ∃ y : Mem, y = st w2 (k + 2) (ix (w2 k 6)) a2 := ⟨_, rfl⟩
    have h := h w4 ew4
    refine V_iast_c X ((People_s1 hk)).2.1 ((People_s1 hk)).2.2 ((People_s1 hk)).1 g3 dX4_addMan_28 ew4 ?_
    refine V_aload_n X (i := 0) 0 dX4_addMan_29 rfl rfl ?_
    refine G_4_18 X (hk).1 (hk).2.1 (People_r2 hk) dX4_addMan_30 ?_
    refine V_aload_n X (i := 0) 0 dX4_addMan_33 rfl rfl ?_
    refine G_4_30 X (hk).1 (hk).2.1 (People_r6 hk) dX4_addMan_34 ?_
    refine V_iload_n X (i := 3) 3 dX4_addMan_37 rfl rfl ?_
    obtain ⟨g5, h⟩ := h
    obtain ⟨w6, ew6⟩ : ∃ y : Mem, y = st w4 (k + 3) (ix (w4 k 6)) a3 := ⟨_, rfl⟩
    have h := h w6 ew6
    refine V_iast_c X ((People_s2 hk)).2.1 ((People_s2 hk)).2.2 ((People_s2 hk)).1 g5 dX4_addMan_38 ew6 ?_
    refine V_aload_n X (i := 0) 0 dX4_addMan_39 rfl rfl ?_
    refine G_4_21 X (hk).1 (hk).2.1 (People_r3 hk) dX4_addMan_40 ?_
    refine V_aload_n X (i := 0) 0 dX4_addMan_43 rfl rfl ?_
    refine G_4_30 X (hk).1 (hk).2.1 (People_r6 hk) dX4_addMan_44 ?_
    refine V_iload X (i := 4) 4 dX4_addMan_47 rfl ?_
    obtain ⟨g7, h⟩ := h
    obtain ⟨w8, ew8⟩ : ∃ y : Mem, y = st w6 (k + 4) (ix (w6 k 6)) a4 := ⟨_, rfl⟩
    have h := h w8 ew8
    refine V_iast_c X ((People_s3 hk)).2.1 ((People_s3 hk)).2.2 ((People_s3 hk)).1 g7 dX4_addMan_49 ew8 ?_
    refine V_aload_n X (i := 0) 0 dX4_addMan_50 rfl rfl ?_
    refine V_dup X dX4_addMan_51 rfl ?_
    refine G_4_30 X (hk).1 (hk).2.1 (People_r6 hk) dX4_addMan_52 ?_
    refine V_iconst X (v := (1 : Int32)) dX4_addMan_55 (by decide) ?_
    refine V_iadd X dX4_addMan_56 ?_
    obtain ⟨w9, ew9⟩ : ∃ y : Mem, y = st w8 k 6 ((w8 k 6) + (1 : Int32)) := ⟨_, rfl⟩
    have h := h w9 ew9
    refine U_4_30 X (hk).1 (hk).2.1 (People_r6 hk) rfl rfl dX4_addMan_57 ew9 ?_
    exact V_vret_c X hr dX4_addMan_60 h
theorem c_4_addMan {k : Nat} {a1 : Int32} {a2 : Int32} {a3 : Int32} {a4 : Int32} (hinj : INJ ad) (hk : isPeople k) {w : Mem} {Q : Mem → Prop} (h : wp_4_addMan k a1 a2 a3 a4 w Q) : Met l yX4_addMan (TBq yX4_addMan cX4_addMan 5 none) (RM 0) (va_Pc [.ref (ad k), .int a1, .int a2, .int a3, .int a4] (PB ad cy D (cmb w wm) wl0)) (va_Qv Q (BC ad cy D wm wl0) (AW ad)) 0 0 (AW ad) := M_enter (by decide) (Nat.le_of_ble_eq_true rfl) hinj (fun p e s m args below meth c X hr => v_4_addMan X hr hk h)
theorem mf_4_addMan : MFV yX4_addMan cX4_addMan 5 none yX4_addMan.cls 4 := ⟨q_757, q_755, q_756, q_7, by decide⟩
theorem K_4_addMan {own : String} {idx : Nat} {k : Nat} {a1 : Int32} {a2 : Int32} {a3 : Int32} {a4 : Int32} (X : CXq p s m args meth c cc nL own ad cy D A H0) (hL : LK own idx yX4_addMan) (hk : isPeople k) {w : Mem} {Q : Mem → Prop} (h : wp_4_addMan k a1 a2 a3 a4 w Q) (hR : (RM 0).frames + 1 ≤ R.frames ∧ 8 + (5 + 11) + (RM 0).locals ≤ R.locals) (hce : ce ≤ R.cells ∧ sl ≤ R.slots) (hcat : (st1.map fun v => v.category).sum ≤ 8) (hd : decode cc pc = .ok (.invokevirtual idx, 3)) (kk : ∀ (u : Mem), Q u → V p l e R s m args below meth c nL ad cy D A H0 ce sl Qs u wm wl0 (pc + 3) ls st1) : V p l e R s m args below meth c nL ad cy D A H0 ce sl Qs w wm wl0 pc ls (.int a4 :: .int a3 :: .int a2 :: .int a1 :: .ref (ad k) :: st1) := V_callVV_c X mf_4_addMan hL (rfl : vwCl[4]? = some (RX4, TX4, 8)) (by decide) (hk).1 (Nat.lt_of_lt_of_le (hk).2.1 (CX_nn X)) (c_4_addMan X.2.2.2.2.2.2.2.1 hk h) (As := [.int a1, .int a2, .int a3, .int a4]) rfl ⟨rfl, rfl⟩ hR hce st1 rfl hcat hd kk
set_option maxRecDepth 20000 in
theorem v_3_readMan_b102 (X : CXq p s m args meth c cX3_readMan 6 yX3_readMan.cls ad cy D (AW ad) s.heap) (hr : meth.sig.returnType = (some .boolean)) {k1 : Nat} (hk1 : isPeople k1) {Q : Int32 → Mem → Prop} : ∀ (l3 : Int32) (l4 : Int32) (l5 : Int32) (s0 : Int32) (w : Mem), wp_3_readMan_b102 k1 Q l3 l4 l5 s0 w → V p l e (RM 3) s m args below meth c 6 ad cy D (AW ad) s.heap 0 0 (MQ below (va_Qi Q (BC ad cy D wm wl0) (AW ad)) args s 0 0 (AW ad)) w wm wl0 102 [(0, .ref (ad 7)), (1, .ref (ad k1)), (3, .int l3), (4, .int l4), (5, .int l5)] [.int s0] := by
  intro l3 l4 l5 s0 w h
  unfold wp_3_readMan_b102 at h
  refine V_istore_n X dX3_readMan_102 rfl (by decide) rfl (ls1 := [(2, .int s0), (0, .ref (ad 7)), (1, .ref (ad k1)), (3, .int l3), (4, .int l4), (5, .int l5)]) rfl ?_
  refine V_aload_n X (i := 1) 2 dX3_readMan_103 rfl rfl ?_
  refine V_iload_n X (i := 3) 3 dX3_readMan_104 rfl rfl ?_
  refine V_iload X (i := 4) 4 dX3_readMan_105 rfl ?_
  refine V_iload X (i := 5) 5 dX3_readMan_107 rfl ?_
  refine V_aload_n X (i := 0) 1 dX3_readMan_109 rfl rfl ?_
  refine G_3_116 X dX3_readMan_110 ?_
  refine K_4_addMan X (Or.inl q_754) hk1 h ⟨Nat.le_of_ble_eq_true rfl, Nat.le_of_ble_eq_true rfl⟩ ⟨Nat.zero_le _, Nat.zero_le _⟩ (st1 := []) (Nat.le_of_ble_eq_true rfl) dX3_readMan_113 (fun w1 h => ?_)
  refine V_iload_n X (i := 2) 0 dX3_readMan_116 rfl rfl ?_
  exact V_zret_c X hr dX3_readMan_117 (bo_z h.1) h.2
set_option maxRecDepth 20000 in
theorem v_3_readMan_b101 (X : CXq p s m args meth c cX3_readMan 6 yX3_readMan.cls ad cy D (AW ad) s.heap) (hr : meth.sig.returnType = (some .boolean)) {k1 : Nat} (hk1 : isPeople k1) {Q : Int32 → Mem → Prop} : ∀ (l3 : Int32) (l4 : Int32) (l5 : Int32) (w : Mem), wp_3_readMan_b101 k1 Q l3 l4 l5 w → V p l e (RM 3) s m args below meth c 6 ad cy D (AW ad) s.heap 0 0 (MQ below (va_Qi Q (BC ad cy D wm wl0) (AW ad)) args s 0 0 (AW ad)) w wm wl0 101 [(0, .ref (ad 7)), (1, .ref (ad k1)), (3, .int l3), (4, .int l4), (5, .int l5)] [] := by
  intro l3 l4 l5 w h
  unfold wp_3_readMan_b101 at h
  refine V_iconst X (v := (0 : Int32)) dX3_readMan_101 (by decide) ?_
  refine V_sub X (ls1 := [(0, .ref (ad 7)), (1, .ref (ad k1)), (3, .int l3), (4, .int l4), (5, .int l5)]) [0, 1, 2, 3, 4] rfl ?_
  exact v_3_readMan_b102 X hr hk1 _ _ _ _ _ h
set_option maxRecDepth 20000 in
theorem v_3_readMan_b76 (X : CXq p s m args meth c cX3_readMan 6 yX3_readMan.cls ad cy D (AW ad) s.heap) (hr : meth.sig.returnType = (some .boolean)) {k1 : Nat} (hk1 : isPeople k1) {Q : Int32 → Mem → Prop} : ∀ (l3 : Int32) (l4 : Int32) (s0 : Int32) (w : Mem), wp_3_readMan_b76 k1 Q l3 l4 s0 w → V p l e (RM 3) s m args below meth c 6 ad cy D (AW ad) s.heap 0 0 (MQ below (va_Qi Q (BC ad cy D wm wl0) (AW ad)) args s 0 0 (AW ad)) w wm wl0 76 [(0, .ref (ad 7)), (1, .ref (ad k1)), (3, .int l3), (4, .int l4)] [.int s0] := by
  intro l3 l4 s0 w h
  unfold wp_3_readMan_b76 at h
  refine V_istore_n X dX3_readMan_76 rfl (by decide) rfl (ls1 := [(2, .int s0), (0, .ref (ad 7)), (1, .ref (ad k1)), (3, .int l3), (4, .int l4)]) rfl ?_
  refine V_aload_n X (i := 0) 1 dX3_readMan_77 rfl rfl ?_
  refine G_3_116 X dX3_readMan_78 ?_
  obtain ⟨x1, ex1⟩ : ∃ y : Int32, y = (w 7 4) := ⟨_, rfl⟩
  have h := h x1 ex1
  refine V_istore X dX3_readMan_81 (by decide) ex1 (ls1 := [(5, .int x1), (2, .int s0), (0, .ref (ad 7)), (1, .ref (ad k1)), (3, .int l3), (4, .int l4)]) rfl ?_
  refine V_iload_n X (i := 2) 1 dX3_readMan_83 rfl rfl ?_
  obtain ⟨ht, hf⟩ := h
  refine V_if_eq X (tgt := 101) dX3_readMan_84 (by decide) (fun c => ?_) (fun c => ?_)
  · have h := ht c
    refine V_sub X (ls1 := [(0, .ref (ad 7)), (1, .ref (ad k1)), (3, .int l3), (4, .int l4), (5, .int x1)]) [2, 3, 4, 5, 0] rfl ?_
    exact v_3_readMan_b101 X hr hk1 _ _ _ _ h
  · have h := hf c
    refine V_aload_n X (i := 0) 2 dX3_readMan_87 rfl rfl ?_
    refine V_iconst X (v := (0 : Int32)) dX3_readMan_88 (by decide) ?_
    refine V_bipush X (v := (9 : Int32)) dX3_readMan_89 (by decide) ?_
    refine K_3_readInt X (Or.inl q_710) h ⟨Nat.le_of_ble_eq_true rfl, Nat.le_of_ble_eq_true rfl⟩ ⟨Nat.zero_le _, Nat.zero_le _⟩ (st1 := []) (Nat.le_of_ble_eq_true rfl) dX3_readMan_91 (fun r3 w2 h => ?_)
    obtain ⟨ht, hf⟩ := h
    refine V_if_eq X (tgt := 101) dX3_readMan_94 (by decide) (fun c => ?_) (fun c => ?_)
    · have h := ht c
      refine V_sub X (ls1 := [(0, .ref (ad 7)), (1, .ref (ad k1)), (3, .int l3), (4, .int l4), (5, .int x1)]) [2, 3, 4, 5, 0] rfl ?_
      exact v_3_readMan_b101 X hr hk1 _ _ _ _ h
    · have h := hf c
      refine V_iconst X (v := (1 : Int32)) dX3_readMan_97 (by decide) ?_
      refine V_goto X (tgt := 102) dX3_readMan_98 (by decide) ?_
      refine V_sub X (ls1 := [(0, .ref (ad 7)), (1, .ref (ad k1)), (3, .int l3), (4, .int l4), (5, .int x1)]) [2, 3, 4, 5, 0] rfl ?_
      exact v_3_readMan_b102 X hr hk1 _ _ _ _ _ h
set_option maxRecDepth 20000 in
theorem v_3_readMan_b75 (X : CXq p s m args meth c cX3_readMan 6 yX3_readMan.cls ad cy D (AW ad) s.heap) (hr : meth.sig.returnType = (some .boolean)) {k1 : Nat} (hk1 : isPeople k1) {Q : Int32 → Mem → Prop} : ∀ (l3 : Int32) (l4 : Int32) (w : Mem), wp_3_readMan_b75 k1 Q l3 l4 w → V p l e (RM 3) s m args below meth c 6 ad cy D (AW ad) s.heap 0 0 (MQ below (va_Qi Q (BC ad cy D wm wl0) (AW ad)) args s 0 0 (AW ad)) w wm wl0 75 [(0, .ref (ad 7)), (1, .ref (ad k1)), (3, .int l3), (4, .int l4)] [] := by
  intro l3 l4 w h
  unfold wp_3_readMan_b75 at h
  refine V_iconst X (v := (0 : Int32)) dX3_readMan_75 (by decide) ?_
  refine V_sub X (ls1 := [(0, .ref (ad 7)), (1, .ref (ad k1)), (3, .int l3), (4, .int l4)]) [0, 1, 2, 3] rfl ?_
  exact v_3_readMan_b76 X hr hk1 _ _ _ _ h
set_option maxRecDepth 20000 in
theorem v_3_readMan_b50 (X : CXq p s m args meth c cX3_readMan 6 yX3_readMan.cls ad cy D (AW ad) s.heap) (hr : meth.sig.returnType = (some .boolean)) {k1 : Nat} (hk1 : isPeople k1) {Q : Int32 → Mem → Prop} : ∀ (l3 : Int32) (s0 : Int32) (w : Mem), wp_3_readMan_b50 k1 Q l3 s0 w → V p l e (RM 3) s m args below meth c 6 ad cy D (AW ad) s.heap 0 0 (MQ below (va_Qi Q (BC ad cy D wm wl0) (AW ad)) args s 0 0 (AW ad)) w wm wl0 50 [(0, .ref (ad 7)), (1, .ref (ad k1)), (3, .int l3)] [.int s0] := by
  intro l3 s0 w h
  unfold wp_3_readMan_b50 at h
  refine V_istore_n X dX3_readMan_50 rfl (by decide) rfl (ls1 := [(2, .int s0), (0, .ref (ad 7)), (1, .ref (ad k1)), (3, .int l3)]) rfl ?_
  refine V_aload_n X (i := 0) 1 dX3_readMan_51 rfl rfl ?_
  refine G_3_116 X dX3_readMan_52 ?_
  obtain ⟨x1, ex1⟩ : ∃ y : Int32, y = (w 7 4) := ⟨_, rfl⟩
  have h := h x1 ex1
  refine V_istore X dX3_readMan_55 (by decide) ex1 (ls1 := [(4, .int x1), (2, .int s0), (0, .ref (ad 7)), (1, .ref (ad k1)), (3, .int l3)]) rfl ?_
  refine V_iload_n X (i := 2) 1 dX3_readMan_57 rfl rfl ?_
  obtain ⟨ht, hf⟩ := h
  refine V_if_eq X (tgt := 75) dX3_readMan_58 (by decide) (fun c => ?_) (fun c => ?_)
  · have h := ht c
    refine V_sub X (ls1 := [(0, .ref (ad 7)), (1, .ref (ad k1)), (3, .int l3), (4, .int x1)]) [2, 3, 4, 0] rfl ?_
    exact v_3_readMan_b75 X hr hk1 _ _ _ h
  · have h := hf c
    refine V_aload_n X (i := 0) 2 dX3_readMan_61 rfl rfl ?_
    refine V_iconst X (v := (0 : Int32)) dX3_readMan_62 (by decide) ?_
    refine V_bipush X (v := (9 : Int32)) dX3_readMan_63 (by decide) ?_
    refine K_3_readInt X (Or.inl q_710) h ⟨Nat.le_of_ble_eq_true rfl, Nat.le_of_ble_eq_true rfl⟩ ⟨Nat.zero_le _, Nat.zero_le _⟩ (st1 := []) (Nat.le_of_ble_eq_true rfl) dX3_readMan_65 (fun r3 w2 h => ?_)
    obtain ⟨ht, hf⟩ := h
    refine V_if_eq X (tgt := 75) dX3_readMan_68 (by decide) (fun c => ?_) (fun c => ?_)
    · have h := ht c
      refine V_sub X (ls1 := [(0, .ref (ad 7)), (1, .ref (ad k1)), (3, .int l3), (4, .int x1)]) [2, 3, 4, 0] rfl ?_
      exact v_3_readMan_b75 X hr hk1 _ _ _ h
    · have h := hf c
      refine V_iconst X (v := (1 : Int32)) dX3_readMan_71 (by decide) ?_
      refine V_goto X (tgt := 76) dX3_readMan_72 (by decide) ?_
      refine V_sub X (ls1 := [(0, .ref (ad 7)), (1, .ref (ad k1)), (3, .int l3), (4, .int x1)]) [2, 3, 4, 0] rfl ?_
      exact v_3_readMan_b76 X hr hk1 _ _ _ _ h
set_option maxRecDepth 20000 in
theorem v_3_readMan_b49 (X : CXq p s m args meth c cX3_readMan 6 yX3_readMan.cls ad cy D (AW ad) s.heap) (hr : meth.sig.returnType = (some .boolean)) {k1 : Nat} (hk1 : isPeople k1) {Q : Int32 → Mem → Prop} : ∀ (l3 : Int32) (w : Mem), wp_3_readMan_b49 k1 Q l3 w → V p l e (RM 3) s m args below meth c 6 ad cy D (AW ad) s.heap 0 0 (MQ below (va_Qi Q (BC ad cy D wm wl0) (AW ad)) args s 0 0 (AW ad)) w wm wl0 49 [(0, .ref (ad 7)), (1, .ref (ad k1)), (3, .int l3)] [] := by
  intro l3 w h
  unfold wp_3_readMan_b49 at h
  refine V_iconst X (v := (0 : Int32)) dX3_readMan_49 (by decide) ?_
  refine V_sub X (ls1 := [(0, .ref (ad 7)), (1, .ref (ad k1)), (3, .int l3)]) [0, 1, 2] rfl ?_
  exact v_3_readMan_b50 X hr hk1 _ _ _ h
set_option maxRecDepth 20000 in
theorem v_3_readMan_b23 (X : CXq p s m args meth c cX3_readMan 6 yX3_readMan.cls ad cy D (AW ad) s.heap) (hr : meth.sig.returnType = (some .boolean)) {k1 : Nat} (hk1 : isPeople k1) {Q : Int32 → Mem → Prop} : ∀ (s0 : Int32) (w : Mem), wp_3_readMan_b23 k1 Q s0 w → V p l e (RM 3) s m args below meth c 6 ad cy D (AW ad) s.heap 0 0 (MQ below (va_Qi Q (BC ad cy D wm wl0) (AW ad)) args s 0 0 (AW ad)) w wm wl0 23 [(0, .ref (ad 7)), (1, .ref (ad k1))] [.int s0] := by
  intro s0 w h
  unfold wp_3_readMan_b23 at h
  refine V_istore_n X dX3_readMan_23 rfl (by decide) rfl (ls1 := [(2, .int s0), (0, .ref (ad 7)), (1, .ref (ad k1))]) rfl ?_
  refine V_aload_n X (i := 0) 1 dX3_readMan_24 rfl rfl ?_
  refine G_3_116 X dX3_readMan_25 ?_
  obtain ⟨x1, ex1⟩ : ∃ y : Int32, y = (w 7 4) := ⟨_, rfl⟩
  have h := h x1 ex1
  refine V_istore_n X dX3_readMan_28 rfl (by decide) ex1 (ls1 := [(3, .int x1), (2, .int s0), (0, .ref (ad 7)), (1, .ref (ad k1))]) rfl ?_
  refine V_iload_n X (i := 2) 1 dX3_readMan_29 rfl rfl ?_
  obtain ⟨ht, hf⟩ := h
  refine V_if_eq X (tgt := 49) dX3_readMan_30 (by decide) (fun c => ?_) (fun c => ?_)
  · have h := ht c
    refine V_sub X (ls1 := [(0, .ref (ad 7)), (1, .ref (ad k1)), (3, .int x1)]) [2, 3, 0] rfl ?_
    exact v_3_readMan_b49 X hr hk1 _ _ h
  · have h := hf c
    refine V_aload_n X (i := 0) 2 dX3_readMan_33 rfl rfl ?_
    refine V_bipush X (v := (100 : Int32)) dX3_readMan_34 (by decide) ?_
    refine V_sipush X (v := (300 : Int32)) dX3_readMan_36 (by decide) ?_
    refine K_3_readInt X (Or.inl q_710) h ⟨Nat.le_of_ble_eq_true rfl, Nat.le_of_ble_eq_true rfl⟩ ⟨Nat.zero_le _, Nat.zero_le _⟩ (st1 := []) (Nat.le_of_ble_eq_true rfl) dX3_readMan_39 (fun r3 w2 h => ?_)
    obtain ⟨ht, hf⟩ := h
    refine V_if_eq X (tgt := 49) dX3_readMan_42 (by decide) (fun c => ?_) (fun c => ?_)
    · have h := ht c
      refine V_sub X (ls1 := [(0, .ref (ad 7)), (1, .ref (ad k1)), (3, .int x1)]) [2, 3, 0] rfl ?_
      exact v_3_readMan_b49 X hr hk1 _ _ h
    · have h := hf c
      refine V_iconst X (v := (1 : Int32)) dX3_readMan_45 (by decide) ?_
      refine V_goto X (tgt := 50) dX3_readMan_46 (by decide) ?_
      refine V_sub X (ls1 := [(0, .ref (ad 7)), (1, .ref (ad k1)), (3, .int x1)]) [2, 3, 0] rfl ?_
      exact v_3_readMan_b50 X hr hk1 _ _ _ h
set_option maxRecDepth 20000 in
theorem v_3_readMan_b22 (X : CXq p s m args meth c cX3_readMan 6 yX3_readMan.cls ad cy D (AW ad) s.heap) (hr : meth.sig.returnType = (some .boolean)) {k1 : Nat} (hk1 : isPeople k1) {Q : Int32 → Mem → Prop} : ∀ (w : Mem), wp_3_readMan_b22 k1 Q w → V p l e (RM 3) s m args below meth c 6 ad cy D (AW ad) s.heap 0 0 (MQ below (va_Qi Q (BC ad cy D wm wl0) (AW ad)) args s 0 0 (AW ad)) w wm wl0 22 [(0, .ref (ad 7)), (1, .ref (ad k1))] [] := by
  intro w h
  unfold wp_3_readMan_b22 at h
  refine V_iconst X (v := (0 : Int32)) dX3_readMan_22 (by decide) ?_
  refine V_sub X (ls1 := [(0, .ref (ad 7)), (1, .ref (ad k1))]) [0, 1] rfl ?_
  exact v_3_readMan_b23 X hr hk1 _ _ h
set_option maxRecDepth 20000 in
theorem v_3_readMan {k1 : Nat} (X : CXq p s m args meth c cX3_readMan 6 yX3_readMan.cls ad cy D (AW ad) s.heap) (hr : meth.sig.returnType = (some .boolean)) (hk1 : isPeople k1) {w : Mem} {Q : Int32 → Mem → Prop} (h : wp_3_readMan k1 w Q) : V p l e (RM 3) s m args below meth c 6 ad cy D (AW ad) s.heap 0 0 (MQ below (va_Qi Q (BC ad cy D wm wl0) (AW ad)) args s 0 0 (AW ad)) w wm wl0 0 [(0, .ref (ad 7)), (1, .ref (ad k1))] [] := by
  unfold wp_3_readMan at h
  refine V_aload_n X (i := 0) 0 dX3_readMan_0 rfl rfl ?_
  refine K_3_readName X (Or.inl q_746) h ⟨Nat.le_of_ble_eq_true rfl, Nat.le_of_ble_eq_true rfl⟩ ⟨Nat.zero_le _, Nat.zero_le _⟩ (st1 := []) (Nat.le_of_ble_eq_true rfl) dX3_readMan_1 (fun r2 w1 h => ?_)
  obtain ⟨ht, hf⟩ := h
  refine V_if_eq X (tgt := 22) dX3_readMan_4 (by decide) (fun c => ?_) (fun c => ?_)
  · have h := ht c
    refine V_sub X (ls1 := [(0, .ref (ad 7)), (1, .ref (ad k1))]) [0, 1] rfl ?_
    exact v_3_readMan_b22 X hr hk1 _ h
  · have h := hf c
    refine V_aload_n X (i := 0) 0 dX3_readMan_7 rfl rfl ?_
    refine V_bipush X (v := (30 : Int32)) dX3_readMan_8 (by decide) ?_
    refine V_bipush X (v := (120 : Int32)) dX3_readMan_10 (by decide) ?_
    refine K_3_readInt X (Or.inl q_710) h ⟨Nat.le_of_ble_eq_true rfl, Nat.le_of_ble_eq_true rfl⟩ ⟨Nat.zero_le _, Nat.zero_le _⟩ (st1 := []) (Nat.le_of_ble_eq_true rfl) dX3_readMan_12 (fun r4 w3 h => ?_)
    obtain ⟨ht, hf⟩ := h
    refine V_if_eq X (tgt := 22) dX3_readMan_15 (by decide) (fun c => ?_) (fun c => ?_)
    · have h := ht c
      refine V_sub X (ls1 := [(0, .ref (ad 7)), (1, .ref (ad k1))]) [0, 1] rfl ?_
      exact v_3_readMan_b22 X hr hk1 _ h
    · have h := hf c
      refine V_iconst X (v := (1 : Int32)) dX3_readMan_18 (by decide) ?_
      refine V_goto X (tgt := 23) dX3_readMan_19 (by decide) ?_
      refine V_sub X (ls1 := [(0, .ref (ad 7)), (1, .ref (ad k1))]) [0, 1] rfl ?_
      exact v_3_readMan_b23 X hr hk1 _ _ h
theorem c_3_readMan {k1 : Nat} (hinj : INJ ad) (hk1 : isPeople k1) {w : Mem} {Q : Int32 → Mem → Prop} (h : wp_3_readMan k1 w Q) : Met l yX3_readMan (TBq yX3_readMan cX3_readMan 6 (some .boolean)) (RM 3) (va_Pc [.ref (ad 7), .ref (ad k1)] (PB ad cy D (cmb w wm) wl0)) (va_Qi Q (BC ad cy D wm wl0) (AW ad)) 0 0 (AW ad) := M_enter (by decide) (Nat.le_of_ble_eq_true rfl) hinj (fun p e s m args below meth c X hr => v_3_readMan X hr hk1 h)
theorem mf_3_readMan : MFV yX3_readMan cX3_readMan 6 (some .boolean) yX3_readMan.cls 1 := ⟨q_745, q_744, qs_17, q_4, by decide⟩
theorem K_3_readMan {own : String} {idx : Nat} {k1 : Nat} (X : CXq p s m args meth c cc nL own ad cy D A H0) (hL : LK own idx yX3_readMan) (hk1 : isPeople k1) {w : Mem} {Q : Int32 → Mem → Prop} (h : wp_3_readMan k1 w Q) (hR : (RM 3).frames + 1 ≤ R.frames ∧ 8 + (6 + 11) + (RM 3).locals ≤ R.locals) (hce : ce ≤ R.cells ∧ sl ≤ R.slots) (hcat : (st1.map fun v => v.category).sum ≤ 8) (hd : decode cc pc = .ok (.invokevirtual idx, 3)) (kk : ∀ (r : Int32) (u : Mem), Q r u → V p l e R s m args below meth c nL ad cy D A H0 ce sl Qs u wm wl0 (pc + 3) ls (.int r :: st1)) : V p l e R s m args below meth c nL ad cy D A H0 ce sl Qs w wm wl0 pc ls (.ref (ad k1) :: .ref (ad 7) :: st1) := V_callVI_c X mf_3_readMan hL (rfl : vwCl[3]? = some (RX3, TX3, 9)) (by decide) (rfl : SK 7 = 3) (Nat.lt_of_lt_of_le (by decide : 7 < 150) (CX_nn X)) (c_3_readMan X.2.2.2.2.2.2.2.1 hk1 h) (As := [.ref (ad k1)]) rfl ⟨rfl, rfl⟩ hR hce st1 rfl hcat hd kk
set_option maxRecDepth 20000 in
theorem v_4_addJudge {k : Nat} {a1 : Int32} {a2 : Int32} (X : CXq p s m args meth c cX4_addJudge 3 yX4_addJudge.cls ad cy D (AW ad) s.heap) (hr : meth.sig.returnType = none) (hk : isPeople k) {w : Mem} {Q : Mem → Prop} (h : wp_4_addJudge k a1 a2 w Q) : V p l e (RM 0) s m args below meth c 3 ad cy D (AW ad) s.heap 0 0 (MQ below (va_Qv Q (BC ad cy D wm wl0) (AW ad)) args s 0 0 (AW ad)) w wm wl0 0 [(0, .ref (ad k)), (1, .int a1), (2, .int a2)] [] := by
  unfold wp_4_addJudge at h
  refine V_aload_n X (i := 0) 0 dX4_addJudge_0 rfl rfl ?_
  refine G_4_34 X (hk).1 (hk).2.1 (People_r7 hk) dX4_addJudge_1 ?_
  refine V_bipush X (v := (7 : Int32)) dX4_addJudge_4 (by decide) ?_
  obtain ⟨ht, hf⟩ := h
  refine V_icmp_ge X (tgt := 39) dX4_addJudge_6 (by decide) (fun c => ?_) (fun c => ?_)
  · have h := ht c
    exact V_vret_c X hr dX4_addJudge_39 h
  · have h := hf c
    refine V_aload_n X (i := 0) 0 dX4_addJudge_9 rfl rfl ?_
    refine G_4_24 X (hk).1 (hk).2.1 (People_r4 hk) dX4_addJudge_10 ?_
    refine V_aload_n X (i := 0) 0 dX4_addJudge_13 rfl rfl ?_
    refine G_4_34 X (hk).1 (hk).2.1 (People_r7 hk) dX4_addJudge_14 ?_
    refine V_iload_n X (i := 1) 1 dX4_addJudge_17 rfl rfl ?_
    obtain ⟨g1, h⟩ := h
    obtain ⟨w2, ew2⟩ : ∃ y : Mem, y = st w (k + 5) (ix (w k 7)) a1 := ⟨_, rfl⟩
    have h := h w2 ew2
    refine V_iast_c X ((People_s4 hk)).2.1 ((People_s4 hk)).2.2 ((People_s4 hk)).1 g1 dX4_addJudge_18 ew2 ?_
    refine V_aload_n X (i := 0) 0 dX4_addJudge_19 rfl rfl ?_
    refine G_4_27 X (hk).1 (hk).2.1 (People_r5 hk) dX4_addJudge_20 ?_
    refine V_aload_n X (i := 0) 0 dX4_addJudge_23 rfl rfl ?_
    refine G_4_34 X (hk).1 (hk).2.1 (People_r7 hk) dX4_addJudge_24 ?_
    refine V_iload_n X (i := 2) 2 dX4_addJudge_27 rfl rfl ?_
    obtain ⟨g3, h⟩ := h
    obtain ⟨w4, ew4⟩ : ∃ y : Mem, y = st w2 (k + 6) (ix (w2 k 7)) a2 := ⟨_, rfl⟩
    have h := h w4 ew4
    refine V_iast_c X ((People_s5 hk)).2.1 ((People_s5 hk)).2.2 ((People_s5 hk)).1 g3 dX4_addJudge_28 ew4 ?_
    refine V_aload_n X (i := 0) 0 dX4_addJudge_29 rfl rfl ?_
    refine V_dup X dX4_addJudge_30 rfl ?_
    refine G_4_34 X (hk).1 (hk).2.1 (People_r7 hk) dX4_addJudge_31 ?_
    refine V_iconst X (v := (1 : Int32)) dX4_addJudge_34 (by decide) ?_
    refine V_iadd X dX4_addJudge_35 ?_
    obtain ⟨w5, ew5⟩ : ∃ y : Mem, y = st w4 k 7 ((w4 k 7) + (1 : Int32)) := ⟨_, rfl⟩
    have h := h w5 ew5
    refine U_4_34 X (hk).1 (hk).2.1 (People_r7 hk) rfl rfl dX4_addJudge_36 ew5 ?_
    exact V_vret_c X hr dX4_addJudge_39 h
theorem c_4_addJudge {k : Nat} {a1 : Int32} {a2 : Int32} (hinj : INJ ad) (hk : isPeople k) {w : Mem} {Q : Mem → Prop} (h : wp_4_addJudge k a1 a2 w Q) : Met l yX4_addJudge (TBq yX4_addJudge cX4_addJudge 3 none) (RM 0) (va_Pc [.ref (ad k), .int a1, .int a2] (PB ad cy D (cmb w wm) wl0)) (va_Qv Q (BC ad cy D wm wl0) (AW ad)) 0 0 (AW ad) := M_enter (by decide) (Nat.le_of_ble_eq_true rfl) hinj (fun p e s m args below meth c X hr => v_4_addJudge X hr hk h)
theorem mf_4_addJudge : MFV yX4_addJudge cX4_addJudge 3 none yX4_addJudge.cls 2 := ⟨q_765, q_763, q_764, q_7, by decide⟩
theorem K_4_addJudge {own : String} {idx : Nat} {k : Nat} {a1 : Int32} {a2 : Int32} (X : CXq p s m args meth c cc nL own ad cy D A H0) (hL : LK own idx yX4_addJudge) (hk : isPeople k) {w : Mem} {Q : Mem → Prop} (h : wp_4_addJudge k a1 a2 w Q) (hR : (RM 0).frames + 1 ≤ R.frames ∧ 8 + (3 + 11) + (RM 0).locals ≤ R.locals) (hce : ce ≤ R.cells ∧ sl ≤ R.slots) (hcat : (st1.map fun v => v.category).sum ≤ 8) (hd : decode cc pc = .ok (.invokevirtual idx, 3)) (kk : ∀ (u : Mem), Q u → V p l e R s m args below meth c nL ad cy D A H0 ce sl Qs u wm wl0 (pc + 3) ls st1) : V p l e R s m args below meth c nL ad cy D A H0 ce sl Qs w wm wl0 pc ls (.int a2 :: .int a1 :: .ref (ad k) :: st1) := V_callVV_c X mf_4_addJudge hL (rfl : vwCl[4]? = some (RX4, TX4, 8)) (by decide) (hk).1 (Nat.lt_of_lt_of_le (hk).2.1 (CX_nn X)) (c_4_addJudge X.2.2.2.2.2.2.2.1 hk h) (As := [.int a1, .int a2]) rfl ⟨rfl, rfl⟩ hR hce st1 rfl hcat hd kk
set_option maxRecDepth 20000 in
theorem v_3_readJudge_b102 (X : CXq p s m args meth c cX3_readJudge 5 yX3_readJudge.cls ad cy D (AW ad) s.heap) (hr : meth.sig.returnType = (some .boolean)) {k1 : Nat} (hk1 : isPeople k1) {Q : Int32 → Mem → Prop} : ∀ (l4 : Int32) (s0 : Int32) (w : Mem), wp_3_readJudge_b102 k1 Q l4 s0 w → V p l e (RM 3) s m args below meth c 5 ad cy D (AW ad) s.heap 0 0 (MQ below (va_Qi Q (BC ad cy D wm wl0) (AW ad)) args s 0 0 (AW ad)) w wm wl0 102 [(0, .ref (ad 7)), (1, .ref (ad k1)), (4, .int l4)] [.int s0] := by
  intro l4 s0 w h
  unfold wp_3_readJudge_b102 at h
  refine V_istore_n X dX3_readJudge_102 rfl (by decide) rfl (ls1 := [(2, .int s0), (0, .ref (ad 7)), (1, .ref (ad k1)), (4, .int l4)]) rfl ?_
  refine V_aload_n X (i := 1) 2 dX3_readJudge_103 rfl rfl ?_
  refine V_iload X (i := 4) 3 dX3_readJudge_104 rfl ?_
  refine V_aload_n X (i := 0) 1 dX3_readJudge_106 rfl rfl ?_
  refine G_3_116 X dX3_readJudge_107 ?_
  refine K_4_addJudge X (Or.inl q_762) hk1 h ⟨Nat.le_of_ble_eq_true rfl, Nat.le_of_ble_eq_true rfl⟩ ⟨Nat.zero_le _, Nat.zero_le _⟩ (st1 := []) (Nat.le_of_ble_eq_true rfl) dX3_readJudge_110 (fun w1 h => ?_)
  refine V_iload_n X (i := 2) 0 dX3_readJudge_113 rfl rfl ?_
  exact V_zret_c X hr dX3_readJudge_114 (bo_z h.1) h.2
set_option maxRecDepth 20000 in
theorem v_3_readJudge_b101 (X : CXq p s m args meth c cX3_readJudge 5 yX3_readJudge.cls ad cy D (AW ad) s.heap) (hr : meth.sig.returnType = (some .boolean)) {k1 : Nat} (hk1 : isPeople k1) {Q : Int32 → Mem → Prop} : ∀ (l4 : Int32) (w : Mem), wp_3_readJudge_b101 k1 Q l4 w → V p l e (RM 3) s m args below meth c 5 ad cy D (AW ad) s.heap 0 0 (MQ below (va_Qi Q (BC ad cy D wm wl0) (AW ad)) args s 0 0 (AW ad)) w wm wl0 101 [(0, .ref (ad 7)), (1, .ref (ad k1)), (4, .int l4)] [] := by
  intro l4 w h
  unfold wp_3_readJudge_b101 at h
  refine V_iconst X (v := (0 : Int32)) dX3_readJudge_101 (by decide) ?_
  refine V_sub X (ls1 := [(0, .ref (ad 7)), (1, .ref (ad k1)), (4, .int l4)]) [0, 1, 2] rfl ?_
  exact v_3_readJudge_b102 X hr hk1 _ _ _ h
set_option maxRecDepth 20000 in
theorem v_3_readJudge_b81 (X : CXq p s m args meth c cX3_readJudge 5 yX3_readJudge.cls ad cy D (AW ad) s.heap) (hr : meth.sig.returnType = (some .boolean)) {k1 : Nat} (hk1 : isPeople k1) {Q : Int32 → Mem → Prop} : ∀ (l2 : Int32) (s0 : Int32) (w : Mem), wp_3_readJudge_b81 k1 Q l2 s0 w → V p l e (RM 3) s m args below meth c 5 ad cy D (AW ad) s.heap 0 0 (MQ below (va_Qi Q (BC ad cy D wm wl0) (AW ad)) args s 0 0 (AW ad)) w wm wl0 81 [(0, .ref (ad 7)), (1, .ref (ad k1)), (2, .int l2)] [.int s0] := by
  intro l2 s0 w h
  unfold wp_3_readJudge_b81 at h
  refine V_istore X dX3_readJudge_81 (by decide) rfl (ls1 := [(4, .int s0), (0, .ref (ad 7)), (1, .ref (ad k1)), (2, .int l2)]) rfl ?_
  refine V_iload_n X (i := 2) 3 dX3_readJudge_83 rfl rfl ?_
  obtain ⟨ht, hf⟩ := h
  refine V_if_eq X (tgt := 101) dX3_readJudge_84 (by decide) (fun c => ?_) (fun c => ?_)
  · have h := ht c
    refine V_sub X (ls1 := [(0, .ref (ad 7)), (1, .ref (ad k1)), (4, .int s0)]) [1, 2, 0] rfl ?_
    exact v_3_readJudge_b101 X hr hk1 _ _ h
  · have h := hf c
    refine V_aload_n X (i := 0) 1 dX3_readJudge_87 rfl rfl ?_
    refine V_iconst X (v := (0 : Int32)) dX3_readJudge_88 (by decide) ?_
    refine V_bipush X (v := (9 : Int32)) dX3_readJudge_89 (by decide) ?_
    refine K_3_readInt X (Or.inl q_710) h ⟨Nat.le_of_ble_eq_true rfl, Nat.le_of_ble_eq_true rfl⟩ ⟨Nat.zero_le _, Nat.zero_le _⟩ (st1 := []) (Nat.le_of_ble_eq_true rfl) dX3_readJudge_91 (fun r2 w1 h => ?_)
    obtain ⟨ht, hf⟩ := h
    refine V_if_eq X (tgt := 101) dX3_readJudge_94 (by decide) (fun c => ?_) (fun c => ?_)
    · have h := ht c
      refine V_sub X (ls1 := [(0, .ref (ad 7)), (1, .ref (ad k1)), (4, .int s0)]) [1, 2, 0] rfl ?_
      exact v_3_readJudge_b101 X hr hk1 _ _ h
    · have h := hf c
      refine V_iconst X (v := (1 : Int32)) dX3_readJudge_97 (by decide) ?_
      refine V_goto X (tgt := 102) dX3_readJudge_98 (by decide) ?_
      refine V_sub X (ls1 := [(0, .ref (ad 7)), (1, .ref (ad k1)), (4, .int s0)]) [1, 2, 0] rfl ?_
      exact v_3_readJudge_b102 X hr hk1 _ _ _ h
set_option maxRecDepth 20000 in
theorem v_3_readJudge_b64 (X : CXq p s m args meth c cX3_readJudge 5 yX3_readJudge.cls ad cy D (AW ad) s.heap) (hr : meth.sig.returnType = (some .boolean)) {k1 : Nat} (hk1 : isPeople k1) {Q : Int32 → Mem → Prop} : ∀ (l3 : Int32) (s0 : Int32) (w : Mem), wp_3_readJudge_b64 k1 Q l3 s0 w → V p l e (RM 3) s m args below meth c 5 ad cy D (AW ad) s.heap 0 0 (MQ below (va_Qi Q (BC ad cy D wm wl0) (AW ad)) args s 0 0 (AW ad)) w wm wl0 64 [(0, .ref (ad 7)), (1, .ref (ad k1)), (3, .int l3)] [.int s0] := by
  intro l3 s0 w h
  unfold wp_3_readJudge_b64 at h
  refine V_istore_n X dX3_readJudge_64 rfl (by decide) rfl (ls1 := [(2, .int s0), (0, .ref (ad 7)), (1, .ref (ad k1)), (3, .int l3)]) rfl ?_
  refine V_iload_n X (i := 3) 3 dX3_readJudge_65 rfl rfl ?_
  obtain ⟨ht, hf⟩ := h
  refine V_if_eq X (tgt := 77) dX3_readJudge_66 (by decide) (fun c => ?_) (fun c => ?_)
  · have h := ht c
    refine V_aload_n X (i := 0) 1 dX3_readJudge_77 rfl rfl ?_
    refine G_3_116 X dX3_readJudge_78 ?_
    refine V_sub X (ls1 := [(0, .ref (ad 7)), (1, .ref (ad k1)), (2, .int s0)]) [1, 2, 0] rfl ?_
    exact v_3_readJudge_b81 X hr hk1 _ _ _ h
  · have h := hf c
    refine V_aload_n X (i := 0) 1 dX3_readJudge_69 rfl rfl ?_
    refine G_3_116 X dX3_readJudge_70 ?_
    refine V_ineg X dX3_readJudge_73 ?_
    refine V_goto X (tgt := 81) dX3_readJudge_74 (by decide) ?_
    refine V_sub X (ls1 := [(0, .ref (ad 7)), (1, .ref (ad k1)), (2, .int s0)]) [1, 2, 0] rfl ?_
    exact v_3_readJudge_b81 X hr hk1 _ _ _ h
set_option maxRecDepth 20000 in
theorem v_3_readJudge_b63 (X : CXq p s m args meth c cX3_readJudge 5 yX3_readJudge.cls ad cy D (AW ad) s.heap) (hr : meth.sig.returnType = (some .boolean)) {k1 : Nat} (hk1 : isPeople k1) {Q : Int32 → Mem → Prop} : ∀ (l3 : Int32) (w : Mem), wp_3_readJudge_b63 k1 Q l3 w → V p l e (RM 3) s m args below meth c 5 ad cy D (AW ad) s.heap 0 0 (MQ below (va_Qi Q (BC ad cy D wm wl0) (AW ad)) args s 0 0 (AW ad)) w wm wl0 63 [(0, .ref (ad 7)), (1, .ref (ad k1)), (3, .int l3)] [] := by
  intro l3 w h
  unfold wp_3_readJudge_b63 at h
  refine V_iconst X (v := (0 : Int32)) dX3_readJudge_63 (by decide) ?_
  refine V_sub X (ls1 := [(0, .ref (ad 7)), (1, .ref (ad k1)), (3, .int l3)]) [0, 1, 2] rfl ?_
  exact v_3_readJudge_b64 X hr hk1 _ _ _ h
set_option maxRecDepth 20000 in
theorem v_3_readJudge_b49 (X : CXq p s m args meth c cX3_readJudge 5 yX3_readJudge.cls ad cy D (AW ad) s.heap) (hr : meth.sig.returnType = (some .boolean)) {k1 : Nat} (hk1 : isPeople k1) {Q : Int32 → Mem → Prop} : ∀ (l3 : Int32) (w : Mem), wp_3_readJudge_b49 k1 Q l3 w → V p l e (RM 3) s m args below meth c 5 ad cy D (AW ad) s.heap 0 0 (MQ below (va_Qi Q (BC ad cy D wm wl0) (AW ad)) args s 0 0 (AW ad)) w wm wl0 49 [(0, .ref (ad 7)), (1, .ref (ad k1)), (3, .int l3)] [] := by
  intro l3 w h
  unfold wp_3_readJudge_b49 at h
  refine V_aload_n X (i := 0) 0 dX3_readJudge_49 rfl rfl ?_
  refine V_iconst X (v := (0 : Int32)) dX3_readJudge_50 (by decide) ?_
  refine V_bipush X (v := (9 : Int32)) dX3_readJudge_51 (by decide) ?_
  refine K_3_readInt X (Or.inl q_710) h ⟨Nat.le_of_ble_eq_true rfl, Nat.le_of_ble_eq_true rfl⟩ ⟨Nat.zero_le _, Nat.zero_le _⟩ (st1 := []) (Nat.le_of_ble_eq_true rfl) dX3_readJudge_53 (fun r2 w1 h => ?_)
  obtain ⟨ht, hf⟩ := h
  refine V_if_eq X (tgt := 63) dX3_readJudge_56 (by decide) (fun c => ?_) (fun c => ?_)
  · have h := ht c
    refine V_sub X (ls1 := [(0, .ref (ad 7)), (1, .ref (ad k1)), (3, .int l3)]) [0, 1, 2] rfl ?_
    exact v_3_readJudge_b63 X hr hk1 _ _ h
  · have h := hf c
    refine V_iconst X (v := (1 : Int32)) dX3_readJudge_59 (by decide) ?_
    refine V_goto X (tgt := 64) dX3_readJudge_60 (by decide) ?_
    refine V_sub X (ls1 := [(0, .ref (ad 7)), (1, .ref (ad k1)), (3, .int l3)]) [0, 1, 2] rfl ?_
    exact v_3_readJudge_b64 X hr hk1 _ _ _ h
set_option maxRecDepth 20000 in
theorem v_3_readJudge_b31 (X : CXq p s m args meth c cX3_readJudge 5 yX3_readJudge.cls ad cy D (AW ad) s.heap) (hr : meth.sig.returnType = (some .boolean)) {k1 : Nat} (hk1 : isPeople k1) {Q : Int32 → Mem → Prop} : ∀ (l2 : Int32) (s0 : Int32) (w : Mem), wp_3_readJudge_b31 k1 Q l2 s0 w → V p l e (RM 3) s m args below meth c 5 ad cy D (AW ad) s.heap 0 0 (MQ below (va_Qi Q (BC ad cy D wm wl0) (AW ad)) args s 0 0 (AW ad)) w wm wl0 31 [(0, .ref (ad 7)), (1, .ref (ad k1)), (2, .int l2)] [.int s0] := by
  intro l2 s0 w h
  unfold wp_3_readJudge_b31 at h
  refine V_istore_n X dX3_readJudge_31 rfl (by decide) rfl (ls1 := [(3, .int s0), (0, .ref (ad 7)), (1, .ref (ad k1)), (2, .int l2)]) rfl ?_
  refine V_iload_n X (i := 2) 3 dX3_readJudge_32 rfl rfl ?_
  obtain ⟨ht, hf⟩ := h
  refine V_if_eq X (tgt := 63) dX3_readJudge_33 (by decide) (fun c => ?_) (fun c => ?_)
  · have h := ht c
    refine V_sub X (ls1 := [(0, .ref (ad 7)), (1, .ref (ad k1)), (3, .int s0)]) [1, 2, 0] rfl ?_
    exact v_3_readJudge_b63 X hr hk1 _ _ h
  · have h := hf c
    refine V_iload_n X (i := 3) 0 dX3_readJudge_36 rfl rfl ?_
    obtain ⟨ht, hf⟩ := h
    refine V_if_eq X (tgt := 49) dX3_readJudge_37 (by decide) (fun c => ?_) (fun c => ?_)
    · have h := ht c
      refine V_sub X (ls1 := [(0, .ref (ad 7)), (1, .ref (ad k1)), (3, .int s0)]) [1, 2, 0] rfl ?_
      exact v_3_readJudge_b49 X hr hk1 _ _ h
    · have h := hf c
      refine V_aload_n X (i := 0) 1 dX3_readJudge_40 rfl rfl ?_
      refine V_bipush X (v := (45 : Int32)) dX3_readJudge_41 (by decide) ?_
      refine K_3_takes X (Or.inl q_702) h ⟨Nat.le_of_ble_eq_true rfl, Nat.le_of_ble_eq_true rfl⟩ ⟨Nat.zero_le _, Nat.zero_le _⟩ (st1 := []) (Nat.le_of_ble_eq_true rfl) dX3_readJudge_43 (fun r2 w1 h => ?_)
      obtain ⟨ht, hf⟩ := h
      refine V_if_eq X (tgt := 63) dX3_readJudge_46 (by decide) (fun c => ?_) (fun c => ?_)
      · have h := ht c
        refine V_sub X (ls1 := [(0, .ref (ad 7)), (1, .ref (ad k1)), (3, .int s0)]) [1, 2, 0] rfl ?_
        exact v_3_readJudge_b63 X hr hk1 _ _ h
      · have h := hf c
        refine V_sub X (ls1 := [(0, .ref (ad 7)), (1, .ref (ad k1)), (3, .int s0)]) [1, 2, 0] rfl ?_
        exact v_3_readJudge_b49 X hr hk1 _ _ h
set_option maxRecDepth 20000 in
theorem v_3_readJudge_b30 (X : CXq p s m args meth c cX3_readJudge 5 yX3_readJudge.cls ad cy D (AW ad) s.heap) (hr : meth.sig.returnType = (some .boolean)) {k1 : Nat} (hk1 : isPeople k1) {Q : Int32 → Mem → Prop} : ∀ (l2 : Int32) (w : Mem), wp_3_readJudge_b30 k1 Q l2 w → V p l e (RM 3) s m args below meth c 5 ad cy D (AW ad) s.heap 0 0 (MQ below (va_Qi Q (BC ad cy D wm wl0) (AW ad)) args s 0 0 (AW ad)) w wm wl0 30 [(0, .ref (ad 7)), (1, .ref (ad k1)), (2, .int l2)] [] := by
  intro l2 w h
  unfold wp_3_readJudge_b30 at h
  refine V_iconst X (v := (0 : Int32)) dX3_readJudge_30 (by decide) ?_
  refine V_sub X (ls1 := [(0, .ref (ad 7)), (1, .ref (ad k1)), (2, .int l2)]) [0, 1, 2] rfl ?_
  exact v_3_readJudge_b31 X hr hk1 _ _ _ h
set_option maxRecDepth 20000 in
theorem v_3_readJudge {k1 : Nat} (X : CXq p s m args meth c cX3_readJudge 5 yX3_readJudge.cls ad cy D (AW ad) s.heap) (hr : meth.sig.returnType = (some .boolean)) (hk1 : isPeople k1) {w : Mem} {Q : Int32 → Mem → Prop} (h : wp_3_readJudge k1 w Q) : V p l e (RM 3) s m args below meth c 5 ad cy D (AW ad) s.heap 0 0 (MQ below (va_Qi Q (BC ad cy D wm wl0) (AW ad)) args s 0 0 (AW ad)) w wm wl0 0 [(0, .ref (ad 7)), (1, .ref (ad k1))] [] := by
  unfold wp_3_readJudge at h
  refine V_aload_n X (i := 0) 0 dX3_readJudge_0 rfl rfl ?_
  refine K_3_readName X (Or.inl q_746) h ⟨Nat.le_of_ble_eq_true rfl, Nat.le_of_ble_eq_true rfl⟩ ⟨Nat.zero_le _, Nat.zero_le _⟩ (st1 := []) (Nat.le_of_ble_eq_true rfl) dX3_readJudge_1 (fun r2 w1 h => ?_)
  refine V_istore_n X dX3_readJudge_4 rfl (by decide) rfl (ls1 := [(2, .int r2), (0, .ref (ad 7)), (1, .ref (ad k1))]) rfl ?_
  refine V_iload_n X (i := 2) 0 dX3_readJudge_5 rfl rfl ?_
  obtain ⟨ht, hf⟩ := h
  refine V_if_eq X (tgt := 30) dX3_readJudge_6 (by decide) (fun c => ?_) (fun c => ?_)
  · have h := ht c
    refine V_sub X (ls1 := [(0, .ref (ad 7)), (1, .ref (ad k1)), (2, .int r2)]) [1, 2, 0] rfl ?_
    exact v_3_readJudge_b30 X hr hk1 _ _ h
  · have h := hf c
    refine V_aload_n X (i := 0) 1 dX3_readJudge_9 rfl rfl ?_
    refine G_3_15 X dX3_readJudge_10 ?_
    refine G_3_45 X dX3_readJudge_13 ?_
    refine V_aload_n X (i := 0) 1 dX3_readJudge_16 rfl rfl ?_
    refine G_3_19 X dX3_readJudge_17 ?_
    obtain ⟨g3, h⟩ := h
    refine V_iald_c X (rfl : SLq 4 = 401) (by decide) (rfl : SK 4 = 14) g3 dX3_readJudge_20 ?_
    refine V_bipush X (v := (45 : Int32)) dX3_readJudge_21 (by decide) ?_
    obtain ⟨ht, hf⟩ := h
    refine V_icmp_ne X (tgt := 30) dX3_readJudge_23 (by decide) (fun c => ?_) (fun c => ?_)
    · have h := ht c
      refine V_sub X (ls1 := [(0, .ref (ad 7)), (1, .ref (ad k1)), (2, .int r2)]) [1, 2, 0] rfl ?_
      exact v_3_readJudge_b30 X hr hk1 _ _ h
    · have h := hf c
      refine V_iconst X (v := (1 : Int32)) dX3_readJudge_26 (by decide) ?_
      refine V_goto X (tgt := 31) dX3_readJudge_27 (by decide) ?_
      refine V_sub X (ls1 := [(0, .ref (ad 7)), (1, .ref (ad k1)), (2, .int r2)]) [1, 2, 0] rfl ?_
      exact v_3_readJudge_b31 X hr hk1 _ _ _ h
theorem c_3_readJudge {k1 : Nat} (hinj : INJ ad) (hk1 : isPeople k1) {w : Mem} {Q : Int32 → Mem → Prop} (h : wp_3_readJudge k1 w Q) : Met l yX3_readJudge (TBq yX3_readJudge cX3_readJudge 5 (some .boolean)) (RM 3) (va_Pc [.ref (ad 7), .ref (ad k1)] (PB ad cy D (cmb w wm) wl0)) (va_Qi Q (BC ad cy D wm wl0) (AW ad)) 0 0 (AW ad) := M_enter (by decide) (Nat.le_of_ble_eq_true rfl) hinj (fun p e s m args below meth c X hr => v_3_readJudge X hr hk1 h)
theorem mf_3_readJudge : MFV yX3_readJudge cX3_readJudge 5 (some .boolean) yX3_readJudge.cls 1 := ⟨q_761, q_760, qs_19, q_4, by decide⟩
theorem K_3_readJudge {own : String} {idx : Nat} {k1 : Nat} (X : CXq p s m args meth c cc nL own ad cy D A H0) (hL : LK own idx yX3_readJudge) (hk1 : isPeople k1) {w : Mem} {Q : Int32 → Mem → Prop} (h : wp_3_readJudge k1 w Q) (hR : (RM 3).frames + 1 ≤ R.frames ∧ 8 + (5 + 11) + (RM 3).locals ≤ R.locals) (hce : ce ≤ R.cells ∧ sl ≤ R.slots) (hcat : (st1.map fun v => v.category).sum ≤ 8) (hd : decode cc pc = .ok (.invokevirtual idx, 3)) (kk : ∀ (r : Int32) (u : Mem), Q r u → V p l e R s m args below meth c nL ad cy D A H0 ce sl Qs u wm wl0 (pc + 3) ls (.int r :: st1)) : V p l e R s m args below meth c nL ad cy D A H0 ce sl Qs w wm wl0 pc ls (.ref (ad k1) :: .ref (ad 7) :: st1) := V_callVI_c X mf_3_readJudge hL (rfl : vwCl[3]? = some (RX3, TX3, 9)) (by decide) (rfl : SK 7 = 3) (Nat.lt_of_lt_of_le (by decide : 7 < 150) (CX_nn X)) (c_3_readJudge X.2.2.2.2.2.2.2.1 hk1 h) (As := [.ref (ad k1)]) rfl ⟨rfl, rfl⟩ hR hce st1 rfl hcat hd kk
set_option maxRecDepth 20000 in
theorem v_3_readNumbers_b154 (X : CXq p s m args meth c cX3_readNumbers 4 yX3_readNumbers.cls ad cy D (AW ad) s.heap) (hr : meth.sig.returnType = (some .boolean)) {k2 : Nat} (hk2 : isText k2) {Q : Int32 → Mem → Prop} : ∀ (s0 : Int32) (w : Mem), wp_3_readNumbers_b154 k2 Q s0 w → V p l e (RM 2) s m args below meth c 4 ad cy D (AW ad) s.heap 0 0 (MQ below (va_Qi Q (BC ad cy D wm wl0) (AW ad)) args s 0 0 (AW ad)) w wm wl0 154 [(0, .ref (ad 7)), (2, .ref (ad k2))] [.int s0] := by
  intro s0 w h
  unfold wp_3_readNumbers_b154 at h
  refine V_istore_n X dX3_readNumbers_154 rfl (by decide) rfl (ls1 := [(3, .int s0), (0, .ref (ad 7)), (2, .ref (ad k2))]) rfl ?_
  refine V_aload_n X (i := 2) 2 dX3_readNumbers_155 rfl rfl ?_
  refine V_aload_n X (i := 0) 1 dX3_readNumbers_156 rfl rfl ?_
  refine G_3_116 X dX3_readNumbers_157 ?_
  obtain ⟨w1, ew1⟩ : ∃ y : Mem, y = st w k2 15 (w 7 4) := ⟨_, rfl⟩
  have h := h w1 ew1
  refine U_3_155 X (hk2).1 (hk2).2.1 (Text_r15 hk2) rfl rfl dX3_readNumbers_160 ew1 ?_
  refine V_iload_n X (i := 3) 0 dX3_readNumbers_163 rfl rfl ?_
  exact V_zret_c X hr dX3_readNumbers_164 (bo_z h.1) h.2
set_option maxRecDepth 20000 in
theorem v_3_readNumbers_b153 (X : CXq p s m args meth c cX3_readNumbers 4 yX3_readNumbers.cls ad cy D (AW ad) s.heap) (hr : meth.sig.returnType = (some .boolean)) {k2 : Nat} (hk2 : isText k2) {Q : Int32 → Mem → Prop} : ∀ (w : Mem), wp_3_readNumbers_b153 k2 Q w → V p l e (RM 2) s m args below meth c 4 ad cy D (AW ad) s.heap 0 0 (MQ below (va_Qi Q (BC ad cy D wm wl0) (AW ad)) args s 0 0 (AW ad)) w wm wl0 153 [(0, .ref (ad 7)), (2, .ref (ad k2))] [] := by
  intro w h
  unfold wp_3_readNumbers_b153 at h
  refine V_iconst X (v := (0 : Int32)) dX3_readNumbers_153 (by decide) ?_
  refine V_sub X (ls1 := [(0, .ref (ad 7)), (2, .ref (ad k2))]) [0, 1] rfl ?_
  exact v_3_readNumbers_b154 X hr hk2 _ _ h
set_option maxRecDepth 20000 in
theorem v_3_readNumbers_b108 (X : CXq p s m args meth c cX3_readNumbers 4 yX3_readNumbers.cls ad cy D (AW ad) s.heap) (hr : meth.sig.returnType = (some .boolean)) {k2 : Nat} (hk2 : isText k2) {Q : Int32 → Mem → Prop} : ∀ (s0 : Int32) (w : Mem), wp_3_readNumbers_b108 k2 Q s0 w → V p l e (RM 2) s m args below meth c 4 ad cy D (AW ad) s.heap 0 0 (MQ below (va_Qi Q (BC ad cy D wm wl0) (AW ad)) args s 0 0 (AW ad)) w wm wl0 108 [(0, .ref (ad 7)), (2, .ref (ad k2))] [.int s0] := by
  intro s0 w h
  unfold wp_3_readNumbers_b108 at h
  refine V_istore_n X dX3_readNumbers_108 rfl (by decide) rfl (ls1 := [(3, .int s0), (0, .ref (ad 7)), (2, .ref (ad k2))]) rfl ?_
  refine V_aload_n X (i := 2) 2 dX3_readNumbers_109 rfl rfl ?_
  refine V_aload_n X (i := 0) 1 dX3_readNumbers_110 rfl rfl ?_
  refine G_3_116 X dX3_readNumbers_111 ?_
  obtain ⟨w1, ew1⟩ : ∃ y : Mem, y = st w k2 13 (w 7 4) := ⟨_, rfl⟩
  have h := h w1 ew1
  refine U_3_149 X (hk2).1 (hk2).2.1 (Text_r13 hk2) rfl rfl dX3_readNumbers_114 ew1 ?_
  refine V_iload_n X (i := 3) 0 dX3_readNumbers_117 rfl rfl ?_
  exact V_zret_c X hr dX3_readNumbers_118 (bo_z h.1) h.2
set_option maxRecDepth 20000 in
theorem v_3_readNumbers_b107 (X : CXq p s m args meth c cX3_readNumbers 4 yX3_readNumbers.cls ad cy D (AW ad) s.heap) (hr : meth.sig.returnType = (some .boolean)) {k2 : Nat} (hk2 : isText k2) {Q : Int32 → Mem → Prop} : ∀ (w : Mem), wp_3_readNumbers_b107 k2 Q w → V p l e (RM 2) s m args below meth c 4 ad cy D (AW ad) s.heap 0 0 (MQ below (va_Qi Q (BC ad cy D wm wl0) (AW ad)) args s 0 0 (AW ad)) w wm wl0 107 [(0, .ref (ad 7)), (2, .ref (ad k2))] [] := by
  intro w h
  unfold wp_3_readNumbers_b107 at h
  refine V_iconst X (v := (0 : Int32)) dX3_readNumbers_107 (by decide) ?_
  refine V_sub X (ls1 := [(0, .ref (ad 7)), (2, .ref (ad k2))]) [0, 1] rfl ?_
  exact v_3_readNumbers_b108 X hr hk2 _ _ h
set_option maxRecDepth 20000 in
theorem v_3_readNumbers {a1 : Int32} {k2 : Nat} (X : CXq p s m args meth c cX3_readNumbers 4 yX3_readNumbers.cls ad cy D (AW ad) s.heap) (hr : meth.sig.returnType = (some .boolean)) (hk2 : isText k2) {w : Mem} {Q : Int32 → Mem → Prop} (h : wp_3_readNumbers a1 k2 w Q) : V p l e (RM 2) s m args below meth c 4 ad cy D (AW ad) s.heap 0 0 (MQ below (va_Qi Q (BC ad cy D wm wl0) (AW ad)) args s 0 0 (AW ad)) w wm wl0 0 [(0, .ref (ad 7)), (1, .int a1), (2, .ref (ad k2))] [] := by
  unfold wp_3_readNumbers at h
  refine V_iload_n X (i := 1) 1 dX3_readNumbers_0 rfl rfl ?_
  obtain ⟨ht, h⟩ := h
  by_cases c0 : a1 = (137 : Int32)
  · have h := ht c0
    refine V_tableIn X (tgt := 36) dX3_readNumbers_1 (by rw [c0]; decide) (by rw [c0]; decide) (off := 35) (by rw [c0]; decide) (by decide) ?_
    refine V_aload_n X (i := 0) 0 dX3_readNumbers_36 rfl rfl ?_
    refine V_iconst X (v := (0 : Int32)) dX3_readNumbers_37 (by decide) ?_
    refine V_bipush X (v := (99 : Int32)) dX3_readNumbers_38 (by decide) ?_
    refine K_3_readInt X (Or.inl q_710) h ⟨Nat.le_of_ble_eq_true rfl, Nat.le_of_ble_eq_true rfl⟩ ⟨Nat.zero_le _, Nat.zero_le _⟩ (st1 := []) (Nat.le_of_ble_eq_true rfl) dX3_readNumbers_40 (fun r2 w1 h => ?_)
    refine V_istore_n X dX3_readNumbers_43 rfl (by decide) rfl (ls1 := [(3, .int r2), (0, .ref (ad 7)), (1, .int a1), (2, .ref (ad k2))]) rfl ?_
    refine V_aload_n X (i := 2) 3 dX3_readNumbers_44 rfl rfl ?_
    refine V_aload_n X (i := 0) 1 dX3_readNumbers_45 rfl rfl ?_
    refine G_3_116 X dX3_readNumbers_46 ?_
    obtain ⟨w3, ew3⟩ : ∃ y : Mem, y = st w1 k2 10 (w1 7 4) := ⟨_, rfl⟩
    have h := h w3 ew3
    refine U_3_140 X (hk2).1 (hk2).2.1 (Text_r10 hk2) rfl rfl dX3_readNumbers_49 ew3 ?_
    refine V_iload_n X (i := 3) 0 dX3_readNumbers_52 rfl rfl ?_
    exact V_zret_c X hr dX3_readNumbers_53 (bo_z h.1) h.2
  have h := h c0
  obtain ⟨ht, h⟩ := h
  by_cases c1 : a1 = (138 : Int32)
  · have h := ht c1
    refine V_tableIn X (tgt := 54) dX3_readNumbers_1 (by rw [c1]; decide) (by rw [c1]; decide) (off := 53) (by rw [c1]; decide) (by decide) ?_
    refine V_aload_n X (i := 0) 0 dX3_readNumbers_54 rfl rfl ?_
    refine V_iconst X (v := (0 : Int32)) dX3_readNumbers_55 (by decide) ?_
    refine V_bipush X (v := (30 : Int32)) dX3_readNumbers_56 (by decide) ?_
    refine K_3_readInt X (Or.inl q_710) h ⟨Nat.le_of_ble_eq_true rfl, Nat.le_of_ble_eq_true rfl⟩ ⟨Nat.zero_le _, Nat.zero_le _⟩ (st1 := []) (Nat.le_of_ble_eq_true rfl) dX3_readNumbers_58 (fun r5 w4 h => ?_)
    refine V_istore_n X dX3_readNumbers_61 rfl (by decide) rfl (ls1 := [(3, .int r5), (0, .ref (ad 7)), (1, .int a1), (2, .ref (ad k2))]) rfl ?_
    refine V_aload_n X (i := 2) 3 dX3_readNumbers_62 rfl rfl ?_
    refine V_aload_n X (i := 0) 1 dX3_readNumbers_63 rfl rfl ?_
    refine G_3_116 X dX3_readNumbers_64 ?_
    obtain ⟨w6, ew6⟩ : ∃ y : Mem, y = st w4 k2 11 (w4 7 4) := ⟨_, rfl⟩
    have h := h w6 ew6
    refine U_3_143 X (hk2).1 (hk2).2.1 (Text_r11 hk2) rfl rfl dX3_readNumbers_67 ew6 ?_
    refine V_iload_n X (i := 3) 0 dX3_readNumbers_70 rfl rfl ?_
    exact V_zret_c X hr dX3_readNumbers_71 (bo_z h.1) h.2
  have h := h c1
  obtain ⟨ht, h⟩ := h
  by_cases c2 : a1 = (139 : Int32)
  · have h := ht c2
    refine V_tableIn X (tgt := 72) dX3_readNumbers_1 (by rw [c2]; decide) (by rw [c2]; decide) (off := 71) (by rw [c2]; decide) (by decide) ?_
    refine V_aload_n X (i := 0) 0 dX3_readNumbers_72 rfl rfl ?_
    refine V_iconst X (v := (0 : Int32)) dX3_readNumbers_73 (by decide) ?_
    refine V_bipush X (v := (30 : Int32)) dX3_readNumbers_74 (by decide) ?_
    refine K_3_readInt X (Or.inl q_710) h ⟨Nat.le_of_ble_eq_true rfl, Nat.le_of_ble_eq_true rfl⟩ ⟨Nat.zero_le _, Nat.zero_le _⟩ (st1 := []) (Nat.le_of_ble_eq_true rfl) dX3_readNumbers_76 (fun r8 w7 h => ?_)
    refine V_istore_n X dX3_readNumbers_79 rfl (by decide) rfl (ls1 := [(3, .int r8), (0, .ref (ad 7)), (1, .int a1), (2, .ref (ad k2))]) rfl ?_
    refine V_aload_n X (i := 2) 3 dX3_readNumbers_80 rfl rfl ?_
    refine V_aload_n X (i := 0) 1 dX3_readNumbers_81 rfl rfl ?_
    refine G_3_116 X dX3_readNumbers_82 ?_
    obtain ⟨w9, ew9⟩ : ∃ y : Mem, y = st w7 k2 12 (w7 7 4) := ⟨_, rfl⟩
    have h := h w9 ew9
    refine U_3_146 X (hk2).1 (hk2).2.1 (Text_r12 hk2) rfl rfl dX3_readNumbers_85 ew9 ?_
    refine V_iload_n X (i := 3) 0 dX3_readNumbers_88 rfl rfl ?_
    obtain ⟨ht, hf⟩ := h
    refine V_if_eq X (tgt := 107) dX3_readNumbers_89 (by decide) (fun c => ?_) (fun c => ?_)
    · have h := ht c
      refine V_sub X (ls1 := [(0, .ref (ad 7)), (2, .ref (ad k2))]) [1, 3] rfl ?_
      exact v_3_readNumbers_b107 X hr hk2 _ h
    · have h := hf c
      refine V_aload_n X (i := 0) 1 dX3_readNumbers_92 rfl rfl ?_
      refine V_iconst X (v := (1 : Int32)) dX3_readNumbers_93 (by decide) ?_
      refine V_sipush X (v := (300 : Int32)) dX3_readNumbers_94 (by decide) ?_
      refine K_3_readInt X (Or.inl q_710) h ⟨Nat.le_of_ble_eq_true rfl, Nat.le_of_ble_eq_true rfl⟩ ⟨Nat.zero_le _, Nat.zero_le _⟩ (st1 := []) (Nat.le_of_ble_eq_true rfl) dX3_readNumbers_97 (fun r11 w10 h => ?_)
      obtain ⟨ht, hf⟩ := h
      refine V_if_eq X (tgt := 107) dX3_readNumbers_100 (by decide) (fun c => ?_) (fun c => ?_)
      · have h := ht c
        refine V_sub X (ls1 := [(0, .ref (ad 7)), (2, .ref (ad k2))]) [1, 3] rfl ?_
        exact v_3_readNumbers_b107 X hr hk2 _ h
      · have h := hf c
        refine V_iconst X (v := (1 : Int32)) dX3_readNumbers_103 (by decide) ?_
        refine V_goto X (tgt := 108) dX3_readNumbers_104 (by decide) ?_
        refine V_sub X (ls1 := [(0, .ref (ad 7)), (2, .ref (ad k2))]) [1, 3] rfl ?_
        exact v_3_readNumbers_b108 X hr hk2 _ _ h
  have h := h c2
  obtain ⟨ht, h⟩ := h
  by_cases c3 : a1 = (140 : Int32)
  · have h := ht c3
    refine V_tableIn X (tgt := 119) dX3_readNumbers_1 (by rw [c3]; decide) (by rw [c3]; decide) (off := 118) (by rw [c3]; decide) (by decide) ?_
    refine V_aload_n X (i := 0) 0 dX3_readNumbers_119 rfl rfl ?_
    refine V_iconst X (v := (0 : Int32)) dX3_readNumbers_120 (by decide) ?_
    refine V_bipush X (v := (40 : Int32)) dX3_readNumbers_121 (by decide) ?_
    refine K_3_readInt X (Or.inl q_710) h ⟨Nat.le_of_ble_eq_true rfl, Nat.le_of_ble_eq_true rfl⟩ ⟨Nat.zero_le _, Nat.zero_le _⟩ (st1 := []) (Nat.le_of_ble_eq_true rfl) dX3_readNumbers_123 (fun r13 w12 h => ?_)
    refine V_istore_n X dX3_readNumbers_126 rfl (by decide) rfl (ls1 := [(3, .int r13), (0, .ref (ad 7)), (1, .int a1), (2, .ref (ad k2))]) rfl ?_
    refine V_aload_n X (i := 2) 3 dX3_readNumbers_127 rfl rfl ?_
    refine V_aload_n X (i := 0) 1 dX3_readNumbers_128 rfl rfl ?_
    refine G_3_116 X dX3_readNumbers_129 ?_
    obtain ⟨w14, ew14⟩ : ∃ y : Mem, y = st w12 k2 14 (w12 7 4) := ⟨_, rfl⟩
    have h := h w14 ew14
    refine U_3_152 X (hk2).1 (hk2).2.1 (Text_r14 hk2) rfl rfl dX3_readNumbers_132 ew14 ?_
    refine V_iload_n X (i := 3) 0 dX3_readNumbers_135 rfl rfl ?_
    obtain ⟨ht, hf⟩ := h
    refine V_if_eq X (tgt := 153) dX3_readNumbers_136 (by decide) (fun c => ?_) (fun c => ?_)
    · have h := ht c
      refine V_sub X (ls1 := [(0, .ref (ad 7)), (2, .ref (ad k2))]) [1, 3] rfl ?_
      exact v_3_readNumbers_b153 X hr hk2 _ h
    · have h := hf c
      refine V_aload_n X (i := 0) 1 dX3_readNumbers_139 rfl rfl ?_
      refine V_iconst X (v := (0 : Int32)) dX3_readNumbers_140 (by decide) ?_
      refine V_bipush X (v := (99 : Int32)) dX3_readNumbers_141 (by decide) ?_
      refine K_3_readInt X (Or.inl q_710) h ⟨Nat.le_of_ble_eq_true rfl, Nat.le_of_ble_eq_true rfl⟩ ⟨Nat.zero_le _, Nat.zero_le _⟩ (st1 := []) (Nat.le_of_ble_eq_true rfl) dX3_readNumbers_143 (fun r16 w15 h => ?_)
      obtain ⟨ht, hf⟩ := h
      refine V_if_eq X (tgt := 153) dX3_readNumbers_146 (by decide) (fun c => ?_) (fun c => ?_)
      · have h := ht c
        refine V_sub X (ls1 := [(0, .ref (ad 7)), (2, .ref (ad k2))]) [1, 3] rfl ?_
        exact v_3_readNumbers_b153 X hr hk2 _ h
      · have h := hf c
        refine V_iconst X (v := (1 : Int32)) dX3_readNumbers_149 (by decide) ?_
        refine V_goto X (tgt := 154) dX3_readNumbers_150 (by decide) ?_
        refine V_sub X (ls1 := [(0, .ref (ad 7)), (2, .ref (ad k2))]) [1, 3] rfl ?_
        exact v_3_readNumbers_b154 X hr hk2 _ _ h
  have h := h c3
  obtain ⟨ht, h⟩ := h
  by_cases c4 : a1 = (141 : Int32)
  · have h := ht c4
    refine V_tableIn X (tgt := 165) dX3_readNumbers_1 (by rw [c4]; decide) (by rw [c4]; decide) (off := 164) (by rw [c4]; decide) (by decide) ?_
    refine V_aload_n X (i := 0) 0 dX3_readNumbers_165 rfl rfl ?_
    refine V_iconst X (v := (1 : Int32)) dX3_readNumbers_166 (by decide) ?_
    refine V_bipush X (v := (8 : Int32)) dX3_readNumbers_167 (by decide) ?_
    refine K_3_readInt X (Or.inl q_710) h ⟨Nat.le_of_ble_eq_true rfl, Nat.le_of_ble_eq_true rfl⟩ ⟨Nat.zero_le _, Nat.zero_le _⟩ (st1 := []) (Nat.le_of_ble_eq_true rfl) dX3_readNumbers_169 (fun r18 w17 h => ?_)
    refine V_istore_n X dX3_readNumbers_172 rfl (by decide) rfl (ls1 := [(3, .int r18), (0, .ref (ad 7)), (1, .int a1), (2, .ref (ad k2))]) rfl ?_
    refine V_aload_n X (i := 2) 3 dX3_readNumbers_173 rfl rfl ?_
    refine V_aload_n X (i := 0) 1 dX3_readNumbers_174 rfl rfl ?_
    refine G_3_116 X dX3_readNumbers_175 ?_
    obtain ⟨w19, ew19⟩ : ∃ y : Mem, y = st w17 k2 16 (w17 7 4) := ⟨_, rfl⟩
    have h := h w19 ew19
    refine U_3_158 X (hk2).1 (hk2).2.1 (Text_r16 hk2) rfl rfl dX3_readNumbers_178 ew19 ?_
    refine V_iload_n X (i := 3) 0 dX3_readNumbers_181 rfl rfl ?_
    exact V_zret_c X hr dX3_readNumbers_182 (bo_z h.1) h.2
  have h := h c4
  have z0 := tne c0 (z := 137) (by decide)
  have z1 := tne c1 (z := 138) (by decide)
  have z2 := tne c2 (z := 139) (by decide)
  have z3 := tne c3 (z := 140) (by decide)
  have z4 := tne c4 (z := 141) (by decide)
  refine V_tableOut X (tgt := 183) dX3_readNumbers_1 (by omega) (by decide) ?_
  refine V_aload_n X (i := 0) 0 dX3_readNumbers_183 rfl rfl ?_
  refine V_iconst X (v := (0 : Int32)) dX3_readNumbers_184 (by decide) ?_
  refine V_sipush X (v := (9999 : Int32)) dX3_readNumbers_185 (by decide) ?_
  refine K_3_readInt X (Or.inl q_710) h ⟨Nat.le_of_ble_eq_true rfl, Nat.le_of_ble_eq_true rfl⟩ ⟨Nat.zero_le _, Nat.zero_le _⟩ (st1 := []) (Nat.le_of_ble_eq_true rfl) dX3_readNumbers_188 (fun r21 w20 h => ?_)
  refine V_istore_n X dX3_readNumbers_191 rfl (by decide) rfl (ls1 := [(3, .int r21), (0, .ref (ad 7)), (1, .int a1), (2, .ref (ad k2))]) rfl ?_
  refine V_aload_n X (i := 2) 3 dX3_readNumbers_192 rfl rfl ?_
  refine V_aload_n X (i := 0) 1 dX3_readNumbers_193 rfl rfl ?_
  refine G_3_116 X dX3_readNumbers_194 ?_
  obtain ⟨w22, ew22⟩ : ∃ y : Mem, y = st w20 k2 17 (w20 7 4) := ⟨_, rfl⟩
  have h := h w22 ew22
  refine U_3_161 X (hk2).1 (hk2).2.1 (Text_r17 hk2) rfl rfl dX3_readNumbers_197 ew22 ?_
  refine V_iload_n X (i := 3) 0 dX3_readNumbers_200 rfl rfl ?_
  exact V_zret_c X hr dX3_readNumbers_201 (bo_z h.1) h.2
theorem c_3_readNumbers {a1 : Int32} {k2 : Nat} (hinj : INJ ad) (hk2 : isText k2) {w : Mem} {Q : Int32 → Mem → Prop} (h : wp_3_readNumbers a1 k2 w Q) : Met l yX3_readNumbers (TBq yX3_readNumbers cX3_readNumbers 4 (some .boolean)) (RM 2) (va_Pc [.ref (ad 7), .int a1, .ref (ad k2)] (PB ad cy D (cmb w wm) wl0)) (va_Qi Q (BC ad cy D wm wl0) (AW ad)) 0 0 (AW ad) := M_enter (by decide) (Nat.le_of_ble_eq_true rfl) hinj (fun p e s m args below meth c X hr => v_3_readNumbers X hr hk2 h)
theorem mf_3_readNumbers : MFV yX3_readNumbers cX3_readNumbers 4 (some .boolean) yX3_readNumbers.cls 2 := ⟨q_769, q_768, qs_20, q_4, by decide⟩
theorem K_3_readNumbers {own : String} {idx : Nat} {a1 : Int32} {k2 : Nat} (X : CXq p s m args meth c cc nL own ad cy D A H0) (hL : LK own idx yX3_readNumbers) (hk2 : isText k2) {w : Mem} {Q : Int32 → Mem → Prop} (h : wp_3_readNumbers a1 k2 w Q) (hR : (RM 2).frames + 1 ≤ R.frames ∧ 8 + (4 + 11) + (RM 2).locals ≤ R.locals) (hce : ce ≤ R.cells ∧ sl ≤ R.slots) (hcat : (st1.map fun v => v.category).sum ≤ 8) (hd : decode cc pc = .ok (.invokevirtual idx, 3)) (kk : ∀ (r : Int32) (u : Mem), Q r u → V p l e R s m args below meth c nL ad cy D A H0 ce sl Qs u wm wl0 (pc + 3) ls (.int r :: st1)) : V p l e R s m args below meth c nL ad cy D A H0 ce sl Qs w wm wl0 pc ls (.ref (ad k2) :: .int a1 :: .ref (ad 7) :: st1) := V_callVI_c X mf_3_readNumbers hL (rfl : vwCl[3]? = some (RX3, TX3, 9)) (by decide) (rfl : SK 7 = 3) (Nat.lt_of_lt_of_le (by decide : 7 < 150) (CX_nn X)) (c_3_readNumbers X.2.2.2.2.2.2.2.1 hk2 h) (As := [.int a1, .ref (ad k2)]) rfl ⟨rfl, rfl⟩ hR hce st1 rfl hcat hd kk
set_option maxRecDepth 20000 in
theorem v_3_readTell_b241 (X : CXq p s m args meth c cX3_readTell 4 yX3_readTell.cls ad cy D (AW ad) s.heap) (hr : meth.sig.returnType = (some .boolean)) {k1 : Nat} (hk1 : isText k1) {Q : Int32 → Mem → Prop} : ∀ (w : Mem), wp_3_readTell_b241 k1 Q w → V p l e (RM 28) s m args below meth c 4 ad cy D (AW ad) s.heap 0 0 (MQ below (va_Qi Q (BC ad cy D wm wl0) (AW ad)) args s 0 0 (AW ad)) w wm wl0 241 [] [] := by
  intro w h
  unfold wp_3_readTell_b241 at h
  refine V_iconst X (v := (0 : Int32)) dX3_readTell_241 (by decide) ?_
  exact V_zret_c X hr dX3_readTell_242 rfl h
set_option maxRecDepth 20000 in
theorem v_3_readTell_b224 (X : CXq p s m args meth c cX3_readTell 4 yX3_readTell.cls ad cy D (AW ad) s.heap) (hr : meth.sig.returnType = (some .boolean)) {k1 : Nat} (hk1 : isText k1) {Q : Int32 → Mem → Prop} : ∀ (l3 : Int32) (w : Mem), wp_3_readTell_b224 k1 Q l3 w → V p l e (RM 28) s m args below meth c 4 ad cy D (AW ad) s.heap 0 0 (MQ below (va_Qi Q (BC ad cy D wm wl0) (AW ad)) args s 0 0 (AW ad)) w wm wl0 224 [(0, .ref (ad 7)), (3, .int l3)] [] := by
  intro l3 w h
  unfold wp_3_readTell_b224 at h
  refine V_iload_n X (i := 3) 1 dX3_readTell_224 rfl rfl ?_
  obtain ⟨ht, hf⟩ := h
  refine V_if_eq X (tgt := 241) dX3_readTell_225 (by decide) (fun c => ?_) (fun c => ?_)
  · have h := ht c
    refine V_sub X (ls1 := []) [] rfl ?_
    exact v_3_readTell_b241 X hr hk1 _ h
  · have h := hf c
    refine V_aload_n X (i := 0) 0 dX3_readTell_228 rfl rfl ?_
    refine V_bipush X (v := (59 : Int32)) dX3_readTell_229 (by decide) ?_
    refine K_3_takes X (Or.inl q_702) h ⟨Nat.le_of_ble_eq_true rfl, Nat.le_of_ble_eq_true rfl⟩ ⟨Nat.zero_le _, Nat.zero_le _⟩ (st1 := []) (Nat.le_of_ble_eq_true rfl) dX3_readTell_231 (fun r2 w1 h => ?_)
    obtain ⟨ht, hf⟩ := h
    refine V_if_eq X (tgt := 241) dX3_readTell_234 (by decide) (fun c => ?_) (fun c => ?_)
    · have h := ht c
      refine V_sub X (ls1 := []) [] rfl ?_
      exact v_3_readTell_b241 X hr hk1 _ h
    · have h := hf c
      refine V_iconst X (v := (1 : Int32)) dX3_readTell_237 (by decide) ?_
      refine V_goto X (tgt := 242) dX3_readTell_238 (by decide) ?_
      exact V_zret_c X hr dX3_readTell_242 rfl h
set_option maxRecDepth 20000 in
theorem v_3_readTell_b27 (X : CXq p s m args meth c cX3_readTell 4 yX3_readTell.cls ad cy D (AW ad) s.heap) (hr : meth.sig.returnType = (some .boolean)) {k1 : Nat} (hk1 : isText k1) {Q : Int32 → Mem → Prop} : ∀ (w : Mem), wp_3_readTell_b27 k1 Q w → V p l e (RM 28) s m args below meth c 4 ad cy D (AW ad) s.heap 0 0 (MQ below (va_Qi Q (BC ad cy D wm wl0) (AW ad)) args s 0 0 (AW ad)) w wm wl0 27 [(0, .ref (ad 7))] [] := by
  intro w h
  unfold wp_3_readTell_b27 at h
  refine V_aload_n X (i := 0) 0 dX3_readTell_27 rfl rfl ?_
  refine V_iconst X (v := (1 : Int32)) dX3_readTell_28 (by decide) ?_
  refine K_3_fails X (Or.inl q_694) h ⟨Nat.le_of_ble_eq_true rfl, Nat.le_of_ble_eq_true rfl⟩ ⟨Nat.zero_le _, Nat.zero_le _⟩ (st1 := []) (Nat.le_of_ble_eq_true rfl) dX3_readTell_29 (fun r2 w1 h => ?_)
  exact V_zret_c X hr dX3_readTell_32 (bo_z h.1) h.2
set_option maxRecDepth 20000 in
theorem v_3_readTell {k1 : Nat} (X : CXq p s m args meth c cX3_readTell 4 yX3_readTell.cls ad cy D (AW ad) s.heap) (hr : meth.sig.returnType = (some .boolean)) (hk1 : isText k1) {w : Mem} {Q : Int32 → Mem → Prop} (h : wp_3_readTell k1 w Q) : V p l e (RM 28) s m args below meth c 4 ad cy D (AW ad) s.heap 0 0 (MQ below (va_Qi Q (BC ad cy D wm wl0) (AW ad)) args s 0 0 (AW ad)) w wm wl0 0 [(0, .ref (ad 7)), (1, .ref (ad k1))] [] := by
  unfold wp_3_readTell at h
  refine V_aload_n X (i := 0) 0 dX3_readTell_0 rfl rfl ?_
  refine G_3_15 X dX3_readTell_1 ?_
  refine G_3_45 X dX3_readTell_4 ?_
  refine V_aload_n X (i := 0) 0 dX3_readTell_7 rfl rfl ?_
  refine G_3_19 X dX3_readTell_8 ?_
  obtain ⟨g1, h⟩ := h
  refine V_iald_c X (rfl : SLq 4 = 401) (by decide) (rfl : SK 4 = 14) g1 dX3_readTell_11 ?_
  obtain ⟨x2, ex2⟩ : ∃ y : Int32, y = (w 4 (ix (w 7 3))) := ⟨_, rfl⟩
  have h := h x2 ex2
  refine V_istore_n X dX3_readTell_12 rfl (by decide) ex2 (ls1 := [(2, .int x2), (0, .ref (ad 7)), (1, .ref (ad k1))]) rfl ?_
  refine V_iload_n X (i := 2) 0 dX3_readTell_13 rfl rfl ?_
  refine V_sipush X (v := (128 : Int32)) dX3_readTell_14 (by decide) ?_
  obtain ⟨ht, hf⟩ := h
  refine V_icmp_lt X (tgt := 27) dX3_readTell_17 (by decide) (fun c => ?_) (fun c => ?_)
  · have h := ht c
    refine V_sub X (ls1 := [(0, .ref (ad 7))]) [1] rfl ?_
    exact v_3_readTell_b27 X hr hk1 _ h
  · have h := hf c
    refine V_iload_n X (i := 2) 0 dX3_readTell_20 rfl rfl ?_
    refine V_sipush X (v := (142 : Int32)) dX3_readTell_21 (by decide) ?_
    obtain ⟨ht, hf⟩ := h
    refine V_icmp_le X (tgt := 33) dX3_readTell_24 (by decide) (fun c => ?_) (fun c => ?_)
    · have h := ht c
      refine V_aload_n X (i := 1) 2 dX3_readTell_33 rfl rfl ?_
      refine G_3_59 X (hk1).1 (hk1).2.1 (Text_r6 hk1) dX3_readTell_34 ?_
      refine V_iload_n X (i := 2) 0 dX3_readTell_37 rfl rfl ?_
      refine K_4_isFull X (Or.inl q_698) (Text_s6 hk1) h ⟨Nat.le_of_ble_eq_true rfl, Nat.le_of_ble_eq_true rfl⟩ ⟨Nat.zero_le _, Nat.zero_le _⟩ (st1 := []) (Nat.le_of_ble_eq_true rfl) dX3_readTell_38 (fun r4 w3 h => ?_)
      obtain ⟨ht, hf⟩ := h
      refine V_if_eq X (tgt := 50) dX3_readTell_41 (by decide) (fun c => ?_) (fun c => ?_)
      · have h := ht c
        refine V_aload_n X (i := 0) 1 dX3_readTell_50 rfl rfl ?_
        refine V_iload_n X (i := 2) 0 dX3_readTell_51 rfl rfl ?_
        refine K_3_takes X (Or.inl q_702) h ⟨Nat.le_of_ble_eq_true rfl, Nat.le_of_ble_eq_true rfl⟩ ⟨Nat.zero_le _, Nat.zero_le _⟩ (st1 := []) (Nat.le_of_ble_eq_true rfl) dX3_readTell_52 (fun r6 w5 h => ?_)
        obtain ⟨ht, hf⟩ := h
        refine V_if_ne X (tgt := 60) dX3_readTell_55 (by decide) (fun c => ?_) (fun c => ?_)
        · have h := ht c
          refine V_iload_n X (i := 2) 0 dX3_readTell_60 rfl rfl ?_
          obtain ⟨ht, h⟩ := h
          by_cases c0 : x2 = (128 : Int32)
          · have h := ht c0
            refine V_tableIn X (tgt := 112) dX3_readTell_61 (by rw [c0]; decide) (by rw [c0]; decide) (off := 51) (by rw [c0]; decide) (by decide) ?_
            refine V_aload_n X (i := 0) 1 dX3_readTell_112 rfl rfl ?_
            refine V_aload_n X (i := 1) 2 dX3_readTell_113 rfl rfl ?_
            refine K_3_readHill X (Or.inl q_706) hk1 h ⟨Nat.le_of_ble_eq_true rfl, Nat.le_of_ble_eq_true rfl⟩ ⟨Nat.zero_le _, Nat.zero_le _⟩ (st1 := []) (Nat.le_of_ble_eq_true rfl) dX3_readTell_114 (fun r8 w7 h => ?_)
            refine V_istore_n X dX3_readTell_117 rfl (by decide) rfl (ls1 := [(3, .int r8), (2, .int x2), (0, .ref (ad 7)), (1, .ref (ad k1))]) rfl ?_
            refine V_goto X (tgt := 224) dX3_readTell_118 (by decide) ?_
            refine V_sub X (ls1 := [(0, .ref (ad 7)), (3, .int r8)]) [2, 0] rfl ?_
            exact v_3_readTell_b224 X hr hk1 _ _ h
          have h := h c0
          obtain ⟨ht, h⟩ := h
          by_cases c1 : x2 = (129 : Int32)
          · have h := ht c1
            refine V_tableIn X (tgt := 121) dX3_readTell_61 (by rw [c1]; decide) (by rw [c1]; decide) (off := 60) (by rw [c1]; decide) (by decide) ?_
            refine V_aload_n X (i := 0) 1 dX3_readTell_121 rfl rfl ?_
            refine V_aload_n X (i := 1) 2 dX3_readTell_122 rfl rfl ?_
            refine G_3_74 X (hk1).1 (hk1).2.1 (Text_r0 hk1) dX3_readTell_123 ?_
            refine K_3_readLaw X (Or.inl q_719) (Text_s0 hk1) h ⟨Nat.le_of_ble_eq_true rfl, Nat.le_of_ble_eq_true rfl⟩ ⟨Nat.zero_le _, Nat.zero_le _⟩ (st1 := []) (Nat.le_of_ble_eq_true rfl) dX3_readTell_126 (fun r10 w9 h => ?_)
            refine V_istore_n X dX3_readTell_129 rfl (by decide) rfl (ls1 := [(3, .int r10), (2, .int x2), (0, .ref (ad 7)), (1, .ref (ad k1))]) rfl ?_
            refine V_goto X (tgt := 224) dX3_readTell_130 (by decide) ?_
            refine V_sub X (ls1 := [(0, .ref (ad 7)), (3, .int r10)]) [2, 0] rfl ?_
            exact v_3_readTell_b224 X hr hk1 _ _ h
          have h := h c1
          obtain ⟨ht, h⟩ := h
          by_cases c2 : x2 = (130 : Int32)
          · have h := ht c2
            refine V_tableIn X (tgt := 133) dX3_readTell_61 (by rw [c2]; decide) (by rw [c2]; decide) (off := 72) (by rw [c2]; decide) (by decide) ?_
            refine V_aload_n X (i := 0) 1 dX3_readTell_133 rfl rfl ?_
            refine V_aload_n X (i := 1) 2 dX3_readTell_134 rfl rfl ?_
            refine G_3_82 X (hk1).1 (hk1).2.1 (Text_r1 hk1) dX3_readTell_135 ?_
            refine K_3_readLaw X (Or.inl q_719) (Text_s1 hk1) h ⟨Nat.le_of_ble_eq_true rfl, Nat.le_of_ble_eq_true rfl⟩ ⟨Nat.zero_le _, Nat.zero_le _⟩ (st1 := []) (Nat.le_of_ble_eq_true rfl) dX3_readTell_138 (fun r12 w11 h => ?_)
            refine V_istore_n X dX3_readTell_141 rfl (by decide) rfl (ls1 := [(3, .int r12), (2, .int x2), (0, .ref (ad 7)), (1, .ref (ad k1))]) rfl ?_
            refine V_goto X (tgt := 224) dX3_readTell_142 (by decide) ?_
            refine V_sub X (ls1 := [(0, .ref (ad 7)), (3, .int r12)]) [2, 0] rfl ?_
            exact v_3_readTell_b224 X hr hk1 _ _ h
          have h := h c2
          obtain ⟨ht, h⟩ := h
          by_cases c3 : x2 = (131 : Int32)
          · have h := ht c3
            refine V_tableIn X (tgt := 145) dX3_readTell_61 (by rw [c3]; decide) (by rw [c3]; decide) (off := 84) (by rw [c3]; decide) (by decide) ?_
            refine V_aload_n X (i := 0) 1 dX3_readTell_145 rfl rfl ?_
            refine V_aload_n X (i := 1) 2 dX3_readTell_146 rfl rfl ?_
            refine G_3_85 X (hk1).1 (hk1).2.1 (Text_r2 hk1) dX3_readTell_147 ?_
            refine K_3_readLaw X (Or.inl q_719) (Text_s2 hk1) h ⟨Nat.le_of_ble_eq_true rfl, Nat.le_of_ble_eq_true rfl⟩ ⟨Nat.zero_le _, Nat.zero_le _⟩ (st1 := []) (Nat.le_of_ble_eq_true rfl) dX3_readTell_150 (fun r14 w13 h => ?_)
            refine V_istore_n X dX3_readTell_153 rfl (by decide) rfl (ls1 := [(3, .int r14), (2, .int x2), (0, .ref (ad 7)), (1, .ref (ad k1))]) rfl ?_
            refine V_goto X (tgt := 224) dX3_readTell_154 (by decide) ?_
            refine V_sub X (ls1 := [(0, .ref (ad 7)), (3, .int r14)]) [2, 0] rfl ?_
            exact v_3_readTell_b224 X hr hk1 _ _ h
          have h := h c3
          obtain ⟨ht, h⟩ := h
          by_cases c4 : x2 = (132 : Int32)
          · have h := ht c4
            refine V_tableIn X (tgt := 157) dX3_readTell_61 (by rw [c4]; decide) (by rw [c4]; decide) (off := 96) (by rw [c4]; decide) (by decide) ?_
            refine V_aload_n X (i := 0) 1 dX3_readTell_157 rfl rfl ?_
            refine V_aload_n X (i := 1) 2 dX3_readTell_158 rfl rfl ?_
            refine G_3_88 X (hk1).1 (hk1).2.1 (Text_r3 hk1) dX3_readTell_159 ?_
            refine K_3_readLaw X (Or.inl q_719) (Text_s3 hk1) h ⟨Nat.le_of_ble_eq_true rfl, Nat.le_of_ble_eq_true rfl⟩ ⟨Nat.zero_le _, Nat.zero_le _⟩ (st1 := []) (Nat.le_of_ble_eq_true rfl) dX3_readTell_162 (fun r16 w15 h => ?_)
            refine V_istore_n X dX3_readTell_165 rfl (by decide) rfl (ls1 := [(3, .int r16), (2, .int x2), (0, .ref (ad 7)), (1, .ref (ad k1))]) rfl ?_
            refine V_goto X (tgt := 224) dX3_readTell_166 (by decide) ?_
            refine V_sub X (ls1 := [(0, .ref (ad 7)), (3, .int r16)]) [2, 0] rfl ?_
            exact v_3_readTell_b224 X hr hk1 _ _ h
          have h := h c4
          obtain ⟨ht, h⟩ := h
          by_cases c5 : x2 = (133 : Int32)
          · have h := ht c5
            refine V_tableIn X (tgt := 169) dX3_readTell_61 (by rw [c5]; decide) (by rw [c5]; decide) (off := 108) (by rw [c5]; decide) (by decide) ?_
            refine V_aload_n X (i := 0) 1 dX3_readTell_169 rfl rfl ?_
            refine V_aload_n X (i := 1) 2 dX3_readTell_170 rfl rfl ?_
            refine G_3_91 X (hk1).1 (hk1).2.1 (Text_r4 hk1) dX3_readTell_171 ?_
            refine K_3_readLaw X (Or.inl q_719) (Text_s4 hk1) h ⟨Nat.le_of_ble_eq_true rfl, Nat.le_of_ble_eq_true rfl⟩ ⟨Nat.zero_le _, Nat.zero_le _⟩ (st1 := []) (Nat.le_of_ble_eq_true rfl) dX3_readTell_174 (fun r18 w17 h => ?_)
            refine V_istore_n X dX3_readTell_177 rfl (by decide) rfl (ls1 := [(3, .int r18), (2, .int x2), (0, .ref (ad 7)), (1, .ref (ad k1))]) rfl ?_
            refine V_goto X (tgt := 224) dX3_readTell_178 (by decide) ?_
            refine V_sub X (ls1 := [(0, .ref (ad 7)), (3, .int r18)]) [2, 0] rfl ?_
            exact v_3_readTell_b224 X hr hk1 _ _ h
          have h := h c5
          obtain ⟨ht, h⟩ := h
          by_cases c6 : x2 = (134 : Int32)
          · have h := ht c6
            refine V_tableIn X (tgt := 181) dX3_readTell_61 (by rw [c6]; decide) (by rw [c6]; decide) (off := 120) (by rw [c6]; decide) (by decide) ?_
            refine V_aload_n X (i := 0) 1 dX3_readTell_181 rfl rfl ?_
            refine V_aload_n X (i := 1) 2 dX3_readTell_182 rfl rfl ?_
            refine G_3_94 X (hk1).1 (hk1).2.1 (Text_r5 hk1) dX3_readTell_183 ?_
            refine K_3_readParts X (Or.inl q_738) (Text_s5 hk1) h ⟨Nat.le_of_ble_eq_true rfl, Nat.le_of_ble_eq_true rfl⟩ ⟨Nat.zero_le _, Nat.zero_le _⟩ (st1 := []) (Nat.le_of_ble_eq_true rfl) dX3_readTell_186 (fun r20 w19 h => ?_)
            refine V_istore_n X dX3_readTell_189 rfl (by decide) rfl (ls1 := [(3, .int r20), (2, .int x2), (0, .ref (ad 7)), (1, .ref (ad k1))]) rfl ?_
            refine V_goto X (tgt := 224) dX3_readTell_190 (by decide) ?_
            refine V_sub X (ls1 := [(0, .ref (ad 7)), (3, .int r20)]) [2, 0] rfl ?_
            exact v_3_readTell_b224 X hr hk1 _ _ h
          have h := h c6
          obtain ⟨ht, h⟩ := h
          by_cases c7 : x2 = (135 : Int32)
          · have h := ht c7
            refine V_tableIn X (tgt := 193) dX3_readTell_61 (by rw [c7]; decide) (by rw [c7]; decide) (off := 132) (by rw [c7]; decide) (by decide) ?_
            refine V_aload_n X (i := 0) 1 dX3_readTell_193 rfl rfl ?_
            refine V_aload_n X (i := 1) 2 dX3_readTell_194 rfl rfl ?_
            refine G_3_59 X (hk1).1 (hk1).2.1 (Text_r6 hk1) dX3_readTell_195 ?_
            refine K_3_readMan X (Or.inl q_742) (Text_s6 hk1) h ⟨Nat.le_of_ble_eq_true rfl, Nat.le_of_ble_eq_true rfl⟩ ⟨Nat.zero_le _, Nat.zero_le _⟩ (st1 := []) (Nat.le_of_ble_eq_true rfl) dX3_readTell_198 (fun r22 w21 h => ?_)
            refine V_istore_n X dX3_readTell_201 rfl (by decide) rfl (ls1 := [(3, .int r22), (2, .int x2), (0, .ref (ad 7)), (1, .ref (ad k1))]) rfl ?_
            refine V_goto X (tgt := 224) dX3_readTell_202 (by decide) ?_
            refine V_sub X (ls1 := [(0, .ref (ad 7)), (3, .int r22)]) [2, 0] rfl ?_
            exact v_3_readTell_b224 X hr hk1 _ _ h
          have h := h c7
          obtain ⟨ht, h⟩ := h
          by_cases c8 : x2 = (136 : Int32)
          · have h := ht c8
            refine V_tableIn X (tgt := 205) dX3_readTell_61 (by rw [c8]; decide) (by rw [c8]; decide) (off := 144) (by rw [c8]; decide) (by decide) ?_
            refine V_aload_n X (i := 0) 1 dX3_readTell_205 rfl rfl ?_
            refine V_aload_n X (i := 1) 2 dX3_readTell_206 rfl rfl ?_
            refine G_3_59 X (hk1).1 (hk1).2.1 (Text_r6 hk1) dX3_readTell_207 ?_
            refine K_3_readJudge X (Or.inl q_758) (Text_s6 hk1) h ⟨Nat.le_of_ble_eq_true rfl, Nat.le_of_ble_eq_true rfl⟩ ⟨Nat.zero_le _, Nat.zero_le _⟩ (st1 := []) (Nat.le_of_ble_eq_true rfl) dX3_readTell_210 (fun r24 w23 h => ?_)
            refine V_istore_n X dX3_readTell_213 rfl (by decide) rfl (ls1 := [(3, .int r24), (2, .int x2), (0, .ref (ad 7)), (1, .ref (ad k1))]) rfl ?_
            refine V_goto X (tgt := 224) dX3_readTell_214 (by decide) ?_
            refine V_sub X (ls1 := [(0, .ref (ad 7)), (3, .int r24)]) [2, 0] rfl ?_
            exact v_3_readTell_b224 X hr hk1 _ _ h
          have h := h c8
          have z0 := tne c0 (z := 128) (by decide)
          have z1 := tne c1 (z := 129) (by decide)
          have z2 := tne c2 (z := 130) (by decide)
          have z3 := tne c3 (z := 131) (by decide)
          have z4 := tne c4 (z := 132) (by decide)
          have z5 := tne c5 (z := 133) (by decide)
          have z6 := tne c6 (z := 134) (by decide)
          have z7 := tne c7 (z := 135) (by decide)
          have z8 := tne c8 (z := 136) (by decide)
          refine V_tableOut X (tgt := 217) dX3_readTell_61 (by omega) (by decide) ?_
          refine V_aload_n X (i := 0) 1 dX3_readTell_217 rfl rfl ?_
          refine V_iload_n X (i := 2) 0 dX3_readTell_218 rfl rfl ?_
          refine V_aload_n X (i := 1) 2 dX3_readTell_219 rfl rfl ?_
          refine K_3_readNumbers X (Or.inl q_766) hk1 h ⟨Nat.le_of_ble_eq_true rfl, Nat.le_of_ble_eq_true rfl⟩ ⟨Nat.zero_le _, Nat.zero_le _⟩ (st1 := []) (Nat.le_of_ble_eq_true rfl) dX3_readTell_220 (fun r26 w25 h => ?_)
          refine V_istore_n X dX3_readTell_223 rfl (by decide) rfl (ls1 := [(3, .int r26), (2, .int x2), (0, .ref (ad 7)), (1, .ref (ad k1))]) rfl ?_
          refine V_sub X (ls1 := [(0, .ref (ad 7)), (3, .int r26)]) [2, 0] rfl ?_
          exact v_3_readTell_b224 X hr hk1 _ _ h
        · have h := hf c
          refine V_iconst X (v := (0 : Int32)) dX3_readTell_58 (by decide) ?_
          exact V_zret_c X hr dX3_readTell_59 rfl h
      · have h := hf c
        refine V_aload_n X (i := 0) 1 dX3_readTell_44 rfl rfl ?_
        refine V_iconst X (v := (2 : Int32)) dX3_readTell_45 (by decide) ?_
        refine K_3_fails X (Or.inl q_694) h ⟨Nat.le_of_ble_eq_true rfl, Nat.le_of_ble_eq_true rfl⟩ ⟨Nat.zero_le _, Nat.zero_le _⟩ (st1 := []) (Nat.le_of_ble_eq_true rfl) dX3_readTell_46 (fun r28 w27 h => ?_)
        exact V_zret_c X hr dX3_readTell_49 (bo_z h.1) h.2
    · have h := hf c
      refine V_sub X (ls1 := [(0, .ref (ad 7))]) [1] rfl ?_
      exact v_3_readTell_b27 X hr hk1 _ h
theorem c_3_readTell {k1 : Nat} (hinj : INJ ad) (hk1 : isText k1) {w : Mem} {Q : Int32 → Mem → Prop} (h : wp_3_readTell k1 w Q) : Met l yX3_readTell (TBq yX3_readTell cX3_readTell 4 (some .boolean)) (RM 28) (va_Pc [.ref (ad 7), .ref (ad k1)] (PB ad cy D (cmb w wm) wl0)) (va_Qi Q (BC ad cy D wm wl0) (AW ad)) 0 0 (AW ad) := M_enter (by decide) (Nat.le_of_ble_eq_true rfl) hinj (fun p e s m args below meth c X hr => v_3_readTell X hr hk1 h)
theorem mf_3_readTell : MFV yX3_readTell cX3_readTell 4 (some .boolean) yX3_readTell.cls 1 := ⟨q_693, q_692, qs_6, q_4, by decide⟩
theorem K_3_readTell {own : String} {idx : Nat} {k1 : Nat} (X : CXq p s m args meth c cc nL own ad cy D A H0) (hL : LK own idx yX3_readTell) (hk1 : isText k1) {w : Mem} {Q : Int32 → Mem → Prop} (h : wp_3_readTell k1 w Q) (hR : (RM 28).frames + 1 ≤ R.frames ∧ 8 + (4 + 11) + (RM 28).locals ≤ R.locals) (hce : ce ≤ R.cells ∧ sl ≤ R.slots) (hcat : (st1.map fun v => v.category).sum ≤ 8) (hd : decode cc pc = .ok (.invokevirtual idx, 3)) (kk : ∀ (r : Int32) (u : Mem), Q r u → V p l e R s m args below meth c nL ad cy D A H0 ce sl Qs u wm wl0 (pc + 3) ls (.int r :: st1)) : V p l e R s m args below meth c nL ad cy D A H0 ce sl Qs w wm wl0 pc ls (.ref (ad k1) :: .ref (ad 7) :: st1) := V_callVI_c X mf_3_readTell hL (rfl : vwCl[3]? = some (RX3, TX3, 9)) (by decide) (rfl : SK 7 = 3) (Nat.lt_of_lt_of_le (by decide : 7 < 150) (CX_nn X)) (c_3_readTell X.2.2.2.2.2.2.2.1 hk1 h) (As := [.ref (ad k1)]) rfl ⟨rfl, rfl⟩ hR hce st1 rfl hcat hd kk
end
