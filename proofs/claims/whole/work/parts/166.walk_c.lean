-- printed by wip/whole/gen6.py out of the decode rows and the tables
section
variable {p : Program} {l : Launch} {e : Env} {R : Room} {s : State} {m : MethodId} {args : Array Value} {below : List Frame} {meth : Method} {c : Code} {cc : ByteArray} {nL : Nat} {ad : Nat → Nat} {cy : Nat → ClassId} {D : va_G} {A : Nat → Prop} {H0 : Heap} {ce sl : Nat} {Qs : State → Prop} {wc wm : Mem} {wl0 : MemL} {pc : Nat} {ls : List (Nat × Value)} {st1 : List Value}
set_option maxRecDepth 20000 in
theorem v_11_points {a1 : Int32} (X : CXq p s m args meth c cX11_points 2 yX11_points.cls ad cy D (AW ad) s.heap) (hr : meth.sig.returnType = (some .int)) {w : Mem} {Q : Int32 → Mem → Prop} (h : wp_11_points a1 w Q) : V p l e (RM 2) s m args below meth c 2 ad cy D (AW ad) s.heap 0 0 (MQ below (va_Qi Q (BC ad cy D wm wl0) (AW ad)) args s 0 0 (AW ad)) w wm wl0 0 [(0, .ref (ad 0)), (1, .int a1)] [] := by
  unfold wp_11_points at h
  refine V_aload_n X (i := 0) 0 dX11_points_0 rfl rfl ?_
  refine V_iload_n X (i := 1) 1 dX11_points_1 rfl rfl ?_
  refine K_11_isMan X (Or.inl q_855) h ⟨Nat.le_of_ble_eq_true rfl, Nat.le_of_ble_eq_true rfl⟩ ⟨Nat.zero_le _, Nat.zero_le _⟩ (st1 := []) (Nat.le_of_ble_eq_true rfl) dX11_points_2 (fun r2 w1 h => ?_)
  obtain ⟨ht, hf⟩ := h
  refine V_if_eq X (tgt := 20) dX11_points_5 (by decide) (fun c => ?_) (fun c => ?_)
  · have h := ht c
    refine V_iconst X (v := (-1 : Int32)) dX11_points_20 (by decide) ?_
    exact V_iret_c X hr dX11_points_21 h
  · have h := hf c
    refine V_aload_n X (i := 0) 0 dX11_points_8 rfl rfl ?_
    refine G_11_56 X dX11_points_9 ?_
    refine G_11_170 X (inst_Play_89).1 (inst_Play_89).2.1 (Play_r2 inst_Play_89) dX11_points_12 ?_
    refine V_iload_n X (i := 1) 1 dX11_points_15 rfl rfl ?_
    obtain ⟨g3, h⟩ := h
    refine V_iald_c X (rfl : SLq 91 = 8) (by decide) (rfl : SK 91 = 14) g3 dX11_points_16 ?_
    refine V_goto X (tgt := 21) dX11_points_17 (by decide) ?_
    exact V_iret_c X hr dX11_points_21 h
theorem c_11_points {a1 : Int32} (hinj : INJ ad) {w : Mem} {Q : Int32 → Mem → Prop} (h : wp_11_points a1 w Q) : Met l yX11_points (TBq yX11_points cX11_points 2 (some .int)) (RM 2) (va_Pc [.ref (ad 0), .int a1] (PB ad cy D (cmb w wm) wl0)) (va_Qi Q (BC ad cy D wm wl0) (AW ad)) 0 0 (AW ad) := M_enter (by decide) (Nat.le_of_ble_eq_true rfl) hinj (fun p e s m args below meth c X hr => v_11_points X hr h)
theorem mf_11_points : MFV yX11_points cX11_points 2 (some .int) yX11_points.cls 1 := ⟨q_854, q_852, q_853, q_1, by decide⟩
theorem K_11_points {own : String} {idx : Nat} {a1 : Int32} (X : CXq p s m args meth c cc nL own ad cy D A H0) (hL : LK own idx yX11_points) {w : Mem} {Q : Int32 → Mem → Prop} (h : wp_11_points a1 w Q) (hR : (RM 2).frames + 1 ≤ R.frames ∧ 8 + (2 + 11) + (RM 2).locals ≤ R.locals) (hce : ce ≤ R.cells ∧ sl ≤ R.slots) (hcat : (st1.map fun v => v.category).sum ≤ 8) (hd : decode cc pc = .ok (.invokevirtual idx, 3)) (kk : ∀ (r : Int32) (u : Mem), Q r u → V p l e R s m args below meth c nL ad cy D A H0 ce sl Qs u wm wl0 (pc + 3) ls (.int r :: st1)) : V p l e R s m args below meth c nL ad cy D A H0 ce sl Qs w wm wl0 pc ls (.int a1 :: .ref (ad 0) :: st1) := V_callVI_c X mf_11_points hL (rfl : vwCl[11]? = some (RX11, TX11, 13)) (by decide) (rfl : SK 0 = 11) (Nat.lt_of_lt_of_le (by decide : 0 < 150) (CX_nn X)) (c_11_points X.2.2.2.2.2.2.2.1 h) (As := [.int a1]) rfl ⟨rfl, rfl⟩ hR hce st1 rfl hcat hd kk
set_option maxRecDepth 20000 in
theorem v_11_rank {a1 : Int32} (X : CXq p s m args meth c cX11_rank 2 yX11_rank.cls ad cy D (AW ad) s.heap) (hr : meth.sig.returnType = (some .int)) {w : Mem} {Q : Int32 → Mem → Prop} (h : wp_11_rank a1 w Q) : V p l e (RM 2) s m args below meth c 2 ad cy D (AW ad) s.heap 0 0 (MQ below (va_Qi Q (BC ad cy D wm wl0) (AW ad)) args s 0 0 (AW ad)) w wm wl0 0 [(0, .ref (ad 0)), (1, .int a1)] [] := by
  unfold wp_11_rank at h
  refine V_aload_n X (i := 0) 0 dX11_rank_0 rfl rfl ?_
  refine V_iload_n X (i := 1) 1 dX11_rank_1 rfl rfl ?_
  refine K_11_isMan X (Or.inl q_855) h ⟨Nat.le_of_ble_eq_true rfl, Nat.le_of_ble_eq_true rfl⟩ ⟨Nat.zero_le _, Nat.zero_le _⟩ (st1 := []) (Nat.le_of_ble_eq_true rfl) dX11_rank_2 (fun r2 w1 h => ?_)
  obtain ⟨ht, hf⟩ := h
  refine V_if_eq X (tgt := 19) dX11_rank_5 (by decide) (fun c => ?_) (fun c => ?_)
  · have h := ht c
    refine V_iconst X (v := (-1 : Int32)) dX11_rank_19 (by decide) ?_
    exact V_iret_c X hr dX11_rank_20 h
  · have h := hf c
    refine V_aload_n X (i := 0) 0 dX11_rank_8 rfl rfl ?_
    refine G_11_56 X dX11_rank_9 ?_
    refine V_iload_n X (i := 1) 1 dX11_rank_12 rfl rfl ?_
    refine K_5_rankOf X (Or.inl q_863) inst_Play_89 h ⟨Nat.le_of_ble_eq_true rfl, Nat.le_of_ble_eq_true rfl⟩ ⟨Nat.zero_le _, Nat.zero_le _⟩ (st1 := []) (Nat.le_of_ble_eq_true rfl) dX11_rank_13 (fun r4 w3 h => ?_)
    refine V_goto X (tgt := 20) dX11_rank_16 (by decide) ?_
    exact V_iret_c X hr dX11_rank_20 h
theorem c_11_rank {a1 : Int32} (hinj : INJ ad) {w : Mem} {Q : Int32 → Mem → Prop} (h : wp_11_rank a1 w Q) : Met l yX11_rank (TBq yX11_rank cX11_rank 2 (some .int)) (RM 2) (va_Pc [.ref (ad 0), .int a1] (PB ad cy D (cmb w wm) wl0)) (va_Qi Q (BC ad cy D wm wl0) (AW ad)) 0 0 (AW ad) := M_enter (by decide) (Nat.le_of_ble_eq_true rfl) hinj (fun p e s m args below meth c X hr => v_11_rank X hr h)
theorem mf_11_rank : MFV yX11_rank cX11_rank 2 (some .int) yX11_rank.cls 1 := ⟨q_862, q_860, q_861, q_1, by decide⟩
theorem K_11_rank {own : String} {idx : Nat} {a1 : Int32} (X : CXq p s m args meth c cc nL own ad cy D A H0) (hL : LK own idx yX11_rank) {w : Mem} {Q : Int32 → Mem → Prop} (h : wp_11_rank a1 w Q) (hR : (RM 2).frames + 1 ≤ R.frames ∧ 8 + (2 + 11) + (RM 2).locals ≤ R.locals) (hce : ce ≤ R.cells ∧ sl ≤ R.slots) (hcat : (st1.map fun v => v.category).sum ≤ 8) (hd : decode cc pc = .ok (.invokevirtual idx, 3)) (kk : ∀ (r : Int32) (u : Mem), Q r u → V p l e R s m args below meth c nL ad cy D A H0 ce sl Qs u wm wl0 (pc + 3) ls (.int r :: st1)) : V p l e R s m args below meth c nL ad cy D A H0 ce sl Qs w wm wl0 pc ls (.int a1 :: .ref (ad 0) :: st1) := V_callVI_c X mf_11_rank hL (rfl : vwCl[11]? = some (RX11, TX11, 13)) (by decide) (rfl : SK 0 = 11) (Nat.lt_of_lt_of_le (by decide : 0 < 150) (CX_nn X)) (c_11_rank X.2.2.2.2.2.2.2.1 h) (As := [.int a1]) rfl ⟨rfl, rfl⟩ hR hce st1 rfl hcat hd kk
set_option maxRecDepth 20000 in
theorem v_11_ranked {a1 : Int32} (X : CXq p s m args meth c cX11_ranked 2 yX11_ranked.cls ad cy D (AW ad) s.heap) (hr : meth.sig.returnType = (some .int)) {w : Mem} {Q : Int32 → Mem → Prop} (h : wp_11_ranked a1 w Q) : V p l e (RM 3) s m args below meth c 2 ad cy D (AW ad) s.heap 0 0 (MQ below (va_Qi Q (BC ad cy D wm wl0) (AW ad)) args s 0 0 (AW ad)) w wm wl0 0 [(0, .ref (ad 0)), (1, .int a1)] [] := by
  unfold wp_11_ranked at h
  refine V_aload_n X (i := 0) 0 dX11_ranked_0 rfl rfl ?_
  refine V_iload_n X (i := 1) 1 dX11_ranked_1 rfl rfl ?_
  refine K_11_isMan X (Or.inl q_855) h ⟨Nat.le_of_ble_eq_true rfl, Nat.le_of_ble_eq_true rfl⟩ ⟨Nat.zero_le _, Nat.zero_le _⟩ (st1 := []) (Nat.le_of_ble_eq_true rfl) dX11_ranked_2 (fun r2 w1 h => ?_)
  obtain ⟨ht, hf⟩ := h
  refine V_if_eq X (tgt := 19) dX11_ranked_5 (by decide) (fun c => ?_) (fun c => ?_)
  · have h := ht c
    refine V_iconst X (v := (-1 : Int32)) dX11_ranked_19 (by decide) ?_
    exact V_iret_c X hr dX11_ranked_20 h
  · have h := hf c
    refine V_aload_n X (i := 0) 0 dX11_ranked_8 rfl rfl ?_
    refine G_11_56 X dX11_ranked_9 ?_
    refine V_iload_n X (i := 1) 1 dX11_ranked_12 rfl rfl ?_
    refine K_5_manOfRank X (Or.inl q_874) inst_Play_89 h ⟨Nat.le_of_ble_eq_true rfl, Nat.le_of_ble_eq_true rfl⟩ ⟨Nat.zero_le _, Nat.zero_le _⟩ (st1 := []) (Nat.le_of_ble_eq_true rfl) dX11_ranked_13 (fun r4 w3 h => ?_)
    refine V_goto X (tgt := 20) dX11_ranked_16 (by decide) ?_
    exact V_iret_c X hr dX11_ranked_20 h
theorem c_11_ranked {a1 : Int32} (hinj : INJ ad) {w : Mem} {Q : Int32 → Mem → Prop} (h : wp_11_ranked a1 w Q) : Met l yX11_ranked (TBq yX11_ranked cX11_ranked 2 (some .int)) (RM 3) (va_Pc [.ref (ad 0), .int a1] (PB ad cy D (cmb w wm) wl0)) (va_Qi Q (BC ad cy D wm wl0) (AW ad)) 0 0 (AW ad) := M_enter (by decide) (Nat.le_of_ble_eq_true rfl) hinj (fun p e s m args below meth c X hr => v_11_ranked X hr h)
theorem mf_11_ranked : MFV yX11_ranked cX11_ranked 2 (some .int) yX11_ranked.cls 1 := ⟨q_873, q_871, q_872, q_1, by decide⟩
theorem K_11_ranked {own : String} {idx : Nat} {a1 : Int32} (X : CXq p s m args meth c cc nL own ad cy D A H0) (hL : LK own idx yX11_ranked) {w : Mem} {Q : Int32 → Mem → Prop} (h : wp_11_ranked a1 w Q) (hR : (RM 3).frames + 1 ≤ R.frames ∧ 8 + (2 + 11) + (RM 3).locals ≤ R.locals) (hce : ce ≤ R.cells ∧ sl ≤ R.slots) (hcat : (st1.map fun v => v.category).sum ≤ 8) (hd : decode cc pc = .ok (.invokevirtual idx, 3)) (kk : ∀ (r : Int32) (u : Mem), Q r u → V p l e R s m args below meth c nL ad cy D A H0 ce sl Qs u wm wl0 (pc + 3) ls (.int r :: st1)) : V p l e R s m args below meth c nL ad cy D A H0 ce sl Qs w wm wl0 pc ls (.int a1 :: .ref (ad 0) :: st1) := V_callVI_c X mf_11_ranked hL (rfl : vwCl[11]? = some (RX11, TX11, 13)) (by decide) (rfl : SK 0 = 11) (Nat.lt_of_lt_of_le (by decide : 0 < 150) (CX_nn X)) (c_11_ranked X.2.2.2.2.2.2.2.1 h) (As := [.int a1]) rfl ⟨rfl, rfl⟩ hR hce st1 rfl hcat hd kk
set_option maxRecDepth 20000 in
theorem v_11_waitByGoes_b2 (X : CXq p s m args meth c cX11_waitByGoes 4 yX11_waitByGoes.cls ad cy D (AW ad) s.heap) (hr : meth.sig.returnType = (some .int)) {Q : Int32 → Mem → Prop} : ∀ (n : Nat) (l1 : Int32) (l2 : Int32) (l3 : Int32) (w : Mem), wp_11_waitByGoes_b2 Q n l1 l2 l3 w → V p l e (RM 5) s m args below meth c 4 ad cy D (AW ad) s.heap 0 0 (MQ below (va_Qi Q (BC ad cy D wm wl0) (AW ad)) args s 0 0 (AW ad)) w wm wl0 2 [(0, .ref (ad 0)), (1, .int l1), (2, .int l2), (3, .int l3)] [] := by
  intro n
  induction n with
  | zero =>
    intro l1 l2 l3 w h
    exact h.elim
  | succ n ih =>
    intro l1 l2 l3 w h
    unfold wp_11_waitByGoes_b2 at h
    refine V_iload_n X (i := 3) 3 dX11_waitByGoes_2 rfl rfl ?_
    refine V_aload_n X (i := 0) 0 dX11_waitByGoes_3 rfl rfl ?_
    refine G_11_41 X dX11_waitByGoes_4 ?_
    refine G_11_188 X (inst_Text_48).1 (inst_Text_48).2.1 (Text_r12 inst_Text_48) dX11_waitByGoes_7 ?_
    obtain ⟨ht, hf⟩ := h
    refine V_icmp_ge X (tgt := 43) dX11_waitByGoes_10 (by decide) (fun c => ?_) (fun c => ?_)
    · have h := ht c
      refine V_aload_n X (i := 0) 0 dX11_waitByGoes_43 rfl rfl ?_
      refine G_11_41 X dX11_waitByGoes_44 ?_
      refine G_11_188 X (inst_Text_48).1 (inst_Text_48).2.1 (Text_r12 inst_Text_48) dX11_waitByGoes_47 ?_
      exact V_iret_c X hr dX11_waitByGoes_50 h
    · have h := hf c
      refine V_aload_n X (i := 0) 0 dX11_waitByGoes_13 rfl rfl ?_
      refine G_11_49 X dX11_waitByGoes_14 ?_
      refine V_iload_n X (i := 2) 2 dX11_waitByGoes_17 rfl rfl ?_
      refine V_iload_n X (i := 3) 3 dX11_waitByGoes_18 rfl rfl ?_
      refine V_iadd X dX11_waitByGoes_19 ?_
      refine K_0_blow X (Or.inl q_783) h ⟨Nat.le_of_ble_eq_true rfl, Nat.le_of_ble_eq_true rfl⟩ ⟨Nat.zero_le _, Nat.zero_le _⟩ (st1 := []) (Nat.le_of_ble_eq_true rfl) dX11_waitByGoes_20 (fun w1 h => ?_)
      refine V_aload_n X (i := 0) 0 dX11_waitByGoes_23 rfl rfl ?_
      refine G_11_49 X dX11_waitByGoes_24 ?_
      refine V_iload_n X (i := 1) 1 dX11_waitByGoes_27 rfl rfl ?_
      refine V_iload_n X (i := 3) 3 dX11_waitByGoes_28 rfl rfl ?_
      refine K_0_goes X (Or.inl q_903) h ⟨Nat.le_of_ble_eq_true rfl, Nat.le_of_ble_eq_true rfl⟩ ⟨Nat.zero_le _, Nat.zero_le _⟩ (st1 := []) (Nat.le_of_ble_eq_true rfl) dX11_waitByGoes_29 (fun r3 w2 h => ?_)
      obtain ⟨ht, hf⟩ := h
      refine V_if_eq X (tgt := 37) dX11_waitByGoes_32 (by decide) (fun c => ?_) (fun c => ?_)
      · have h := ht c
        obtain ⟨x4, ex4⟩ : ∃ y : Int32, y = l3 + (1 : Int32) := ⟨_, rfl⟩
        have h := h x4 ex4
        refine V_iinc X 3 dX11_waitByGoes_37 rfl (by decide) (by rw [ex4]; rfl) (ls1 := [(3, .int x4), (0, .ref (ad 0)), (1, .int l1), (2, .int l2)]) rfl ?_
        refine V_goto X (tgt := 2) dX11_waitByGoes_40 (by decide) ?_
        refine V_sub X (ls1 := [(0, .ref (ad 0)), (1, .int l1), (2, .int l2), (3, .int x4)]) [1, 2, 3, 0] rfl ?_
        exact ih _ _ _ _ h
      · have h := hf c
        refine V_iload_n X (i := 3) 3 dX11_waitByGoes_35 rfl rfl ?_
        exact V_iret_c X hr dX11_waitByGoes_36 h
set_option maxRecDepth 20000 in
theorem v_11_waitByGoes {a1 : Int32} {a2 : Int32} (X : CXq p s m args meth c cX11_waitByGoes 4 yX11_waitByGoes.cls ad cy D (AW ad) s.heap) (hr : meth.sig.returnType = (some .int)) {w : Mem} {Q : Int32 → Mem → Prop} (h : wp_11_waitByGoes a1 a2 w Q) : V p l e (RM 5) s m args below meth c 4 ad cy D (AW ad) s.heap 0 0 (MQ below (va_Qi Q (BC ad cy D wm wl0) (AW ad)) args s 0 0 (AW ad)) w wm wl0 0 [(0, .ref (ad 0)), (1, .int a1), (2, .int a2)] [] := by
  unfold wp_11_waitByGoes at h
  refine V_iconst X (v := (0 : Int32)) dX11_waitByGoes_0 (by decide) ?_
  refine V_istore_n X dX11_waitByGoes_1 rfl (by decide) rfl (ls1 := [(3, .int (0 : Int32)), (0, .ref (ad 0)), (1, .int a1), (2, .int a2)]) rfl ?_
  refine V_sub X (ls1 := [(0, .ref (ad 0)), (1, .int a1), (2, .int a2), (3, .int (0 : Int32))]) [1, 2, 3, 0] rfl ?_
  obtain ⟨nn, h⟩ := h
  exact v_11_waitByGoes_b2 X hr nn _ _ _ _ h
theorem c_11_waitByGoes {a1 : Int32} {a2 : Int32} (hinj : INJ ad) {w : Mem} {Q : Int32 → Mem → Prop} (h : wp_11_waitByGoes a1 a2 w Q) : Met l yX11_waitByGoes (TBq yX11_waitByGoes cX11_waitByGoes 4 (some .int)) (RM 5) (va_Pc [.ref (ad 0), .int a1, .int a2] (PB ad cy D (cmb w wm) wl0)) (va_Qi Q (BC ad cy D wm wl0) (AW ad)) 0 0 (AW ad) := M_enter (by decide) (Nat.le_of_ble_eq_true rfl) hinj (fun p e s m args below meth c X hr => v_11_waitByGoes X hr h)
theorem mf_11_waitByGoes : MFV yX11_waitByGoes cX11_waitByGoes 4 (some .int) yX11_waitByGoes.cls 2 := ⟨q_902, q_901, qs_27, q_1, by decide⟩
theorem K_11_waitByGoes {own : String} {idx : Nat} {a1 : Int32} {a2 : Int32} (X : CXq p s m args meth c cc nL own ad cy D A H0) (hL : LK own idx yX11_waitByGoes) {w : Mem} {Q : Int32 → Mem → Prop} (h : wp_11_waitByGoes a1 a2 w Q) (hR : (RM 5).frames + 1 ≤ R.frames ∧ 8 + (4 + 11) + (RM 5).locals ≤ R.locals) (hce : ce ≤ R.cells ∧ sl ≤ R.slots) (hcat : (st1.map fun v => v.category).sum ≤ 8) (hd : decode cc pc = .ok (.invokevirtual idx, 3)) (kk : ∀ (r : Int32) (u : Mem), Q r u → V p l e R s m args below meth c nL ad cy D A H0 ce sl Qs u wm wl0 (pc + 3) ls (.int r :: st1)) : V p l e R s m args below meth c nL ad cy D A H0 ce sl Qs w wm wl0 pc ls (.int a2 :: .int a1 :: .ref (ad 0) :: st1) := V_callVI_c X mf_11_waitByGoes hL (rfl : vwCl[11]? = some (RX11, TX11, 13)) (by decide) (rfl : SK 0 = 11) (Nat.lt_of_lt_of_le (by decide : 0 < 150) (CX_nn X)) (c_11_waitByGoes X.2.2.2.2.2.2.2.1 h) (As := [.int a1, .int a2]) rfl ⟨rfl, rfl⟩ hR hce st1 rfl hcat hd kk
set_option maxRecDepth 20000 in
theorem v_11_launch {k1 : Nat} {a2 : Int32} (X : CXq p s m args meth c cX11_launch 5 yX11_launch.cls ad cy D (AW ad) s.heap) (hr : meth.sig.returnType = none) (hk1 : isPlay k1) {w : Mem} {Q : Mem → Prop} (h : wp_11_launch k1 a2 w Q) : V p l e (RM 5) s m args below meth c 5 ad cy D (AW ad) s.heap 0 0 (MQ below (va_Qv Q (BC ad cy D wm wl0) (AW ad)) args s 0 0 (AW ad)) w wm wl0 0 [(0, .ref (ad 0)), (1, .ref (ad k1)), (2, .int a2)] [] := by
  unfold wp_11_launch at h
  refine V_aload_n X (i := 1) 1 dX11_launch_0 rfl rfl ?_
  refine K_5_nextMan X (Or.inl q_779) hk1 h ⟨Nat.le_of_ble_eq_true rfl, Nat.le_of_ble_eq_true rfl⟩ ⟨Nat.zero_le _, Nat.zero_le _⟩ (st1 := []) (Nat.le_of_ble_eq_true rfl) dX11_launch_1 (fun r2 w1 h => ?_)
  refine V_istore_n X dX11_launch_4 rfl (by decide) rfl (ls1 := [(3, .int r2), (0, .ref (ad 0)), (1, .ref (ad k1)), (2, .int a2)]) rfl ?_
  refine V_aload_n X (i := 0) 1 dX11_launch_5 rfl rfl ?_
  refine G_11_49 X dX11_launch_6 ?_
  refine V_iload_n X (i := 3) 0 dX11_launch_9 rfl rfl ?_
  refine V_iload_n X (i := 2) 3 dX11_launch_10 rfl rfl ?_
  refine K_0_slipOf X (Or.inl q_911) h ⟨Nat.le_of_ble_eq_true rfl, Nat.le_of_ble_eq_true rfl⟩ ⟨Nat.zero_le _, Nat.zero_le _⟩ (st1 := []) (Nat.le_of_ble_eq_true rfl) dX11_launch_11 (fun r4 w3 h => ?_)
  refine V_istore X dX11_launch_14 (by decide) rfl (ls1 := [(4, .int r4), (3, .int r2), (0, .ref (ad 0)), (1, .ref (ad k1)), (2, .int a2)]) rfl ?_
  refine V_aload_n X (i := 0) 2 dX11_launch_16 rfl rfl ?_
  refine G_11_49 X dX11_launch_17 ?_
  refine V_iload_n X (i := 2) 4 dX11_launch_20 rfl rfl ?_
  refine K_0_blow X (Or.inl q_783) h ⟨Nat.le_of_ble_eq_true rfl, Nat.le_of_ble_eq_true rfl⟩ ⟨Nat.zero_le _, Nat.zero_le _⟩ (st1 := []) (Nat.le_of_ble_eq_true rfl) dX11_launch_21 (fun w5 h => ?_)
  refine V_aload_n X (i := 0) 2 dX11_launch_24 rfl rfl ?_
  refine G_11_49 X dX11_launch_25 ?_
  refine V_iload_n X (i := 3) 1 dX11_launch_28 rfl rfl ?_
  refine V_iload X (i := 4) 0 dX11_launch_29 rfl ?_
  refine V_aload_n X (i := 1) 3 dX11_launch_31 rfl rfl ?_
  refine G_11_132 X (hk1).1 (hk1).2.1 (Play_r6 hk1) dX11_launch_32 ?_
  refine V_aload_n X (i := 1) 3 dX11_launch_35 rfl rfl ?_
  refine G_11_139 X (hk1).1 (hk1).2.1 (Play_r7 hk1) dX11_launch_36 ?_
  refine K_0_reachOf X (Or.inl q_916) h ⟨Nat.le_of_ble_eq_true rfl, Nat.le_of_ble_eq_true rfl⟩ ⟨Nat.zero_le _, Nat.zero_le _⟩ (st1 := []) (Nat.le_of_ble_eq_true rfl) dX11_launch_39 (fun r7 w6 h => ?_)
  refine V_pop X dX11_launch_42 rfl ?_
  refine V_aload_n X (i := 0) 2 dX11_launch_43 rfl rfl ?_
  refine G_11_49 X dX11_launch_44 ?_
  refine V_iload_n X (i := 3) 1 dX11_launch_47 rfl rfl ?_
  refine V_iload X (i := 4) 0 dX11_launch_48 rfl ?_
  refine V_aload_n X (i := 1) 3 dX11_launch_50 rfl rfl ?_
  refine G_11_132 X (hk1).1 (hk1).2.1 (Play_r6 hk1) dX11_launch_51 ?_
  refine K_0_judge X (Or.inl q_924) h ⟨Nat.le_of_ble_eq_true rfl, Nat.le_of_ble_eq_true rfl⟩ ⟨Nat.zero_le _, Nat.zero_le _⟩ (st1 := []) (Nat.le_of_ble_eq_true rfl) dX11_launch_54 (fun w8 h => ?_)
  refine V_aload_n X (i := 1) 3 dX11_launch_57 rfl rfl ?_
  refine V_iload_n X (i := 3) 1 dX11_launch_58 rfl rfl ?_
  refine V_iload X (i := 4) 0 dX11_launch_59 rfl ?_
  refine V_iload_n X (i := 2) 4 dX11_launch_61 rfl rfl ?_
  refine V_aload_n X (i := 0) 2 dX11_launch_62 rfl rfl ?_
  refine G_11_49 X dX11_launch_63 ?_
  refine K_5_enter X (Or.inl q_940) hk1 h ⟨Nat.le_of_ble_eq_true rfl, Nat.le_of_ble_eq_true rfl⟩ ⟨Nat.zero_le _, Nat.zero_le _⟩ (st1 := []) (Nat.le_of_ble_eq_true rfl) dX11_launch_66 (fun w9 h => ?_)
  exact V_vret_c X hr dX11_launch_69 h
theorem c_11_launch {k1 : Nat} {a2 : Int32} (hinj : INJ ad) (hk1 : isPlay k1) {w : Mem} {Q : Mem → Prop} (h : wp_11_launch k1 a2 w Q) : Met l yX11_launch (TBq yX11_launch cX11_launch 5 none) (RM 5) (va_Pc [.ref (ad 0), .ref (ad k1), .int a2] (PB ad cy D (cmb w wm) wl0)) (va_Qv Q (BC ad cy D wm wl0) (AW ad)) 0 0 (AW ad) := M_enter (by decide) (Nat.le_of_ble_eq_true rfl) hinj (fun p e s m args below meth c X hr => v_11_launch X hr hk1 h)
theorem mf_11_launch : MFV yX11_launch cX11_launch 5 none yX11_launch.cls 2 := ⟨q_910, q_909, qs_28, q_1, by decide⟩
theorem K_11_launch {own : String} {idx : Nat} {k1 : Nat} {a2 : Int32} (X : CXq p s m args meth c cc nL own ad cy D A H0) (hL : LK own idx yX11_launch) (hk1 : isPlay k1) {w : Mem} {Q : Mem → Prop} (h : wp_11_launch k1 a2 w Q) (hR : (RM 5).frames + 1 ≤ R.frames ∧ 8 + (5 + 11) + (RM 5).locals ≤ R.locals) (hce : ce ≤ R.cells ∧ sl ≤ R.slots) (hcat : (st1.map fun v => v.category).sum ≤ 8) (hd : decode cc pc = .ok (.invokevirtual idx, 3)) (kk : ∀ (u : Mem), Q u → V p l e R s m args below meth c nL ad cy D A H0 ce sl Qs u wm wl0 (pc + 3) ls st1) : V p l e R s m args below meth c nL ad cy D A H0 ce sl Qs w wm wl0 pc ls (.int a2 :: .ref (ad k1) :: .ref (ad 0) :: st1) := V_callVV_c X mf_11_launch hL (rfl : vwCl[11]? = some (RX11, TX11, 13)) (by decide) (rfl : SK 0 = 11) (Nat.lt_of_lt_of_le (by decide : 0 < 150) (CX_nn X)) (c_11_launch X.2.2.2.2.2.2.2.1 hk1 h) (As := [.ref (ad k1), .int a2]) rfl ⟨rfl, rfl⟩ hR hce st1 rfl hcat hd kk
set_option maxRecDepth 20000 in
theorem v_11_startByGoes_b5 (X : CXq p s m args meth c cX11_startByGoes 5 yX11_startByGoes.cls ad cy D (AW ad) s.heap) (hr : meth.sig.returnType = (some .int)) {k1 : Nat} (hk1 : isPlay k1) {Q : Int32 → Mem → Prop} : ∀ (n : Nat) (l2 : Int32) (l3 : Int32) (l4 : Int32) (w : Mem), wp_11_startByGoes_b5 k1 Q n l2 l3 l4 w → V p l e (RM 6) s m args below meth c 5 ad cy D (AW ad) s.heap 0 0 (MQ below (va_Qi Q (BC ad cy D wm wl0) (AW ad)) args s 0 0 (AW ad)) w wm wl0 5 [(0, .ref (ad 0)), (1, .ref (ad k1)), (2, .int l2), (3, .int l3), (4, .int l4)] [] := by
  intro n
  induction n with
  | zero =>
    intro l2 l3 l4 w h
    exact h.elim
  | succ n ih =>
    intro l2 l3 l4 w h
    unfold wp_11_startByGoes_b5 at h
    refine V_iload X (i := 4) 4 dX11_startByGoes_5 rfl ?_
    refine V_iload_n X (i := 2) 2 dX11_startByGoes_7 rfl rfl ?_
    obtain ⟨ht, hf⟩ := h
    refine V_icmp_ge X (tgt := 51) dX11_startByGoes_8 (by decide) (fun c => ?_) (fun c => ?_)
    · have h := ht c
      refine V_iload_n X (i := 3) 3 dX11_startByGoes_51 rfl rfl ?_
      exact V_iret_c X hr dX11_startByGoes_52 h
    · have h := hf c
      refine V_aload_n X (i := 1) 1 dX11_startByGoes_11 rfl rfl ?_
      refine K_5_nextMan X (Or.inl q_779) hk1 h ⟨Nat.le_of_ble_eq_true rfl, Nat.le_of_ble_eq_true rfl⟩ ⟨Nat.zero_le _, Nat.zero_le _⟩ (st1 := []) (Nat.le_of_ble_eq_true rfl) dX11_startByGoes_12 (fun r2 w1 h => ?_)
      refine V_bipush X (v := (-2 : Int32)) dX11_startByGoes_15 (by decide) ?_
      obtain ⟨ht, hf⟩ := h
      refine V_icmp_eq X (tgt := 51) dX11_startByGoes_17 (by decide) (fun c => ?_) (fun c => ?_)
      · have h := ht c
        refine V_iload_n X (i := 3) 3 dX11_startByGoes_51 rfl rfl ?_
        exact V_iret_c X hr dX11_startByGoes_52 h
      · have h := hf c
        refine V_aload_n X (i := 0) 0 dX11_startByGoes_20 rfl rfl ?_
        refine V_aload_n X (i := 1) 1 dX11_startByGoes_21 rfl rfl ?_
        refine V_aload_n X (i := 1) 1 dX11_startByGoes_22 rfl rfl ?_
        refine G_11_126 X (hk1).1 (hk1).2.1 (Play_r4 hk1) dX11_startByGoes_23 ?_
        refine V_aload_n X (i := 0) 0 dX11_startByGoes_26 rfl rfl ?_
        refine V_aload_n X (i := 1) 1 dX11_startByGoes_27 rfl rfl ?_
        refine K_5_nextMan X (Or.inl q_779) hk1 h ⟨Nat.le_of_ble_eq_true rfl, Nat.le_of_ble_eq_true rfl⟩ ⟨Nat.zero_le _, Nat.zero_le _⟩ (st1 := [.ref (ad 0), .int (w1 k1 4), .ref (ad k1), .ref (ad 0)]) (Nat.le_of_ble_eq_true rfl) dX11_startByGoes_28 (fun r4 w3 h => ?_)
        refine V_aload_n X (i := 1) 1 dX11_startByGoes_31 rfl rfl ?_
        refine G_11_126 X (hk1).1 (hk1).2.1 (Play_r4 hk1) dX11_startByGoes_32 ?_
        refine K_11_waitByGoes X (Or.inl q_899) h ⟨Nat.le_of_ble_eq_true rfl, Nat.le_of_ble_eq_true rfl⟩ ⟨Nat.zero_le _, Nat.zero_le _⟩ (st1 := [.int (w1 k1 4), .ref (ad k1), .ref (ad 0)]) (Nat.le_of_ble_eq_true rfl) dX11_startByGoes_35 (fun r6 w5 h => ?_)
        refine V_iadd X dX11_startByGoes_38 ?_
        refine K_11_launch X (Or.inl q_907) hk1 h ⟨Nat.le_of_ble_eq_true rfl, Nat.le_of_ble_eq_true rfl⟩ ⟨Nat.zero_le _, Nat.zero_le _⟩ (st1 := []) (Nat.le_of_ble_eq_true rfl) dX11_startByGoes_39 (fun w7 h => ?_)
        obtain ⟨x8, ex8⟩ : ∃ y : Int32, y = l3 + (1 : Int32) := ⟨_, rfl⟩
        have h := h x8 ex8
        refine V_iinc X 3 dX11_startByGoes_42 rfl (by decide) (by rw [ex8]; rfl) (ls1 := [(3, .int x8), (0, .ref (ad 0)), (1, .ref (ad k1)), (2, .int l2), (4, .int l4)]) rfl ?_
        obtain ⟨x9, ex9⟩ : ∃ y : Int32, y = l4 + (1 : Int32) := ⟨_, rfl⟩
        have h := h x9 ex9
        refine V_iinc X 4 dX11_startByGoes_45 rfl (by decide) (by rw [ex9]; rfl) (ls1 := [(4, .int x9), (3, .int x8), (0, .ref (ad 0)), (1, .ref (ad k1)), (2, .int l2)]) rfl ?_
        refine V_goto X (tgt := 5) dX11_startByGoes_48 (by decide) ?_
        refine V_sub X (ls1 := [(0, .ref (ad 0)), (1, .ref (ad k1)), (2, .int l2), (3, .int x8), (4, .int x9)]) [2, 3, 4, 1, 0] rfl ?_
        exact ih _ _ _ _ h
set_option maxRecDepth 20000 in
theorem v_11_startByGoes {k1 : Nat} {a2 : Int32} (X : CXq p s m args meth c cX11_startByGoes 5 yX11_startByGoes.cls ad cy D (AW ad) s.heap) (hr : meth.sig.returnType = (some .int)) (hk1 : isPlay k1) {w : Mem} {Q : Int32 → Mem → Prop} (h : wp_11_startByGoes k1 a2 w Q) : V p l e (RM 6) s m args below meth c 5 ad cy D (AW ad) s.heap 0 0 (MQ below (va_Qi Q (BC ad cy D wm wl0) (AW ad)) args s 0 0 (AW ad)) w wm wl0 0 [(0, .ref (ad 0)), (1, .ref (ad k1)), (2, .int a2)] [] := by
  unfold wp_11_startByGoes at h
  refine V_iconst X (v := (0 : Int32)) dX11_startByGoes_0 (by decide) ?_
  refine V_istore_n X dX11_startByGoes_1 rfl (by decide) rfl (ls1 := [(3, .int (0 : Int32)), (0, .ref (ad 0)), (1, .ref (ad k1)), (2, .int a2)]) rfl ?_
  refine V_iconst X (v := (0 : Int32)) dX11_startByGoes_2 (by decide) ?_
  refine V_istore X dX11_startByGoes_3 (by decide) rfl (ls1 := [(4, .int (0 : Int32)), (3, .int (0 : Int32)), (0, .ref (ad 0)), (1, .ref (ad k1)), (2, .int a2)]) rfl ?_
  refine V_sub X (ls1 := [(0, .ref (ad 0)), (1, .ref (ad k1)), (2, .int a2), (3, .int (0 : Int32)), (4, .int (0 : Int32))]) [2, 3, 4, 1, 0] rfl ?_
  obtain ⟨nn, h⟩ := h
  exact v_11_startByGoes_b5 X hr hk1 nn _ _ _ _ h
theorem c_11_startByGoes {k1 : Nat} {a2 : Int32} (hinj : INJ ad) (hk1 : isPlay k1) {w : Mem} {Q : Int32 → Mem → Prop} (h : wp_11_startByGoes k1 a2 w Q) : Met l yX11_startByGoes (TBq yX11_startByGoes cX11_startByGoes 5 (some .int)) (RM 6) (va_Pc [.ref (ad 0), .ref (ad k1), .int a2] (PB ad cy D (cmb w wm) wl0)) (va_Qi Q (BC ad cy D wm wl0) (AW ad)) 0 0 (AW ad) := M_enter (by decide) (Nat.le_of_ble_eq_true rfl) hinj (fun p e s m args below meth c X hr => v_11_startByGoes X hr hk1 h)
theorem mf_11_startByGoes : MFV yX11_startByGoes cX11_startByGoes 5 (some .int) yX11_startByGoes.cls 2 := ⟨q_898, q_897, qs_26, q_1, by decide⟩
theorem K_11_startByGoes {own : String} {idx : Nat} {k1 : Nat} {a2 : Int32} (X : CXq p s m args meth c cc nL own ad cy D A H0) (hL : LK own idx yX11_startByGoes) (hk1 : isPlay k1) {w : Mem} {Q : Int32 → Mem → Prop} (h : wp_11_startByGoes k1 a2 w Q) (hR : (RM 6).frames + 1 ≤ R.frames ∧ 8 + (5 + 11) + (RM 6).locals ≤ R.locals) (hce : ce ≤ R.cells ∧ sl ≤ R.slots) (hcat : (st1.map fun v => v.category).sum ≤ 8) (hd : decode cc pc = .ok (.invokevirtual idx, 3)) (kk : ∀ (r : Int32) (u : Mem), Q r u → V p l e R s m args below meth c nL ad cy D A H0 ce sl Qs u wm wl0 (pc + 3) ls (.int r :: st1)) : V p l e R s m args below meth c nL ad cy D A H0 ce sl Qs w wm wl0 pc ls (.int a2 :: .ref (ad k1) :: .ref (ad 0) :: st1) := V_callVI_c X mf_11_startByGoes hL (rfl : vwCl[11]? = some (RX11, TX11, 13)) (by decide) (rfl : SK 0 = 11) (Nat.lt_of_lt_of_le (by decide : 0 < 150) (CX_nn X)) (c_11_startByGoes X.2.2.2.2.2.2.2.1 hk1 h) (As := [.ref (ad k1), .int a2]) rfl ⟨rfl, rfl⟩ hR hce st1 rfl hcat hd kk
set_option maxRecDepth 20000 in
theorem v_11_start {a1 : Int32} (X : CXq p s m args meth c cX11_start 2 yX11_start.cls ad cy D (AW ad) s.heap) (hr : meth.sig.returnType = (some .int)) {w : Mem} {Q : Int32 → Mem → Prop} (h : wp_11_start a1 w Q) : V p l e (RM 7) s m args below meth c 2 ad cy D (AW ad) s.heap 0 0 (MQ below (va_Qi Q (BC ad cy D wm wl0) (AW ad)) args s 0 0 (AW ad)) w wm wl0 0 [(0, .ref (ad 0)), (1, .int a1)] [] := by
  unfold wp_11_start at h
  refine V_iload_n X (i := 1) 1 dX11_start_0 rfl rfl ?_
  refine V_iconst X (v := (1 : Int32)) dX11_start_1 (by decide) ?_
  refine V_bipush X (v := (16 : Int32)) dX11_start_2 (by decide) ?_
  refine K_11_within X (Or.inl q_532) h ⟨Nat.le_of_ble_eq_true rfl, Nat.le_of_ble_eq_true rfl⟩ ⟨Nat.zero_le _, Nat.zero_le _⟩ (st1 := []) (Nat.le_of_ble_eq_true rfl) dX11_start_4 (fun r2 w1 h => ?_)
  obtain ⟨ht, hf⟩ := h
  refine V_if_eq X (tgt := 22) dX11_start_7 (by decide) (fun c => ?_) (fun c => ?_)
  · have h := ht c
    refine V_iconst X (v := (-1 : Int32)) dX11_start_22 (by decide) ?_
    exact V_iret_c X hr dX11_start_23 h
  · have h := hf c
    refine V_aload_n X (i := 0) 0 dX11_start_10 rfl rfl ?_
    refine G_11_56 X dX11_start_11 ?_
    refine K_5_nextMan X (Or.inl q_779) inst_Play_89 h ⟨Nat.le_of_ble_eq_true rfl, Nat.le_of_ble_eq_true rfl⟩ ⟨Nat.zero_le _, Nat.zero_le _⟩ (st1 := []) (Nat.le_of_ble_eq_true rfl) dX11_start_14 (fun r4 w3 h => ?_)
    refine V_bipush X (v := (-2 : Int32)) dX11_start_17 (by decide) ?_
    obtain ⟨ht, hf⟩ := h
    refine V_icmp_ne X (tgt := 24) dX11_start_19 (by decide) (fun c => ?_) (fun c => ?_)
    · have h := ht c
      refine V_aload_n X (i := 0) 0 dX11_start_24 rfl rfl ?_
      refine G_11_66 X dX11_start_25 ?_
      refine V_aload_n X (i := 0) 0 dX11_start_28 rfl rfl ?_
      refine G_11_56 X dX11_start_29 ?_
      refine K_1_keep X (Or.inl q_883) inst_Play_89 h ⟨Nat.le_of_ble_eq_true rfl, Nat.le_of_ble_eq_true rfl⟩ ⟨Nat.zero_le _, Nat.zero_le _⟩ (st1 := []) (Nat.le_of_ble_eq_true rfl) dX11_start_32 (fun w5 h => ?_)
      refine V_aload_n X (i := 0) 0 dX11_start_35 rfl rfl ?_
      refine V_aload_n X (i := 0) 0 dX11_start_36 rfl rfl ?_
      refine G_11_56 X dX11_start_37 ?_
      refine V_iload_n X (i := 1) 1 dX11_start_40 rfl rfl ?_
      refine K_11_startByGoes X (Or.inl q_895) inst_Play_89 h ⟨Nat.le_of_ble_eq_true rfl, Nat.le_of_ble_eq_true rfl⟩ ⟨Nat.zero_le _, Nat.zero_le _⟩ (st1 := []) (Nat.le_of_ble_eq_true rfl) dX11_start_41 (fun r7 w6 h => ?_)
      exact V_iret_c X hr dX11_start_44 h
    · have h := hf c
      refine V_iconst X (v := (-1 : Int32)) dX11_start_22 (by decide) ?_
      exact V_iret_c X hr dX11_start_23 h
theorem c_11_start {a1 : Int32} (hinj : INJ ad) {w : Mem} {Q : Int32 → Mem → Prop} (h : wp_11_start a1 w Q) : Met l yX11_start (TBq yX11_start cX11_start 2 (some .int)) (RM 7) (va_Pc [.ref (ad 0), .int a1] (PB ad cy D (cmb w wm) wl0)) (va_Qi Q (BC ad cy D wm wl0) (AW ad)) 0 0 (AW ad) := M_enter (by decide) (Nat.le_of_ble_eq_true rfl) hinj (fun p e s m args below meth c X hr => v_11_start X hr h)
theorem mf_11_start : MFV yX11_start cX11_start 2 (some .int) yX11_start.cls 1 := ⟨q_882, q_880, q_881, q_1, by decide⟩
theorem K_11_start {own : String} {idx : Nat} {a1 : Int32} (X : CXq p s m args meth c cc nL own ad cy D A H0) (hL : LK own idx yX11_start) {w : Mem} {Q : Int32 → Mem → Prop} (h : wp_11_start a1 w Q) (hR : (RM 7).frames + 1 ≤ R.frames ∧ 8 + (2 + 11) + (RM 7).locals ≤ R.locals) (hce : ce ≤ R.cells ∧ sl ≤ R.slots) (hcat : (st1.map fun v => v.category).sum ≤ 8) (hd : decode cc pc = .ok (.invokevirtual idx, 3)) (kk : ∀ (r : Int32) (u : Mem), Q r u → V p l e R s m args below meth c nL ad cy D A H0 ce sl Qs u wm wl0 (pc + 3) ls (.int r :: st1)) : V p l e R s m args below meth c nL ad cy D A H0 ce sl Qs w wm wl0 pc ls (.int a1 :: .ref (ad 0) :: st1) := V_callVI_c X mf_11_start hL (rfl : vwCl[11]? = some (RX11, TX11, 13)) (by decide) (rfl : SK 0 = 11) (Nat.lt_of_lt_of_le (by decide : 0 < 150) (CX_nn X)) (c_11_start X.2.2.2.2.2.2.2.1 h) (As := [.int a1]) rfl ⟨rfl, rfl⟩ hR hce st1 rfl hcat hd kk
set_option maxRecDepth 20000 in
theorem v_11_letGo {a1 : Int32} (X : CXq p s m args meth c cX11_letGo 2 yX11_letGo.cls ad cy D (AW ad) s.heap) (hr : meth.sig.returnType = (some .int)) {w : Mem} {Q : Int32 → Mem → Prop} (h : wp_11_letGo a1 w Q) : V p l e (RM 6) s m args below meth c 2 ad cy D (AW ad) s.heap 0 0 (MQ below (va_Qi Q (BC ad cy D wm wl0) (AW ad)) args s 0 0 (AW ad)) w wm wl0 0 [(0, .ref (ad 0)), (1, .int a1)] [] := by
  unfold wp_11_letGo at h
  refine V_iload_n X (i := 1) 1 dX11_letGo_0 rfl rfl ?_
  refine V_iconst X (v := (0 : Int32)) dX11_letGo_1 (by decide) ?_
  refine V_aload_n X (i := 0) 0 dX11_letGo_2 rfl rfl ?_
  refine G_11_41 X dX11_letGo_3 ?_
  refine G_11_188 X (inst_Text_48).1 (inst_Text_48).2.1 (Text_r12 inst_Text_48) dX11_letGo_6 ?_
  refine K_11_within X (Or.inl q_532) h ⟨Nat.le_of_ble_eq_true rfl, Nat.le_of_ble_eq_true rfl⟩ ⟨Nat.zero_le _, Nat.zero_le _⟩ (st1 := []) (Nat.le_of_ble_eq_true rfl) dX11_letGo_9 (fun r2 w1 h => ?_)
  obtain ⟨ht, hf⟩ := h
  refine V_if_eq X (tgt := 27) dX11_letGo_12 (by decide) (fun c => ?_) (fun c => ?_)
  · have h := ht c
    refine V_iconst X (v := (-1 : Int32)) dX11_letGo_27 (by decide) ?_
    exact V_iret_c X hr dX11_letGo_28 h
  · have h := hf c
    refine V_aload_n X (i := 0) 0 dX11_letGo_15 rfl rfl ?_
    refine G_11_56 X dX11_letGo_16 ?_
    refine K_5_nextMan X (Or.inl q_779) inst_Play_89 h ⟨Nat.le_of_ble_eq_true rfl, Nat.le_of_ble_eq_true rfl⟩ ⟨Nat.zero_le _, Nat.zero_le _⟩ (st1 := []) (Nat.le_of_ble_eq_true rfl) dX11_letGo_19 (fun r4 w3 h => ?_)
    refine V_bipush X (v := (-2 : Int32)) dX11_letGo_22 (by decide) ?_
    obtain ⟨ht, hf⟩ := h
    refine V_icmp_ne X (tgt := 29) dX11_letGo_24 (by decide) (fun c => ?_) (fun c => ?_)
    · have h := ht c
      refine V_aload_n X (i := 0) 0 dX11_letGo_29 rfl rfl ?_
      refine G_11_66 X dX11_letGo_30 ?_
      refine V_aload_n X (i := 0) 0 dX11_letGo_33 rfl rfl ?_
      refine G_11_56 X dX11_letGo_34 ?_
      refine K_1_keep X (Or.inl q_883) inst_Play_89 h ⟨Nat.le_of_ble_eq_true rfl, Nat.le_of_ble_eq_true rfl⟩ ⟨Nat.zero_le _, Nat.zero_le _⟩ (st1 := []) (Nat.le_of_ble_eq_true rfl) dX11_letGo_37 (fun w5 h => ?_)
      refine V_aload_n X (i := 0) 0 dX11_letGo_40 rfl rfl ?_
      refine V_aload_n X (i := 0) 0 dX11_letGo_41 rfl rfl ?_
      refine G_11_56 X dX11_letGo_42 ?_
      refine V_aload_n X (i := 0) 0 dX11_letGo_45 rfl rfl ?_
      refine G_11_56 X dX11_letGo_46 ?_
      refine G_11_126 X (inst_Play_89).1 (inst_Play_89).2.1 (Play_r4 inst_Play_89) dX11_letGo_49 ?_
      refine V_iload_n X (i := 1) 1 dX11_letGo_52 rfl rfl ?_
      refine V_iadd X dX11_letGo_53 ?_
      refine K_11_launch X (Or.inl q_907) inst_Play_89 h ⟨Nat.le_of_ble_eq_true rfl, Nat.le_of_ble_eq_true rfl⟩ ⟨Nat.zero_le _, Nat.zero_le _⟩ (st1 := []) (Nat.le_of_ble_eq_true rfl) dX11_letGo_54 (fun w6 h => ?_)
      refine V_aload_n X (i := 0) 0 dX11_letGo_57 rfl rfl ?_
      refine G_11_49 X dX11_letGo_58 ?_
      refine G_11_195 X dX11_letGo_61 ?_
      exact V_iret_c X hr dX11_letGo_64 h
    · have h := hf c
      refine V_iconst X (v := (-1 : Int32)) dX11_letGo_27 (by decide) ?_
      exact V_iret_c X hr dX11_letGo_28 h
theorem c_11_letGo {a1 : Int32} (hinj : INJ ad) {w : Mem} {Q : Int32 → Mem → Prop} (h : wp_11_letGo a1 w Q) : Met l yX11_letGo (TBq yX11_letGo cX11_letGo 2 (some .int)) (RM 6) (va_Pc [.ref (ad 0), .int a1] (PB ad cy D (cmb w wm) wl0)) (va_Qi Q (BC ad cy D wm wl0) (AW ad)) 0 0 (AW ad) := M_enter (by decide) (Nat.le_of_ble_eq_true rfl) hinj (fun p e s m args below meth c X hr => v_11_letGo X hr h)
theorem mf_11_letGo : MFV yX11_letGo cX11_letGo 2 (some .int) yX11_letGo.cls 1 := ⟨q_953, q_951, q_952, q_1, by decide⟩
theorem K_11_letGo {own : String} {idx : Nat} {a1 : Int32} (X : CXq p s m args meth c cc nL own ad cy D A H0) (hL : LK own idx yX11_letGo) {w : Mem} {Q : Int32 → Mem → Prop} (h : wp_11_letGo a1 w Q) (hR : (RM 6).frames + 1 ≤ R.frames ∧ 8 + (2 + 11) + (RM 6).locals ≤ R.locals) (hce : ce ≤ R.cells ∧ sl ≤ R.slots) (hcat : (st1.map fun v => v.category).sum ≤ 8) (hd : decode cc pc = .ok (.invokevirtual idx, 3)) (kk : ∀ (r : Int32) (u : Mem), Q r u → V p l e R s m args below meth c nL ad cy D A H0 ce sl Qs u wm wl0 (pc + 3) ls (.int r :: st1)) : V p l e R s m args below meth c nL ad cy D A H0 ce sl Qs w wm wl0 pc ls (.int a1 :: .ref (ad 0) :: st1) := V_callVI_c X mf_11_letGo hL (rfl : vwCl[11]? = some (RX11, TX11, 13)) (by decide) (rfl : SK 0 = 11) (Nat.lt_of_lt_of_le (by decide : 0 < 150) (CX_nn X)) (c_11_letGo X.2.2.2.2.2.2.2.1 h) (As := [.int a1]) rfl ⟨rfl, rfl⟩ hR hce st1 rfl hcat hd kk
set_option maxRecDepth 20000 in
theorem v_11_isGate {a1 : Int32} (X : CXq p s m args meth c cX11_isGate 1 yX11_isGate.cls ad cy D (AW ad) s.heap) (hr : meth.sig.returnType = (some .boolean)) {w : Mem} {Q : Int32 → Mem → Prop} (h : wp_11_isGate a1 w Q) : V p l e (RM 1) s m args below meth c 1 ad cy D (AW ad) s.heap 0 0 (MQ below (va_Qi Q (BC ad cy D wm wl0) (AW ad)) args s 0 0 (AW ad)) w wm wl0 0 [(0, .int a1)] [] := by
  unfold wp_11_isGate at h
  refine V_iload_n X (i := 0) 0 dX11_isGate_0 rfl rfl ?_
  refine V_iconst X (v := (0 : Int32)) dX11_isGate_1 (by decide) ?_
  refine V_bipush X (v := (40 : Int32)) dX11_isGate_2 (by decide) ?_
  refine K_11_within X (Or.inl q_532) h ⟨Nat.le_of_ble_eq_true rfl, Nat.le_of_ble_eq_true rfl⟩ ⟨Nat.zero_le _, Nat.zero_le _⟩ (st1 := []) (Nat.le_of_ble_eq_true rfl) dX11_isGate_4 (fun r2 w1 h => ?_)
  exact V_zret_c X hr dX11_isGate_7 (bo_z h.1) h.2
theorem c_11_isGate {a1 : Int32} (hinj : INJ ad) {w : Mem} {Q : Int32 → Mem → Prop} (h : wp_11_isGate a1 w Q) : Met l yX11_isGate (TBq yX11_isGate cX11_isGate 1 (some .boolean)) (RM 1) (va_Pc [.int a1] (PB ad cy D (cmb w wm) wl0)) (va_Qi Q (BC ad cy D wm wl0) (AW ad)) 0 0 (AW ad) := M_enter (by decide) (Nat.le_of_ble_eq_true rfl) hinj (fun p e s m args below meth c X hr => v_11_isGate X hr h)
theorem mf_11_isGate : MFS yX11_isGate cX11_isGate 1 (some .boolean) 1 := ⟨q_960, q_959, q_1, by decide⟩
theorem K_11_isGate {own : String} {idx : Nat} {a1 : Int32} (X : CXq p s m args meth c cc nL own ad cy D A H0) (hL : LK own idx yX11_isGate) {w : Mem} {Q : Int32 → Mem → Prop} (h : wp_11_isGate a1 w Q) (hR : (RM 1).frames + 1 ≤ R.frames ∧ 8 + (1 + 11) + (RM 1).locals ≤ R.locals) (hce : ce ≤ R.cells ∧ sl ≤ R.slots) (hcat : (st1.map fun v => v.category).sum ≤ 8) (hd : decode cc pc = .ok (.invokestatic idx, 3)) (kk : ∀ (r : Int32) (u : Mem), Q r u → V p l e R s m args below meth c nL ad cy D A H0 ce sl Qs u wm wl0 (pc + 3) ls (.int r :: st1)) : V p l e R s m args below meth c nL ad cy D A H0 ce sl Qs w wm wl0 pc ls (.int a1 :: st1) := V_callSI_c X mf_11_isGate hL (c_11_isGate X.2.2.2.2.2.2.2.1 h) (As := [.int a1]) rfl ⟨rfl, rfl⟩ hR hce st1 rfl hcat hd kk
set_option maxRecDepth 20000 in
theorem v_11_gate {a1 : Int32} (X : CXq p s m args meth c cX11_gate 2 yX11_gate.cls ad cy D (AW ad) s.heap) (hr : meth.sig.returnType = (some .boolean)) {w : Mem} {Q : Int32 → Mem → Prop} (h : wp_11_gate a1 w Q) : V p l e (RM 4) s m args below meth c 2 ad cy D (AW ad) s.heap 0 0 (MQ below (va_Qi Q (BC ad cy D wm wl0) (AW ad)) args s 0 0 (AW ad)) w wm wl0 0 [(0, .ref (ad 0)), (1, .int a1)] [] := by
  unfold wp_11_gate at h
  refine V_iload_n X (i := 1) 1 dX11_gate_0 rfl rfl ?_
  refine K_11_isGate X (Or.inl q_958) h ⟨Nat.le_of_ble_eq_true rfl, Nat.le_of_ble_eq_true rfl⟩ ⟨Nat.zero_le _, Nat.zero_le _⟩ (st1 := []) (Nat.le_of_ble_eq_true rfl) dX11_gate_1 (fun r2 w1 h => ?_)
  obtain ⟨ht, hf⟩ := h
  refine V_if_eq X (tgt := 18) dX11_gate_4 (by decide) (fun c => ?_) (fun c => ?_)
  · have h := ht c
    refine V_iconst X (v := (0 : Int32)) dX11_gate_18 (by decide) ?_
    exact V_zret_c X hr dX11_gate_19 rfl h
  · have h := hf c
    refine V_iload_n X (i := 1) 1 dX11_gate_7 rfl rfl ?_
    refine V_aload_n X (i := 0) 0 dX11_gate_8 rfl rfl ?_
    refine G_11_56 X dX11_gate_9 ?_
    refine G_11_132 X (inst_Play_89).1 (inst_Play_89).2.1 (Play_r6 inst_Play_89) dX11_gate_12 ?_
    obtain ⟨ht, hf⟩ := h
    refine V_icmp_ne X (tgt := 20) dX11_gate_15 (by decide) (fun c => ?_) (fun c => ?_)
    · have h := ht c
      refine V_aload_n X (i := 0) 0 dX11_gate_20 rfl rfl ?_
      refine G_11_66 X dX11_gate_21 ?_
      refine V_aload_n X (i := 0) 0 dX11_gate_24 rfl rfl ?_
      refine G_11_56 X dX11_gate_25 ?_
      refine K_1_keep X (Or.inl q_883) inst_Play_89 h ⟨Nat.le_of_ble_eq_true rfl, Nat.le_of_ble_eq_true rfl⟩ ⟨Nat.zero_le _, Nat.zero_le _⟩ (st1 := []) (Nat.le_of_ble_eq_true rfl) dX11_gate_28 (fun w3 h => ?_)
      refine V_aload_n X (i := 0) 0 dX11_gate_31 rfl rfl ?_
      refine G_11_56 X dX11_gate_32 ?_
      refine V_iload_n X (i := 1) 1 dX11_gate_35 rfl rfl ?_
      obtain ⟨w4, ew4⟩ : ∃ y : Mem, y = st w3 89 6 a1 := ⟨_, rfl⟩
      have h := h w4 ew4
      refine U_11_132 X (inst_Play_89).1 (inst_Play_89).2.1 (Play_r6 inst_Play_89) rfl rfl dX11_gate_36 ew4 ?_
      refine V_iconst X (v := (1 : Int32)) dX11_gate_39 (by decide) ?_
      exact V_zret_c X hr dX11_gate_40 rfl h
    · have h := hf c
      refine V_iconst X (v := (0 : Int32)) dX11_gate_18 (by decide) ?_
      exact V_zret_c X hr dX11_gate_19 rfl h
theorem c_11_gate {a1 : Int32} (hinj : INJ ad) {w : Mem} {Q : Int32 → Mem → Prop} (h : wp_11_gate a1 w Q) : Met l yX11_gate (TBq yX11_gate cX11_gate 2 (some .boolean)) (RM 4) (va_Pc [.ref (ad 0), .int a1] (PB ad cy D (cmb w wm) wl0)) (va_Qi Q (BC ad cy D wm wl0) (AW ad)) 0 0 (AW ad) := M_enter (by decide) (Nat.le_of_ble_eq_true rfl) hinj (fun p e s m args below meth c X hr => v_11_gate X hr h)
theorem mf_11_gate : MFV yX11_gate cX11_gate 2 (some .boolean) yX11_gate.cls 1 := ⟨q_957, q_955, q_956, q_1, by decide⟩
theorem K_11_gate {own : String} {idx : Nat} {a1 : Int32} (X : CXq p s m args meth c cc nL own ad cy D A H0) (hL : LK own idx yX11_gate) {w : Mem} {Q : Int32 → Mem → Prop} (h : wp_11_gate a1 w Q) (hR : (RM 4).frames + 1 ≤ R.frames ∧ 8 + (2 + 11) + (RM 4).locals ≤ R.locals) (hce : ce ≤ R.cells ∧ sl ≤ R.slots) (hcat : (st1.map fun v => v.category).sum ≤ 8) (hd : decode cc pc = .ok (.invokevirtual idx, 3)) (kk : ∀ (r : Int32) (u : Mem), Q r u → V p l e R s m args below meth c nL ad cy D A H0 ce sl Qs u wm wl0 (pc + 3) ls (.int r :: st1)) : V p l e R s m args below meth c nL ad cy D A H0 ce sl Qs w wm wl0 pc ls (.int a1 :: .ref (ad 0) :: st1) := V_callVI_c X mf_11_gate hL (rfl : vwCl[11]? = some (RX11, TX11, 13)) (by decide) (rfl : SK 0 = 11) (Nat.lt_of_lt_of_le (by decide : 0 < 150) (CX_nn X)) (c_11_gate X.2.2.2.2.2.2.2.1 h) (As := [.int a1]) rfl ⟨rfl, rfl⟩ hR hce st1 rfl hcat hd kk
set_option maxRecDepth 20000 in
theorem v_11_pause {a1 : Int32} (X : CXq p s m args meth c cX11_pause 2 yX11_pause.cls ad cy D (AW ad) s.heap) (hr : meth.sig.returnType = (some .int)) {w : Mem} {Q : Int32 → Mem → Prop} (h : wp_11_pause a1 w Q) : V p l e (RM 4) s m args below meth c 2 ad cy D (AW ad) s.heap 0 0 (MQ below (va_Qi Q (BC ad cy D wm wl0) (AW ad)) args s 0 0 (AW ad)) w wm wl0 0 [(0, .ref (ad 0)), (1, .int a1)] [] := by
  unfold wp_11_pause at h
  refine V_iload_n X (i := 1) 1 dX11_pause_0 rfl rfl ?_
  refine V_iconst X (v := (1 : Int32)) dX11_pause_1 (by decide) ?_
  refine V_sipush X (v := (999 : Int32)) dX11_pause_2 (by decide) ?_
  refine K_11_within X (Or.inl q_532) h ⟨Nat.le_of_ble_eq_true rfl, Nat.le_of_ble_eq_true rfl⟩ ⟨Nat.zero_le _, Nat.zero_le _⟩ (st1 := []) (Nat.le_of_ble_eq_true rfl) dX11_pause_5 (fun r2 w1 h => ?_)
  obtain ⟨ht, hf⟩ := h
  refine V_if_ne X (tgt := 13) dX11_pause_8 (by decide) (fun c => ?_) (fun c => ?_)
  · have h := ht c
    refine V_aload_n X (i := 0) 0 dX11_pause_13 rfl rfl ?_
    refine G_11_66 X dX11_pause_14 ?_
    refine V_aload_n X (i := 0) 0 dX11_pause_17 rfl rfl ?_
    refine G_11_56 X dX11_pause_18 ?_
    refine K_1_keep X (Or.inl q_883) inst_Play_89 h ⟨Nat.le_of_ble_eq_true rfl, Nat.le_of_ble_eq_true rfl⟩ ⟨Nat.zero_le _, Nat.zero_le _⟩ (st1 := []) (Nat.le_of_ble_eq_true rfl) dX11_pause_21 (fun w3 h => ?_)
    refine V_aload_n X (i := 0) 0 dX11_pause_24 rfl rfl ?_
    refine G_11_56 X dX11_pause_25 ?_
    refine V_dup X dX11_pause_28 rfl ?_
    refine G_11_126 X (inst_Play_89).1 (inst_Play_89).2.1 (Play_r4 inst_Play_89) dX11_pause_29 ?_
    refine V_iload_n X (i := 1) 1 dX11_pause_32 rfl rfl ?_
    refine V_iadd X dX11_pause_33 ?_
    obtain ⟨w4, ew4⟩ : ∃ y : Mem, y = st w3 89 4 ((w3 89 4) + a1) := ⟨_, rfl⟩
    have h := h w4 ew4
    refine U_11_126 X (inst_Play_89).1 (inst_Play_89).2.1 (Play_r4 inst_Play_89) rfl rfl dX11_pause_34 ew4 ?_
    refine V_aload_n X (i := 0) 0 dX11_pause_37 rfl rfl ?_
    refine G_11_56 X dX11_pause_38 ?_
    refine G_11_126 X (inst_Play_89).1 (inst_Play_89).2.1 (Play_r4 inst_Play_89) dX11_pause_41 ?_
    exact V_iret_c X hr dX11_pause_44 h
  · have h := hf c
    refine V_iconst X (v := (-1 : Int32)) dX11_pause_11 (by decide) ?_
    exact V_iret_c X hr dX11_pause_12 h
theorem c_11_pause {a1 : Int32} (hinj : INJ ad) {w : Mem} {Q : Int32 → Mem → Prop} (h : wp_11_pause a1 w Q) : Met l yX11_pause (TBq yX11_pause cX11_pause 2 (some .int)) (RM 4) (va_Pc [.ref (ad 0), .int a1] (PB ad cy D (cmb w wm) wl0)) (va_Qi Q (BC ad cy D wm wl0) (AW ad)) 0 0 (AW ad) := M_enter (by decide) (Nat.le_of_ble_eq_true rfl) hinj (fun p e s m args below meth c X hr => v_11_pause X hr h)
theorem mf_11_pause : MFV yX11_pause cX11_pause 2 (some .int) yX11_pause.cls 1 := ⟨q_964, q_962, q_963, q_1, by decide⟩
theorem K_11_pause {own : String} {idx : Nat} {a1 : Int32} (X : CXq p s m args meth c cc nL own ad cy D A H0) (hL : LK own idx yX11_pause) {w : Mem} {Q : Int32 → Mem → Prop} (h : wp_11_pause a1 w Q) (hR : (RM 4).frames + 1 ≤ R.frames ∧ 8 + (2 + 11) + (RM 4).locals ≤ R.locals) (hce : ce ≤ R.cells ∧ sl ≤ R.slots) (hcat : (st1.map fun v => v.category).sum ≤ 8) (hd : decode cc pc = .ok (.invokevirtual idx, 3)) (kk : ∀ (r : Int32) (u : Mem), Q r u → V p l e R s m args below meth c nL ad cy D A H0 ce sl Qs u wm wl0 (pc + 3) ls (.int r :: st1)) : V p l e R s m args below meth c nL ad cy D A H0 ce sl Qs w wm wl0 pc ls (.int a1 :: .ref (ad 0) :: st1) := V_callVI_c X mf_11_pause hL (rfl : vwCl[11]? = some (RX11, TX11, 13)) (by decide) (rfl : SK 0 = 11) (Nat.lt_of_lt_of_le (by decide : 0 < 150) (CX_nn X)) (c_11_pause X.2.2.2.2.2.2.2.1 h) (As := [.int a1]) rfl ⟨rfl, rfl⟩ hR hce st1 rfl hcat hd kk
set_option maxRecDepth 20000 in
theorem v_11_undo (X : CXq p s m args meth c cX11_undo 1 yX11_undo.cls ad cy D (AW ad) s.heap) (hr : meth.sig.returnType = (some .boolean)) {w : Mem} {Q : Int32 → Mem → Prop} (h : wp_11_undo w Q) : V p l e (RM 4) s m args below meth c 1 ad cy D (AW ad) s.heap 0 0 (MQ below (va_Qi Q (BC ad cy D wm wl0) (AW ad)) args s 0 0 (AW ad)) w wm wl0 0 [(0, .ref (ad 0))] [] := by
  unfold wp_11_undo at h
  refine V_aload_n X (i := 0) 0 dX11_undo_0 rfl rfl ?_
  refine G_11_66 X dX11_undo_1 ?_
  refine V_aload_n X (i := 0) 0 dX11_undo_4 rfl rfl ?_
  refine G_11_56 X dX11_undo_5 ?_
  refine K_1_takeBack X (Or.inl q_969) inst_Play_89 h ⟨Nat.le_of_ble_eq_true rfl, Nat.le_of_ble_eq_true rfl⟩ ⟨Nat.zero_le _, Nat.zero_le _⟩ (st1 := []) (Nat.le_of_ble_eq_true rfl) dX11_undo_8 (fun r2 w1 h => ?_)
  exact V_zret_c X hr dX11_undo_11 (bo_z h.1) h.2
theorem c_11_undo (hinj : INJ ad) {w : Mem} {Q : Int32 → Mem → Prop} (h : wp_11_undo w Q) : Met l yX11_undo (TBq yX11_undo cX11_undo 1 (some .boolean)) (RM 4) (va_Pc [.ref (ad 0)] (PB ad cy D (cmb w wm) wl0)) (va_Qi Q (BC ad cy D wm wl0) (AW ad)) 0 0 (AW ad) := M_enter (by decide) (Nat.le_of_ble_eq_true rfl) hinj (fun p e s m args below meth c X hr => v_11_undo X hr h)
theorem mf_11_undo : MFV yX11_undo cX11_undo 1 (some .boolean) yX11_undo.cls 0 := ⟨q_968, q_966, q_967, q_1, by decide⟩
theorem K_11_undo {own : String} {idx : Nat} (X : CXq p s m args meth c cc nL own ad cy D A H0) (hL : LK own idx yX11_undo) {w : Mem} {Q : Int32 → Mem → Prop} (h : wp_11_undo w Q) (hR : (RM 4).frames + 1 ≤ R.frames ∧ 8 + (1 + 11) + (RM 4).locals ≤ R.locals) (hce : ce ≤ R.cells ∧ sl ≤ R.slots) (hcat : (st1.map fun v => v.category).sum ≤ 8) (hd : decode cc pc = .ok (.invokevirtual idx, 3)) (kk : ∀ (r : Int32) (u : Mem), Q r u → V p l e R s m args below meth c nL ad cy D A H0 ce sl Qs u wm wl0 (pc + 3) ls (.int r :: st1)) : V p l e R s m args below meth c nL ad cy D A H0 ce sl Qs w wm wl0 pc ls (.ref (ad 0) :: st1) := V_callVI_c X mf_11_undo hL (rfl : vwCl[11]? = some (RX11, TX11, 13)) (by decide) (rfl : SK 0 = 11) (Nat.lt_of_lt_of_le (by decide : 0 < 150) (CX_nn X)) (c_11_undo X.2.2.2.2.2.2.2.1 h) (As := []) rfl ⟨rfl, rfl⟩ hR hce st1 rfl hcat hd kk
set_option maxRecDepth 20000 in
theorem v_11_isLate {a1 : Int32} (X : CXq p s m args meth c cX11_isLate 1 yX11_isLate.cls ad cy D (AW ad) s.heap) (hr : meth.sig.returnType = (some .boolean)) {w : Mem} {Q : Int32 → Mem → Prop} (h : wp_11_isLate a1 w Q) : V p l e (RM 1) s m args below meth c 1 ad cy D (AW ad) s.heap 0 0 (MQ below (va_Qi Q (BC ad cy D wm wl0) (AW ad)) args s 0 0 (AW ad)) w wm wl0 0 [(0, .int a1)] [] := by
  unfold wp_11_isLate at h
  refine V_iload_n X (i := 0) 0 dX11_isLate_0 rfl rfl ?_
  refine V_bipush X (v := (-9 : Int32)) dX11_isLate_1 (by decide) ?_
  refine V_bipush X (v := (9 : Int32)) dX11_isLate_3 (by decide) ?_
  refine K_11_within X (Or.inl q_532) h ⟨Nat.le_of_ble_eq_true rfl, Nat.le_of_ble_eq_true rfl⟩ ⟨Nat.zero_le _, Nat.zero_le _⟩ (st1 := []) (Nat.le_of_ble_eq_true rfl) dX11_isLate_5 (fun r2 w1 h => ?_)
  exact V_zret_c X hr dX11_isLate_8 (bo_z h.1) h.2
theorem c_11_isLate {a1 : Int32} (hinj : INJ ad) {w : Mem} {Q : Int32 → Mem → Prop} (h : wp_11_isLate a1 w Q) : Met l yX11_isLate (TBq yX11_isLate cX11_isLate 1 (some .boolean)) (RM 1) (va_Pc [.int a1] (PB ad cy D (cmb w wm) wl0)) (va_Qi Q (BC ad cy D wm wl0) (AW ad)) 0 0 (AW ad) := M_enter (by decide) (Nat.le_of_ble_eq_true rfl) hinj (fun p e s m args below meth c X hr => v_11_isLate X hr h)
theorem mf_11_isLate : MFS yX11_isLate cX11_isLate 1 (some .boolean) 1 := ⟨q_983, q_982, q_1, by decide⟩
theorem K_11_isLate {own : String} {idx : Nat} {a1 : Int32} (X : CXq p s m args meth c cc nL own ad cy D A H0) (hL : LK own idx yX11_isLate) {w : Mem} {Q : Int32 → Mem → Prop} (h : wp_11_isLate a1 w Q) (hR : (RM 1).frames + 1 ≤ R.frames ∧ 8 + (1 + 11) + (RM 1).locals ≤ R.locals) (hce : ce ≤ R.cells ∧ sl ≤ R.slots) (hcat : (st1.map fun v => v.category).sum ≤ 8) (hd : decode cc pc = .ok (.invokestatic idx, 3)) (kk : ∀ (r : Int32) (u : Mem), Q r u → V p l e R s m args below meth c nL ad cy D A H0 ce sl Qs u wm wl0 (pc + 3) ls (.int r :: st1)) : V p l e R s m args below meth c nL ad cy D A H0 ce sl Qs w wm wl0 pc ls (.int a1 :: st1) := V_callSI_c X mf_11_isLate hL (c_11_isLate X.2.2.2.2.2.2.2.1 h) (As := [.int a1]) rfl ⟨rfl, rfl⟩ hR hce st1 rfl hcat hd kk
set_option maxRecDepth 20000 in
theorem v_11_jumpNow_b28 (X : CXq p s m args meth c cX11_jumpNow 6 yX11_jumpNow.cls ad cy D (AW ad) s.heap) (hr : meth.sig.returnType = (some .int)) {Q : Int32 → Mem → Prop} : ∀ (l5 : Int32) (w : Mem), wp_11_jumpNow_b28 Q l5 w → V p l e (RM 5) s m args below meth c 6 ad cy D (AW ad) s.heap 0 0 (MQ below (va_Qi Q (BC ad cy D wm wl0) (AW ad)) args s 0 0 (AW ad)) w wm wl0 28 [(0, .ref (ad 0)), (5, .int l5)] [] := by
  intro l5 w h
  unfold wp_11_jumpNow_b28 at h
  refine V_iload X (i := 5) 1 dX11_jumpNow_28 rfl ?_
  obtain ⟨ht, hf⟩ := h
  refine V_if_eq X (tgt := 43) dX11_jumpNow_30 (by decide) (fun c => ?_) (fun c => ?_)
  · have h := ht c
    refine V_aload_n X (i := 0) 0 dX11_jumpNow_43 rfl rfl ?_
    refine G_11_49 X dX11_jumpNow_44 ?_
    refine G_11_195 X dX11_jumpNow_47 ?_
    exact V_iret_c X hr dX11_jumpNow_50 h
  · have h := hf c
    refine V_aload_n X (i := 0) 0 dX11_jumpNow_33 rfl rfl ?_
    refine G_11_49 X dX11_jumpNow_34 ?_
    refine G_11_210 X dX11_jumpNow_37 ?_
    refine V_goto X (tgt := 50) dX11_jumpNow_40 (by decide) ?_
    exact V_iret_c X hr dX11_jumpNow_50 h
set_option maxRecDepth 20000 in
theorem v_11_jumpNow {a1 : Int32} {a2 : Int32} {a3 : Int32} {a4 : Int32} {a5 : Int32} (X : CXq p s m args meth c cX11_jumpNow 6 yX11_jumpNow.cls ad cy D (AW ad) s.heap) (hr : meth.sig.returnType = (some .int)) {w : Mem} {Q : Int32 → Mem → Prop} (h : wp_11_jumpNow a1 a2 a3 a4 a5 w Q) : V p l e (RM 5) s m args below meth c 6 ad cy D (AW ad) s.heap 0 0 (MQ below (va_Qi Q (BC ad cy D wm wl0) (AW ad)) args s 0 0 (AW ad)) w wm wl0 0 [(0, .ref (ad 0)), (1, .int a1), (2, .int a2), (3, .int a3), (4, .int a4), (5, .int a5)] [] := by
  unfold wp_11_jumpNow at h
  refine V_aload_n X (i := 0) 0 dX11_jumpNow_0 rfl rfl ?_
  refine G_11_49 X dX11_jumpNow_1 ?_
  refine V_iload_n X (i := 1) 1 dX11_jumpNow_4 rfl rfl ?_
  refine V_iload_n X (i := 2) 2 dX11_jumpNow_5 rfl rfl ?_
  refine V_iload_n X (i := 3) 3 dX11_jumpNow_6 rfl rfl ?_
  refine V_iload X (i := 4) 4 dX11_jumpNow_7 rfl ?_
  refine K_0_reachOf X (Or.inl q_916) h ⟨Nat.le_of_ble_eq_true rfl, Nat.le_of_ble_eq_true rfl⟩ ⟨Nat.zero_le _, Nat.zero_le _⟩ (st1 := []) (Nat.le_of_ble_eq_true rfl) dX11_jumpNow_9 (fun r2 w1 h => ?_)
  refine V_pop X dX11_jumpNow_12 rfl ?_
  refine V_iload X (i := 5) 5 dX11_jumpNow_13 rfl ?_
  obtain ⟨ht, hf⟩ := h
  refine V_if_eq X (tgt := 28) dX11_jumpNow_15 (by decide) (fun c => ?_) (fun c => ?_)
  · have h := ht c
    refine V_sub X (ls1 := [(0, .ref (ad 0)), (5, .int a5)]) [0, 5] rfl ?_
    exact v_11_jumpNow_b28 X hr _ _ h
  · have h := hf c
    refine V_aload_n X (i := 0) 0 dX11_jumpNow_18 rfl rfl ?_
    refine G_11_49 X dX11_jumpNow_19 ?_
    refine V_iload_n X (i := 1) 1 dX11_jumpNow_22 rfl rfl ?_
    refine V_iload_n X (i := 2) 2 dX11_jumpNow_23 rfl rfl ?_
    refine V_iload_n X (i := 3) 3 dX11_jumpNow_24 rfl rfl ?_
    refine K_0_judge X (Or.inl q_924) h ⟨Nat.le_of_ble_eq_true rfl, Nat.le_of_ble_eq_true rfl⟩ ⟨Nat.zero_le _, Nat.zero_le _⟩ (st1 := []) (Nat.le_of_ble_eq_true rfl) dX11_jumpNow_25 (fun w3 h => ?_)
    refine V_sub X (ls1 := [(0, .ref (ad 0)), (5, .int a5)]) [0, 5] rfl ?_
    exact v_11_jumpNow_b28 X hr _ _ h
theorem c_11_jumpNow {a1 : Int32} {a2 : Int32} {a3 : Int32} {a4 : Int32} {a5 : Int32} (hinj : INJ ad) {w : Mem} {Q : Int32 → Mem → Prop} (h : wp_11_jumpNow a1 a2 a3 a4 a5 w Q) : Met l yX11_jumpNow (TBq yX11_jumpNow cX11_jumpNow 6 (some .int)) (RM 5) (va_Pc [.ref (ad 0), .int a1, .int a2, .int a3, .int a4, .int a5] (PB ad cy D (cmb w wm) wl0)) (va_Qi Q (BC ad cy D wm wl0) (AW ad)) 0 0 (AW ad) := M_enter (by decide) (Nat.le_of_ble_eq_true rfl) hinj (fun p e s m args below meth c X hr => v_11_jumpNow X hr h)
theorem mf_11_jumpNow : MFV yX11_jumpNow cX11_jumpNow 6 (some .int) yX11_jumpNow.cls 5 := ⟨q_991, q_990, qs_31, q_1, by decide⟩
theorem K_11_jumpNow {own : String} {idx : Nat} {a1 : Int32} {a2 : Int32} {a3 : Int32} {a4 : Int32} {a5 : Int32} (X : CXq p s m args meth c cc nL own ad cy D A H0) (hL : LK own idx yX11_jumpNow) {w : Mem} {Q : Int32 → Mem → Prop} (h : wp_11_jumpNow a1 a2 a3 a4 a5 w Q) (hR : (RM 5).frames + 1 ≤ R.frames ∧ 8 + (6 + 11) + (RM 5).locals ≤ R.locals) (hce : ce ≤ R.cells ∧ sl ≤ R.slots) (hcat : (st1.map fun v => v.category).sum ≤ 8) (hd : decode cc pc = .ok (.invokevirtual idx, 3)) (kk : ∀ (r : Int32) (u : Mem), Q r u → V p l e R s m args below meth c nL ad cy D A H0 ce sl Qs u wm wl0 (pc + 3) ls (.int r :: st1)) : V p l e R s m args below meth c nL ad cy D A H0 ce sl Qs w wm wl0 pc ls (.int a5 :: .int a4 :: .int a3 :: .int a2 :: .int a1 :: .ref (ad 0) :: st1) := V_callVI_c X mf_11_jumpNow hL (rfl : vwCl[11]? = some (RX11, TX11, 13)) (by decide) (rfl : SK 0 = 11) (Nat.lt_of_lt_of_le (by decide : 0 < 150) (CX_nn X)) (c_11_jumpNow X.2.2.2.2.2.2.2.1 h) (As := [.int a1, .int a2, .int a3, .int a4, .int a5]) rfl ⟨rfl, rfl⟩ hR hce st1 rfl hcat hd kk
set_option maxRecDepth 20000 in
theorem v_11_tryOut {a1 : Int32} {a2 : Int32} {a3 : Int32} {a4 : Int32} (X : CXq p s m args meth c cX11_tryOut 5 yX11_tryOut.cls ad cy D (AW ad) s.heap) (hr : meth.sig.returnType = (some .int)) {w : Mem} {Q : Int32 → Mem → Prop} (h : wp_11_tryOut a1 a2 a3 a4 w Q) : V p l e (RM 6) s m args below meth c 5 ad cy D (AW ad) s.heap 0 0 (MQ below (va_Qi Q (BC ad cy D wm wl0) (AW ad)) args s 0 0 (AW ad)) w wm wl0 0 [(0, .ref (ad 0)), (1, .int a1), (2, .int a2), (3, .int a3), (4, .int a4)] [] := by
  unfold wp_11_tryOut at h
  refine V_aload_n X (i := 0) 0 dX11_tryOut_0 rfl rfl ?_
  refine G_11_49 X dX11_tryOut_1 ?_
  refine V_aload_n X (i := 0) 0 dX11_tryOut_4 rfl rfl ?_
  refine G_11_56 X dX11_tryOut_5 ?_
  refine G_11_126 X (inst_Play_89).1 (inst_Play_89).2.1 (Play_r4 inst_Play_89) dX11_tryOut_8 ?_
  refine V_iload_n X (i := 2) 2 dX11_tryOut_11 rfl rfl ?_
  refine V_iadd X dX11_tryOut_12 ?_
  refine K_0_blow X (Or.inl q_783) h ⟨Nat.le_of_ble_eq_true rfl, Nat.le_of_ble_eq_true rfl⟩ ⟨Nat.zero_le _, Nat.zero_le _⟩ (st1 := []) (Nat.le_of_ble_eq_true rfl) dX11_tryOut_13 (fun w1 h => ?_)
  refine V_aload_n X (i := 0) 0 dX11_tryOut_16 rfl rfl ?_
  refine V_iload_n X (i := 1) 1 dX11_tryOut_17 rfl rfl ?_
  refine V_iload_n X (i := 3) 3 dX11_tryOut_18 rfl rfl ?_
  refine V_aload_n X (i := 0) 0 dX11_tryOut_19 rfl rfl ?_
  refine G_11_56 X dX11_tryOut_20 ?_
  refine G_11_132 X (inst_Play_89).1 (inst_Play_89).2.1 (Play_r6 inst_Play_89) dX11_tryOut_23 ?_
  refine V_aload_n X (i := 0) 0 dX11_tryOut_26 rfl rfl ?_
  refine G_11_56 X dX11_tryOut_27 ?_
  refine G_11_139 X (inst_Play_89).1 (inst_Play_89).2.1 (Play_r7 inst_Play_89) dX11_tryOut_30 ?_
  refine V_iload X (i := 4) 4 dX11_tryOut_33 rfl ?_
  refine K_11_jumpNow X (Or.inl q_988) h ⟨Nat.le_of_ble_eq_true rfl, Nat.le_of_ble_eq_true rfl⟩ ⟨Nat.zero_le _, Nat.zero_le _⟩ (st1 := []) (Nat.le_of_ble_eq_true rfl) dX11_tryOut_35 (fun r3 w2 h => ?_)
  exact V_iret_c X hr dX11_tryOut_38 h
theorem c_11_tryOut {a1 : Int32} {a2 : Int32} {a3 : Int32} {a4 : Int32} (hinj : INJ ad) {w : Mem} {Q : Int32 → Mem → Prop} (h : wp_11_tryOut a1 a2 a3 a4 w Q) : Met l yX11_tryOut (TBq yX11_tryOut cX11_tryOut 5 (some .int)) (RM 6) (va_Pc [.ref (ad 0), .int a1, .int a2, .int a3, .int a4] (PB ad cy D (cmb w wm) wl0)) (va_Qi Q (BC ad cy D wm wl0) (AW ad)) 0 0 (AW ad) := M_enter (by decide) (Nat.le_of_ble_eq_true rfl) hinj (fun p e s m args below meth c X hr => v_11_tryOut X hr h)
theorem mf_11_tryOut : MFV yX11_tryOut cX11_tryOut 5 (some .int) yX11_tryOut.cls 4 := ⟨q_987, q_986, qs_30, q_1, by decide⟩
theorem K_11_tryOut {own : String} {idx : Nat} {a1 : Int32} {a2 : Int32} {a3 : Int32} {a4 : Int32} (X : CXq p s m args meth c cc nL own ad cy D A H0) (hL : LK own idx yX11_tryOut) {w : Mem} {Q : Int32 → Mem → Prop} (h : wp_11_tryOut a1 a2 a3 a4 w Q) (hR : (RM 6).frames + 1 ≤ R.frames ∧ 8 + (5 + 11) + (RM 6).locals ≤ R.locals) (hce : ce ≤ R.cells ∧ sl ≤ R.slots) (hcat : (st1.map fun v => v.category).sum ≤ 8) (hd : decode cc pc = .ok (.invokevirtual idx, 3)) (kk : ∀ (r : Int32) (u : Mem), Q r u → V p l e R s m args below meth c nL ad cy D A H0 ce sl Qs u wm wl0 (pc + 3) ls (.int r :: st1)) : V p l e R s m args below meth c nL ad cy D A H0 ce sl Qs w wm wl0 pc ls (.int a4 :: .int a3 :: .int a2 :: .int a1 :: .ref (ad 0) :: st1) := V_callVI_c X mf_11_tryOut hL (rfl : vwCl[11]? = some (RX11, TX11, 13)) (by decide) (rfl : SK 0 = 11) (Nat.lt_of_lt_of_le (by decide : 0 < 150) (CX_nn X)) (c_11_tryOut X.2.2.2.2.2.2.2.1 h) (As := [.int a1, .int a2, .int a3, .int a4]) rfl ⟨rfl, rfl⟩ hR hce st1 rfl hcat hd kk
set_option maxRecDepth 20000 in
theorem v_11_attempt {a1 : Int32} {a2 : Int32} {a3 : Int32} {a4 : Int32} (X : CXq p s m args meth c cX11_attempt 5 yX11_attempt.cls ad cy D (AW ad) s.heap) (hr : meth.sig.returnType = (some .int)) {w : Mem} {Q : Int32 → Mem → Prop} (h : wp_11_attempt a1 a2 a3 a4 w Q) : V p l e (RM 7) s m args below meth c 5 ad cy D (AW ad) s.heap 0 0 (MQ below (va_Qi Q (BC ad cy D wm wl0) (AW ad)) args s 0 0 (AW ad)) w wm wl0 0 [(0, .ref (ad 0)), (1, .int a1), (2, .int a2), (3, .int a3), (4, .int a4)] [] := by
  unfold wp_11_attempt at h
  refine V_aload_n X (i := 0) 0 dX11_attempt_0 rfl rfl ?_
  refine V_iload_n X (i := 1) 1 dX11_attempt_1 rfl rfl ?_
  refine K_11_isMan X (Or.inl q_855) h ⟨Nat.le_of_ble_eq_true rfl, Nat.le_of_ble_eq_true rfl⟩ ⟨Nat.zero_le _, Nat.zero_le _⟩ (st1 := []) (Nat.le_of_ble_eq_true rfl) dX11_attempt_2 (fun r2 w1 h => ?_)
  obtain ⟨ht, hf⟩ := h
  refine V_if_eq X (tgt := 36) dX11_attempt_5 (by decide) (fun c => ?_) (fun c => ?_)
  · have h := ht c
    refine V_sipush X (v := (-10000 : Int32)) dX11_attempt_36 (by decide) ?_
    exact V_iret_c X hr dX11_attempt_39 h
  · have h := hf c
    refine V_iload_n X (i := 2) 2 dX11_attempt_8 rfl rfl ?_
    refine V_iconst X (v := (0 : Int32)) dX11_attempt_9 (by decide) ?_
    refine V_sipush X (v := (999 : Int32)) dX11_attempt_10 (by decide) ?_
    refine K_11_within X (Or.inl q_532) h ⟨Nat.le_of_ble_eq_true rfl, Nat.le_of_ble_eq_true rfl⟩ ⟨Nat.zero_le _, Nat.zero_le _⟩ (st1 := []) (Nat.le_of_ble_eq_true rfl) dX11_attempt_13 (fun r4 w3 h => ?_)
    obtain ⟨ht, hf⟩ := h
    refine V_if_eq X (tgt := 36) dX11_attempt_16 (by decide) (fun c => ?_) (fun c => ?_)
    · have h := ht c
      refine V_sipush X (v := (-10000 : Int32)) dX11_attempt_36 (by decide) ?_
      exact V_iret_c X hr dX11_attempt_39 h
    · have h := hf c
      refine V_iload_n X (i := 3) 3 dX11_attempt_19 rfl rfl ?_
      refine K_11_isLate X (Or.inl q_981) h ⟨Nat.le_of_ble_eq_true rfl, Nat.le_of_ble_eq_true rfl⟩ ⟨Nat.zero_le _, Nat.zero_le _⟩ (st1 := []) (Nat.le_of_ble_eq_true rfl) dX11_attempt_20 (fun r6 w5 h => ?_)
      obtain ⟨ht, hf⟩ := h
      refine V_if_eq X (tgt := 36) dX11_attempt_23 (by decide) (fun c => ?_) (fun c => ?_)
      · have h := ht c
        refine V_sipush X (v := (-10000 : Int32)) dX11_attempt_36 (by decide) ?_
        exact V_iret_c X hr dX11_attempt_39 h
      · have h := hf c
        refine V_iload X (i := 4) 4 dX11_attempt_26 rfl ?_
        refine V_iconst X (v := (0 : Int32)) dX11_attempt_28 (by decide) ?_
        refine V_iconst X (v := (2 : Int32)) dX11_attempt_29 (by decide) ?_
        refine K_11_within X (Or.inl q_532) h ⟨Nat.le_of_ble_eq_true rfl, Nat.le_of_ble_eq_true rfl⟩ ⟨Nat.zero_le _, Nat.zero_le _⟩ (st1 := []) (Nat.le_of_ble_eq_true rfl) dX11_attempt_30 (fun r8 w7 h => ?_)
        obtain ⟨ht, hf⟩ := h
        refine V_if_ne X (tgt := 40) dX11_attempt_33 (by decide) (fun c => ?_) (fun c => ?_)
        · have h := ht c
          refine V_aload_n X (i := 0) 0 dX11_attempt_40 rfl rfl ?_
          refine V_iload_n X (i := 1) 1 dX11_attempt_41 rfl rfl ?_
          refine V_iload_n X (i := 2) 2 dX11_attempt_42 rfl rfl ?_
          refine V_iload_n X (i := 3) 3 dX11_attempt_43 rfl rfl ?_
          refine V_iconst X (v := (1 : Int32)) dX11_attempt_44 (by decide) ?_
          refine K_11_tryOut X (Or.inl q_984) h ⟨Nat.le_of_ble_eq_true rfl, Nat.le_of_ble_eq_true rfl⟩ ⟨Nat.zero_le _, Nat.zero_le _⟩ (st1 := []) (Nat.le_of_ble_eq_true rfl) dX11_attempt_45 (fun r10 w9 h => ?_)
          refine V_pop X dX11_attempt_48 rfl ?_
          refine V_iload X (i := 4) 4 dX11_attempt_49 rfl ?_
          obtain ⟨ht, h⟩ := h
          by_cases c0 : a4 = (0 : Int32)
          · have h := ht c0
            refine V_lookup X (tgt := 76) dX11_attempt_51 (by decide) (off := 25) (by rw [c0]; decide) (by decide) ?_
            refine V_aload_n X (i := 0) 0 dX11_attempt_76 rfl rfl ?_
            refine G_11_49 X dX11_attempt_77 ?_
            refine G_11_195 X dX11_attempt_80 ?_
            exact V_iret_c X hr dX11_attempt_83 h
          have h := h c0
          obtain ⟨ht, h⟩ := h
          by_cases c1 : a4 = (1 : Int32)
          · have h := ht c1
            refine V_lookup X (tgt := 84) dX11_attempt_51 (by decide) (off := 33) (by rw [c1]; decide) (by decide) ?_
            refine V_aload_n X (i := 0) 0 dX11_attempt_84 rfl rfl ?_
            refine G_11_49 X dX11_attempt_85 ?_
            refine G_11_210 X dX11_attempt_88 ?_
            exact V_iret_c X hr dX11_attempt_91 h
          have h := h c1
          refine V_lookup X (tgt := 92) dX11_attempt_51 (by decide) (off := 41) (by rw [lv_osw c0 (by decide), lv_osw c1 (by decide)]; rfl) (by decide) ?_
          refine V_aload_n X (i := 0) 0 dX11_attempt_92 rfl rfl ?_
          refine G_11_49 X dX11_attempt_93 ?_
          refine G_11_213 X dX11_attempt_96 ?_
          exact V_iret_c X hr dX11_attempt_99 h
        · have h := hf c
          refine V_sipush X (v := (-10000 : Int32)) dX11_attempt_36 (by decide) ?_
          exact V_iret_c X hr dX11_attempt_39 h
theorem c_11_attempt {a1 : Int32} {a2 : Int32} {a3 : Int32} {a4 : Int32} (hinj : INJ ad) {w : Mem} {Q : Int32 → Mem → Prop} (h : wp_11_attempt a1 a2 a3 a4 w Q) : Met l yX11_attempt (TBq yX11_attempt cX11_attempt 5 (some .int)) (RM 7) (va_Pc [.ref (ad 0), .int a1, .int a2, .int a3, .int a4] (PB ad cy D (cmb w wm) wl0)) (va_Qi Q (BC ad cy D wm wl0) (AW ad)) 0 0 (AW ad) := M_enter (by decide) (Nat.le_of_ble_eq_true rfl) hinj (fun p e s m args below meth c X hr => v_11_attempt X hr h)
theorem mf_11_attempt : MFV yX11_attempt cX11_attempt 5 (some .int) yX11_attempt.cls 4 := ⟨q_980, q_978, q_979, q_1, by decide⟩
theorem K_11_attempt {own : String} {idx : Nat} {a1 : Int32} {a2 : Int32} {a3 : Int32} {a4 : Int32} (X : CXq p s m args meth c cc nL own ad cy D A H0) (hL : LK own idx yX11_attempt) {w : Mem} {Q : Int32 → Mem → Prop} (h : wp_11_attempt a1 a2 a3 a4 w Q) (hR : (RM 7).frames + 1 ≤ R.frames ∧ 8 + (5 + 11) + (RM 7).locals ≤ R.locals) (hce : ce ≤ R.cells ∧ sl ≤ R.slots) (hcat : (st1.map fun v => v.category).sum ≤ 8) (hd : decode cc pc = .ok (.invokevirtual idx, 3)) (kk : ∀ (r : Int32) (u : Mem), Q r u → V p l e R s m args below meth c nL ad cy D A H0 ce sl Qs u wm wl0 (pc + 3) ls (.int r :: st1)) : V p l e R s m args below meth c nL ad cy D A H0 ce sl Qs w wm wl0 pc ls (.int a4 :: .int a3 :: .int a2 :: .int a1 :: .ref (ad 0) :: st1) := V_callVI_c X mf_11_attempt hL (rfl : vwCl[11]? = some (RX11, TX11, 13)) (by decide) (rfl : SK 0 = 11) (Nat.lt_of_lt_of_le (by decide : 0 < 150) (CX_nn X)) (c_11_attempt X.2.2.2.2.2.2.2.1 h) (As := [.int a1, .int a2, .int a3, .int a4]) rfl ⟨rfl, rfl⟩ hR hce st1 rfl hcat hd kk
set_option maxRecDepth 20000 in
theorem v_11_wait_b99 (X : CXq p s m args meth c cX11_wait 8 yX11_wait.cls ad cy D (AW ad) s.heap) (hr : meth.sig.returnType = (some .int)) {Q : Int32 → Mem → Prop} : ∀ (l4 : Int32) (w : Mem), wp_11_wait_b99 Q l4 w → V p l e (RM 7) s m args below meth c 8 ad cy D (AW ad) s.heap 0 0 (MQ below (va_Qi Q (BC ad cy D wm wl0) (AW ad)) args s 0 0 (AW ad)) w wm wl0 99 [(4, .int l4)] [] := by
  intro l4 w h
  unfold wp_11_wait_b99 at h
  refine V_iload X (i := 4) 0 dX11_wait_99 rfl ?_
  refine V_goto X (tgt := 106) dX11_wait_101 (by decide) ?_
  exact V_iret_c X hr dX11_wait_106 h
set_option maxRecDepth 20000 in
theorem v_11_wait_b84 (X : CXq p s m args meth c cX11_wait 8 yX11_wait.cls ad cy D (AW ad) s.heap) (hr : meth.sig.returnType = (some .int)) {Q : Int32 → Mem → Prop} {L46 : Int32 → Int32 → Int32 → Int32 → Int32 → Int32 → Mem → Prop} (HL46 : ∀ (l1 : Int32) (l2 : Int32) (l3 : Int32) (l4 : Int32) (l5 : Int32) (l6 : Int32) (w : Mem), L46 l1 l2 l3 l4 l5 l6 w → V p l e (RM 7) s m args below meth c 8 ad cy D (AW ad) s.heap 0 0 (MQ below (va_Qi Q (BC ad cy D wm wl0) (AW ad)) args s 0 0 (AW ad)) w wm wl0 46 [(0, .ref (ad 0)), (1, .int l1), (2, .int l2), (3, .int l3), (4, .int l4), (5, .int l5), (6, .int l6)] []) : ∀ (l1 : Int32) (l2 : Int32) (l3 : Int32) (l4 : Int32) (l5 : Int32) (l6 : Int32) (w : Mem), wp_11_wait_b84 Q L46 l1 l2 l3 l4 l5 l6 w → V p l e (RM 7) s m args below meth c 8 ad cy D (AW ad) s.heap 0 0 (MQ below (va_Qi Q (BC ad cy D wm wl0) (AW ad)) args s 0 0 (AW ad)) w wm wl0 84 [(0, .ref (ad 0)), (1, .int l1), (2, .int l2), (3, .int l3), (4, .int l4), (5, .int l5), (6, .int l6)] [] := by
  intro l1 l2 l3 l4 l5 l6 w h
  unfold wp_11_wait_b84 at h
  obtain ⟨x1, ex1⟩ : ∃ y : Int32, y = l6 + (1 : Int32) := ⟨_, rfl⟩
  have h := h x1 ex1
  refine V_iinc X 6 dX11_wait_84 rfl (by decide) (by rw [ex1]; rfl) (ls1 := [(6, .int x1), (0, .ref (ad 0)), (1, .int l1), (2, .int l2), (3, .int l3), (4, .int l4), (5, .int l5)]) rfl ?_
  refine V_goto X (tgt := 46) dX11_wait_87 (by decide) ?_
  refine V_sub X (ls1 := [(0, .ref (ad 0)), (1, .int l1), (2, .int l2), (3, .int l3), (4, .int l4), (5, .int l5), (6, .int x1)]) [1, 2, 3, 4, 5, 6, 0] rfl ?_
  exact HL46 _ _ _ _ _ _ _ h
set_option maxRecDepth 20000 in
theorem v_11_wait_b46 (X : CXq p s m args meth c cX11_wait 8 yX11_wait.cls ad cy D (AW ad) s.heap) (hr : meth.sig.returnType = (some .int)) {Q : Int32 → Mem → Prop} : ∀ (n : Nat) (l1 : Int32) (l2 : Int32) (l3 : Int32) (l4 : Int32) (l5 : Int32) (l6 : Int32) (w : Mem), wp_11_wait_b46 Q n l1 l2 l3 l4 l5 l6 w → V p l e (RM 7) s m args below meth c 8 ad cy D (AW ad) s.heap 0 0 (MQ below (va_Qi Q (BC ad cy D wm wl0) (AW ad)) args s 0 0 (AW ad)) w wm wl0 46 [(0, .ref (ad 0)), (1, .int l1), (2, .int l2), (3, .int l3), (4, .int l4), (5, .int l5), (6, .int l6)] [] := by
  intro n
  induction n with
  | zero =>
    intro l1 l2 l3 l4 l5 l6 w h
    exact h.elim
  | succ n ih =>
    intro l1 l2 l3 l4 l5 l6 w h
    unfold wp_11_wait_b46 at h
    refine V_iload X (i := 6) 6 dX11_wait_46 rfl ?_
    refine V_aload_n X (i := 0) 0 dX11_wait_48 rfl rfl ?_
    refine G_11_41 X dX11_wait_49 ?_
    refine G_11_188 X (inst_Text_48).1 (inst_Text_48).2.1 (Text_r12 inst_Text_48) dX11_wait_52 ?_
    obtain ⟨ht, hf⟩ := h
    refine V_icmp_gt X (tgt := 90) dX11_wait_55 (by decide) (fun c => ?_) (fun c => ?_)
    · have h := ht c
      refine V_iload_n X (i := 2) 2 dX11_wait_90 rfl rfl ?_
      obtain ⟨ht, hf⟩ := h
      refine V_if_eq X (tgt := 99) dX11_wait_91 (by decide) (fun c => ?_) (fun c => ?_)
      · have h := ht c
        refine V_sub X (ls1 := [(4, .int l4)]) [4] rfl ?_
        exact v_11_wait_b99 X hr _ _ h
      · have h := hf c
        refine V_iload_n X (i := 2) 2 dX11_wait_94 rfl rfl ?_
        refine V_iconst X (v := (2 : Int32)) dX11_wait_95 (by decide) ?_
        obtain ⟨ht, hf⟩ := h
        refine V_icmp_ne X (tgt := 104) dX11_wait_96 (by decide) (fun c => ?_) (fun c => ?_)
        · have h := ht c
          refine V_iload X (i := 5) 5 dX11_wait_104 rfl ?_
          exact V_iret_c X hr dX11_wait_106 h
        · have h := hf c
          refine V_sub X (ls1 := [(4, .int l4)]) [4] rfl ?_
          exact v_11_wait_b99 X hr _ _ h
    · have h := hf c
      refine V_aload_n X (i := 0) 0 dX11_wait_58 rfl rfl ?_
      refine V_iload_n X (i := 1) 1 dX11_wait_59 rfl rfl ?_
      refine V_iload X (i := 6) 6 dX11_wait_60 rfl ?_
      refine V_iconst X (v := (0 : Int32)) dX11_wait_62 (by decide) ?_
      refine V_iload_n X (i := 3) 3 dX11_wait_63 rfl rfl ?_
      refine K_11_tryOut X (Or.inl q_984) h ⟨Nat.le_of_ble_eq_true rfl, Nat.le_of_ble_eq_true rfl⟩ ⟨Nat.zero_le _, Nat.zero_le _⟩ (st1 := []) (Nat.le_of_ble_eq_true rfl) dX11_wait_64 (fun r2 w1 h => ?_)
      refine V_istore X dX11_wait_67 (by decide) rfl (ls1 := [(7, .int r2), (0, .ref (ad 0)), (1, .int l1), (2, .int l2), (3, .int l3), (4, .int l4), (5, .int l5), (6, .int l6)]) rfl ?_
      refine V_iload X (i := 7) 0 dX11_wait_69 rfl ?_
      refine V_iload X (i := 5) 6 dX11_wait_71 rfl ?_
      obtain ⟨ht, hf⟩ := h
      refine V_icmp_le X (tgt := 84) dX11_wait_73 (by decide) (fun c => ?_) (fun c => ?_)
      · have h := ht c
        refine V_sub X (ls1 := [(0, .ref (ad 0)), (1, .int l1), (2, .int l2), (3, .int l3), (4, .int l4), (5, .int l5), (6, .int l6)]) [1, 2, 3, 4, 5, 6, 7] rfl ?_
        exact v_11_wait_b84 X hr ih _ _ _ _ _ _ _ h
      · have h := hf c
        refine V_iload X (i := 7) 0 dX11_wait_76 rfl ?_
        refine V_istore X dX11_wait_78 (by decide) rfl (ls1 := [(5, .int r2), (7, .int r2), (0, .ref (ad 0)), (1, .int l1), (2, .int l2), (3, .int l3), (4, .int l4), (6, .int l6)]) rfl ?_
        refine V_iload X (i := 6) 7 dX11_wait_80 rfl ?_
        refine V_istore X dX11_wait_82 (by decide) rfl (ls1 := [(4, .int l6), (5, .int r2), (7, .int r2), (0, .ref (ad 0)), (1, .int l1), (2, .int l2), (3, .int l3), (6, .int l6)]) rfl ?_
        refine V_sub X (ls1 := [(0, .ref (ad 0)), (1, .int l1), (2, .int l2), (3, .int l3), (4, .int l6), (5, .int r2), (6, .int l6)]) [3, 4, 5, 6, 0, 1, 7] rfl ?_
        exact v_11_wait_b84 X hr ih _ _ _ _ _ _ _ h
set_option maxRecDepth 20000 in
theorem v_11_wait_b29 (X : CXq p s m args meth c cX11_wait 8 yX11_wait.cls ad cy D (AW ad) s.heap) (hr : meth.sig.returnType = (some .int)) {Q : Int32 → Mem → Prop} : ∀ (l1 : Int32) (l2 : Int32) (s0 : Int32) (w : Mem), wp_11_wait_b29 Q l1 l2 s0 w → V p l e (RM 7) s m args below meth c 8 ad cy D (AW ad) s.heap 0 0 (MQ below (va_Qi Q (BC ad cy D wm wl0) (AW ad)) args s 0 0 (AW ad)) w wm wl0 29 [(0, .ref (ad 0)), (1, .int l1), (2, .int l2)] [.int s0] := by
  intro l1 l2 s0 w h
  unfold wp_11_wait_b29 at h
  refine V_istore_n X dX11_wait_29 rfl (by decide) rfl (ls1 := [(3, .int s0), (0, .ref (ad 0)), (1, .int l1), (2, .int l2)]) rfl ?_
  refine V_iconst X (v := (0 : Int32)) dX11_wait_30 (by decide) ?_
  refine V_istore X dX11_wait_31 (by decide) rfl (ls1 := [(4, .int (0 : Int32)), (3, .int s0), (0, .ref (ad 0)), (1, .int l1), (2, .int l2)]) rfl ?_
  refine V_aload_n X (i := 0) 2 dX11_wait_33 rfl rfl ?_
  refine V_iload_n X (i := 1) 3 dX11_wait_34 rfl rfl ?_
  refine V_iconst X (v := (0 : Int32)) dX11_wait_35 (by decide) ?_
  refine V_iconst X (v := (0 : Int32)) dX11_wait_36 (by decide) ?_
  refine V_iload_n X (i := 3) 1 dX11_wait_37 rfl rfl ?_
  refine K_11_tryOut X (Or.inl q_984) h ⟨Nat.le_of_ble_eq_true rfl, Nat.le_of_ble_eq_true rfl⟩ ⟨Nat.zero_le _, Nat.zero_le _⟩ (st1 := []) (Nat.le_of_ble_eq_true rfl) dX11_wait_38 (fun r2 w1 h => ?_)
  refine V_istore X dX11_wait_41 (by decide) rfl (ls1 := [(5, .int r2), (4, .int (0 : Int32)), (3, .int s0), (0, .ref (ad 0)), (1, .int l1), (2, .int l2)]) rfl ?_
  refine V_iconst X (v := (1 : Int32)) dX11_wait_43 (by decide) ?_
  refine V_istore X dX11_wait_44 (by decide) rfl (ls1 := [(6, .int (1 : Int32)), (5, .int r2), (4, .int (0 : Int32)), (3, .int s0), (0, .ref (ad 0)), (1, .int l1), (2, .int l2)]) rfl ?_
  refine V_sub X (ls1 := [(0, .ref (ad 0)), (1, .int l1), (2, .int l2), (3, .int s0), (4, .int (0 : Int32)), (5, .int r2), (6, .int (1 : Int32))]) [4, 5, 6, 3, 2, 1, 0] rfl ?_
  obtain ⟨nn, h⟩ := h
  exact v_11_wait_b46 X hr nn _ _ _ _ _ _ _ h
set_option maxRecDepth 20000 in
theorem v_11_wait {a1 : Int32} {a2 : Int32} (X : CXq p s m args meth c cX11_wait 8 yX11_wait.cls ad cy D (AW ad) s.heap) (hr : meth.sig.returnType = (some .int)) {w : Mem} {Q : Int32 → Mem → Prop} (h : wp_11_wait a1 a2 w Q) : V p l e (RM 7) s m args below meth c 8 ad cy D (AW ad) s.heap 0 0 (MQ below (va_Qi Q (BC ad cy D wm wl0) (AW ad)) args s 0 0 (AW ad)) w wm wl0 0 [(0, .ref (ad 0)), (1, .int a1), (2, .int a2)] [] := by
  unfold wp_11_wait at h
  refine V_aload_n X (i := 0) 0 dX11_wait_0 rfl rfl ?_
  refine V_iload_n X (i := 1) 1 dX11_wait_1 rfl rfl ?_
  refine K_11_isMan X (Or.inl q_855) h ⟨Nat.le_of_ble_eq_true rfl, Nat.le_of_ble_eq_true rfl⟩ ⟨Nat.zero_le _, Nat.zero_le _⟩ (st1 := []) (Nat.le_of_ble_eq_true rfl) dX11_wait_2 (fun r2 w1 h => ?_)
  obtain ⟨ht, hf⟩ := h
  refine V_if_eq X (tgt := 17) dX11_wait_5 (by decide) (fun c => ?_) (fun c => ?_)
  · have h := ht c
    refine V_iconst X (v := (-1 : Int32)) dX11_wait_17 (by decide) ?_
    exact V_iret_c X hr dX11_wait_18 h
  · have h := hf c
    refine V_iload_n X (i := 2) 2 dX11_wait_8 rfl rfl ?_
    refine V_iconst X (v := (0 : Int32)) dX11_wait_9 (by decide) ?_
    refine V_iconst X (v := (3 : Int32)) dX11_wait_10 (by decide) ?_
    refine K_11_within X (Or.inl q_532) h ⟨Nat.le_of_ble_eq_true rfl, Nat.le_of_ble_eq_true rfl⟩ ⟨Nat.zero_le _, Nat.zero_le _⟩ (st1 := []) (Nat.le_of_ble_eq_true rfl) dX11_wait_11 (fun r4 w3 h => ?_)
    obtain ⟨ht, hf⟩ := h
    refine V_if_ne X (tgt := 19) dX11_wait_14 (by decide) (fun c => ?_) (fun c => ?_)
    · have h := ht c
      refine V_iload_n X (i := 2) 2 dX11_wait_19 rfl rfl ?_
      refine V_iconst X (v := (2 : Int32)) dX11_wait_20 (by decide) ?_
      obtain ⟨ht, hf⟩ := h
      refine V_icmp_lt X (tgt := 28) dX11_wait_21 (by decide) (fun c => ?_) (fun c => ?_)
      · have h := ht c
        refine V_iconst X (v := (0 : Int32)) dX11_wait_28 (by decide) ?_
        refine V_sub X (ls1 := [(0, .ref (ad 0)), (1, .int a1), (2, .int a2)]) [0, 1, 2] rfl ?_
        exact v_11_wait_b29 X hr _ _ _ _ h
      · have h := hf c
        refine V_iconst X (v := (1 : Int32)) dX11_wait_24 (by decide) ?_
        refine V_goto X (tgt := 29) dX11_wait_25 (by decide) ?_
        refine V_sub X (ls1 := [(0, .ref (ad 0)), (1, .int a1), (2, .int a2)]) [0, 1, 2] rfl ?_
        exact v_11_wait_b29 X hr _ _ _ _ h
    · have h := hf c
      refine V_iconst X (v := (-1 : Int32)) dX11_wait_17 (by decide) ?_
      exact V_iret_c X hr dX11_wait_18 h
theorem c_11_wait {a1 : Int32} {a2 : Int32} (hinj : INJ ad) {w : Mem} {Q : Int32 → Mem → Prop} (h : wp_11_wait a1 a2 w Q) : Met l yX11_wait (TBq yX11_wait cX11_wait 8 (some .int)) (RM 7) (va_Pc [.ref (ad 0), .int a1, .int a2] (PB ad cy D (cmb w wm) wl0)) (va_Qi Q (BC ad cy D wm wl0) (AW ad)) 0 0 (AW ad) := M_enter (by decide) (Nat.le_of_ble_eq_true rfl) hinj (fun p e s m args below meth c X hr => v_11_wait X hr h)
theorem mf_11_wait : MFV yX11_wait cX11_wait 8 (some .int) yX11_wait.cls 2 := ⟨q_995, q_993, q_994, q_1, by decide⟩
theorem K_11_wait {own : String} {idx : Nat} {a1 : Int32} {a2 : Int32} (X : CXq p s m args meth c cc nL own ad cy D A H0) (hL : LK own idx yX11_wait) {w : Mem} {Q : Int32 → Mem → Prop} (h : wp_11_wait a1 a2 w Q) (hR : (RM 7).frames + 1 ≤ R.frames ∧ 8 + (8 + 11) + (RM 7).locals ≤ R.locals) (hce : ce ≤ R.cells ∧ sl ≤ R.slots) (hcat : (st1.map fun v => v.category).sum ≤ 8) (hd : decode cc pc = .ok (.invokevirtual idx, 3)) (kk : ∀ (r : Int32) (u : Mem), Q r u → V p l e R s m args below meth c nL ad cy D A H0 ce sl Qs u wm wl0 (pc + 3) ls (.int r :: st1)) : V p l e R s m args below meth c nL ad cy D A H0 ce sl Qs w wm wl0 pc ls (.int a2 :: .int a1 :: .ref (ad 0) :: st1) := V_callVI_c X mf_11_wait hL (rfl : vwCl[11]? = some (RX11, TX11, 13)) (by decide) (rfl : SK 0 = 11) (Nat.lt_of_lt_of_le (by decide : 0 < 150) (CX_nn X)) (c_11_wait X.2.2.2.2.2.2.2.1 h) (As := [.int a1, .int a2]) rfl ⟨rfl, rfl⟩ hR hce st1 rfl hcat hd kk
set_option maxRecDepth 20000 in
theorem v_11_cost {a1 : Int32} {a2 : Int32} {a3 : Int32} (X : CXq p s m args meth c cX11_cost 4 yX11_cost.cls ad cy D (AW ad) s.heap) (hr : meth.sig.returnType = (some .int)) {w : Mem} {Q : Int32 → Mem → Prop} (h : wp_11_cost a1 a2 a3 w Q) : V p l e (RM 7) s m args below meth c 4 ad cy D (AW ad) s.heap 0 0 (MQ below (va_Qi Q (BC ad cy D wm wl0) (AW ad)) args s 0 0 (AW ad)) w wm wl0 0 [(0, .ref (ad 0)), (1, .int a1), (2, .int a2), (3, .int a3)] [] := by
  unfold wp_11_cost at h
  refine V_aload_n X (i := 0) 0 dX11_cost_0 rfl rfl ?_
  refine V_iload_n X (i := 1) 1 dX11_cost_1 rfl rfl ?_
  refine K_11_isMan X (Or.inl q_855) h ⟨Nat.le_of_ble_eq_true rfl, Nat.le_of_ble_eq_true rfl⟩ ⟨Nat.zero_le _, Nat.zero_le _⟩ (st1 := []) (Nat.le_of_ble_eq_true rfl) dX11_cost_2 (fun r2 w1 h => ?_)
  obtain ⟨ht, hf⟩ := h
  refine V_if_eq X (tgt := 15) dX11_cost_5 (by decide) (fun c => ?_) (fun c => ?_)
  · have h := ht c
    refine V_sipush X (v := (-10000 : Int32)) dX11_cost_15 (by decide) ?_
    exact V_iret_c X hr dX11_cost_18 h
  · have h := hf c
    refine V_iload_n X (i := 2) 2 dX11_cost_8 rfl rfl ?_
    refine K_11_isLate X (Or.inl q_981) h ⟨Nat.le_of_ble_eq_true rfl, Nat.le_of_ble_eq_true rfl⟩ ⟨Nat.zero_le _, Nat.zero_le _⟩ (st1 := []) (Nat.le_of_ble_eq_true rfl) dX11_cost_9 (fun r4 w3 h => ?_)
    obtain ⟨ht, hf⟩ := h
    refine V_if_ne X (tgt := 19) dX11_cost_12 (by decide) (fun c => ?_) (fun c => ?_)
    · have h := ht c
      refine V_aload_n X (i := 0) 0 dX11_cost_19 rfl rfl ?_
      refine V_iload_n X (i := 1) 1 dX11_cost_20 rfl rfl ?_
      refine V_iconst X (v := (0 : Int32)) dX11_cost_21 (by decide) ?_
      refine V_iconst X (v := (0 : Int32)) dX11_cost_22 (by decide) ?_
      refine V_iload_n X (i := 3) 3 dX11_cost_23 rfl rfl ?_
      refine K_11_tryOut X (Or.inl q_984) h ⟨Nat.le_of_ble_eq_true rfl, Nat.le_of_ble_eq_true rfl⟩ ⟨Nat.zero_le _, Nat.zero_le _⟩ (st1 := []) (Nat.le_of_ble_eq_true rfl) dX11_cost_24 (fun r6 w5 h => ?_)
      refine V_aload_n X (i := 0) 0 dX11_cost_27 rfl rfl ?_
      refine V_iload_n X (i := 1) 1 dX11_cost_28 rfl rfl ?_
      refine V_iconst X (v := (0 : Int32)) dX11_cost_29 (by decide) ?_
      refine V_iload_n X (i := 2) 2 dX11_cost_30 rfl rfl ?_
      refine V_iload_n X (i := 3) 3 dX11_cost_31 rfl rfl ?_
      refine K_11_tryOut X (Or.inl q_984) h ⟨Nat.le_of_ble_eq_true rfl, Nat.le_of_ble_eq_true rfl⟩ ⟨Nat.zero_le _, Nat.zero_le _⟩ (st1 := [.int r6]) (Nat.le_of_ble_eq_true rfl) dX11_cost_32 (fun r8 w7 h => ?_)
      refine V_isub X dX11_cost_35 ?_
      exact V_iret_c X hr dX11_cost_36 h
    · have h := hf c
      refine V_sipush X (v := (-10000 : Int32)) dX11_cost_15 (by decide) ?_
      exact V_iret_c X hr dX11_cost_18 h
theorem c_11_cost {a1 : Int32} {a2 : Int32} {a3 : Int32} (hinj : INJ ad) {w : Mem} {Q : Int32 → Mem → Prop} (h : wp_11_cost a1 a2 a3 w Q) : Met l yX11_cost (TBq yX11_cost cX11_cost 4 (some .int)) (RM 7) (va_Pc [.ref (ad 0), .int a1, .int a2, .int a3] (PB ad cy D (cmb w wm) wl0)) (va_Qi Q (BC ad cy D wm wl0) (AW ad)) 0 0 (AW ad) := M_enter (by decide) (Nat.le_of_ble_eq_true rfl) hinj (fun p e s m args below meth c X hr => v_11_cost X hr h)
theorem mf_11_cost : MFV yX11_cost cX11_cost 4 (some .int) yX11_cost.cls 3 := ⟨q_999, q_997, q_998, q_1, by decide⟩
theorem K_11_cost {own : String} {idx : Nat} {a1 : Int32} {a2 : Int32} {a3 : Int32} (X : CXq p s m args meth c cc nL own ad cy D A H0) (hL : LK own idx yX11_cost) {w : Mem} {Q : Int32 → Mem → Prop} (h : wp_11_cost a1 a2 a3 w Q) (hR : (RM 7).frames + 1 ≤ R.frames ∧ 8 + (4 + 11) + (RM 7).locals ≤ R.locals) (hce : ce ≤ R.cells ∧ sl ≤ R.slots) (hcat : (st1.map fun v => v.category).sum ≤ 8) (hd : decode cc pc = .ok (.invokevirtual idx, 3)) (kk : ∀ (r : Int32) (u : Mem), Q r u → V p l e R s m args below meth c nL ad cy D A H0 ce sl Qs u wm wl0 (pc + 3) ls (.int r :: st1)) : V p l e R s m args below meth c nL ad cy D A H0 ce sl Qs w wm wl0 pc ls (.int a3 :: .int a2 :: .int a1 :: .ref (ad 0) :: st1) := V_callVI_c X mf_11_cost hL (rfl : vwCl[11]? = some (RX11, TX11, 13)) (by decide) (rfl : SK 0 = 11) (Nat.lt_of_lt_of_le (by decide : 0 < 150) (CX_nn X)) (c_11_cost X.2.2.2.2.2.2.2.1 h) (As := [.int a1, .int a2, .int a3]) rfl ⟨rfl, rfl⟩ hR hce st1 rfl hcat hd kk
set_option maxRecDepth 20000 in
theorem v_11_pound {a1 : Int32} {a2 : Int32} {a3 : Int32} (X : CXq p s m args meth c cX11_pound 7 yX11_pound.cls ad cy D (AW ad) s.heap) (hr : meth.sig.returnType = (some .int)) {w : Mem} {Q : Int32 → Mem → Prop} (h : wp_11_pound a1 a2 a3 w Q) : V p l e (RM 5) s m args below meth c 7 ad cy D (AW ad) s.heap 0 0 (MQ below (va_Qi Q (BC ad cy D wm wl0) (AW ad)) args s 0 0 (AW ad)) w wm wl0 0 [(0, .ref (ad 0)), (1, .int a1), (2, .int a2), (3, .int a3)] [] := by
  unfold wp_11_pound at h
  refine V_aload_n X (i := 0) 0 dX11_pound_0 rfl rfl ?_
  refine V_iload_n X (i := 1) 1 dX11_pound_1 rfl rfl ?_
  refine K_11_isMan X (Or.inl q_855) h ⟨Nat.le_of_ble_eq_true rfl, Nat.le_of_ble_eq_true rfl⟩ ⟨Nat.zero_le _, Nat.zero_le _⟩ (st1 := []) (Nat.le_of_ble_eq_true rfl) dX11_pound_2 (fun r2 w1 h => ?_)
  obtain ⟨ht, hf⟩ := h
  refine V_if_eq X (tgt := 28) dX11_pound_5 (by decide) (fun c => ?_) (fun c => ?_)
  · have h := ht c
    refine V_sipush X (v := (-10000 : Int32)) dX11_pound_28 (by decide) ?_
    exact V_iret_c X hr dX11_pound_31 h
  · have h := hf c
    refine V_iload_n X (i := 2) 2 dX11_pound_8 rfl rfl ?_
    refine V_iconst X (v := (0 : Int32)) dX11_pound_9 (by decide) ?_
    refine V_bipush X (v := (30 : Int32)) dX11_pound_10 (by decide) ?_
    refine K_11_within X (Or.inl q_532) h ⟨Nat.le_of_ble_eq_true rfl, Nat.le_of_ble_eq_true rfl⟩ ⟨Nat.zero_le _, Nat.zero_le _⟩ (st1 := []) (Nat.le_of_ble_eq_true rfl) dX11_pound_12 (fun r4 w3 h => ?_)
    obtain ⟨ht, hf⟩ := h
    refine V_if_eq X (tgt := 28) dX11_pound_15 (by decide) (fun c => ?_) (fun c => ?_)
    · have h := ht c
      refine V_sipush X (v := (-10000 : Int32)) dX11_pound_28 (by decide) ?_
      exact V_iret_c X hr dX11_pound_31 h
    · have h := hf c
      refine V_iload_n X (i := 3) 3 dX11_pound_18 rfl rfl ?_
      refine V_iconst X (v := (0 : Int32)) dX11_pound_19 (by decide) ?_
      refine V_bipush X (v := (60 : Int32)) dX11_pound_20 (by decide) ?_
      refine K_11_within X (Or.inl q_532) h ⟨Nat.le_of_ble_eq_true rfl, Nat.le_of_ble_eq_true rfl⟩ ⟨Nat.zero_le _, Nat.zero_le _⟩ (st1 := []) (Nat.le_of_ble_eq_true rfl) dX11_pound_22 (fun r6 w5 h => ?_)
      obtain ⟨ht, hf⟩ := h
      refine V_if_ne X (tgt := 32) dX11_pound_25 (by decide) (fun c => ?_) (fun c => ?_)
      · have h := ht c
        refine V_aload_n X (i := 0) 0 dX11_pound_32 rfl rfl ?_
        refine G_11_41 X dX11_pound_33 ?_
        refine G_11_216 X (inst_Text_48).1 (inst_Text_48).2.1 (Text_r6 inst_Text_48) dX11_pound_36 ?_
        refine G_11_220 X (inst_People_80).1 (inst_People_80).2.1 (People_r0 inst_People_80) dX11_pound_39 ?_
        refine V_iload_n X (i := 1) 1 dX11_pound_42 rfl rfl ?_
        obtain ⟨g7, h⟩ := h
        refine V_iald_c X (rfl : SLq 81 = 8) (by decide) (rfl : SK 81 = 14) g7 dX11_pound_43 ?_
        obtain ⟨x8, ex8⟩ : ∃ y : Int32, y = (w5 81 (ix a1)) := ⟨_, rfl⟩
        have h := h x8 ex8
        refine V_istore X dX11_pound_44 (by decide) ex8 (ls1 := [(4, .int x8), (0, .ref (ad 0)), (1, .int a1), (2, .int a2), (3, .int a3)]) rfl ?_
        refine V_aload_n X (i := 0) 1 dX11_pound_46 rfl rfl ?_
        refine G_11_41 X dX11_pound_47 ?_
        refine G_11_216 X (inst_Text_48).1 (inst_Text_48).2.1 (Text_r6 inst_Text_48) dX11_pound_50 ?_
        refine G_11_225 X (inst_People_80).1 (inst_People_80).2.1 (People_r1 inst_People_80) dX11_pound_53 ?_
        refine V_iload_n X (i := 1) 2 dX11_pound_56 rfl rfl ?_
        obtain ⟨g9, h⟩ := h
        refine V_iald_c X (rfl : SLq 82 = 8) (by decide) (rfl : SK 82 = 14) g9 dX11_pound_57 ?_
        obtain ⟨x10, ex10⟩ : ∃ y : Int32, y = (w5 82 (ix a1)) := ⟨_, rfl⟩
        have h := h x10 ex10
        refine V_istore X dX11_pound_58 (by decide) ex10 (ls1 := [(5, .int x10), (4, .int x8), (0, .ref (ad 0)), (1, .int a1), (2, .int a2), (3, .int a3)]) rfl ?_
        refine V_aload_n X (i := 0) 2 dX11_pound_60 rfl rfl ?_
        refine G_11_49 X dX11_pound_61 ?_
        refine V_aload_n X (i := 0) 2 dX11_pound_64 rfl rfl ?_
        refine G_11_56 X dX11_pound_65 ?_
        refine G_11_126 X (inst_Play_89).1 (inst_Play_89).2.1 (Play_r4 inst_Play_89) dX11_pound_68 ?_
        refine K_0_blow X (Or.inl q_783) h ⟨Nat.le_of_ble_eq_true rfl, Nat.le_of_ble_eq_true rfl⟩ ⟨Nat.zero_le _, Nat.zero_le _⟩ (st1 := []) (Nat.le_of_ble_eq_true rfl) dX11_pound_71 (fun w11 h => ?_)
        refine V_aload_n X (i := 0) 2 dX11_pound_74 rfl rfl ?_
        refine G_11_49 X dX11_pound_75 ?_
        refine V_iload X (i := 4) 1 dX11_pound_78 rfl ?_
        refine V_iload_n X (i := 2) 4 dX11_pound_80 rfl rfl ?_
        refine V_isub X dX11_pound_81 ?_
        refine V_iload X (i := 5) 0 dX11_pound_82 rfl ?_
        refine V_iload_n X (i := 3) 5 dX11_pound_84 rfl rfl ?_
        refine V_isub X dX11_pound_85 ?_
        refine V_iconst X (v := (0 : Int32)) dX11_pound_86 (by decide) ?_
        refine V_aload_n X (i := 0) 2 dX11_pound_87 rfl rfl ?_
        refine G_11_56 X dX11_pound_88 ?_
        refine G_11_132 X (inst_Play_89).1 (inst_Play_89).2.1 (Play_r6 inst_Play_89) dX11_pound_91 ?_
        refine V_aload_n X (i := 0) 2 dX11_pound_94 rfl rfl ?_
        refine G_11_56 X dX11_pound_95 ?_
        refine G_11_139 X (inst_Play_89).1 (inst_Play_89).2.1 (Play_r7 inst_Play_89) dX11_pound_98 ?_
        refine K_0_reach X (Or.inl q_1004) h ⟨Nat.le_of_ble_eq_true rfl, Nat.le_of_ble_eq_true rfl⟩ ⟨Nat.zero_le _, Nat.zero_le _⟩ (st1 := []) (Nat.le_of_ble_eq_true rfl) dX11_pound_101 (fun r13 w12 h => ?_)
        refine V_istore X dX11_pound_104 (by decide) rfl (ls1 := [(6, .int r13), (5, .int x10), (4, .int x8), (0, .ref (ad 0)), (1, .int a1), (2, .int a2), (3, .int a3)]) rfl ?_
        refine V_iload X (i := 6) 0 dX11_pound_106 rfl ?_
        refine V_aload_n X (i := 0) 3 dX11_pound_108 rfl rfl ?_
        refine G_11_49 X dX11_pound_109 ?_
        refine V_iload X (i := 4) 2 dX11_pound_112 rfl ?_
        refine V_iload X (i := 5) 1 dX11_pound_114 rfl ?_
        refine V_iconst X (v := (0 : Int32)) dX11_pound_116 (by decide) ?_
        refine V_aload_n X (i := 0) 3 dX11_pound_117 rfl rfl ?_
        refine G_11_56 X dX11_pound_118 ?_
        refine G_11_132 X (inst_Play_89).1 (inst_Play_89).2.1 (Play_r6 inst_Play_89) dX11_pound_121 ?_
        refine V_aload_n X (i := 0) 3 dX11_pound_124 rfl rfl ?_
        refine G_11_56 X dX11_pound_125 ?_
        refine G_11_139 X (inst_Play_89).1 (inst_Play_89).2.1 (Play_r7 inst_Play_89) dX11_pound_128 ?_
        refine K_0_reach X (Or.inl q_1004) h ⟨Nat.le_of_ble_eq_true rfl, Nat.le_of_ble_eq_true rfl⟩ ⟨Nat.zero_le _, Nat.zero_le _⟩ (st1 := [.int r13]) (Nat.le_of_ble_eq_true rfl) dX11_pound_131 (fun r15 w14 h => ?_)
        refine V_isub X dX11_pound_134 ?_
        exact V_iret_c X hr dX11_pound_135 h
      · have h := hf c
        refine V_sipush X (v := (-10000 : Int32)) dX11_pound_28 (by decide) ?_
        exact V_iret_c X hr dX11_pound_31 h
theorem c_11_pound {a1 : Int32} {a2 : Int32} {a3 : Int32} (hinj : INJ ad) {w : Mem} {Q : Int32 → Mem → Prop} (h : wp_11_pound a1 a2 a3 w Q) : Met l yX11_pound (TBq yX11_pound cX11_pound 7 (some .int)) (RM 5) (va_Pc [.ref (ad 0), .int a1, .int a2, .int a3] (PB ad cy D (cmb w wm) wl0)) (va_Qi Q (BC ad cy D wm wl0) (AW ad)) 0 0 (AW ad) := M_enter (by decide) (Nat.le_of_ble_eq_true rfl) hinj (fun p e s m args below meth c X hr => v_11_pound X hr h)
theorem mf_11_pound : MFV yX11_pound cX11_pound 7 (some .int) yX11_pound.cls 3 := ⟨q_1003, q_1001, q_1002, q_1, by decide⟩
theorem K_11_pound {own : String} {idx : Nat} {a1 : Int32} {a2 : Int32} {a3 : Int32} (X : CXq p s m args meth c cc nL own ad cy D A H0) (hL : LK own idx yX11_pound) {w : Mem} {Q : Int32 → Mem → Prop} (h : wp_11_pound a1 a2 a3 w Q) (hR : (RM 5).frames + 1 ≤ R.frames ∧ 8 + (7 + 11) + (RM 5).locals ≤ R.locals) (hce : ce ≤ R.cells ∧ sl ≤ R.slots) (hcat : (st1.map fun v => v.category).sum ≤ 8) (hd : decode cc pc = .ok (.invokevirtual idx, 3)) (kk : ∀ (r : Int32) (u : Mem), Q r u → V p l e R s m args below meth c nL ad cy D A H0 ce sl Qs u wm wl0 (pc + 3) ls (.int r :: st1)) : V p l e R s m args below meth c nL ad cy D A H0 ce sl Qs w wm wl0 pc ls (.int a3 :: .int a2 :: .int a1 :: .ref (ad 0) :: st1) := V_callVI_c X mf_11_pound hL (rfl : vwCl[11]? = some (RX11, TX11, 13)) (by decide) (rfl : SK 0 = 11) (Nat.lt_of_lt_of_le (by decide : 0 < 150) (CX_nn X)) (c_11_pound X.2.2.2.2.2.2.2.1 h) (As := [.int a1, .int a2, .int a3]) rfl ⟨rfl, rfl⟩ hR hce st1 rfl hcat hd kk
set_option maxRecDepth 20000 in
theorem v_11_gain {a1 : Int32} (X : CXq p s m args meth c cX11_gain 3 yX11_gain.cls ad cy D (AW ad) s.heap) (hr : meth.sig.returnType = (some .int)) {w : Mem} {Q : Int32 → Mem → Prop} (h : wp_11_gain a1 w Q) : V p l e (RM 7) s m args below meth c 3 ad cy D (AW ad) s.heap 0 0 (MQ below (va_Qi Q (BC ad cy D wm wl0) (AW ad)) args s 0 0 (AW ad)) w wm wl0 0 [(0, .ref (ad 0)), (1, .int a1)] [] := by
  unfold wp_11_gain at h
  refine V_aload_n X (i := 0) 0 dX11_gain_0 rfl rfl ?_
  refine V_iload_n X (i := 1) 1 dX11_gain_1 rfl rfl ?_
  refine K_11_isMan X (Or.inl q_855) h ⟨Nat.le_of_ble_eq_true rfl, Nat.le_of_ble_eq_true rfl⟩ ⟨Nat.zero_le _, Nat.zero_le _⟩ (st1 := []) (Nat.le_of_ble_eq_true rfl) dX11_gain_2 (fun r2 w1 h => ?_)
  obtain ⟨ht, hf⟩ := h
  refine V_if_ne X (tgt := 12) dX11_gain_5 (by decide) (fun c => ?_) (fun c => ?_)
  · have h := ht c
    refine V_aload_n X (i := 0) 0 dX11_gain_12 rfl rfl ?_
    refine V_iload_n X (i := 1) 1 dX11_gain_13 rfl rfl ?_
    refine V_iconst X (v := (0 : Int32)) dX11_gain_14 (by decide) ?_
    refine V_iconst X (v := (0 : Int32)) dX11_gain_15 (by decide) ?_
    refine V_iconst X (v := (1 : Int32)) dX11_gain_16 (by decide) ?_
    refine K_11_tryOut X (Or.inl q_984) h ⟨Nat.le_of_ble_eq_true rfl, Nat.le_of_ble_eq_true rfl⟩ ⟨Nat.zero_le _, Nat.zero_le _⟩ (st1 := []) (Nat.le_of_ble_eq_true rfl) dX11_gain_17 (fun r4 w3 h => ?_)
    refine V_istore_n X dX11_gain_20 rfl (by decide) rfl (ls1 := [(2, .int r4), (0, .ref (ad 0)), (1, .int a1)]) rfl ?_
    refine V_aload_n X (i := 0) 1 dX11_gain_21 rfl rfl ?_
    refine G_11_49 X dX11_gain_22 ?_
    refine K_0_calmDown X (Or.inl q_1009) h ⟨Nat.le_of_ble_eq_true rfl, Nat.le_of_ble_eq_true rfl⟩ ⟨Nat.zero_le _, Nat.zero_le _⟩ (st1 := []) (Nat.le_of_ble_eq_true rfl) dX11_gain_25 (fun w5 h => ?_)
    refine V_iload_n X (i := 2) 0 dX11_gain_28 rfl rfl ?_
    refine V_aload_n X (i := 0) 1 dX11_gain_29 rfl rfl ?_
    refine V_iload_n X (i := 1) 2 dX11_gain_30 rfl rfl ?_
    refine V_iconst X (v := (0 : Int32)) dX11_gain_31 (by decide) ?_
    refine V_aload_n X (i := 0) 1 dX11_gain_32 rfl rfl ?_
    refine G_11_56 X dX11_gain_33 ?_
    refine G_11_132 X (inst_Play_89).1 (inst_Play_89).2.1 (Play_r6 inst_Play_89) dX11_gain_36 ?_
    refine V_aload_n X (i := 0) 1 dX11_gain_39 rfl rfl ?_
    refine G_11_56 X dX11_gain_40 ?_
    refine G_11_139 X (inst_Play_89).1 (inst_Play_89).2.1 (Play_r7 inst_Play_89) dX11_gain_43 ?_
    refine V_iconst X (v := (1 : Int32)) dX11_gain_46 (by decide) ?_
    refine K_11_jumpNow X (Or.inl q_988) h ⟨Nat.le_of_ble_eq_true rfl, Nat.le_of_ble_eq_true rfl⟩ ⟨Nat.zero_le _, Nat.zero_le _⟩ (st1 := [.int r4]) (Nat.le_of_ble_eq_true rfl) dX11_gain_47 (fun r7 w6 h => ?_)
    refine V_isub X dX11_gain_50 ?_
    exact V_iret_c X hr dX11_gain_51 h
  · have h := hf c
    refine V_sipush X (v := (-10000 : Int32)) dX11_gain_8 (by decide) ?_
    exact V_iret_c X hr dX11_gain_11 h
theorem c_11_gain {a1 : Int32} (hinj : INJ ad) {w : Mem} {Q : Int32 → Mem → Prop} (h : wp_11_gain a1 w Q) : Met l yX11_gain (TBq yX11_gain cX11_gain 3 (some .int)) (RM 7) (va_Pc [.ref (ad 0), .int a1] (PB ad cy D (cmb w wm) wl0)) (va_Qi Q (BC ad cy D wm wl0) (AW ad)) 0 0 (AW ad) := M_enter (by decide) (Nat.le_of_ble_eq_true rfl) hinj (fun p e s m args below meth c X hr => v_11_gain X hr h)
theorem mf_11_gain : MFV yX11_gain cX11_gain 3 (some .int) yX11_gain.cls 1 := ⟨q_1008, q_1006, q_1007, q_1, by decide⟩
theorem K_11_gain {own : String} {idx : Nat} {a1 : Int32} (X : CXq p s m args meth c cc nL own ad cy D A H0) (hL : LK own idx yX11_gain) {w : Mem} {Q : Int32 → Mem → Prop} (h : wp_11_gain a1 w Q) (hR : (RM 7).frames + 1 ≤ R.frames ∧ 8 + (3 + 11) + (RM 7).locals ≤ R.locals) (hce : ce ≤ R.cells ∧ sl ≤ R.slots) (hcat : (st1.map fun v => v.category).sum ≤ 8) (hd : decode cc pc = .ok (.invokevirtual idx, 3)) (kk : ∀ (r : Int32) (u : Mem), Q r u → V p l e R s m args below meth c nL ad cy D A H0 ce sl Qs u wm wl0 (pc + 3) ls (.int r :: st1)) : V p l e R s m args below meth c nL ad cy D A H0 ce sl Qs w wm wl0 pc ls (.int a1 :: .ref (ad 0) :: st1) := V_callVI_c X mf_11_gain hL (rfl : vwCl[11]? = some (RX11, TX11, 13)) (by decide) (rfl : SK 0 = 11) (Nat.lt_of_lt_of_le (by decide : 0 < 150) (CX_nn X)) (c_11_gain X.2.2.2.2.2.2.2.1 h) (As := [.int a1]) rfl ⟨rfl, rfl⟩ hR hce st1 rfl hcat hd kk
set_option maxRecDepth 20000 in
theorem v_11_number {a1 : Int32} (X : CXq p s m args meth c cX11_number 3 yX11_number.cls ad cy D (AW ad) s.heap) (hr : meth.sig.returnType = (some .int)) {w : Mem} {Q : Int32 → Mem → Prop} (h : wp_11_number a1 w Q) : V p l e (RM 6) s m args below meth c 3 ad cy D (AW ad) s.heap 0 0 (MQ below (va_Qi Q (BC ad cy D wm wl0) (AW ad)) args s 0 0 (AW ad)) w wm wl0 0 [(0, .ref (ad 0)), (1, .int a1)] [] := by
  unfold wp_11_number at h
  refine V_aload_n X (i := 0) 0 dX11_number_0 rfl rfl ?_
  refine V_iload_n X (i := 1) 1 dX11_number_1 rfl rfl ?_
  refine K_11_isMan X (Or.inl q_855) h ⟨Nat.le_of_ble_eq_true rfl, Nat.le_of_ble_eq_true rfl⟩ ⟨Nat.zero_le _, Nat.zero_le _⟩ (st1 := []) (Nat.le_of_ble_eq_true rfl) dX11_number_2 (fun r2 w1 h => ?_)
  obtain ⟨ht, hf⟩ := h
  refine V_if_ne X (tgt := 12) dX11_number_5 (by decide) (fun c => ?_) (fun c => ?_)
  · have h := ht c
    refine V_aload_n X (i := 0) 0 dX11_number_12 rfl rfl ?_
    refine G_11_49 X dX11_number_13 ?_
    refine V_aload_n X (i := 0) 0 dX11_number_16 rfl rfl ?_
    refine G_11_56 X dX11_number_17 ?_
    refine G_11_126 X (inst_Play_89).1 (inst_Play_89).2.1 (Play_r4 inst_Play_89) dX11_number_20 ?_
    refine K_0_blow X (Or.inl q_783) h ⟨Nat.le_of_ble_eq_true rfl, Nat.le_of_ble_eq_true rfl⟩ ⟨Nat.zero_le _, Nat.zero_le _⟩ (st1 := []) (Nat.le_of_ble_eq_true rfl) dX11_number_23 (fun w3 h => ?_)
    refine V_aload_n X (i := 0) 0 dX11_number_26 rfl rfl ?_
    refine V_iload_n X (i := 1) 1 dX11_number_27 rfl rfl ?_
    refine V_iconst X (v := (0 : Int32)) dX11_number_28 (by decide) ?_
    refine V_aload_n X (i := 0) 0 dX11_number_29 rfl rfl ?_
    refine G_11_56 X dX11_number_30 ?_
    refine G_11_132 X (inst_Play_89).1 (inst_Play_89).2.1 (Play_r6 inst_Play_89) dX11_number_33 ?_
    refine V_iconst X (v := (0 : Int32)) dX11_number_36 (by decide) ?_
    refine V_iconst X (v := (1 : Int32)) dX11_number_37 (by decide) ?_
    refine K_11_jumpNow X (Or.inl q_988) h ⟨Nat.le_of_ble_eq_true rfl, Nat.le_of_ble_eq_true rfl⟩ ⟨Nat.zero_le _, Nat.zero_le _⟩ (st1 := []) (Nat.le_of_ble_eq_true rfl) dX11_number_38 (fun r5 w4 h => ?_)
    refine V_istore_n X dX11_number_41 rfl (by decide) rfl (ls1 := [(2, .int r5), (0, .ref (ad 0)), (1, .int a1)]) rfl ?_
    refine V_iload_n X (i := 2) 0 dX11_number_42 rfl rfl ?_
    refine V_aload_n X (i := 0) 1 dX11_number_43 rfl rfl ?_
    refine V_iload_n X (i := 1) 2 dX11_number_44 rfl rfl ?_
    refine V_iconst X (v := (0 : Int32)) dX11_number_45 (by decide) ?_
    refine V_aload_n X (i := 0) 1 dX11_number_46 rfl rfl ?_
    refine G_11_56 X dX11_number_47 ?_
    refine G_11_132 X (inst_Play_89).1 (inst_Play_89).2.1 (Play_r6 inst_Play_89) dX11_number_50 ?_
    refine V_aload_n X (i := 0) 1 dX11_number_53 rfl rfl ?_
    refine G_11_41 X dX11_number_54 ?_
    refine G_11_216 X (inst_Text_48).1 (inst_Text_48).2.1 (Text_r6 inst_Text_48) dX11_number_57 ?_
    refine G_11_239 X (inst_People_80).1 (inst_People_80).2.1 (People_r6 inst_People_80) dX11_number_60 ?_
    refine V_iconst X (v := (1 : Int32)) dX11_number_63 (by decide) ?_
    refine V_isub X dX11_number_64 ?_
    refine V_iconst X (v := (1 : Int32)) dX11_number_65 (by decide) ?_
    refine K_11_jumpNow X (Or.inl q_988) h ⟨Nat.le_of_ble_eq_true rfl, Nat.le_of_ble_eq_true rfl⟩ ⟨Nat.zero_le _, Nat.zero_le _⟩ (st1 := [.int r5]) (Nat.le_of_ble_eq_true rfl) dX11_number_66 (fun r7 w6 h => ?_)
    refine V_isub X dX11_number_69 ?_
    exact V_iret_c X hr dX11_number_70 h
  · have h := hf c
    refine V_sipush X (v := (-10000 : Int32)) dX11_number_8 (by decide) ?_
    exact V_iret_c X hr dX11_number_11 h
theorem c_11_number {a1 : Int32} (hinj : INJ ad) {w : Mem} {Q : Int32 → Mem → Prop} (h : wp_11_number a1 w Q) : Met l yX11_number (TBq yX11_number cX11_number 3 (some .int)) (RM 6) (va_Pc [.ref (ad 0), .int a1] (PB ad cy D (cmb w wm) wl0)) (va_Qi Q (BC ad cy D wm wl0) (AW ad)) 0 0 (AW ad) := M_enter (by decide) (Nat.le_of_ble_eq_true rfl) hinj (fun p e s m args below meth c X hr => v_11_number X hr h)
theorem mf_11_number : MFV yX11_number cX11_number 3 (some .int) yX11_number.cls 1 := ⟨q_1016, q_1014, q_1015, q_1, by decide⟩
theorem K_11_number {own : String} {idx : Nat} {a1 : Int32} (X : CXq p s m args meth c cc nL own ad cy D A H0) (hL : LK own idx yX11_number) {w : Mem} {Q : Int32 → Mem → Prop} (h : wp_11_number a1 w Q) (hR : (RM 6).frames + 1 ≤ R.frames ∧ 8 + (3 + 11) + (RM 6).locals ≤ R.locals) (hce : ce ≤ R.cells ∧ sl ≤ R.slots) (hcat : (st1.map fun v => v.category).sum ≤ 8) (hd : decode cc pc = .ok (.invokevirtual idx, 3)) (kk : ∀ (r : Int32) (u : Mem), Q r u → V p l e R s m args below meth c nL ad cy D A H0 ce sl Qs u wm wl0 (pc + 3) ls (.int r :: st1)) : V p l e R s m args below meth c nL ad cy D A H0 ce sl Qs w wm wl0 pc ls (.int a1 :: .ref (ad 0) :: st1) := V_callVI_c X mf_11_number hL (rfl : vwCl[11]? = some (RX11, TX11, 13)) (by decide) (rfl : SK 0 = 11) (Nat.lt_of_lt_of_le (by decide : 0 < 150) (CX_nn X)) (c_11_number X.2.2.2.2.2.2.2.1 h) (As := [.int a1]) rfl ⟨rfl, rfl⟩ hR hce st1 rfl hcat hd kk
set_option maxRecDepth 20000 in
theorem v_11_isSafeGate_b26 (X : CXq p s m args meth c cX11_isSafeGate 4 yX11_isSafeGate.cls ad cy D (AW ad) s.heap) (hr : meth.sig.returnType = (some .boolean)) {Q : Int32 → Mem → Prop} {L2 : Int32 → Int32 → Mem → Prop} (HL2 : ∀ (l1 : Int32) (l2 : Int32) (w : Mem), L2 l1 l2 w → V p l e (RM 5) s m args below meth c 4 ad cy D (AW ad) s.heap 0 0 (MQ below (va_Qi Q (BC ad cy D wm wl0) (AW ad)) args s 0 0 (AW ad)) w wm wl0 2 [(0, .ref (ad 0)), (1, .int l1), (2, .int l2)] []) : ∀ (n : Nat) (l1 : Int32) (l2 : Int32) (l3 : Int32) (w : Mem), wp_11_isSafeGate_b26 Q L2 n l1 l2 l3 w → V p l e (RM 5) s m args below meth c 4 ad cy D (AW ad) s.heap 0 0 (MQ below (va_Qi Q (BC ad cy D wm wl0) (AW ad)) args s 0 0 (AW ad)) w wm wl0 26 [(0, .ref (ad 0)), (1, .int l1), (2, .int l2), (3, .int l3)] [] := by
  intro n
  induction n with
  | zero =>
    intro l1 l2 l3 w h
    exact h.elim
  | succ n ih =>
    intro l1 l2 l3 w h
    unfold wp_11_isSafeGate_b26 at h
    refine V_iload_n X (i := 3) 3 dX11_isSafeGate_26 rfl rfl ?_
    refine V_aload_n X (i := 0) 0 dX11_isSafeGate_27 rfl rfl ?_
    refine G_11_41 X dX11_isSafeGate_28 ?_
    refine G_11_216 X (inst_Text_48).1 (inst_Text_48).2.1 (Text_r6 inst_Text_48) dX11_isSafeGate_31 ?_
    refine G_11_239 X (inst_People_80).1 (inst_People_80).2.1 (People_r6 inst_People_80) dX11_isSafeGate_34 ?_
    obtain ⟨ht, hf⟩ := h
    refine V_icmp_ge X (tgt := 75) dX11_isSafeGate_37 (by decide) (fun c => ?_) (fun c => ?_)
    · have h := ht c
      obtain ⟨x1, ex1⟩ : ∃ y : Int32, y = l2 + (1 : Int32) := ⟨_, rfl⟩
      have h := h x1 ex1
      refine V_iinc X 2 dX11_isSafeGate_75 rfl (by decide) (by rw [ex1]; rfl) (ls1 := [(2, .int x1), (0, .ref (ad 0)), (1, .int l1), (3, .int l3)]) rfl ?_
      refine V_goto X (tgt := 2) dX11_isSafeGate_78 (by decide) ?_
      refine V_sub X (ls1 := [(0, .ref (ad 0)), (1, .int l1), (2, .int x1)]) [1, 2, 0] rfl ?_
      exact HL2 _ _ _ h
    · have h := hf c
      refine V_aload_n X (i := 0) 0 dX11_isSafeGate_40 rfl rfl ?_
      refine G_11_49 X dX11_isSafeGate_41 ?_
      refine V_iload_n X (i := 3) 3 dX11_isSafeGate_44 rfl rfl ?_
      refine V_iconst X (v := (0 : Int32)) dX11_isSafeGate_45 (by decide) ?_
      refine V_iload_n X (i := 1) 1 dX11_isSafeGate_46 rfl rfl ?_
      refine V_aload_n X (i := 0) 0 dX11_isSafeGate_47 rfl rfl ?_
      refine G_11_56 X dX11_isSafeGate_48 ?_
      refine G_11_139 X (inst_Play_89).1 (inst_Play_89).2.1 (Play_r7 inst_Play_89) dX11_isSafeGate_51 ?_
      refine K_0_reachOf X (Or.inl q_916) h ⟨Nat.le_of_ble_eq_true rfl, Nat.le_of_ble_eq_true rfl⟩ ⟨Nat.zero_le _, Nat.zero_le _⟩ (st1 := []) (Nat.le_of_ble_eq_true rfl) dX11_isSafeGate_54 (fun r3 w2 h => ?_)
      refine V_aload_n X (i := 0) 0 dX11_isSafeGate_57 rfl rfl ?_
      refine G_11_41 X dX11_isSafeGate_58 ?_
      refine G_11_331 X (inst_Text_48).1 (inst_Text_48).2.1 (Text_r8 inst_Text_48) dX11_isSafeGate_61 ?_
      obtain ⟨ht, hf⟩ := h
      refine V_icmp_le X (tgt := 69) dX11_isSafeGate_64 (by decide) (fun c => ?_) (fun c => ?_)
      · have h := ht c
        obtain ⟨x4, ex4⟩ : ∃ y : Int32, y = l3 + (1 : Int32) := ⟨_, rfl⟩
        have h := h x4 ex4
        refine V_iinc X 3 dX11_isSafeGate_69 rfl (by decide) (by rw [ex4]; rfl) (ls1 := [(3, .int x4), (0, .ref (ad 0)), (1, .int l1), (2, .int l2)]) rfl ?_
        refine V_goto X (tgt := 26) dX11_isSafeGate_72 (by decide) ?_
        refine V_sub X (ls1 := [(0, .ref (ad 0)), (1, .int l1), (2, .int l2), (3, .int x4)]) [1, 2, 3, 0] rfl ?_
        exact ih _ _ _ _ h
      · have h := hf c
        refine V_iconst X (v := (0 : Int32)) dX11_isSafeGate_67 (by decide) ?_
        exact V_zret_c X hr dX11_isSafeGate_68 rfl h
set_option maxRecDepth 20000 in
theorem v_11_isSafeGate_b2 (X : CXq p s m args meth c cX11_isSafeGate 4 yX11_isSafeGate.cls ad cy D (AW ad) s.heap) (hr : meth.sig.returnType = (some .boolean)) {Q : Int32 → Mem → Prop} : ∀ (n : Nat) (l1 : Int32) (l2 : Int32) (w : Mem), wp_11_isSafeGate_b2 Q n l1 l2 w → V p l e (RM 5) s m args below meth c 4 ad cy D (AW ad) s.heap 0 0 (MQ below (va_Qi Q (BC ad cy D wm wl0) (AW ad)) args s 0 0 (AW ad)) w wm wl0 2 [(0, .ref (ad 0)), (1, .int l1), (2, .int l2)] [] := by
  intro n
  induction n with
  | zero =>
    intro l1 l2 w h
    exact h.elim
  | succ n ih =>
    intro l1 l2 w h
    unfold wp_11_isSafeGate_b2 at h
    refine V_iload_n X (i := 2) 2 dX11_isSafeGate_2 rfl rfl ?_
    refine V_bipush X (v := (9 : Int32)) dX11_isSafeGate_3 (by decide) ?_
    obtain ⟨ht, hf⟩ := h
    refine V_icmp_gt X (tgt := 81) dX11_isSafeGate_5 (by decide) (fun c => ?_) (fun c => ?_)
    · have h := ht c
      refine V_iconst X (v := (1 : Int32)) dX11_isSafeGate_81 (by decide) ?_
      exact V_zret_c X hr dX11_isSafeGate_82 rfl h
    · have h := hf c
      refine V_aload_n X (i := 0) 0 dX11_isSafeGate_8 rfl rfl ?_
      refine G_11_49 X dX11_isSafeGate_9 ?_
      refine V_aload_n X (i := 0) 0 dX11_isSafeGate_12 rfl rfl ?_
      refine G_11_56 X dX11_isSafeGate_13 ?_
      refine G_11_126 X (inst_Play_89).1 (inst_Play_89).2.1 (Play_r4 inst_Play_89) dX11_isSafeGate_16 ?_
      refine V_iload_n X (i := 2) 2 dX11_isSafeGate_19 rfl rfl ?_
      refine V_iadd X dX11_isSafeGate_20 ?_
      refine K_0_blow X (Or.inl q_783) h ⟨Nat.le_of_ble_eq_true rfl, Nat.le_of_ble_eq_true rfl⟩ ⟨Nat.zero_le _, Nat.zero_le _⟩ (st1 := []) (Nat.le_of_ble_eq_true rfl) dX11_isSafeGate_21 (fun w1 h => ?_)
      refine V_iconst X (v := (0 : Int32)) dX11_isSafeGate_24 (by decide) ?_
      refine V_istore_n X dX11_isSafeGate_25 rfl (by decide) rfl (ls1 := [(3, .int (0 : Int32)), (0, .ref (ad 0)), (1, .int l1), (2, .int l2)]) rfl ?_
      refine V_sub X (ls1 := [(0, .ref (ad 0)), (1, .int l1), (2, .int l2), (3, .int (0 : Int32))]) [1, 2, 3, 0] rfl ?_
      obtain ⟨nn, h⟩ := h
      exact v_11_isSafeGate_b26 X hr ih nn _ _ _ _ h
set_option maxRecDepth 20000 in
theorem v_11_isSafeGate {a1 : Int32} (X : CXq p s m args meth c cX11_isSafeGate 4 yX11_isSafeGate.cls ad cy D (AW ad) s.heap) (hr : meth.sig.returnType = (some .boolean)) {w : Mem} {Q : Int32 → Mem → Prop} (h : wp_11_isSafeGate a1 w Q) : V p l e (RM 5) s m args below meth c 4 ad cy D (AW ad) s.heap 0 0 (MQ below (va_Qi Q (BC ad cy D wm wl0) (AW ad)) args s 0 0 (AW ad)) w wm wl0 0 [(0, .ref (ad 0)), (1, .int a1)] [] := by
  unfold wp_11_isSafeGate at h
  refine V_iconst X (v := (0 : Int32)) dX11_isSafeGate_0 (by decide) ?_
  refine V_istore_n X dX11_isSafeGate_1 rfl (by decide) rfl (ls1 := [(2, .int (0 : Int32)), (0, .ref (ad 0)), (1, .int a1)]) rfl ?_
  refine V_sub X (ls1 := [(0, .ref (ad 0)), (1, .int a1), (2, .int (0 : Int32))]) [1, 2, 0] rfl ?_
  obtain ⟨nn, h⟩ := h
  exact v_11_isSafeGate_b2 X hr nn _ _ _ h
theorem c_11_isSafeGate {a1 : Int32} (hinj : INJ ad) {w : Mem} {Q : Int32 → Mem → Prop} (h : wp_11_isSafeGate a1 w Q) : Met l yX11_isSafeGate (TBq yX11_isSafeGate cX11_isSafeGate 4 (some .boolean)) (RM 5) (va_Pc [.ref (ad 0), .int a1] (PB ad cy D (cmb w wm) wl0)) (va_Qi Q (BC ad cy D wm wl0) (AW ad)) 0 0 (AW ad) := M_enter (by decide) (Nat.le_of_ble_eq_true rfl) hinj (fun p e s m args below meth c X hr => v_11_isSafeGate X hr h)
theorem mf_11_isSafeGate : MFV yX11_isSafeGate cX11_isSafeGate 4 (some .boolean) yX11_isSafeGate.cls 1 := ⟨q_1028, q_1027, qs_33, q_1, by decide⟩
theorem K_11_isSafeGate {own : String} {idx : Nat} {a1 : Int32} (X : CXq p s m args meth c cc nL own ad cy D A H0) (hL : LK own idx yX11_isSafeGate) {w : Mem} {Q : Int32 → Mem → Prop} (h : wp_11_isSafeGate a1 w Q) (hR : (RM 5).frames + 1 ≤ R.frames ∧ 8 + (4 + 11) + (RM 5).locals ≤ R.locals) (hce : ce ≤ R.cells ∧ sl ≤ R.slots) (hcat : (st1.map fun v => v.category).sum ≤ 8) (hd : decode cc pc = .ok (.invokevirtual idx, 3)) (kk : ∀ (r : Int32) (u : Mem), Q r u → V p l e R s m args below meth c nL ad cy D A H0 ce sl Qs u wm wl0 (pc + 3) ls (.int r :: st1)) : V p l e R s m args below meth c nL ad cy D A H0 ce sl Qs w wm wl0 pc ls (.int a1 :: .ref (ad 0) :: st1) := V_callVI_c X mf_11_isSafeGate hL (rfl : vwCl[11]? = some (RX11, TX11, 13)) (by decide) (rfl : SK 0 = 11) (Nat.lt_of_lt_of_le (by decide : 0 < 150) (CX_nn X)) (c_11_isSafeGate X.2.2.2.2.2.2.2.1 h) (As := [.int a1]) rfl ⟨rfl, rfl⟩ hR hce st1 rfl hcat hd kk
set_option maxRecDepth 20000 in
theorem v_11_safeGate_b3 (X : CXq p s m args meth c cX11_safeGate 2 yX11_safeGate.cls ad cy D (AW ad) s.heap) (hr : meth.sig.returnType = (some .int)) {Q : Int32 → Mem → Prop} : ∀ (n : Nat) (l1 : Int32) (w : Mem), wp_11_safeGate_b3 Q n l1 w → V p l e (RM 6) s m args below meth c 2 ad cy D (AW ad) s.heap 0 0 (MQ below (va_Qi Q (BC ad cy D wm wl0) (AW ad)) args s 0 0 (AW ad)) w wm wl0 3 [(0, .ref (ad 0)), (1, .int l1)] [] := by
  intro n
  induction n with
  | zero =>
    intro l1 w h
    exact h.elim
  | succ n ih =>
    intro l1 w h
    unfold wp_11_safeGate_b3 at h
    refine V_iload_n X (i := 1) 1 dX11_safeGate_3 rfl rfl ?_
    obtain ⟨ht, hf⟩ := h
    refine V_if_lt X (tgt := 23) dX11_safeGate_4 (by decide) (fun c => ?_) (fun c => ?_)
    · have h := ht c
      refine V_bipush X (v := (-2 : Int32)) dX11_safeGate_23 (by decide) ?_
      exact V_iret_c X hr dX11_safeGate_25 h
    · have h := hf c
      refine V_aload_n X (i := 0) 0 dX11_safeGate_7 rfl rfl ?_
      refine V_iload_n X (i := 1) 1 dX11_safeGate_8 rfl rfl ?_
      refine K_11_isSafeGate X (Or.inl q_1025) h ⟨Nat.le_of_ble_eq_true rfl, Nat.le_of_ble_eq_true rfl⟩ ⟨Nat.zero_le _, Nat.zero_le _⟩ (st1 := []) (Nat.le_of_ble_eq_true rfl) dX11_safeGate_9 (fun r2 w1 h => ?_)
      obtain ⟨ht, hf⟩ := h
      refine V_if_eq X (tgt := 17) dX11_safeGate_12 (by decide) (fun c => ?_) (fun c => ?_)
      · have h := ht c
        obtain ⟨x3, ex3⟩ : ∃ y : Int32, y = l1 + (-1 : Int32) := ⟨_, rfl⟩
        have h := h x3 ex3
        refine V_iinc X 1 dX11_safeGate_17 rfl (by decide) (by rw [ex3]; rfl) (ls1 := [(1, .int x3), (0, .ref (ad 0))]) rfl ?_
        refine V_goto X (tgt := 3) dX11_safeGate_20 (by decide) ?_
        refine V_sub X (ls1 := [(0, .ref (ad 0)), (1, .int x3)]) [1, 0] rfl ?_
        exact ih _ _ h
      · have h := hf c
        refine V_iload_n X (i := 1) 1 dX11_safeGate_15 rfl rfl ?_
        exact V_iret_c X hr dX11_safeGate_16 h
set_option maxRecDepth 20000 in
theorem v_11_safeGate (X : CXq p s m args meth c cX11_safeGate 2 yX11_safeGate.cls ad cy D (AW ad) s.heap) (hr : meth.sig.returnType = (some .int)) {w : Mem} {Q : Int32 → Mem → Prop} (h : wp_11_safeGate w Q) : V p l e (RM 6) s m args below meth c 2 ad cy D (AW ad) s.heap 0 0 (MQ below (va_Qi Q (BC ad cy D wm wl0) (AW ad)) args s 0 0 (AW ad)) w wm wl0 0 [(0, .ref (ad 0))] [] := by
  unfold wp_11_safeGate at h
  refine V_bipush X (v := (40 : Int32)) dX11_safeGate_0 (by decide) ?_
  refine V_istore_n X dX11_safeGate_2 rfl (by decide) rfl (ls1 := [(1, .int (40 : Int32)), (0, .ref (ad 0))]) rfl ?_
  refine V_sub X (ls1 := [(0, .ref (ad 0)), (1, .int (40 : Int32))]) [1, 0] rfl ?_
  obtain ⟨nn, h⟩ := h
  exact v_11_safeGate_b3 X hr nn _ _ h
theorem c_11_safeGate (hinj : INJ ad) {w : Mem} {Q : Int32 → Mem → Prop} (h : wp_11_safeGate w Q) : Met l yX11_safeGate (TBq yX11_safeGate cX11_safeGate 2 (some .int)) (RM 6) (va_Pc [.ref (ad 0)] (PB ad cy D (cmb w wm) wl0)) (va_Qi Q (BC ad cy D wm wl0) (AW ad)) 0 0 (AW ad) := M_enter (by decide) (Nat.le_of_ble_eq_true rfl) hinj (fun p e s m args below meth c X hr => v_11_safeGate X hr h)
theorem mf_11_safeGate : MFV yX11_safeGate cX11_safeGate 2 (some .int) yX11_safeGate.cls 0 := ⟨q_1024, q_1023, qs_32, q_1, by decide⟩
theorem K_11_safeGate {own : String} {idx : Nat} (X : CXq p s m args meth c cc nL own ad cy D A H0) (hL : LK own idx yX11_safeGate) {w : Mem} {Q : Int32 → Mem → Prop} (h : wp_11_safeGate w Q) (hR : (RM 6).frames + 1 ≤ R.frames ∧ 8 + (2 + 11) + (RM 6).locals ≤ R.locals) (hce : ce ≤ R.cells ∧ sl ≤ R.slots) (hcat : (st1.map fun v => v.category).sum ≤ 8) (hd : decode cc pc = .ok (.invokevirtual idx, 3)) (kk : ∀ (r : Int32) (u : Mem), Q r u → V p l e R s m args below meth c nL ad cy D A H0 ce sl Qs u wm wl0 (pc + 3) ls (.int r :: st1)) : V p l e R s m args below meth c nL ad cy D A H0 ce sl Qs w wm wl0 pc ls (.ref (ad 0) :: st1) := V_callVI_c X mf_11_safeGate hL (rfl : vwCl[11]? = some (RX11, TX11, 13)) (by decide) (rfl : SK 0 = 11) (Nat.lt_of_lt_of_le (by decide : 0 < 150) (CX_nn X)) (c_11_safeGate X.2.2.2.2.2.2.2.1 h) (As := []) rfl ⟨rfl, rfl⟩ hR hce st1 rfl hcat hd kk
set_option maxRecDepth 20000 in
theorem v_11_gates_b47 (X : CXq p s m args meth c cX11_gates 5 yX11_gates.cls ad cy D (AW ad) s.heap) (hr : meth.sig.returnType = (some .int)) {Q : Int32 → Mem → Prop} : ∀ (n : Nat) (l2 : Int32) (l3 : Int32) (l4 : Int32) (w : Mem), wp_11_gates_b47 Q n l2 l3 l4 w → V p l e (RM 7) s m args below meth c 5 ad cy D (AW ad) s.heap 0 0 (MQ below (va_Qi Q (BC ad cy D wm wl0) (AW ad)) args s 0 0 (AW ad)) w wm wl0 47 [(0, .ref (ad 0)), (2, .int l2), (3, .int l3), (4, .int l4)] [] := by
  intro n
  induction n with
  | zero =>
    intro l2 l3 l4 w h
    exact h.elim
  | succ n ih =>
    intro l2 l3 l4 w h
    unfold wp_11_gates_b47 at h
    refine V_iload X (i := 4) 3 dX11_gates_47 rfl ?_
    refine V_aload_n X (i := 0) 0 dX11_gates_49 rfl rfl ?_
    refine G_11_41 X dX11_gates_50 ?_
    refine G_11_216 X (inst_Text_48).1 (inst_Text_48).2.1 (Text_r6 inst_Text_48) dX11_gates_53 ?_
    refine G_11_239 X (inst_People_80).1 (inst_People_80).2.1 (People_r6 inst_People_80) dX11_gates_56 ?_
    obtain ⟨ht, hf⟩ := h
    refine V_icmp_ge X (tgt := 89) dX11_gates_59 (by decide) (fun c => ?_) (fun c => ?_)
    · have h := ht c
      refine V_iload_n X (i := 3) 2 dX11_gates_89 rfl rfl ?_
      exact V_iret_c X hr dX11_gates_90 h
    · have h := hf c
      refine V_iload_n X (i := 3) 2 dX11_gates_62 rfl rfl ?_
      refine V_aload_n X (i := 0) 0 dX11_gates_63 rfl rfl ?_
      refine G_11_49 X dX11_gates_64 ?_
      refine V_iload X (i := 4) 3 dX11_gates_67 rfl ?_
      refine V_iconst X (v := (0 : Int32)) dX11_gates_69 (by decide) ?_
      refine V_iload_n X (i := 2) 1 dX11_gates_70 rfl rfl ?_
      refine V_aload_n X (i := 0) 0 dX11_gates_71 rfl rfl ?_
      refine G_11_56 X dX11_gates_72 ?_
      refine G_11_139 X (inst_Play_89).1 (inst_Play_89).2.1 (Play_r7 inst_Play_89) dX11_gates_75 ?_
      refine K_0_reachOf X (Or.inl q_916) h ⟨Nat.le_of_ble_eq_true rfl, Nat.le_of_ble_eq_true rfl⟩ ⟨Nat.zero_le _, Nat.zero_le _⟩ (st1 := [.int l3]) (Nat.le_of_ble_eq_true rfl) dX11_gates_78 (fun r2 w1 h => ?_)
      refine V_iadd X dX11_gates_81 ?_
      obtain ⟨x3, ex3⟩ : ∃ y : Int32, y = (l3 + r2) := ⟨_, rfl⟩
      have h := h x3 ex3
      refine V_istore_n X dX11_gates_82 rfl (by decide) ex3 (ls1 := [(3, .int x3), (0, .ref (ad 0)), (2, .int l2), (4, .int l4)]) rfl ?_
      obtain ⟨x4, ex4⟩ : ∃ y : Int32, y = l4 + (1 : Int32) := ⟨_, rfl⟩
      have h := h x4 ex4
      refine V_iinc X 3 dX11_gates_83 rfl (by decide) (by rw [ex4]; rfl) (ls1 := [(4, .int x4), (3, .int x3), (0, .ref (ad 0)), (2, .int l2)]) rfl ?_
      refine V_goto X (tgt := 47) dX11_gates_86 (by decide) ?_
      refine V_sub X (ls1 := [(0, .ref (ad 0)), (2, .int l2), (3, .int x3), (4, .int x4)]) [2, 3, 1, 0] rfl ?_
      exact ih _ _ _ _ h
set_option maxRecDepth 20000 in
theorem v_11_gates {a1 : Int32} (X : CXq p s m args meth c cX11_gates 5 yX11_gates.cls ad cy D (AW ad) s.heap) (hr : meth.sig.returnType = (some .int)) {w : Mem} {Q : Int32 → Mem → Prop} (h : wp_11_gates a1 w Q) : V p l e (RM 7) s m args below meth c 5 ad cy D (AW ad) s.heap 0 0 (MQ below (va_Qi Q (BC ad cy D wm wl0) (AW ad)) args s 0 0 (AW ad)) w wm wl0 0 [(0, .ref (ad 0)), (1, .int a1)] [] := by
  unfold wp_11_gates at h
  refine V_iload_n X (i := 1) 1 dX11_gates_0 rfl rfl ?_
  refine V_iconst X (v := (0 : Int32)) dX11_gates_1 (by decide) ?_
  refine V_iconst X (v := (1 : Int32)) dX11_gates_2 (by decide) ?_
  refine K_11_within X (Or.inl q_532) h ⟨Nat.le_of_ble_eq_true rfl, Nat.le_of_ble_eq_true rfl⟩ ⟨Nat.zero_le _, Nat.zero_le _⟩ (st1 := []) (Nat.le_of_ble_eq_true rfl) dX11_gates_3 (fun r2 w1 h => ?_)
  obtain ⟨ht, hf⟩ := h
  refine V_if_ne X (tgt := 11) dX11_gates_6 (by decide) (fun c => ?_) (fun c => ?_)
  · have h := ht c
    refine V_aload_n X (i := 0) 0 dX11_gates_11 rfl rfl ?_
    refine K_11_safeGate X (Or.inl q_1021) h ⟨Nat.le_of_ble_eq_true rfl, Nat.le_of_ble_eq_true rfl⟩ ⟨Nat.zero_le _, Nat.zero_le _⟩ (st1 := []) (Nat.le_of_ble_eq_true rfl) dX11_gates_12 (fun r4 w3 h => ?_)
    refine V_istore_n X dX11_gates_15 rfl (by decide) rfl (ls1 := [(2, .int r4), (0, .ref (ad 0)), (1, .int a1)]) rfl ?_
    refine V_iload_n X (i := 1) 2 dX11_gates_16 rfl rfl ?_
    obtain ⟨ht, hf⟩ := h
    refine V_if_eq X (tgt := 26) dX11_gates_17 (by decide) (fun c => ?_) (fun c => ?_)
    · have h := ht c
      refine V_iload_n X (i := 2) 0 dX11_gates_26 rfl rfl ?_
      exact V_iret_c X hr dX11_gates_27 h
    · have h := hf c
      refine V_iload_n X (i := 2) 0 dX11_gates_20 rfl rfl ?_
      refine V_bipush X (v := (-2 : Int32)) dX11_gates_21 (by decide) ?_
      obtain ⟨ht, hf⟩ := h
      refine V_icmp_ne X (tgt := 28) dX11_gates_23 (by decide) (fun c => ?_) (fun c => ?_)
      · have h := ht c
        refine V_aload_n X (i := 0) 1 dX11_gates_28 rfl rfl ?_
        refine G_11_49 X dX11_gates_29 ?_
        refine V_aload_n X (i := 0) 1 dX11_gates_32 rfl rfl ?_
        refine G_11_56 X dX11_gates_33 ?_
        refine G_11_126 X (inst_Play_89).1 (inst_Play_89).2.1 (Play_r4 inst_Play_89) dX11_gates_36 ?_
        refine K_0_blow X (Or.inl q_783) h ⟨Nat.le_of_ble_eq_true rfl, Nat.le_of_ble_eq_true rfl⟩ ⟨Nat.zero_le _, Nat.zero_le _⟩ (st1 := []) (Nat.le_of_ble_eq_true rfl) dX11_gates_39 (fun w5 h => ?_)
        refine V_iconst X (v := (0 : Int32)) dX11_gates_42 (by decide) ?_
        refine V_istore_n X dX11_gates_43 rfl (by decide) rfl (ls1 := [(3, .int (0 : Int32)), (2, .int r4), (0, .ref (ad 0)), (1, .int a1)]) rfl ?_
        refine V_iconst X (v := (0 : Int32)) dX11_gates_44 (by decide) ?_
        refine V_istore X dX11_gates_45 (by decide) rfl (ls1 := [(4, .int (0 : Int32)), (3, .int (0 : Int32)), (2, .int r4), (0, .ref (ad 0)), (1, .int a1)]) rfl ?_
        refine V_sub X (ls1 := [(0, .ref (ad 0)), (2, .int r4), (3, .int (0 : Int32)), (4, .int (0 : Int32))]) [3, 2, 1, 0] rfl ?_
        obtain ⟨nn, h⟩ := h
        exact v_11_gates_b47 X hr nn _ _ _ _ h
      · have h := hf c
        refine V_iload_n X (i := 2) 0 dX11_gates_26 rfl rfl ?_
        exact V_iret_c X hr dX11_gates_27 h
  · have h := hf c
    refine V_iconst X (v := (-1 : Int32)) dX11_gates_9 (by decide) ?_
    exact V_iret_c X hr dX11_gates_10 h
theorem c_11_gates {a1 : Int32} (hinj : INJ ad) {w : Mem} {Q : Int32 → Mem → Prop} (h : wp_11_gates a1 w Q) : Met l yX11_gates (TBq yX11_gates cX11_gates 5 (some .int)) (RM 7) (va_Pc [.ref (ad 0), .int a1] (PB ad cy D (cmb w wm) wl0)) (va_Qi Q (BC ad cy D wm wl0) (AW ad)) 0 0 (AW ad) := M_enter (by decide) (Nat.le_of_ble_eq_true rfl) hinj (fun p e s m args below meth c X hr => v_11_gates X hr h)
theorem mf_11_gates : MFV yX11_gates cX11_gates 5 (some .int) yX11_gates.cls 1 := ⟨q_1020, q_1018, q_1019, q_1, by decide⟩
theorem K_11_gates {own : String} {idx : Nat} {a1 : Int32} (X : CXq p s m args meth c cc nL own ad cy D A H0) (hL : LK own idx yX11_gates) {w : Mem} {Q : Int32 → Mem → Prop} (h : wp_11_gates a1 w Q) (hR : (RM 7).frames + 1 ≤ R.frames ∧ 8 + (5 + 11) + (RM 7).locals ≤ R.locals) (hce : ce ≤ R.cells ∧ sl ≤ R.slots) (hcat : (st1.map fun v => v.category).sum ≤ 8) (hd : decode cc pc = .ok (.invokevirtual idx, 3)) (kk : ∀ (r : Int32) (u : Mem), Q r u → V p l e R s m args below meth c nL ad cy D A H0 ce sl Qs u wm wl0 (pc + 3) ls (.int r :: st1)) : V p l e R s m args below meth c nL ad cy D A H0 ce sl Qs w wm wl0 pc ls (.int a1 :: .ref (ad 0) :: st1) := V_callVI_c X mf_11_gates hL (rfl : vwCl[11]? = some (RX11, TX11, 13)) (by decide) (rfl : SK 0 = 11) (Nat.lt_of_lt_of_le (by decide : 0 < 150) (CX_nn X)) (c_11_gates X.2.2.2.2.2.2.2.1 h) (As := [.int a1]) rfl ⟨rfl, rfl⟩ hR hce st1 rfl hcat hd kk
set_option maxRecDepth 20000 in
theorem v_11_crown_b84 (X : CXq p s m args meth c cX11_crown 5 yX11_crown.cls ad cy D (AW ad) s.heap) (hr : meth.sig.returnType = (some .int)) {Q : Int32 → Mem → Prop} {L25 : Int32 → Int32 → Int32 → Int32 → Mem → Prop} (HL25 : ∀ (l1 : Int32) (l2 : Int32) (l3 : Int32) (l4 : Int32) (w : Mem), L25 l1 l2 l3 l4 w → V p l e (RM 7) s m args below meth c 5 ad cy D (AW ad) s.heap 0 0 (MQ below (va_Qi Q (BC ad cy D wm wl0) (AW ad)) args s 0 0 (AW ad)) w wm wl0 25 [(0, .ref (ad 0)), (1, .int l1), (2, .int l2), (3, .int l3), (4, .int l4)] []) : ∀ (l1 : Int32) (l2 : Int32) (l3 : Int32) (l4 : Int32) (w : Mem), wp_11_crown_b84 Q L25 l1 l2 l3 l4 w → V p l e (RM 7) s m args below meth c 5 ad cy D (AW ad) s.heap 0 0 (MQ below (va_Qi Q (BC ad cy D wm wl0) (AW ad)) args s 0 0 (AW ad)) w wm wl0 84 [(0, .ref (ad 0)), (1, .int l1), (2, .int l2), (3, .int l3), (4, .int l4)] [] := by
  intro l1 l2 l3 l4 w h
  unfold wp_11_crown_b84 at h
  obtain ⟨x1, ex1⟩ : ∃ y : Int32, y = l4 + (1 : Int32) := ⟨_, rfl⟩
  have h := h x1 ex1
  refine V_iinc X 4 dX11_crown_84 rfl (by decide) (by rw [ex1]; rfl) (ls1 := [(4, .int x1), (0, .ref (ad 0)), (1, .int l1), (2, .int l2), (3, .int l3)]) rfl ?_
  refine V_goto X (tgt := 25) dX11_crown_87 (by decide) ?_
  refine V_sub X (ls1 := [(0, .ref (ad 0)), (1, .int l1), (2, .int l2), (3, .int l3), (4, .int x1)]) [1, 2, 3, 4, 0] rfl ?_
  exact HL25 _ _ _ _ _ h
set_option maxRecDepth 20000 in
theorem v_11_crown_b25 (X : CXq p s m args meth c cX11_crown 5 yX11_crown.cls ad cy D (AW ad) s.heap) (hr : meth.sig.returnType = (some .int)) {Q : Int32 → Mem → Prop} : ∀ (n : Nat) (l1 : Int32) (l2 : Int32) (l3 : Int32) (l4 : Int32) (w : Mem), wp_11_crown_b25 Q n l1 l2 l3 l4 w → V p l e (RM 7) s m args below meth c 5 ad cy D (AW ad) s.heap 0 0 (MQ below (va_Qi Q (BC ad cy D wm wl0) (AW ad)) args s 0 0 (AW ad)) w wm wl0 25 [(0, .ref (ad 0)), (1, .int l1), (2, .int l2), (3, .int l3), (4, .int l4)] [] := by
  intro n
  induction n with
  | zero =>
    intro l1 l2 l3 l4 w h
    exact h.elim
  | succ n ih =>
    intro l1 l2 l3 l4 w h
    unfold wp_11_crown_b25 at h
    refine V_iload X (i := 4) 4 dX11_crown_25 rfl ?_
    refine V_iload_n X (i := 2) 2 dX11_crown_27 rfl rfl ?_
    obtain ⟨ht, hf⟩ := h
    refine V_icmp_ge X (tgt := 90) dX11_crown_28 (by decide) (fun c => ?_) (fun c => ?_)
    · have h := ht c
      refine V_aload_n X (i := 0) 0 dX11_crown_90 rfl rfl ?_
      refine G_11_49 X dX11_crown_91 ?_
      refine V_aload_n X (i := 0) 0 dX11_crown_94 rfl rfl ?_
      refine G_11_41 X dX11_crown_95 ?_
      refine G_11_249 X (inst_Text_48).1 (inst_Text_48).2.1 (Text_r17 inst_Text_48) dX11_crown_98 ?_
      obtain ⟨w1, ew1⟩ : ∃ y : Mem, y = st w 87 2 (w 48 17) := ⟨_, rfl⟩
      have h := h w1 ew1
      refine U_11_252 X rfl rfl dX11_crown_101 ew1 ?_
      refine V_iload_n X (i := 3) 3 dX11_crown_104 rfl rfl ?_
      exact V_iret_c X hr dX11_crown_105 h
    · have h := hf c
      refine V_aload_n X (i := 0) 0 dX11_crown_31 rfl rfl ?_
      refine G_11_49 X dX11_crown_32 ?_
      refine V_aload_n X (i := 0) 0 dX11_crown_35 rfl rfl ?_
      refine G_11_41 X dX11_crown_36 ?_
      refine G_11_249 X (inst_Text_48).1 (inst_Text_48).2.1 (Text_r17 inst_Text_48) dX11_crown_39 ?_
      refine V_iload X (i := 4) 4 dX11_crown_42 rfl ?_
      refine V_iadd X dX11_crown_44 ?_
      obtain ⟨w2, ew2⟩ : ∃ y : Mem, y = st w 87 2 ((w 48 17) + l4) := ⟨_, rfl⟩
      have h := h w2 ew2
      refine U_11_252 X rfl rfl dX11_crown_45 ew2 ?_
      refine V_aload_n X (i := 0) 0 dX11_crown_48 rfl rfl ?_
      refine G_11_60 X dX11_crown_49 ?_
      refine V_aload_n X (i := 0) 0 dX11_crown_52 rfl rfl ?_
      refine G_11_56 X dX11_crown_53 ?_
      refine K_5_copy X (Or.inl q_1033) inst_Play_93 inst_Play_89 h ⟨Nat.le_of_ble_eq_true rfl, Nat.le_of_ble_eq_true rfl⟩ ⟨Nat.zero_le _, Nat.zero_le _⟩ (st1 := []) (Nat.le_of_ble_eq_true rfl) dX11_crown_56 (fun w3 h => ?_)
      refine V_aload_n X (i := 0) 0 dX11_crown_59 rfl rfl ?_
      refine V_aload_n X (i := 0) 0 dX11_crown_60 rfl rfl ?_
      refine G_11_60 X dX11_crown_61 ?_
      refine V_bipush X (v := (16 : Int32)) dX11_crown_64 (by decide) ?_
      refine K_11_startByGoes X (Or.inl q_895) inst_Play_93 h ⟨Nat.le_of_ble_eq_true rfl, Nat.le_of_ble_eq_true rfl⟩ ⟨Nat.zero_le _, Nat.zero_le _⟩ (st1 := []) (Nat.le_of_ble_eq_true rfl) dX11_crown_66 (fun r5 w4 h => ?_)
      refine V_pop X dX11_crown_69 rfl ?_
      refine V_aload_n X (i := 0) 0 dX11_crown_70 rfl rfl ?_
      refine G_11_60 X dX11_crown_71 ?_
      refine V_iload_n X (i := 1) 1 dX11_crown_74 rfl rfl ?_
      refine K_5_rankOf X (Or.inl q_863) inst_Play_93 h ⟨Nat.le_of_ble_eq_true rfl, Nat.le_of_ble_eq_true rfl⟩ ⟨Nat.zero_le _, Nat.zero_le _⟩ (st1 := []) (Nat.le_of_ble_eq_true rfl) dX11_crown_75 (fun r7 w6 h => ?_)
      obtain ⟨ht, hf⟩ := h
      refine V_if_ne X (tgt := 84) dX11_crown_78 (by decide) (fun c => ?_) (fun c => ?_)
      · have h := ht c
        refine V_sub X (ls1 := [(0, .ref (ad 0)), (1, .int l1), (2, .int l2), (3, .int l3), (4, .int l4)]) [0, 1, 2, 3, 4] rfl ?_
        exact v_11_crown_b84 X hr ih _ _ _ _ _ h
      · have h := hf c
        obtain ⟨x8, ex8⟩ : ∃ y : Int32, y = l3 + (1 : Int32) := ⟨_, rfl⟩
        have h := h x8 ex8
        refine V_iinc X 3 dX11_crown_81 rfl (by decide) (by rw [ex8]; rfl) (ls1 := [(3, .int x8), (0, .ref (ad 0)), (1, .int l1), (2, .int l2), (4, .int l4)]) rfl ?_
        refine V_sub X (ls1 := [(0, .ref (ad 0)), (1, .int l1), (2, .int l2), (3, .int x8), (4, .int l4)]) [1, 2, 3, 0, 4] rfl ?_
        exact v_11_crown_b84 X hr ih _ _ _ _ _ h
set_option maxRecDepth 20000 in
theorem v_11_crown {a1 : Int32} {a2 : Int32} (X : CXq p s m args meth c cX11_crown 5 yX11_crown.cls ad cy D (AW ad) s.heap) (hr : meth.sig.returnType = (some .int)) {w : Mem} {Q : Int32 → Mem → Prop} (h : wp_11_crown a1 a2 w Q) : V p l e (RM 7) s m args below meth c 5 ad cy D (AW ad) s.heap 0 0 (MQ below (va_Qi Q (BC ad cy D wm wl0) (AW ad)) args s 0 0 (AW ad)) w wm wl0 0 [(0, .ref (ad 0)), (1, .int a1), (2, .int a2)] [] := by
  unfold wp_11_crown at h
  refine V_aload_n X (i := 0) 0 dX11_crown_0 rfl rfl ?_
  refine V_iload_n X (i := 1) 1 dX11_crown_1 rfl rfl ?_
  refine K_11_isMan X (Or.inl q_855) h ⟨Nat.le_of_ble_eq_true rfl, Nat.le_of_ble_eq_true rfl⟩ ⟨Nat.zero_le _, Nat.zero_le _⟩ (st1 := []) (Nat.le_of_ble_eq_true rfl) dX11_crown_2 (fun r2 w1 h => ?_)
  obtain ⟨ht, hf⟩ := h
  refine V_if_eq X (tgt := 18) dX11_crown_5 (by decide) (fun c => ?_) (fun c => ?_)
  · have h := ht c
    refine V_iconst X (v := (-1 : Int32)) dX11_crown_18 (by decide) ?_
    exact V_iret_c X hr dX11_crown_19 h
  · have h := hf c
    refine V_iload_n X (i := 2) 2 dX11_crown_8 rfl rfl ?_
    refine V_iconst X (v := (1 : Int32)) dX11_crown_9 (by decide) ?_
    refine V_bipush X (v := (10 : Int32)) dX11_crown_10 (by decide) ?_
    refine K_11_within X (Or.inl q_532) h ⟨Nat.le_of_ble_eq_true rfl, Nat.le_of_ble_eq_true rfl⟩ ⟨Nat.zero_le _, Nat.zero_le _⟩ (st1 := []) (Nat.le_of_ble_eq_true rfl) dX11_crown_12 (fun r4 w3 h => ?_)
    obtain ⟨ht, hf⟩ := h
    refine V_if_ne X (tgt := 20) dX11_crown_15 (by decide) (fun c => ?_) (fun c => ?_)
    · have h := ht c
      refine V_iconst X (v := (0 : Int32)) dX11_crown_20 (by decide) ?_
      refine V_istore_n X dX11_crown_21 rfl (by decide) rfl (ls1 := [(3, .int (0 : Int32)), (0, .ref (ad 0)), (1, .int a1), (2, .int a2)]) rfl ?_
      refine V_iconst X (v := (0 : Int32)) dX11_crown_22 (by decide) ?_
      refine V_istore X dX11_crown_23 (by decide) rfl (ls1 := [(4, .int (0 : Int32)), (3, .int (0 : Int32)), (0, .ref (ad 0)), (1, .int a1), (2, .int a2)]) rfl ?_
      refine V_sub X (ls1 := [(0, .ref (ad 0)), (1, .int a1), (2, .int a2), (3, .int (0 : Int32)), (4, .int (0 : Int32))]) [2, 3, 4, 1, 0] rfl ?_
      obtain ⟨nn, h⟩ := h
      exact v_11_crown_b25 X hr nn _ _ _ _ _ h
    · have h := hf c
      refine V_iconst X (v := (-1 : Int32)) dX11_crown_18 (by decide) ?_
      exact V_iret_c X hr dX11_crown_19 h
theorem c_11_crown {a1 : Int32} {a2 : Int32} (hinj : INJ ad) {w : Mem} {Q : Int32 → Mem → Prop} (h : wp_11_crown a1 a2 w Q) : Met l yX11_crown (TBq yX11_crown cX11_crown 5 (some .int)) (RM 7) (va_Pc [.ref (ad 0), .int a1, .int a2] (PB ad cy D (cmb w wm) wl0)) (va_Qi Q (BC ad cy D wm wl0) (AW ad)) 0 0 (AW ad) := M_enter (by decide) (Nat.le_of_ble_eq_true rfl) hinj (fun p e s m args below meth c X hr => v_11_crown X hr h)
theorem mf_11_crown : MFV yX11_crown cX11_crown 5 (some .int) yX11_crown.cls 2 := ⟨q_1032, q_1030, q_1031, q_1, by decide⟩
theorem K_11_crown {own : String} {idx : Nat} {a1 : Int32} {a2 : Int32} (X : CXq p s m args meth c cc nL own ad cy D A H0) (hL : LK own idx yX11_crown) {w : Mem} {Q : Int32 → Mem → Prop} (h : wp_11_crown a1 a2 w Q) (hR : (RM 7).frames + 1 ≤ R.frames ∧ 8 + (5 + 11) + (RM 7).locals ≤ R.locals) (hce : ce ≤ R.cells ∧ sl ≤ R.slots) (hcat : (st1.map fun v => v.category).sum ≤ 8) (hd : decode cc pc = .ok (.invokevirtual idx, 3)) (kk : ∀ (r : Int32) (u : Mem), Q r u → V p l e R s m args below meth c nL ad cy D A H0 ce sl Qs u wm wl0 (pc + 3) ls (.int r :: st1)) : V p l e R s m args below meth c nL ad cy D A H0 ce sl Qs w wm wl0 pc ls (.int a2 :: .int a1 :: .ref (ad 0) :: st1) := V_callVI_c X mf_11_crown hL (rfl : vwCl[11]? = some (RX11, TX11, 13)) (by decide) (rfl : SK 0 = 11) (Nat.lt_of_lt_of_le (by decide : 0 < 150) (CX_nn X)) (c_11_crown X.2.2.2.2.2.2.2.1 h) (As := [.int a1, .int a2]) rfl ⟨rfl, rfl⟩ hR hce st1 rfl hcat hd kk
set_option maxRecDepth 20000 in
theorem v_11_pointsWithout {a1 : Int32} {a2 : Int32} {a3 : Int32} (X : CXq p s m args meth c cX11_pointsWithout 6 yX11_pointsWithout.cls ad cy D (AW ad) s.heap) (hr : meth.sig.returnType = (some .int)) {w : Mem} {Q : Int32 → Mem → Prop} (h : wp_11_pointsWithout a1 a2 a3 w Q) : V p l e (RM 4) s m args below meth c 6 ad cy D (AW ad) s.heap 0 0 (MQ below (va_Qi Q (BC ad cy D wm wl0) (AW ad)) args s 0 0 (AW ad)) w wm wl0 0 [(0, .ref (ad 0)), (1, .int a1), (2, .int a2), (3, .int a3)] [] := by
  unfold wp_11_pointsWithout at h
  refine V_aload_n X (i := 0) 0 dX11_pointsWithout_0 rfl rfl ?_
  refine G_11_56 X dX11_pointsWithout_1 ?_
  refine V_iload_n X (i := 1) 1 dX11_pointsWithout_4 rfl rfl ?_
  refine V_iload_n X (i := 2) 2 dX11_pointsWithout_5 rfl rfl ?_
  refine K_5_hasJump X (Or.inl q_830) inst_Play_89 h ⟨Nat.le_of_ble_eq_true rfl, Nat.le_of_ble_eq_true rfl⟩ ⟨Nat.zero_le _, Nat.zero_le _⟩ (st1 := []) (Nat.le_of_ble_eq_true rfl) dX11_pointsWithout_6 (fun r2 w1 h => ?_)
  obtain ⟨ht, hf⟩ := h
  refine V_if_ne X (tgt := 14) dX11_pointsWithout_9 (by decide) (fun c => ?_) (fun c => ?_)
  · have h := ht c
    refine V_aload_n X (i := 0) 0 dX11_pointsWithout_14 rfl rfl ?_
    refine G_11_56 X dX11_pointsWithout_15 ?_
    refine V_iload_n X (i := 1) 1 dX11_pointsWithout_18 rfl rfl ?_
    refine V_iload_n X (i := 2) 2 dX11_pointsWithout_19 rfl rfl ?_
    refine V_iload_n X (i := 3) 3 dX11_pointsWithout_20 rfl rfl ?_
    refine K_5_styleWithout X (Or.inl q_1045) inst_Play_89 h ⟨Nat.le_of_ble_eq_true rfl, Nat.le_of_ble_eq_true rfl⟩ ⟨Nat.zero_le _, Nat.zero_le _⟩ (st1 := []) (Nat.le_of_ble_eq_true rfl) dX11_pointsWithout_21 (fun r4 w3 h => ?_)
    refine V_istore X dX11_pointsWithout_24 (by decide) rfl (ls1 := [(4, .int r4), (0, .ref (ad 0)), (1, .int a1), (2, .int a2), (3, .int a3)]) rfl ?_
    refine V_aload_n X (i := 0) 1 dX11_pointsWithout_26 rfl rfl ?_
    refine G_11_49 X dX11_pointsWithout_27 ?_
    refine V_aload_n X (i := 0) 1 dX11_pointsWithout_30 rfl rfl ?_
    refine G_11_56 X dX11_pointsWithout_31 ?_
    refine V_iload_n X (i := 1) 2 dX11_pointsWithout_34 rfl rfl ?_
    refine V_iload_n X (i := 2) 3 dX11_pointsWithout_35 rfl rfl ?_
    refine V_bipush X (v := (6 : Int32)) dX11_pointsWithout_36 (by decide) ?_
    refine K_5_cell X (Or.inl q_842) inst_Play_89 h ⟨Nat.le_of_ble_eq_true rfl, Nat.le_of_ble_eq_true rfl⟩ ⟨Nat.zero_le _, Nat.zero_le _⟩ (st1 := [.ref (ad 87)]) (Nat.le_of_ble_eq_true rfl) dX11_pointsWithout_38 (fun r6 w5 h => ?_)
    refine K_0_givenFor X (Or.inl q_1050) h ⟨Nat.le_of_ble_eq_true rfl, Nat.le_of_ble_eq_true rfl⟩ ⟨Nat.zero_le _, Nat.zero_le _⟩ (st1 := []) (Nat.le_of_ble_eq_true rfl) dX11_pointsWithout_41 (fun r8 w7 h => ?_)
    refine V_istore X dX11_pointsWithout_44 (by decide) rfl (ls1 := [(5, .int r8), (4, .int r4), (0, .ref (ad 0)), (1, .int a1), (2, .int a2), (3, .int a3)]) rfl ?_
    refine V_aload_n X (i := 0) 2 dX11_pointsWithout_46 rfl rfl ?_
    refine G_11_49 X dX11_pointsWithout_47 ?_
    refine V_aload_n X (i := 0) 2 dX11_pointsWithout_50 rfl rfl ?_
    refine G_11_56 X dX11_pointsWithout_51 ?_
    refine V_iload_n X (i := 1) 3 dX11_pointsWithout_54 rfl rfl ?_
    refine V_iload_n X (i := 2) 4 dX11_pointsWithout_55 rfl rfl ?_
    refine V_iconst X (v := (0 : Int32)) dX11_pointsWithout_56 (by decide) ?_
    refine K_5_cell X (Or.inl q_842) inst_Play_89 h ⟨Nat.le_of_ble_eq_true rfl, Nat.le_of_ble_eq_true rfl⟩ ⟨Nat.zero_le _, Nat.zero_le _⟩ (st1 := [.ref (ad 87)]) (Nat.le_of_ble_eq_true rfl) dX11_pointsWithout_57 (fun r10 w9 h => ?_)
    refine V_iload X (i := 4) 1 dX11_pointsWithout_60 rfl ?_
    refine V_iload X (i := 5) 0 dX11_pointsWithout_62 rfl ?_
    refine V_aload_n X (i := 0) 2 dX11_pointsWithout_64 rfl rfl ?_
    refine G_11_56 X dX11_pointsWithout_65 ?_
    refine V_iload_n X (i := 1) 3 dX11_pointsWithout_68 rfl rfl ?_
    refine V_iload_n X (i := 2) 4 dX11_pointsWithout_69 rfl rfl ?_
    refine V_iconst X (v := (5 : Int32)) dX11_pointsWithout_70 (by decide) ?_
    refine K_5_cell X (Or.inl q_842) inst_Play_89 h ⟨Nat.le_of_ble_eq_true rfl, Nat.le_of_ble_eq_true rfl⟩ ⟨Nat.zero_le _, Nat.zero_le _⟩ (st1 := [.int r8, .int r4, .int r10, .ref (ad 87)]) (Nat.le_of_ble_eq_true rfl) dX11_pointsWithout_71 (fun r12 w11 h => ?_)
    refine K_0_pointsFor X (Or.inl q_1051) h ⟨Nat.le_of_ble_eq_true rfl, Nat.le_of_ble_eq_true rfl⟩ ⟨Nat.zero_le _, Nat.zero_le _⟩ (st1 := []) (Nat.le_of_ble_eq_true rfl) dX11_pointsWithout_74 (fun r14 w13 h => ?_)
    exact V_iret_c X hr dX11_pointsWithout_77 h
  · have h := hf c
    refine V_iconst X (v := (0 : Int32)) dX11_pointsWithout_12 (by decide) ?_
    exact V_iret_c X hr dX11_pointsWithout_13 h
theorem c_11_pointsWithout {a1 : Int32} {a2 : Int32} {a3 : Int32} (hinj : INJ ad) {w : Mem} {Q : Int32 → Mem → Prop} (h : wp_11_pointsWithout a1 a2 a3 w Q) : Met l yX11_pointsWithout (TBq yX11_pointsWithout cX11_pointsWithout 6 (some .int)) (RM 4) (va_Pc [.ref (ad 0), .int a1, .int a2, .int a3] (PB ad cy D (cmb w wm) wl0)) (va_Qi Q (BC ad cy D wm wl0) (AW ad)) 0 0 (AW ad) := M_enter (by decide) (Nat.le_of_ble_eq_true rfl) hinj (fun p e s m args below meth c X hr => v_11_pointsWithout X hr h)
theorem mf_11_pointsWithout : MFV yX11_pointsWithout cX11_pointsWithout 6 (some .int) yX11_pointsWithout.cls 3 := ⟨q_1044, q_1043, qs_34, q_1, by decide⟩
theorem K_11_pointsWithout {own : String} {idx : Nat} {a1 : Int32} {a2 : Int32} {a3 : Int32} (X : CXq p s m args meth c cc nL own ad cy D A H0) (hL : LK own idx yX11_pointsWithout) {w : Mem} {Q : Int32 → Mem → Prop} (h : wp_11_pointsWithout a1 a2 a3 w Q) (hR : (RM 4).frames + 1 ≤ R.frames ∧ 8 + (6 + 11) + (RM 4).locals ≤ R.locals) (hce : ce ≤ R.cells ∧ sl ≤ R.slots) (hcat : (st1.map fun v => v.category).sum ≤ 8) (hd : decode cc pc = .ok (.invokevirtual idx, 3)) (kk : ∀ (r : Int32) (u : Mem), Q r u → V p l e R s m args below meth c nL ad cy D A H0 ce sl Qs u wm wl0 (pc + 3) ls (.int r :: st1)) : V p l e R s m args below meth c nL ad cy D A H0 ce sl Qs w wm wl0 pc ls (.int a3 :: .int a2 :: .int a1 :: .ref (ad 0) :: st1) := V_callVI_c X mf_11_pointsWithout hL (rfl : vwCl[11]? = some (RX11, TX11, 13)) (by decide) (rfl : SK 0 = 11) (Nat.lt_of_lt_of_le (by decide : 0 < 150) (CX_nn X)) (c_11_pointsWithout X.2.2.2.2.2.2.2.1 h) (As := [.int a1, .int a2, .int a3]) rfl ⟨rfl, rfl⟩ hR hce st1 rfl hcat hd kk
set_option maxRecDepth 20000 in
theorem v_11_without_b20 (X : CXq p s m args meth c cX11_without 4 yX11_without.cls ad cy D (AW ad) s.heap) (hr : meth.sig.returnType = (some .int)) {Q : Int32 → Mem → Prop} : ∀ (n : Nat) (l1 : Int32) (l2 : Int32) (l3 : Int32) (w : Mem), wp_11_without_b20 Q n l1 l2 l3 w → V p l e (RM 5) s m args below meth c 4 ad cy D (AW ad) s.heap 0 0 (MQ below (va_Qi Q (BC ad cy D wm wl0) (AW ad)) args s 0 0 (AW ad)) w wm wl0 20 [(0, .ref (ad 0)), (1, .int l1), (2, .int l2), (3, .int l3)] [] := by
  intro n
  induction n with
  | zero =>
    intro l1 l2 l3 w h
    exact h.elim
  | succ n ih =>
    intro l1 l2 l3 w h
    unfold wp_11_without_b20 at h
    refine V_iload_n X (i := 3) 3 dX11_without_20 rfl rfl ?_
    refine V_aload_n X (i := 0) 0 dX11_without_21 rfl rfl ?_
    refine G_11_41 X dX11_without_22 ?_
    refine G_11_216 X (inst_Text_48).1 (inst_Text_48).2.1 (Text_r6 inst_Text_48) dX11_without_25 ?_
    refine G_11_239 X (inst_People_80).1 (inst_People_80).2.1 (People_r6 inst_People_80) dX11_without_28 ?_
    obtain ⟨ht, hf⟩ := h
    refine V_icmp_ge X (tgt := 61) dX11_without_31 (by decide) (fun c => ?_) (fun c => ?_)
    · have h := ht c
      refine V_aload_n X (i := 0) 0 dX11_without_61 rfl rfl ?_
      refine G_11_84 X dX11_without_62 ?_
      refine V_aload_n X (i := 0) 0 dX11_without_65 rfl rfl ?_
      refine G_11_41 X dX11_without_66 ?_
      refine G_11_216 X (inst_Text_48).1 (inst_Text_48).2.1 (Text_r6 inst_Text_48) dX11_without_69 ?_
      refine G_11_239 X (inst_People_80).1 (inst_People_80).2.1 (People_r6 inst_People_80) dX11_without_72 ?_
      refine V_iload_n X (i := 1) 1 dX11_without_75 rfl rfl ?_
      refine K_11_rankAmong X (Or.inl q_1052) (⟨rfl, rfl, by decide⟩ : isArr 149 14 8) h ⟨Nat.le_of_ble_eq_true rfl, Nat.le_of_ble_eq_true rfl⟩ ⟨Nat.zero_le _, Nat.zero_le _⟩ (st1 := []) (Nat.le_of_ble_eq_true rfl) dX11_without_76 (fun r2 w1 h => ?_)
      exact V_iret_c X hr dX11_without_79 h
    · have h := hf c
      refine V_aload_n X (i := 0) 0 dX11_without_34 rfl rfl ?_
      refine G_11_84 X dX11_without_35 ?_
      refine V_iload_n X (i := 3) 3 dX11_without_38 rfl rfl ?_
      refine V_aload_n X (i := 0) 0 dX11_without_39 rfl rfl ?_
      refine V_iload_n X (i := 3) 3 dX11_without_40 rfl rfl ?_
      refine V_iconst X (v := (1 : Int32)) dX11_without_41 (by decide) ?_
      refine V_iload_n X (i := 2) 2 dX11_without_42 rfl rfl ?_
      refine K_11_pointsWithout X (Or.inl q_1041) h ⟨Nat.le_of_ble_eq_true rfl, Nat.le_of_ble_eq_true rfl⟩ ⟨Nat.zero_le _, Nat.zero_le _⟩ (st1 := [.int l3, .ref (ad 149)]) (Nat.le_of_ble_eq_true rfl) dX11_without_43 (fun r4 w3 h => ?_)
      refine V_aload_n X (i := 0) 0 dX11_without_46 rfl rfl ?_
      refine V_iload_n X (i := 3) 3 dX11_without_47 rfl rfl ?_
      refine V_iconst X (v := (2 : Int32)) dX11_without_48 (by decide) ?_
      refine V_iload_n X (i := 2) 2 dX11_without_49 rfl rfl ?_
      refine K_11_pointsWithout X (Or.inl q_1041) h ⟨Nat.le_of_ble_eq_true rfl, Nat.le_of_ble_eq_true rfl⟩ ⟨Nat.zero_le _, Nat.zero_le _⟩ (st1 := [.int r4, .int l3, .ref (ad 149)]) (Nat.le_of_ble_eq_true rfl) dX11_without_50 (fun r6 w5 h => ?_)
      refine V_iadd X dX11_without_53 ?_
      obtain ⟨g7, h⟩ := h
      obtain ⟨w8, ew8⟩ : ∃ y : Mem, y = st w5 149 (ix l3) (r4 + r6) := ⟨_, rfl⟩
      have h := h w8 ew8
      refine V_iast_c X (rfl : SLq 149 = 8) (by decide) (rfl : SK 149 = 14) g7 dX11_without_54 ew8 ?_
      obtain ⟨x9, ex9⟩ : ∃ y : Int32, y = l3 + (1 : Int32) := ⟨_, rfl⟩
      have h := h x9 ex9
      refine V_iinc X 3 dX11_without_55 rfl (by decide) (by rw [ex9]; rfl) (ls1 := [(3, .int x9), (0, .ref (ad 0)), (1, .int l1), (2, .int l2)]) rfl ?_
      refine V_goto X (tgt := 20) dX11_without_58 (by decide) ?_
      refine V_sub X (ls1 := [(0, .ref (ad 0)), (1, .int l1), (2, .int l2), (3, .int x9)]) [1, 2, 3, 0] rfl ?_
      exact ih _ _ _ _ h
set_option maxRecDepth 20000 in
theorem v_11_without {a1 : Int32} {a2 : Int32} (X : CXq p s m args meth c cX11_without 4 yX11_without.cls ad cy D (AW ad) s.heap) (hr : meth.sig.returnType = (some .int)) {w : Mem} {Q : Int32 → Mem → Prop} (h : wp_11_without a1 a2 w Q) : V p l e (RM 5) s m args below meth c 4 ad cy D (AW ad) s.heap 0 0 (MQ below (va_Qi Q (BC ad cy D wm wl0) (AW ad)) args s 0 0 (AW ad)) w wm wl0 0 [(0, .ref (ad 0)), (1, .int a1), (2, .int a2)] [] := by
  unfold wp_11_without at h
  refine V_aload_n X (i := 0) 0 dX11_without_0 rfl rfl ?_
  refine V_iload_n X (i := 1) 1 dX11_without_1 rfl rfl ?_
  refine K_11_isMan X (Or.inl q_855) h ⟨Nat.le_of_ble_eq_true rfl, Nat.le_of_ble_eq_true rfl⟩ ⟨Nat.zero_le _, Nat.zero_le _⟩ (st1 := []) (Nat.le_of_ble_eq_true rfl) dX11_without_2 (fun r2 w1 h => ?_)
  obtain ⟨ht, hf⟩ := h
  refine V_if_eq X (tgt := 16) dX11_without_5 (by decide) (fun c => ?_) (fun c => ?_)
  · have h := ht c
    refine V_iconst X (v := (-1 : Int32)) dX11_without_16 (by decide) ?_
    exact V_iret_c X hr dX11_without_17 h
  · have h := hf c
    refine V_aload_n X (i := 0) 0 dX11_without_8 rfl rfl ?_
    refine V_iload_n X (i := 2) 2 dX11_without_9 rfl rfl ?_
    refine K_11_isJudge X (Or.inl q_847) h ⟨Nat.le_of_ble_eq_true rfl, Nat.le_of_ble_eq_true rfl⟩ ⟨Nat.zero_le _, Nat.zero_le _⟩ (st1 := []) (Nat.le_of_ble_eq_true rfl) dX11_without_10 (fun r4 w3 h => ?_)
    obtain ⟨ht, hf⟩ := h
    refine V_if_ne X (tgt := 18) dX11_without_13 (by decide) (fun c => ?_) (fun c => ?_)
    · have h := ht c
      refine V_iconst X (v := (0 : Int32)) dX11_without_18 (by decide) ?_
      refine V_istore_n X dX11_without_19 rfl (by decide) rfl (ls1 := [(3, .int (0 : Int32)), (0, .ref (ad 0)), (1, .int a1), (2, .int a2)]) rfl ?_
      refine V_sub X (ls1 := [(0, .ref (ad 0)), (1, .int a1), (2, .int a2), (3, .int (0 : Int32))]) [1, 2, 3, 0] rfl ?_
      obtain ⟨nn, h⟩ := h
      exact v_11_without_b20 X hr nn _ _ _ _ h
    · have h := hf c
      refine V_iconst X (v := (-1 : Int32)) dX11_without_16 (by decide) ?_
      exact V_iret_c X hr dX11_without_17 h
theorem c_11_without {a1 : Int32} {a2 : Int32} (hinj : INJ ad) {w : Mem} {Q : Int32 → Mem → Prop} (h : wp_11_without a1 a2 w Q) : Met l yX11_without (TBq yX11_without cX11_without 4 (some .int)) (RM 5) (va_Pc [.ref (ad 0), .int a1, .int a2] (PB ad cy D (cmb w wm) wl0)) (va_Qi Q (BC ad cy D wm wl0) (AW ad)) 0 0 (AW ad) := M_enter (by decide) (Nat.le_of_ble_eq_true rfl) hinj (fun p e s m args below meth c X hr => v_11_without X hr h)
theorem mf_11_without : MFV yX11_without cX11_without 4 (some .int) yX11_without.cls 2 := ⟨q_1040, q_1038, q_1039, q_1, by decide⟩
theorem K_11_without {own : String} {idx : Nat} {a1 : Int32} {a2 : Int32} (X : CXq p s m args meth c cc nL own ad cy D A H0) (hL : LK own idx yX11_without) {w : Mem} {Q : Int32 → Mem → Prop} (h : wp_11_without a1 a2 w Q) (hR : (RM 5).frames + 1 ≤ R.frames ∧ 8 + (4 + 11) + (RM 5).locals ≤ R.locals) (hce : ce ≤ R.cells ∧ sl ≤ R.slots) (hcat : (st1.map fun v => v.category).sum ≤ 8) (hd : decode cc pc = .ok (.invokevirtual idx, 3)) (kk : ∀ (r : Int32) (u : Mem), Q r u → V p l e R s m args below meth c nL ad cy D A H0 ce sl Qs u wm wl0 (pc + 3) ls (.int r :: st1)) : V p l e R s m args below meth c nL ad cy D A H0 ce sl Qs w wm wl0 pc ls (.int a2 :: .int a1 :: .ref (ad 0) :: st1) := V_callVI_c X mf_11_without hL (rfl : vwCl[11]? = some (RX11, TX11, 13)) (by decide) (rfl : SK 0 = 11) (Nat.lt_of_lt_of_le (by decide : 0 < 150) (CX_nn X)) (c_11_without X.2.2.2.2.2.2.2.1 h) (As := [.int a1, .int a2]) rfl ⟨rfl, rfl⟩ hR hce st1 rfl hcat hd kk
set_option maxRecDepth 20000 in
theorem v_11_needs_b141 (X : CXq p s m args meth c cX11_needs 6 yX11_needs.cls ad cy D (AW ad) s.heap) (hr : meth.sig.returnType = (some .int)) {Q : Int32 → Mem → Prop} {L68 : Int32 → Int32 → Int32 → Int32 → Int32 → Mem → Prop} (HL68 : ∀ (l1 : Int32) (l2 : Int32) (l3 : Int32) (l4 : Int32) (l5 : Int32) (w : Mem), L68 l1 l2 l3 l4 l5 w → V p l e (RM 5) s m args below meth c 6 ad cy D (AW ad) s.heap 0 0 (MQ below (va_Qi Q (BC ad cy D wm wl0) (AW ad)) args s 0 0 (AW ad)) w wm wl0 68 [(0, .ref (ad 0)), (1, .int l1), (2, .int l2), (3, .int l3), (4, .int l4), (5, .int l5)] []) : ∀ (l1 : Int32) (l2 : Int32) (l3 : Int32) (l4 : Int32) (l5 : Int32) (w : Mem), wp_11_needs_b141 Q L68 l1 l2 l3 l4 l5 w → V p l e (RM 5) s m args below meth c 6 ad cy D (AW ad) s.heap 0 0 (MQ below (va_Qi Q (BC ad cy D wm wl0) (AW ad)) args s 0 0 (AW ad)) w wm wl0 141 [(0, .ref (ad 0)), (1, .int l1), (2, .int l2), (3, .int l3), (4, .int l4), (5, .int l5)] [] := by
  intro l1 l2 l3 l4 l5 w h
  unfold wp_11_needs_b141 at h
  obtain ⟨x1, ex1⟩ : ∃ y : Int32, y = l5 + (1 : Int32) := ⟨_, rfl⟩
  have h := h x1 ex1
  refine V_iinc X 5 dX11_needs_141 rfl (by decide) (by rw [ex1]; rfl) (ls1 := [(5, .int x1), (0, .ref (ad 0)), (1, .int l1), (2, .int l2), (3, .int l3), (4, .int l4)]) rfl ?_
  refine V_goto X (tgt := 68) dX11_needs_144 (by decide) ?_
  refine V_sub X (ls1 := [(0, .ref (ad 0)), (1, .int l1), (2, .int l2), (3, .int l3), (4, .int l4), (5, .int x1)]) [1, 2, 3, 4, 5, 0] rfl ?_
  exact HL68 _ _ _ _ _ _ h
set_option maxRecDepth 20000 in
theorem v_11_needs_b68 (X : CXq p s m args meth c cX11_needs 6 yX11_needs.cls ad cy D (AW ad) s.heap) (hr : meth.sig.returnType = (some .int)) {Q : Int32 → Mem → Prop} : ∀ (n : Nat) (l1 : Int32) (l2 : Int32) (l3 : Int32) (l4 : Int32) (l5 : Int32) (w : Mem), wp_11_needs_b68 Q n l1 l2 l3 l4 l5 w → V p l e (RM 5) s m args below meth c 6 ad cy D (AW ad) s.heap 0 0 (MQ below (va_Qi Q (BC ad cy D wm wl0) (AW ad)) args s 0 0 (AW ad)) w wm wl0 68 [(0, .ref (ad 0)), (1, .int l1), (2, .int l2), (3, .int l3), (4, .int l4), (5, .int l5)] [] := by
  intro n
  induction n with
  | zero =>
    intro l1 l2 l3 l4 l5 w h
    exact h.elim
  | succ n ih =>
    intro l1 l2 l3 l4 l5 w h
    unfold wp_11_needs_b68 at h
    refine V_iload X (i := 5) 5 dX11_needs_68 rfl ?_
    refine V_sipush X (v := (9999 : Int32)) dX11_needs_70 (by decide) ?_
    obtain ⟨ht, hf⟩ := h
    refine V_icmp_gt X (tgt := 147) dX11_needs_73 (by decide) (fun c => ?_) (fun c => ?_)
    · have h := ht c
      refine V_bipush X (v := (-2 : Int32)) dX11_needs_147 (by decide) ?_
      exact V_iret_c X hr dX11_needs_149 h
    · have h := hf c
      refine V_aload_n X (i := 0) 0 dX11_needs_76 rfl rfl ?_
      refine G_11_49 X dX11_needs_77 ?_
      refine V_iload X (i := 5) 5 dX11_needs_80 rfl ?_
      refine V_iload_n X (i := 3) 3 dX11_needs_82 rfl rfl ?_
      refine V_iload X (i := 4) 4 dX11_needs_83 rfl ?_
      refine V_aload_n X (i := 0) 0 dX11_needs_85 rfl rfl ?_
      refine G_11_56 X dX11_needs_86 ?_
      refine G_11_132 X (inst_Play_89).1 (inst_Play_89).2.1 (Play_r6 inst_Play_89) dX11_needs_89 ?_
      refine K_0_pointsFor X (Or.inl q_1051) h ⟨Nat.le_of_ble_eq_true rfl, Nat.le_of_ble_eq_true rfl⟩ ⟨Nat.zero_le _, Nat.zero_le _⟩ (st1 := []) (Nat.le_of_ble_eq_true rfl) dX11_needs_92 (fun r2 w1 h => ?_)
      refine V_iload_n X (i := 2) 2 dX11_needs_95 rfl rfl ?_
      obtain ⟨ht, hf⟩ := h
      refine V_icmp_ge X (tgt := 102) dX11_needs_96 (by decide) (fun c => ?_) (fun c => ?_)
      · have h := ht c
        refine V_aload_n X (i := 0) 0 dX11_needs_102 rfl rfl ?_
        refine G_11_49 X dX11_needs_103 ?_
        refine V_iload X (i := 5) 5 dX11_needs_106 rfl ?_
        obtain ⟨w3, ew3⟩ : ∃ y : Mem, y = st w1 87 5 l5 := ⟨_, rfl⟩
        have h := h w3 ew3
        refine U_11_195 X rfl rfl dX11_needs_108 ew3 ?_
        refine V_aload_n X (i := 0) 0 dX11_needs_111 rfl rfl ?_
        refine G_11_49 X dX11_needs_112 ?_
        refine V_iload_n X (i := 1) 1 dX11_needs_115 rfl rfl ?_
        refine V_iconst X (v := (0 : Int32)) dX11_needs_116 (by decide) ?_
        refine V_aload_n X (i := 0) 0 dX11_needs_117 rfl rfl ?_
        refine G_11_56 X dX11_needs_118 ?_
        refine G_11_132 X (inst_Play_89).1 (inst_Play_89).2.1 (Play_r6 inst_Play_89) dX11_needs_121 ?_
        refine K_0_judge X (Or.inl q_924) h ⟨Nat.le_of_ble_eq_true rfl, Nat.le_of_ble_eq_true rfl⟩ ⟨Nat.zero_le _, Nat.zero_le _⟩ (st1 := []) (Nat.le_of_ble_eq_true rfl) dX11_needs_124 (fun w4 h => ?_)
        refine V_aload_n X (i := 0) 0 dX11_needs_127 rfl rfl ?_
        refine G_11_49 X dX11_needs_128 ?_
        refine G_11_210 X dX11_needs_131 ?_
        refine V_iload_n X (i := 2) 2 dX11_needs_134 rfl rfl ?_
        obtain ⟨ht, hf⟩ := h
        refine V_icmp_lt X (tgt := 141) dX11_needs_135 (by decide) (fun c => ?_) (fun c => ?_)
        · have h := ht c
          refine V_sub X (ls1 := [(0, .ref (ad 0)), (1, .int l1), (2, .int l2), (3, .int l3), (4, .int l4), (5, .int l5)]) [0, 1, 2, 3, 4, 5] rfl ?_
          exact v_11_needs_b141 X hr ih _ _ _ _ _ _ h
        · have h := hf c
          refine V_iload X (i := 5) 5 dX11_needs_138 rfl ?_
          exact V_iret_c X hr dX11_needs_140 h
      · have h := hf c
        refine V_goto X (tgt := 141) dX11_needs_99 (by decide) ?_
        refine V_sub X (ls1 := [(0, .ref (ad 0)), (1, .int l1), (2, .int l2), (3, .int l3), (4, .int l4), (5, .int l5)]) [0, 1, 2, 3, 4, 5] rfl ?_
        exact v_11_needs_b141 X hr ih _ _ _ _ _ _ h
set_option maxRecDepth 20000 in
theorem v_11_needs {a1 : Int32} (X : CXq p s m args meth c cX11_needs 6 yX11_needs.cls ad cy D (AW ad) s.heap) (hr : meth.sig.returnType = (some .int)) {w : Mem} {Q : Int32 → Mem → Prop} (h : wp_11_needs a1 w Q) : V p l e (RM 5) s m args below meth c 6 ad cy D (AW ad) s.heap 0 0 (MQ below (va_Qi Q (BC ad cy D wm wl0) (AW ad)) args s 0 0 (AW ad)) w wm wl0 0 [(0, .ref (ad 0)), (1, .int a1)] [] := by
  unfold wp_11_needs at h
  refine V_aload_n X (i := 0) 0 dX11_needs_0 rfl rfl ?_
  refine V_iload_n X (i := 1) 1 dX11_needs_1 rfl rfl ?_
  refine K_11_isMan X (Or.inl q_855) h ⟨Nat.le_of_ble_eq_true rfl, Nat.le_of_ble_eq_true rfl⟩ ⟨Nat.zero_le _, Nat.zero_le _⟩ (st1 := []) (Nat.le_of_ble_eq_true rfl) dX11_needs_2 (fun r2 w1 h => ?_)
  obtain ⟨ht, hf⟩ := h
  refine V_if_eq X (tgt := 19) dX11_needs_5 (by decide) (fun c => ?_) (fun c => ?_)
  · have h := ht c
    refine V_iconst X (v := (-1 : Int32)) dX11_needs_19 (by decide) ?_
    exact V_iret_c X hr dX11_needs_20 h
  · have h := hf c
    refine V_aload_n X (i := 0) 0 dX11_needs_8 rfl rfl ?_
    refine G_11_56 X dX11_needs_9 ?_
    refine V_iload_n X (i := 1) 1 dX11_needs_12 rfl rfl ?_
    refine K_5_isToStart X (Or.inl q_1057) inst_Play_89 h ⟨Nat.le_of_ble_eq_true rfl, Nat.le_of_ble_eq_true rfl⟩ ⟨Nat.zero_le _, Nat.zero_le _⟩ (st1 := []) (Nat.le_of_ble_eq_true rfl) dX11_needs_13 (fun r4 w3 h => ?_)
    obtain ⟨ht, hf⟩ := h
    refine V_if_ne X (tgt := 21) dX11_needs_16 (by decide) (fun c => ?_) (fun c => ?_)
    · have h := ht c
      refine V_aload_n X (i := 0) 0 dX11_needs_21 rfl rfl ?_
      refine G_11_56 X dX11_needs_22 ?_
      refine V_iload_n X (i := 1) 1 dX11_needs_25 rfl rfl ?_
      refine K_5_totalToBeFirst X (Or.inl q_1061) inst_Play_89 h ⟨Nat.le_of_ble_eq_true rfl, Nat.le_of_ble_eq_true rfl⟩ ⟨Nat.zero_le _, Nat.zero_le _⟩ (st1 := []) (Nat.le_of_ble_eq_true rfl) dX11_needs_26 (fun r6 w5 h => ?_)
      refine V_aload_n X (i := 0) 0 dX11_needs_29 rfl rfl ?_
      refine G_11_56 X dX11_needs_30 ?_
      refine G_11_170 X (inst_Play_89).1 (inst_Play_89).2.1 (Play_r2 inst_Play_89) dX11_needs_33 ?_
      refine V_iload_n X (i := 1) 1 dX11_needs_36 rfl rfl ?_
      obtain ⟨g7, h⟩ := h
      refine V_iald_c X (rfl : SLq 91 = 8) (by decide) (rfl : SK 91 = 14) g7 dX11_needs_37 ?_
      refine V_isub X dX11_needs_38 ?_
      obtain ⟨x8, ex8⟩ : ∃ y : Int32, y = (r6 - (w5 91 (ix a1))) := ⟨_, rfl⟩
      have h := h x8 ex8
      refine V_istore_n X dX11_needs_39 rfl (by decide) ex8 (ls1 := [(2, .int x8), (0, .ref (ad 0)), (1, .int a1)]) rfl ?_
      refine V_aload_n X (i := 0) 1 dX11_needs_40 rfl rfl ?_
      refine G_11_49 X dX11_needs_41 ?_
      refine K_0_mostStyle X (Or.inl q_1066) h ⟨Nat.le_of_ble_eq_true rfl, Nat.le_of_ble_eq_true rfl⟩ ⟨Nat.zero_le _, Nat.zero_le _⟩ (st1 := []) (Nat.le_of_ble_eq_true rfl) dX11_needs_44 (fun r10 w9 h => ?_)
      refine V_istore_n X dX11_needs_47 rfl (by decide) rfl (ls1 := [(3, .int r10), (2, .int x8), (0, .ref (ad 0)), (1, .int a1)]) rfl ?_
      refine V_aload_n X (i := 0) 2 dX11_needs_48 rfl rfl ?_
      refine G_11_49 X dX11_needs_49 ?_
      refine K_0_calmDown X (Or.inl q_1009) h ⟨Nat.le_of_ble_eq_true rfl, Nat.le_of_ble_eq_true rfl⟩ ⟨Nat.zero_le _, Nat.zero_le _⟩ (st1 := []) (Nat.le_of_ble_eq_true rfl) dX11_needs_52 (fun w11 h => ?_)
      refine V_aload_n X (i := 0) 2 dX11_needs_55 rfl rfl ?_
      refine G_11_49 X dX11_needs_56 ?_
      refine V_iconst X (v := (0 : Int32)) dX11_needs_59 (by decide) ?_
      refine K_0_givenFor X (Or.inl q_1050) h ⟨Nat.le_of_ble_eq_true rfl, Nat.le_of_ble_eq_true rfl⟩ ⟨Nat.zero_le _, Nat.zero_le _⟩ (st1 := []) (Nat.le_of_ble_eq_true rfl) dX11_needs_60 (fun r13 w12 h => ?_)
      refine V_istore X dX11_needs_63 (by decide) rfl (ls1 := [(4, .int r13), (3, .int r10), (2, .int x8), (0, .ref (ad 0)), (1, .int a1)]) rfl ?_
      refine V_iconst X (v := (0 : Int32)) dX11_needs_65 (by decide) ?_
      refine V_istore X dX11_needs_66 (by decide) rfl (ls1 := [(5, .int (0 : Int32)), (4, .int r13), (3, .int r10), (2, .int x8), (0, .ref (ad 0)), (1, .int a1)]) rfl ?_
      refine V_sub X (ls1 := [(0, .ref (ad 0)), (1, .int a1), (2, .int x8), (3, .int r10), (4, .int r13), (5, .int (0 : Int32))]) [4, 5, 3, 2, 1, 0] rfl ?_
      obtain ⟨nn, h⟩ := h
      exact v_11_needs_b68 X hr nn _ _ _ _ _ _ h
    · have h := hf c
      refine V_iconst X (v := (-1 : Int32)) dX11_needs_19 (by decide) ?_
      exact V_iret_c X hr dX11_needs_20 h
theorem c_11_needs {a1 : Int32} (hinj : INJ ad) {w : Mem} {Q : Int32 → Mem → Prop} (h : wp_11_needs a1 w Q) : Met l yX11_needs (TBq yX11_needs cX11_needs 6 (some .int)) (RM 5) (va_Pc [.ref (ad 0), .int a1] (PB ad cy D (cmb w wm) wl0)) (va_Qi Q (BC ad cy D wm wl0) (AW ad)) 0 0 (AW ad) := M_enter (by decide) (Nat.le_of_ble_eq_true rfl) hinj (fun p e s m args below meth c X hr => v_11_needs X hr h)
theorem mf_11_needs : MFV yX11_needs cX11_needs 6 (some .int) yX11_needs.cls 1 := ⟨q_1056, q_1054, q_1055, q_1, by decide⟩
theorem K_11_needs {own : String} {idx : Nat} {a1 : Int32} (X : CXq p s m args meth c cc nL own ad cy D A H0) (hL : LK own idx yX11_needs) {w : Mem} {Q : Int32 → Mem → Prop} (h : wp_11_needs a1 w Q) (hR : (RM 5).frames + 1 ≤ R.frames ∧ 8 + (6 + 11) + (RM 5).locals ≤ R.locals) (hce : ce ≤ R.cells ∧ sl ≤ R.slots) (hcat : (st1.map fun v => v.category).sum ≤ 8) (hd : decode cc pc = .ok (.invokevirtual idx, 3)) (kk : ∀ (r : Int32) (u : Mem), Q r u → V p l e R s m args below meth c nL ad cy D A H0 ce sl Qs u wm wl0 (pc + 3) ls (.int r :: st1)) : V p l e R s m args below meth c nL ad cy D A H0 ce sl Qs w wm wl0 pc ls (.int a1 :: .ref (ad 0) :: st1) := V_callVI_c X mf_11_needs hL (rfl : vwCl[11]? = some (RX11, TX11, 13)) (by decide) (rfl : SK 0 = 11) (Nat.lt_of_lt_of_le (by decide : 0 < 150) (CX_nn X)) (c_11_needs X.2.2.2.2.2.2.2.1 h) (As := [.int a1]) rfl ⟨rfl, rfl⟩ hR hce st1 rfl hcat hd kk
set_option maxRecDepth 20000 in
theorem v_11_spread_b24 (X : CXq p s m args meth c cX11_spread 6 yX11_spread.cls ad cy D (AW ad) s.heap) (hr : meth.sig.returnType = (some .int)) {Q : Int32 → Mem → Prop} : ∀ (n : Nat) (l1 : Int32) (l2 : Int32) (l3 : Int32) (l4 : Int32) (w : Mem), wp_11_spread_b24 Q n l1 l2 l3 l4 w → V p l e (RM 7) s m args below meth c 6 ad cy D (AW ad) s.heap 0 0 (MQ below (va_Qi Q (BC ad cy D wm wl0) (AW ad)) args s 0 0 (AW ad)) w wm wl0 24 [(0, .ref (ad 0)), (1, .int l1), (2, .int l2), (3, .int l3), (4, .int l4)] [] := by
  intro n
  induction n with
  | zero =>
    intro l1 l2 l3 l4 w h
    exact h.elim
  | succ n ih =>
    intro l1 l2 l3 l4 w h
    unfold wp_11_spread_b24 at h
    refine V_iload X (i := 4) 4 dX11_spread_24 rfl ?_
    refine V_aload_n X (i := 0) 0 dX11_spread_26 rfl rfl ?_
    refine G_11_41 X dX11_spread_27 ?_
    refine G_11_188 X (inst_Text_48).1 (inst_Text_48).2.1 (Text_r12 inst_Text_48) dX11_spread_30 ?_
    obtain ⟨ht, hf⟩ := h
    refine V_icmp_gt X (tgt := 67) dX11_spread_33 (by decide) (fun c => ?_) (fun c => ?_)
    · have h := ht c
      refine V_iload_n X (i := 2) 2 dX11_spread_67 rfl rfl ?_
      refine V_iload_n X (i := 3) 3 dX11_spread_68 rfl rfl ?_
      refine V_isub X dX11_spread_69 ?_
      exact V_iret_c X hr dX11_spread_70 h
    · have h := hf c
      refine V_aload_n X (i := 0) 0 dX11_spread_36 rfl rfl ?_
      refine V_iload_n X (i := 1) 1 dX11_spread_37 rfl rfl ?_
      refine V_iload X (i := 4) 4 dX11_spread_38 rfl ?_
      refine V_iconst X (v := (0 : Int32)) dX11_spread_40 (by decide) ?_
      refine V_iconst X (v := (0 : Int32)) dX11_spread_41 (by decide) ?_
      refine K_11_tryOut X (Or.inl q_984) h ⟨Nat.le_of_ble_eq_true rfl, Nat.le_of_ble_eq_true rfl⟩ ⟨Nat.zero_le _, Nat.zero_le _⟩ (st1 := []) (Nat.le_of_ble_eq_true rfl) dX11_spread_42 (fun r2 w1 h => ?_)
      refine V_istore X dX11_spread_45 (by decide) rfl (ls1 := [(5, .int r2), (0, .ref (ad 0)), (1, .int l1), (2, .int l2), (3, .int l3), (4, .int l4)]) rfl ?_
      refine V_iload_n X (i := 2) 3 dX11_spread_47 rfl rfl ?_
      refine V_iload X (i := 5) 0 dX11_spread_48 rfl ?_
      refine V_mmax X dX11_spread_50 q_819 q_642 q_19 q_643 (Nat.le_of_ble_eq_true rfl) (Nat.le_of_ble_eq_true rfl) (Nat.zero_le _) (Nat.zero_le _) ?_
      obtain ⟨x3, ex3⟩ : ∃ y : Int32, y = (mx l2 r2) := ⟨_, rfl⟩
      have h := h x3 ex3
      refine V_istore_n X dX11_spread_53 rfl (by decide) ex3 (ls1 := [(2, .int x3), (5, .int r2), (0, .ref (ad 0)), (1, .int l1), (3, .int l3), (4, .int l4)]) rfl ?_
      refine V_iload_n X (i := 3) 4 dX11_spread_54 rfl rfl ?_
      refine V_iload X (i := 5) 1 dX11_spread_55 rfl ?_
      refine V_mmin X dX11_spread_57 q_818 q_645 q_19 q_646 (Nat.le_of_ble_eq_true rfl) (Nat.le_of_ble_eq_true rfl) (Nat.zero_le _) (Nat.zero_le _) ?_
      obtain ⟨x4, ex4⟩ : ∃ y : Int32, y = (mn l3 r2) := ⟨_, rfl⟩
      have h := h x4 ex4
      refine V_istore_n X dX11_spread_60 rfl (by decide) ex4 (ls1 := [(3, .int x4), (2, .int x3), (5, .int r2), (0, .ref (ad 0)), (1, .int l1), (4, .int l4)]) rfl ?_
      obtain ⟨x5, ex5⟩ : ∃ y : Int32, y = l4 + (1 : Int32) := ⟨_, rfl⟩
      have h := h x5 ex5
      refine V_iinc X 5 dX11_spread_61 rfl (by decide) (by rw [ex5]; rfl) (ls1 := [(4, .int x5), (3, .int x4), (2, .int x3), (5, .int r2), (0, .ref (ad 0)), (1, .int l1)]) rfl ?_
      refine V_goto X (tgt := 24) dX11_spread_64 (by decide) ?_
      refine V_sub X (ls1 := [(0, .ref (ad 0)), (1, .int l1), (2, .int x3), (3, .int x4), (4, .int x5)]) [4, 5, 2, 1, 0] rfl ?_
      exact ih _ _ _ _ _ h
set_option maxRecDepth 20000 in
theorem v_11_spread {a1 : Int32} (X : CXq p s m args meth c cX11_spread 6 yX11_spread.cls ad cy D (AW ad) s.heap) (hr : meth.sig.returnType = (some .int)) {w : Mem} {Q : Int32 → Mem → Prop} (h : wp_11_spread a1 w Q) : V p l e (RM 7) s m args below meth c 6 ad cy D (AW ad) s.heap 0 0 (MQ below (va_Qi Q (BC ad cy D wm wl0) (AW ad)) args s 0 0 (AW ad)) w wm wl0 0 [(0, .ref (ad 0)), (1, .int a1)] [] := by
  unfold wp_11_spread at h
  refine V_aload_n X (i := 0) 0 dX11_spread_0 rfl rfl ?_
  refine V_iload_n X (i := 1) 1 dX11_spread_1 rfl rfl ?_
  refine K_11_isMan X (Or.inl q_855) h ⟨Nat.le_of_ble_eq_true rfl, Nat.le_of_ble_eq_true rfl⟩ ⟨Nat.zero_le _, Nat.zero_le _⟩ (st1 := []) (Nat.le_of_ble_eq_true rfl) dX11_spread_2 (fun r2 w1 h => ?_)
  obtain ⟨ht, hf⟩ := h
  refine V_if_ne X (tgt := 10) dX11_spread_5 (by decide) (fun c => ?_) (fun c => ?_)
  · have h := ht c
    refine V_aload_n X (i := 0) 0 dX11_spread_10 rfl rfl ?_
    refine V_iload_n X (i := 1) 1 dX11_spread_11 rfl rfl ?_
    refine V_iconst X (v := (0 : Int32)) dX11_spread_12 (by decide) ?_
    refine V_iconst X (v := (0 : Int32)) dX11_spread_13 (by decide) ?_
    refine V_iconst X (v := (0 : Int32)) dX11_spread_14 (by decide) ?_
    refine K_11_tryOut X (Or.inl q_984) h ⟨Nat.le_of_ble_eq_true rfl, Nat.le_of_ble_eq_true rfl⟩ ⟨Nat.zero_le _, Nat.zero_le _⟩ (st1 := []) (Nat.le_of_ble_eq_true rfl) dX11_spread_15 (fun r4 w3 h => ?_)
    refine V_istore_n X dX11_spread_18 rfl (by decide) rfl (ls1 := [(2, .int r4), (0, .ref (ad 0)), (1, .int a1)]) rfl ?_
    refine V_iload_n X (i := 2) 0 dX11_spread_19 rfl rfl ?_
    refine V_istore_n X dX11_spread_20 rfl (by decide) rfl (ls1 := [(3, .int r4), (2, .int r4), (0, .ref (ad 0)), (1, .int a1)]) rfl ?_
    refine V_iconst X (v := (1 : Int32)) dX11_spread_21 (by decide) ?_
    refine V_istore X dX11_spread_22 (by decide) rfl (ls1 := [(4, .int (1 : Int32)), (3, .int r4), (2, .int r4), (0, .ref (ad 0)), (1, .int a1)]) rfl ?_
    refine V_sub X (ls1 := [(0, .ref (ad 0)), (1, .int a1), (2, .int r4), (3, .int r4), (4, .int (1 : Int32))]) [3, 4, 2, 1, 0] rfl ?_
    obtain ⟨nn, h⟩ := h
    exact v_11_spread_b24 X hr nn _ _ _ _ _ h
  · have h := hf c
    refine V_iconst X (v := (-1 : Int32)) dX11_spread_8 (by decide) ?_
    exact V_iret_c X hr dX11_spread_9 h
theorem c_11_spread {a1 : Int32} (hinj : INJ ad) {w : Mem} {Q : Int32 → Mem → Prop} (h : wp_11_spread a1 w Q) : Met l yX11_spread (TBq yX11_spread cX11_spread 6 (some .int)) (RM 7) (va_Pc [.ref (ad 0), .int a1] (PB ad cy D (cmb w wm) wl0)) (va_Qi Q (BC ad cy D wm wl0) (AW ad)) 0 0 (AW ad) := M_enter (by decide) (Nat.le_of_ble_eq_true rfl) hinj (fun p e s m args below meth c X hr => v_11_spread X hr h)
theorem mf_11_spread : MFV yX11_spread cX11_spread 6 (some .int) yX11_spread.cls 1 := ⟨q_1074, q_1072, q_1073, q_1, by decide⟩
theorem K_11_spread {own : String} {idx : Nat} {a1 : Int32} (X : CXq p s m args meth c cc nL own ad cy D A H0) (hL : LK own idx yX11_spread) {w : Mem} {Q : Int32 → Mem → Prop} (h : wp_11_spread a1 w Q) (hR : (RM 7).frames + 1 ≤ R.frames ∧ 8 + (6 + 11) + (RM 7).locals ≤ R.locals) (hce : ce ≤ R.cells ∧ sl ≤ R.slots) (hcat : (st1.map fun v => v.category).sum ≤ 8) (hd : decode cc pc = .ok (.invokevirtual idx, 3)) (kk : ∀ (r : Int32) (u : Mem), Q r u → V p l e R s m args below meth c nL ad cy D A H0 ce sl Qs u wm wl0 (pc + 3) ls (.int r :: st1)) : V p l e R s m args below meth c nL ad cy D A H0 ce sl Qs w wm wl0 pc ls (.int a1 :: .ref (ad 0) :: st1) := V_callVI_c X mf_11_spread hL (rfl : vwCl[11]? = some (RX11, TX11, 13)) (by decide) (rfl : SK 0 = 11) (Nat.lt_of_lt_of_le (by decide : 0 < 150) (CX_nn X)) (c_11_spread X.2.2.2.2.2.2.2.1 h) (As := [.int a1]) rfl ⟨rfl, rfl⟩ hR hce st1 rfl hcat hd kk
end
