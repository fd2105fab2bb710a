-- printed by wip/whole/gen6.py out of the decode rows and the tables
section
variable {p : Program} {l : Launch} {e : Env} {R : Room} {s : State} {m : MethodId} {args : Array Value} {below : List Frame} {meth : Method} {c : Code} {cc : ByteArray} {nL : Nat} {ad : Nat → Nat} {cy : Nat → ClassId} {D : va_G} {A : Nat → Prop} {H0 : Heap} {ce sl : Nat} {Qs : State → Prop} {wc wm : Mem} {wl0 : MemL} {pc : Nat} {ls : List (Nat × Value)} {st1 : List Value}
set_option maxRecDepth 20000 in
theorem v_12_isSafe_b17 (X : CXq p s m args meth c cX12_isSafe 4 yX12_isSafe.cls ad cy D (AW ad) s.heap) (hr : meth.sig.returnType = (some .boolean)) (hZ : ad 1000 = 189) {Q : Int32 → Mem → MemL → Prop} {L2 : Int32 → Int32 → Mem → MemL → Prop} (HL2 : ∀ (l1 : Int32) (l2 : Int32) (w : Mem) (wl : MemL), L2 l1 l2 w wl → V p l e (RM 6) s m args below meth c 4 ad cy D (AW ad) s.heap 0 0 (MQ below (va_Qi (fun r (u : Mem × MemL) => Q r u.1 u.2) (BM ad cy D wc) (AW ad)) args s 0 0 (AW ad)) wc w wl 2 [(0, .ref (ad 150)), (1, .int l1), (2, .int l2)] []) : ∀ (n : Nat) (l1 : Int32) (l2 : Int32) (l3 : Int32) (w : Mem) (wl : MemL), wp_12_isSafe_b17 Q L2 n l1 l2 l3 w wl → V p l e (RM 6) s m args below meth c 4 ad cy D (AW ad) s.heap 0 0 (MQ below (va_Qi (fun r (u : Mem × MemL) => Q r u.1 u.2) (BM ad cy D wc) (AW ad)) args s 0 0 (AW ad)) wc w wl 17 [(0, .ref (ad 150)), (1, .int l1), (2, .int l2), (3, .int l3)] [] := by
  intro n
  induction n with
  | zero =>
    intro l1 l2 l3 w wl h
    exact h.elim
  | succ n ih =>
    intro l1 l2 l3 w wl h
    unfold wp_12_isSafe_b17 at h
    refine V_iload_n X (i := 3) 3 dX12_isSafe_17 rfl rfl ?_
    refine V_bipush X (v := (10 : Int32)) dX12_isSafe_18 (by decide) ?_
    obtain ⟨ht, hf⟩ := h
    refine V_icmp_ge X (tgt := 64) dX12_isSafe_20 (by decide) (fun c => ?_) (fun c => ?_)
    · have h := ht c
      obtain ⟨x1, ex1⟩ : ∃ y : Int32, y = l2 + (1 : Int32) := ⟨_, rfl⟩
      have h := h x1 ex1
      refine V_iinc X 2 dX12_isSafe_64 rfl (by decide) (by rw [ex1]; rfl) (ls1 := [(2, .int x1), (0, .ref (ad 150)), (1, .int l1), (3, .int l3)]) rfl ?_
      refine V_goto X (tgt := 2) dX12_isSafe_67 (by decide) ?_
      refine V_sub X (ls1 := [(0, .ref (ad 150)), (1, .int l1), (2, .int x1)]) [1, 2, 0] rfl ?_
      exact HL2 _ _ _ _ h
    · have h := hf c
      refine V_aload_n X (i := 0) 0 dX12_isSafe_23 rfl rfl ?_
      refine V_iload_n X (i := 2) 2 dX12_isSafe_24 rfl rfl ?_
      refine V_aload_n X (i := 0) 0 dX12_isSafe_25 rfl rfl ?_
      refine G_12_110 X hZ dX12_isSafe_26 ?_
      refine V_iconst X (v := (0 : Int32)) dX12_isSafe_29 (by decide) ?_
      refine V_iald_m X (rfl : SLq 181 = 260) (hzk hZ (by decide)) (rfl : SK 181 = 14) (vpl (by decide)) dX12_isSafe_30 ?_
      refine V_iload_n X (i := 3) 3 dX12_isSafe_31 rfl rfl ?_
      refine V_iadd X dX12_isSafe_32 ?_
      refine V_iconst X (v := (0 : Int32)) dX12_isSafe_33 (by decide) ?_
      refine V_iload_n X (i := 1) 1 dX12_isSafe_34 rfl rfl ?_
      refine V_aload_n X (i := 0) 0 dX12_isSafe_35 rfl rfl ?_
      refine G_12_110 X hZ dX12_isSafe_36 ?_
      refine V_iconst X (v := (3 : Int32)) dX12_isSafe_39 (by decide) ?_
      refine V_iald_m X (rfl : SLq 181 = 260) (hzk hZ (by decide)) (rfl : SK 181 = 14) (vpl (by decide)) dX12_isSafe_40 ?_
      refine K_12_setsJump X (Or.inl q_1664) hZ h ⟨Nat.le_of_ble_eq_true rfl, Nat.le_of_ble_eq_true rfl⟩ ⟨Nat.zero_le _, Nat.zero_le _⟩ (st1 := []) (Nat.le_of_ble_eq_true rfl) dX12_isSafe_41 (fun w2 v3 h => ?_)
      refine V_aload_n X (i := 0) 0 dX12_isSafe_44 rfl rfl ?_
      refine G_12_365 X hZ dX12_isSafe_45 ?_
      refine V_aload_n X (i := 0) 0 dX12_isSafe_48 rfl rfl ?_
      refine V_iconst X (v := (1 : Int32)) dX12_isSafe_49 (by decide) ?_
      refine K_12_tell0 X (Or.inl q_1203) hZ h ⟨Nat.le_of_ble_eq_true rfl, Nat.le_of_ble_eq_true rfl⟩ ⟨Nat.zero_le _, Nat.zero_le _⟩ (st1 := [.int (w2 150 59)]) (Nat.le_of_ble_eq_true rfl) dX12_isSafe_50 (fun r5 w4 v6 h => ?_)
      obtain ⟨ht, hf⟩ := h
      refine V_icmp_le X (tgt := 58) dX12_isSafe_53 (by decide) (fun c => ?_) (fun c => ?_)
      · have h := ht c
        obtain ⟨x7, ex7⟩ : ∃ y : Int32, y = l3 + (1 : Int32) := ⟨_, rfl⟩
        have h := h x7 ex7
        refine V_iinc X 3 dX12_isSafe_58 rfl (by decide) (by rw [ex7]; rfl) (ls1 := [(3, .int x7), (0, .ref (ad 150)), (1, .int l1), (2, .int l2)]) rfl ?_
        refine V_goto X (tgt := 17) dX12_isSafe_61 (by decide) ?_
        refine V_sub X (ls1 := [(0, .ref (ad 150)), (1, .int l1), (2, .int l2), (3, .int x7)]) [1, 2, 3, 0] rfl ?_
        exact ih _ _ _ _ _ h
      · have h := hf c
        refine V_iconst X (v := (0 : Int32)) dX12_isSafe_56 (by decide) ?_
        exact V_zret_m X hr dX12_isSafe_57 rfl h
set_option maxRecDepth 20000 in
theorem v_12_isSafe_b2 (X : CXq p s m args meth c cX12_isSafe 4 yX12_isSafe.cls ad cy D (AW ad) s.heap) (hr : meth.sig.returnType = (some .boolean)) (hZ : ad 1000 = 189) {Q : Int32 → Mem → MemL → Prop} : ∀ (n : Nat) (l1 : Int32) (l2 : Int32) (w : Mem) (wl : MemL), wp_12_isSafe_b2 Q n l1 l2 w wl → V p l e (RM 6) s m args below meth c 4 ad cy D (AW ad) s.heap 0 0 (MQ below (va_Qi (fun r (u : Mem × MemL) => Q r u.1 u.2) (BM ad cy D wc) (AW ad)) args s 0 0 (AW ad)) wc w wl 2 [(0, .ref (ad 150)), (1, .int l1), (2, .int l2)] [] := by
  intro n
  induction n with
  | zero =>
    intro l1 l2 w wl h
    exact h.elim
  | succ n ih =>
    intro l1 l2 w wl h
    unfold wp_12_isSafe_b2 at h
    refine V_iload_n X (i := 2) 2 dX12_isSafe_2 rfl rfl ?_
    refine V_aload_n X (i := 0) 0 dX12_isSafe_3 rfl rfl ?_
    refine G_12_46 X hZ dX12_isSafe_4 ?_
    refine V_aload_n X (i := 0) 0 dX12_isSafe_7 rfl rfl ?_
    refine G_12_218 X hZ dX12_isSafe_8 ?_
    obtain ⟨g1, h⟩ := h
    refine V_iald_m X (rfl : SLq 160 = 2) (hzk hZ (by decide)) (rfl : SK 160 = 14) g1 dX12_isSafe_11 ?_
    obtain ⟨ht, hf⟩ := h
    refine V_icmp_ge X (tgt := 70) dX12_isSafe_12 (by decide) (fun c => ?_) (fun c => ?_)
    · have h := ht c
      refine V_iconst X (v := (1 : Int32)) dX12_isSafe_70 (by decide) ?_
      exact V_zret_m X hr dX12_isSafe_71 rfl h
    · have h := hf c
      refine V_iconst X (v := (0 : Int32)) dX12_isSafe_15 (by decide) ?_
      refine V_istore_n X dX12_isSafe_16 rfl (by decide) rfl (ls1 := [(3, .int (0 : Int32)), (0, .ref (ad 150)), (1, .int l1), (2, .int l2)]) rfl ?_
      refine V_sub X (ls1 := [(0, .ref (ad 150)), (1, .int l1), (2, .int l2), (3, .int (0 : Int32))]) [1, 2, 3, 0] rfl ?_
      obtain ⟨nn, h⟩ := h
      exact v_12_isSafe_b17 X hr hZ ih nn _ _ _ _ _ h
set_option maxRecDepth 20000 in
theorem v_12_isSafe {a1 : Int32} (X : CXq p s m args meth c cX12_isSafe 4 yX12_isSafe.cls ad cy D (AW ad) s.heap) (hr : meth.sig.returnType = (some .boolean)) (hZ : ad 1000 = 189) {w : Mem} {wl : MemL} {Q : Int32 → Mem → MemL → Prop} (h : wp_12_isSafe a1 w wl Q) : V p l e (RM 6) s m args below meth c 4 ad cy D (AW ad) s.heap 0 0 (MQ below (va_Qi (fun r (u : Mem × MemL) => Q r u.1 u.2) (BM ad cy D wc) (AW ad)) args s 0 0 (AW ad)) wc w wl 0 [(0, .ref (ad 150)), (1, .int a1)] [] := by
  unfold wp_12_isSafe at h
  refine V_iconst X (v := (0 : Int32)) dX12_isSafe_0 (by decide) ?_
  refine V_istore_n X dX12_isSafe_1 rfl (by decide) rfl (ls1 := [(2, .int (0 : Int32)), (0, .ref (ad 150)), (1, .int a1)]) rfl ?_
  refine V_sub X (ls1 := [(0, .ref (ad 150)), (1, .int a1), (2, .int (0 : Int32))]) [1, 2, 0] rfl ?_
  obtain ⟨nn, h⟩ := h
  exact v_12_isSafe_b2 X hr hZ nn _ _ _ _ h
theorem c_12_isSafe {a1 : Int32} (hinj : INJ ad) (hZ : ad 1000 = 189) {w : Mem} {wl : MemL} {Q : Int32 → Mem → MemL → Prop} (h : wp_12_isSafe a1 w wl Q) : Met l yX12_isSafe (TBq yX12_isSafe cX12_isSafe 4 (some .boolean)) (RM 6) (va_Pc [.ref (ad 150), .int a1] (PB ad cy D (cmb wc w) wl)) (va_Qi (fun r (u : Mem × MemL) => Q r u.1 u.2) (BM ad cy D wc) (AW ad)) 0 0 (AW ad) := M_enter (by decide) (Nat.le_of_ble_eq_true rfl) hinj (fun p e s m args below meth c X hr => v_12_isSafe X hr hZ h)
theorem mf_12_isSafe : MFV yX12_isSafe cX12_isSafe 4 (some .boolean) yX12_isSafe.cls 1 := ⟨q_1739, q_1738, qs_90, q_14, by decide⟩
theorem K_12_isSafe {own : String} {idx : Nat} {a1 : Int32} (X : CXq p s m args meth c cc nL own ad cy D A H0) (hL : LK own idx yX12_isSafe) (hZ : ad 1000 = 189) {w : Mem} {wl : MemL} {Q : Int32 → Mem → MemL → Prop} (h : wp_12_isSafe a1 w wl Q) (hR : (RM 6).frames + 1 ≤ R.frames ∧ 8 + (4 + 11) + (RM 6).locals ≤ R.locals) (hce : ce ≤ R.cells ∧ sl ≤ R.slots) (hcat : (st1.map fun v => v.category).sum ≤ 8) (hd : decode cc pc = .ok (.invokevirtual idx, 3)) (kk : ∀ (r : Int32) (u : Mem) (v : MemL), Q r u v → V p l e R s m args below meth c nL ad cy D A H0 ce sl Qs wc u v (pc + 3) ls (.int r :: st1)) : V p l e R s m args below meth c nL ad cy D A H0 ce sl Qs wc w wl pc ls (.int a1 :: .ref (ad 150) :: st1) := V_callVI_m X mf_12_isSafe hL (rfl : vwCl[12]? = some (RX12, TX12, 72)) (by decide) (rfl : SK 150 = 12) (hzk hZ (by decide)).2 (c_12_isSafe X.2.2.2.2.2.2.2.1 hZ h) (As := [.int a1]) rfl ⟨rfl, rfl⟩ hR hce st1 rfl hcat hd kk
set_option maxRecDepth 20000 in
theorem v_12_gates_b54 (X : CXq p s m args meth c cX12_gates 5 yX12_gates.cls ad cy D (AW ad) s.heap) (hr : meth.sig.returnType = (some .int)) (hZ : ad 1000 = 189) {Q : Int32 → Mem → MemL → Prop} : ∀ (n : Nat) (l2 : Int32) (l3 : Int32) (l4 : Int32) (w : Mem) (wl : MemL), wp_12_gates_b54 Q n l2 l3 l4 w wl → V p l e (RM 7) s m args below meth c 5 ad cy D (AW ad) s.heap 0 0 (MQ below (va_Qi (fun r (u : Mem × MemL) => Q r u.1 u.2) (BM ad cy D wc) (AW ad)) args s 0 0 (AW ad)) wc w wl 54 [(0, .ref (ad 150)), (2, .int l2), (3, .int l3), (4, .int l4)] [] := by
  intro n
  induction n with
  | zero =>
    intro l2 l3 l4 w wl h
    exact h.elim
  | succ n ih =>
    intro l2 l3 l4 w wl h
    unfold wp_12_gates_b54 at h
    refine V_iload X (i := 4) 3 dX12_gates_54 rfl ?_
    refine V_aload_n X (i := 0) 0 dX12_gates_56 rfl rfl ?_
    refine G_12_46 X hZ dX12_gates_57 ?_
    refine V_aload_n X (i := 0) 0 dX12_gates_60 rfl rfl ?_
    refine G_12_218 X hZ dX12_gates_61 ?_
    obtain ⟨g1, h⟩ := h
    refine V_iald_m X (rfl : SLq 160 = 2) (hzk hZ (by decide)) (rfl : SK 160 = 14) g1 dX12_gates_64 ?_
    obtain ⟨ht, hf⟩ := h
    refine V_icmp_ge X (tgt := 101) dX12_gates_65 (by decide) (fun c => ?_) (fun c => ?_)
    · have h := ht c
      refine V_iload_n X (i := 3) 2 dX12_gates_101 rfl rfl ?_
      exact V_iret_m X hr dX12_gates_102 h
    · have h := hf c
      refine V_aload_n X (i := 0) 0 dX12_gates_68 rfl rfl ?_
      refine V_iload X (i := 4) 3 dX12_gates_69 rfl ?_
      refine V_aload_n X (i := 0) 0 dX12_gates_71 rfl rfl ?_
      refine G_12_110 X hZ dX12_gates_72 ?_
      refine V_iconst X (v := (0 : Int32)) dX12_gates_75 (by decide) ?_
      refine V_iald_m X (rfl : SLq 181 = 260) (hzk hZ (by decide)) (rfl : SK 181 = 14) (vpl (by decide)) dX12_gates_76 ?_
      refine V_iconst X (v := (0 : Int32)) dX12_gates_77 (by decide) ?_
      refine V_iload_n X (i := 2) 1 dX12_gates_78 rfl rfl ?_
      refine V_aload_n X (i := 0) 0 dX12_gates_79 rfl rfl ?_
      refine G_12_110 X hZ dX12_gates_80 ?_
      refine V_iconst X (v := (3 : Int32)) dX12_gates_83 (by decide) ?_
      refine V_iald_m X (rfl : SLq 181 = 260) (hzk hZ (by decide)) (rfl : SK 181 = 14) (vpl (by decide)) dX12_gates_84 ?_
      refine K_12_setsJump X (Or.inl q_1664) hZ h ⟨Nat.le_of_ble_eq_true rfl, Nat.le_of_ble_eq_true rfl⟩ ⟨Nat.zero_le _, Nat.zero_le _⟩ (st1 := []) (Nat.le_of_ble_eq_true rfl) dX12_gates_85 (fun w2 v3 h => ?_)
      refine V_iload_n X (i := 3) 2 dX12_gates_88 rfl rfl ?_
      refine V_aload_n X (i := 0) 0 dX12_gates_89 rfl rfl ?_
      refine G_12_365 X hZ dX12_gates_90 ?_
      refine V_iadd X dX12_gates_93 ?_
      obtain ⟨x4, ex4⟩ : ∃ y : Int32, y = (l3 + (w2 150 59)) := ⟨_, rfl⟩
      have h := h x4 ex4
      refine V_istore_n X dX12_gates_94 rfl (by decide) ex4 (ls1 := [(3, .int x4), (0, .ref (ad 150)), (2, .int l2), (4, .int l4)]) rfl ?_
      obtain ⟨x5, ex5⟩ : ∃ y : Int32, y = l4 + (1 : Int32) := ⟨_, rfl⟩
      have h := h x5 ex5
      refine V_iinc X 3 dX12_gates_95 rfl (by decide) (by rw [ex5]; rfl) (ls1 := [(4, .int x5), (3, .int x4), (0, .ref (ad 150)), (2, .int l2)]) rfl ?_
      refine V_goto X (tgt := 54) dX12_gates_98 (by decide) ?_
      refine V_sub X (ls1 := [(0, .ref (ad 150)), (2, .int l2), (3, .int x4), (4, .int x5)]) [2, 3, 1, 0] rfl ?_
      exact ih _ _ _ _ _ h
set_option maxRecDepth 20000 in
theorem v_12_gates_b36 (X : CXq p s m args meth c cX12_gates 5 yX12_gates.cls ad cy D (AW ad) s.heap) (hr : meth.sig.returnType = (some .int)) (hZ : ad 1000 = 189) {Q : Int32 → Mem → MemL → Prop} : ∀ (l1 : Int32) (l2 : Int32) (w : Mem) (wl : MemL), wp_12_gates_b36 Q l1 l2 w wl → V p l e (RM 7) s m args below meth c 5 ad cy D (AW ad) s.heap 0 0 (MQ below (va_Qi (fun r (u : Mem × MemL) => Q r u.1 u.2) (BM ad cy D wc) (AW ad)) args s 0 0 (AW ad)) wc w wl 36 [(0, .ref (ad 150)), (1, .int l1), (2, .int l2)] [] := by
  intro l1 l2 w wl h
  unfold wp_12_gates_b36 at h
  refine V_iload_n X (i := 2) 2 dX12_gates_36 rfl rfl ?_
  obtain ⟨ht, hf⟩ := h
  refine V_if_ge X (tgt := 43) dX12_gates_37 (by decide) (fun c => ?_) (fun c => ?_)
  · have h := ht c
    refine V_iload_n X (i := 1) 1 dX12_gates_43 rfl rfl ?_
    obtain ⟨ht, hf⟩ := h
    refine V_if_ne X (tgt := 49) dX12_gates_44 (by decide) (fun c => ?_) (fun c => ?_)
    · have h := ht c
      refine V_iconst X (v := (0 : Int32)) dX12_gates_49 (by decide) ?_
      refine V_istore_n X dX12_gates_50 rfl (by decide) rfl (ls1 := [(3, .int (0 : Int32)), (0, .ref (ad 150)), (1, .int l1), (2, .int l2)]) rfl ?_
      refine V_iconst X (v := (0 : Int32)) dX12_gates_51 (by decide) ?_
      refine V_istore X dX12_gates_52 (by decide) rfl (ls1 := [(4, .int (0 : Int32)), (3, .int (0 : Int32)), (0, .ref (ad 150)), (1, .int l1), (2, .int l2)]) rfl ?_
      refine V_sub X (ls1 := [(0, .ref (ad 150)), (2, .int l2), (3, .int (0 : Int32)), (4, .int (0 : Int32))]) [2, 4, 1, 0] rfl ?_
      obtain ⟨nn, h⟩ := h
      exact v_12_gates_b54 X hr hZ nn _ _ _ _ _ h
    · have h := hf c
      refine V_iload_n X (i := 2) 2 dX12_gates_47 rfl rfl ?_
      exact V_iret_m X hr dX12_gates_48 h
  · have h := hf c
    refine V_bipush X (v := (-2 : Int32)) dX12_gates_40 (by decide) ?_
    exact V_iret_m X hr dX12_gates_42 h
set_option maxRecDepth 20000 in
theorem v_12_gates_b18 (X : CXq p s m args meth c cX12_gates 5 yX12_gates.cls ad cy D (AW ad) s.heap) (hr : meth.sig.returnType = (some .int)) (hZ : ad 1000 = 189) {Q : Int32 → Mem → MemL → Prop} : ∀ (n : Nat) (l1 : Int32) (l2 : Int32) (w : Mem) (wl : MemL), wp_12_gates_b18 Q n l1 l2 w wl → V p l e (RM 7) s m args below meth c 5 ad cy D (AW ad) s.heap 0 0 (MQ below (va_Qi (fun r (u : Mem × MemL) => Q r u.1 u.2) (BM ad cy D wc) (AW ad)) args s 0 0 (AW ad)) wc w wl 18 [(0, .ref (ad 150)), (1, .int l1), (2, .int l2)] [] := by
  intro n
  induction n with
  | zero =>
    intro l1 l2 w wl h
    exact h.elim
  | succ n ih =>
    intro l1 l2 w wl h
    unfold wp_12_gates_b18 at h
    refine V_iload_n X (i := 2) 2 dX12_gates_18 rfl rfl ?_
    obtain ⟨ht, hf⟩ := h
    refine V_if_lt X (tgt := 36) dX12_gates_19 (by decide) (fun c => ?_) (fun c => ?_)
    · have h := ht c
      refine V_sub X (ls1 := [(0, .ref (ad 150)), (1, .int l1), (2, .int l2)]) [0, 1, 2] rfl ?_
      exact v_12_gates_b36 X hr hZ _ _ _ _ h
    · have h := hf c
      refine V_aload_n X (i := 0) 0 dX12_gates_22 rfl rfl ?_
      refine V_iload_n X (i := 2) 2 dX12_gates_23 rfl rfl ?_
      refine K_12_isSafe X (Or.inl q_1736) hZ h ⟨Nat.le_of_ble_eq_true rfl, Nat.le_of_ble_eq_true rfl⟩ ⟨Nat.zero_le _, Nat.zero_le _⟩ (st1 := []) (Nat.le_of_ble_eq_true rfl) dX12_gates_24 (fun r2 w1 v3 h => ?_)
      obtain ⟨ht, hf⟩ := h
      refine V_if_ne X (tgt := 36) dX12_gates_27 (by decide) (fun c => ?_) (fun c => ?_)
      · have h := ht c
        refine V_sub X (ls1 := [(0, .ref (ad 150)), (1, .int l1), (2, .int l2)]) [0, 1, 2] rfl ?_
        exact v_12_gates_b36 X hr hZ _ _ _ _ h
      · have h := hf c
        obtain ⟨x4, ex4⟩ : ∃ y : Int32, y = l2 + (-1 : Int32) := ⟨_, rfl⟩
        have h := h x4 ex4
        refine V_iinc X 2 dX12_gates_30 rfl (by decide) (by rw [ex4]; rfl) (ls1 := [(2, .int x4), (0, .ref (ad 150)), (1, .int l1)]) rfl ?_
        refine V_goto X (tgt := 18) dX12_gates_33 (by decide) ?_
        refine V_sub X (ls1 := [(0, .ref (ad 150)), (1, .int l1), (2, .int x4)]) [1, 2, 0] rfl ?_
        exact ih _ _ _ _ h
set_option maxRecDepth 20000 in
theorem v_12_gates {a1 : Int32} (X : CXq p s m args meth c cX12_gates 5 yX12_gates.cls ad cy D (AW ad) s.heap) (hr : meth.sig.returnType = (some .int)) (hZ : ad 1000 = 189) {w : Mem} {wl : MemL} {Q : Int32 → Mem → MemL → Prop} (h : wp_12_gates a1 w wl Q) : V p l e (RM 7) s m args below meth c 5 ad cy D (AW ad) s.heap 0 0 (MQ below (va_Qi (fun r (u : Mem × MemL) => Q r u.1 u.2) (BM ad cy D wc) (AW ad)) args s 0 0 (AW ad)) wc w wl 0 [(0, .ref (ad 150)), (1, .int a1)] [] := by
  unfold wp_12_gates at h
  refine V_iload_n X (i := 1) 1 dX12_gates_0 rfl rfl ?_
  refine V_iconst X (v := (0 : Int32)) dX12_gates_1 (by decide) ?_
  refine V_iconst X (v := (1 : Int32)) dX12_gates_2 (by decide) ?_
  refine K_12_in X (Or.inl q_1609) hZ h ⟨Nat.le_of_ble_eq_true rfl, Nat.le_of_ble_eq_true rfl⟩ ⟨Nat.zero_le _, Nat.zero_le _⟩ (st1 := []) (Nat.le_of_ble_eq_true rfl) dX12_gates_3 (fun r2 w1 v3 h => ?_)
  obtain ⟨ht, hf⟩ := h
  refine V_if_ne X (tgt := 11) dX12_gates_6 (by decide) (fun c => ?_) (fun c => ?_)
  · have h := ht c
    refine V_aload_n X (i := 0) 0 dX12_gates_11 rfl rfl ?_
    refine K_12_copies X (Or.inl q_1546) hZ h ⟨Nat.le_of_ble_eq_true rfl, Nat.le_of_ble_eq_true rfl⟩ ⟨Nat.zero_le _, Nat.zero_le _⟩ (st1 := []) (Nat.le_of_ble_eq_true rfl) dX12_gates_12 (fun w4 v5 h => ?_)
    refine V_bipush X (v := (40 : Int32)) dX12_gates_15 (by decide) ?_
    refine V_istore_n X dX12_gates_17 rfl (by decide) rfl (ls1 := [(2, .int (40 : Int32)), (0, .ref (ad 150)), (1, .int a1)]) rfl ?_
    refine V_sub X (ls1 := [(0, .ref (ad 150)), (1, .int a1), (2, .int (40 : Int32))]) [1, 2, 0] rfl ?_
    obtain ⟨nn, h⟩ := h
    exact v_12_gates_b18 X hr hZ nn _ _ _ _ h
  · have h := hf c
    refine V_iconst X (v := (-1 : Int32)) dX12_gates_9 (by decide) ?_
    exact V_iret_m X hr dX12_gates_10 h
theorem c_12_gates {a1 : Int32} (hinj : INJ ad) (hZ : ad 1000 = 189) {w : Mem} {wl : MemL} {Q : Int32 → Mem → MemL → Prop} (h : wp_12_gates a1 w wl Q) : Met l yX12_gates (TBq yX12_gates cX12_gates 5 (some .int)) (RM 7) (va_Pc [.ref (ad 150), .int a1] (PB ad cy D (cmb wc w) wl)) (va_Qi (fun r (u : Mem × MemL) => Q r u.1 u.2) (BM ad cy D wc) (AW ad)) 0 0 (AW ad) := M_enter (by decide) (Nat.le_of_ble_eq_true rfl) hinj (fun p e s m args below meth c X hr => v_12_gates X hr hZ h)
theorem mf_12_gates : MFV yX12_gates cX12_gates 5 (some .int) yX12_gates.cls 1 := ⟨q_1735, q_1733, q_1734, q_14, by decide⟩
theorem K_12_gates {own : String} {idx : Nat} {a1 : Int32} (X : CXq p s m args meth c cc nL own ad cy D A H0) (hL : LK own idx yX12_gates) (hZ : ad 1000 = 189) {w : Mem} {wl : MemL} {Q : Int32 → Mem → MemL → Prop} (h : wp_12_gates a1 w wl Q) (hR : (RM 7).frames + 1 ≤ R.frames ∧ 8 + (5 + 11) + (RM 7).locals ≤ R.locals) (hce : ce ≤ R.cells ∧ sl ≤ R.slots) (hcat : (st1.map fun v => v.category).sum ≤ 8) (hd : decode cc pc = .ok (.invokevirtual idx, 3)) (kk : ∀ (r : Int32) (u : Mem) (v : MemL), Q r u v → V p l e R s m args below meth c nL ad cy D A H0 ce sl Qs wc u v (pc + 3) ls (.int r :: st1)) : V p l e R s m args below meth c nL ad cy D A H0 ce sl Qs wc w wl pc ls (.int a1 :: .ref (ad 150) :: st1) := V_callVI_m X mf_12_gates hL (rfl : vwCl[12]? = some (RX12, TX12, 72)) (by decide) (rfl : SK 150 = 12) (hzk hZ (by decide)).2 (c_12_gates X.2.2.2.2.2.2.2.1 hZ h) (As := [.int a1]) rfl ⟨rfl, rfl⟩ hR hce st1 rfl hcat hd kk
set_option maxRecDepth 20000 in
theorem v_12_startsAll_b0 (X : CXq p s m args meth c cX12_startsAll 1 yX12_startsAll.cls ad cy D (AW ad) s.heap) (hr : meth.sig.returnType = none) (hZ : ad 1000 = 189) {Q : Mem → MemL → Prop} : ∀ (n : Nat) (w : Mem) (wl : MemL), wp_12_startsAll_b0 Q n w wl → V p l e (RM 8) s m args below meth c 1 ad cy D (AW ad) s.heap 0 0 (MQ below (va_Qv (fun (u : Mem × MemL) => Q u.1 u.2) (BM ad cy D wc) (AW ad)) args s 0 0 (AW ad)) wc w wl 0 [(0, .ref (ad 150))] [] := by
  intro n
  induction n with
  | zero =>
    intro w wl h
    exact h.elim
  | succ n ih =>
    intro w wl h
    unfold wp_12_startsAll_b0 at h
    refine V_aload_n X (i := 0) 0 dX12_startsAll_0 rfl rfl ?_
    refine K_12_nextOne X (Or.inl q_1550) hZ h ⟨Nat.le_of_ble_eq_true rfl, Nat.le_of_ble_eq_true rfl⟩ ⟨Nat.zero_le _, Nat.zero_le _⟩ (st1 := []) (Nat.le_of_ble_eq_true rfl) dX12_startsAll_1 (fun r2 w1 v3 h => ?_)
    obtain ⟨ht, hf⟩ := h
    refine V_if_lt X (tgt := 14) dX12_startsAll_4 (by decide) (fun c => ?_) (fun c => ?_)
    · have h := ht c
      exact V_vret_m X hr dX12_startsAll_14 h
    · have h := hf c
      refine V_aload_n X (i := 0) 0 dX12_startsAll_7 rfl rfl ?_
      refine K_12_starts X (Or.inl q_1649) hZ h ⟨Nat.le_of_ble_eq_true rfl, Nat.le_of_ble_eq_true rfl⟩ ⟨Nat.zero_le _, Nat.zero_le _⟩ (st1 := []) (Nat.le_of_ble_eq_true rfl) dX12_startsAll_8 (fun w4 v5 h => ?_)
      refine V_goto X (tgt := 0) dX12_startsAll_11 (by decide) ?_
      refine V_sub X (ls1 := [(0, .ref (ad 150))]) [0] rfl ?_
      exact ih _ _ h
set_option maxRecDepth 20000 in
theorem v_12_startsAll (X : CXq p s m args meth c cX12_startsAll 1 yX12_startsAll.cls ad cy D (AW ad) s.heap) (hr : meth.sig.returnType = none) (hZ : ad 1000 = 189) {w : Mem} {wl : MemL} {Q : Mem → MemL → Prop} (h : wp_12_startsAll w wl Q) : V p l e (RM 8) s m args below meth c 1 ad cy D (AW ad) s.heap 0 0 (MQ below (va_Qv (fun (u : Mem × MemL) => Q u.1 u.2) (BM ad cy D wc) (AW ad)) args s 0 0 (AW ad)) wc w wl 0 [(0, .ref (ad 150))] [] := by
  unfold wp_12_startsAll at h
  refine V_sub X (ls1 := [(0, .ref (ad 150))]) [0] rfl ?_
  obtain ⟨nn, h⟩ := h
  exact v_12_startsAll_b0 X hr hZ nn _ _ h
theorem c_12_startsAll (hinj : INJ ad) (hZ : ad 1000 = 189) {w : Mem} {wl : MemL} {Q : Mem → MemL → Prop} (h : wp_12_startsAll w wl Q) : Met l yX12_startsAll (TBq yX12_startsAll cX12_startsAll 1 none) (RM 8) (va_Pc [.ref (ad 150)] (PB ad cy D (cmb wc w) wl)) (va_Qv (fun (u : Mem × MemL) => Q u.1 u.2) (BM ad cy D wc) (AW ad)) 0 0 (AW ad) := M_enter (by decide) (Nat.le_of_ble_eq_true rfl) hinj (fun p e s m args below meth c X hr => v_12_startsAll X hr hZ h)
theorem mf_12_startsAll : MFV yX12_startsAll cX12_startsAll 1 none yX12_startsAll.cls 0 := ⟨q_1747, q_1746, qs_91, q_14, by decide⟩
theorem K_12_startsAll {own : String} {idx : Nat} (X : CXq p s m args meth c cc nL own ad cy D A H0) (hL : LK own idx yX12_startsAll) (hZ : ad 1000 = 189) {w : Mem} {wl : MemL} {Q : Mem → MemL → Prop} (h : wp_12_startsAll w wl Q) (hR : (RM 8).frames + 1 ≤ R.frames ∧ 8 + (1 + 11) + (RM 8).locals ≤ R.locals) (hce : ce ≤ R.cells ∧ sl ≤ R.slots) (hcat : (st1.map fun v => v.category).sum ≤ 8) (hd : decode cc pc = .ok (.invokevirtual idx, 3)) (kk : ∀ (u : Mem) (v : MemL), Q u v → V p l e R s m args below meth c nL ad cy D A H0 ce sl Qs wc u v (pc + 3) ls st1) : V p l e R s m args below meth c nL ad cy D A H0 ce sl Qs wc w wl pc ls (.ref (ad 150) :: st1) := V_callVV_m X mf_12_startsAll hL (rfl : vwCl[12]? = some (RX12, TX12, 72)) (by decide) (rfl : SK 150 = 12) (hzk hZ (by decide)).2 (c_12_startsAll X.2.2.2.2.2.2.2.1 hZ h) (As := []) rfl ⟨rfl, rfl⟩ hR hce st1 rfl hcat hd kk
set_option maxRecDepth 20000 in
theorem v_12_crown_b62 (X : CXq p s m args meth c cX12_crown 5 yX12_crown.cls ad cy D (AW ad) s.heap) (hr : meth.sig.returnType = (some .int)) (hZ : ad 1000 = 189) {Q : Int32 → Mem → MemL → Prop} {L25 : Int32 → Int32 → Int32 → Int32 → Mem → MemL → Prop} (HL25 : ∀ (l1 : Int32) (l2 : Int32) (l3 : Int32) (l4 : Int32) (w : Mem) (wl : MemL), L25 l1 l2 l3 l4 w wl → V p l e (RM 9) s m args below meth c 5 ad cy D (AW ad) s.heap 0 0 (MQ below (va_Qi (fun r (u : Mem × MemL) => Q r u.1 u.2) (BM ad cy D wc) (AW ad)) args s 0 0 (AW ad)) wc w wl 25 [(0, .ref (ad 150)), (1, .int l1), (2, .int l2), (3, .int l3), (4, .int l4)] []) : ∀ (l1 : Int32) (l2 : Int32) (l3 : Int32) (l4 : Int32) (w : Mem) (wl : MemL), wp_12_crown_b62 Q L25 l1 l2 l3 l4 w wl → V p l e (RM 9) s m args below meth c 5 ad cy D (AW ad) s.heap 0 0 (MQ below (va_Qi (fun r (u : Mem × MemL) => Q r u.1 u.2) (BM ad cy D wc) (AW ad)) args s 0 0 (AW ad)) wc w wl 62 [(0, .ref (ad 150)), (1, .int l1), (2, .int l2), (3, .int l3), (4, .int l4)] [] := by
  intro l1 l2 l3 l4 w wl h
  unfold wp_12_crown_b62 at h
  obtain ⟨x1, ex1⟩ : ∃ y : Int32, y = l4 + (1 : Int32) := ⟨_, rfl⟩
  have h := h x1 ex1
  refine V_iinc X 4 dX12_crown_62 rfl (by decide) (by rw [ex1]; rfl) (ls1 := [(4, .int x1), (0, .ref (ad 150)), (1, .int l1), (2, .int l2), (3, .int l3)]) rfl ?_
  refine V_goto X (tgt := 25) dX12_crown_65 (by decide) ?_
  refine V_sub X (ls1 := [(0, .ref (ad 150)), (1, .int l1), (2, .int l2), (3, .int l3), (4, .int x1)]) [1, 2, 3, 4, 0] rfl ?_
  exact HL25 _ _ _ _ _ _ h
set_option maxRecDepth 20000 in
theorem v_12_crown_b25 (X : CXq p s m args meth c cX12_crown 5 yX12_crown.cls ad cy D (AW ad) s.heap) (hr : meth.sig.returnType = (some .int)) (hZ : ad 1000 = 189) {Q : Int32 → Mem → MemL → Prop} : ∀ (n : Nat) (l1 : Int32) (l2 : Int32) (l3 : Int32) (l4 : Int32) (w : Mem) (wl : MemL), wp_12_crown_b25 Q n l1 l2 l3 l4 w wl → V p l e (RM 9) s m args below meth c 5 ad cy D (AW ad) s.heap 0 0 (MQ below (va_Qi (fun r (u : Mem × MemL) => Q r u.1 u.2) (BM ad cy D wc) (AW ad)) args s 0 0 (AW ad)) wc w wl 25 [(0, .ref (ad 150)), (1, .int l1), (2, .int l2), (3, .int l3), (4, .int l4)] [] := by
  intro n
  induction n with
  | zero =>
    intro l1 l2 l3 l4 w wl h
    exact h.elim
  | succ n ih =>
    intro l1 l2 l3 l4 w wl h
    unfold wp_12_crown_b25 at h
    refine V_iload X (i := 4) 4 dX12_crown_25 rfl ?_
    refine V_iload_n X (i := 2) 2 dX12_crown_27 rfl rfl ?_
    obtain ⟨ht, hf⟩ := h
    refine V_icmp_ge X (tgt := 68) dX12_crown_28 (by decide) (fun c => ?_) (fun c => ?_)
    · have h := ht c
      refine V_iload_n X (i := 3) 3 dX12_crown_68 rfl rfl ?_
      exact V_iret_m X hr dX12_crown_69 h
    · have h := hf c
      refine V_aload_n X (i := 0) 0 dX12_crown_31 rfl rfl ?_
      refine K_12_copies X (Or.inl q_1546) hZ h ⟨Nat.le_of_ble_eq_true rfl, Nat.le_of_ble_eq_true rfl⟩ ⟨Nat.zero_le _, Nat.zero_le _⟩ (st1 := []) (Nat.le_of_ble_eq_true rfl) dX12_crown_32 (fun w1 v2 h => ?_)
      refine V_aload_n X (i := 0) 0 dX12_crown_35 rfl rfl ?_
      refine V_dup X dX12_crown_36 rfl ?_
      refine G_12_303 X hZ dX12_crown_37 ?_
      refine V_iload X (i := 4) 4 dX12_crown_40 rfl ?_
      refine V_iadd X dX12_crown_42 ?_
      obtain ⟨w3, ew3⟩ : ∃ y : Mem, y = st w1 150 49 ((w1 150 49) + l4) := ⟨_, rfl⟩
      have h := h w3 ew3
      refine U_12_303 X hZ rfl rfl dX12_crown_43 ew3 ?_
      refine V_aload_n X (i := 0) 0 dX12_crown_46 rfl rfl ?_
      refine K_12_startsAll X (Or.inl q_1744) hZ h ⟨Nat.le_of_ble_eq_true rfl, Nat.le_of_ble_eq_true rfl⟩ ⟨Nat.zero_le _, Nat.zero_le _⟩ (st1 := []) (Nat.le_of_ble_eq_true rfl) dX12_crown_47 (fun w4 v5 h => ?_)
      refine V_aload_n X (i := 0) 0 dX12_crown_50 rfl rfl ?_
      refine V_iload_n X (i := 1) 1 dX12_crown_51 rfl rfl ?_
      refine V_iconst X (v := (2 : Int32)) dX12_crown_52 (by decide) ?_
      refine K_12_rankBy X (Or.inl q_1554) hZ h ⟨Nat.le_of_ble_eq_true rfl, Nat.le_of_ble_eq_true rfl⟩ ⟨Nat.zero_le _, Nat.zero_le _⟩ (st1 := []) (Nat.le_of_ble_eq_true rfl) dX12_crown_53 (fun r7 w6 v8 h => ?_)
      obtain ⟨ht, hf⟩ := h
      refine V_if_ne X (tgt := 62) dX12_crown_56 (by decide) (fun c => ?_) (fun c => ?_)
      · have h := ht c
        refine V_sub X (ls1 := [(0, .ref (ad 150)), (1, .int l1), (2, .int l2), (3, .int l3), (4, .int l4)]) [0, 1, 2, 3, 4] rfl ?_
        exact v_12_crown_b62 X hr hZ ih _ _ _ _ _ _ h
      · have h := hf c
        obtain ⟨x9, ex9⟩ : ∃ y : Int32, y = l3 + (1 : Int32) := ⟨_, rfl⟩
        have h := h x9 ex9
        refine V_iinc X 3 dX12_crown_59 rfl (by decide) (by rw [ex9]; rfl) (ls1 := [(3, .int x9), (0, .ref (ad 150)), (1, .int l1), (2, .int l2), (4, .int l4)]) rfl ?_
        refine V_sub X (ls1 := [(0, .ref (ad 150)), (1, .int l1), (2, .int l2), (3, .int x9), (4, .int l4)]) [1, 2, 3, 0, 4] rfl ?_
        exact v_12_crown_b62 X hr hZ ih _ _ _ _ _ _ h
set_option maxRecDepth 20000 in
theorem v_12_crown {a1 : Int32} {a2 : Int32} (X : CXq p s m args meth c cX12_crown 5 yX12_crown.cls ad cy D (AW ad) s.heap) (hr : meth.sig.returnType = (some .int)) (hZ : ad 1000 = 189) {w : Mem} {wl : MemL} {Q : Int32 → Mem → MemL → Prop} (h : wp_12_crown a1 a2 w wl Q) : V p l e (RM 9) s m args below meth c 5 ad cy D (AW ad) s.heap 0 0 (MQ below (va_Qi (fun r (u : Mem × MemL) => Q r u.1 u.2) (BM ad cy D wc) (AW ad)) args s 0 0 (AW ad)) wc w wl 0 [(0, .ref (ad 150)), (1, .int a1), (2, .int a2)] [] := by
  unfold wp_12_crown at h
  refine V_aload_n X (i := 0) 0 dX12_crown_0 rfl rfl ?_
  refine V_iload_n X (i := 1) 1 dX12_crown_1 rfl rfl ?_
  refine K_12_isMan X (Or.inl q_1621) hZ h ⟨Nat.le_of_ble_eq_true rfl, Nat.le_of_ble_eq_true rfl⟩ ⟨Nat.zero_le _, Nat.zero_le _⟩ (st1 := []) (Nat.le_of_ble_eq_true rfl) dX12_crown_2 (fun r2 w1 v3 h => ?_)
  obtain ⟨ht, hf⟩ := h
  refine V_if_eq X (tgt := 18) dX12_crown_5 (by decide) (fun c => ?_) (fun c => ?_)
  · have h := ht c
    refine V_iconst X (v := (-1 : Int32)) dX12_crown_18 (by decide) ?_
    exact V_iret_m X hr dX12_crown_19 h
  · have h := hf c
    refine V_iload_n X (i := 2) 2 dX12_crown_8 rfl rfl ?_
    refine V_iconst X (v := (1 : Int32)) dX12_crown_9 (by decide) ?_
    refine V_bipush X (v := (10 : Int32)) dX12_crown_10 (by decide) ?_
    refine K_12_in X (Or.inl q_1609) hZ h ⟨Nat.le_of_ble_eq_true rfl, Nat.le_of_ble_eq_true rfl⟩ ⟨Nat.zero_le _, Nat.zero_le _⟩ (st1 := []) (Nat.le_of_ble_eq_true rfl) dX12_crown_12 (fun r5 w4 v6 h => ?_)
    obtain ⟨ht, hf⟩ := h
    refine V_if_ne X (tgt := 20) dX12_crown_15 (by decide) (fun c => ?_) (fun c => ?_)
    · have h := ht c
      refine V_iconst X (v := (0 : Int32)) dX12_crown_20 (by decide) ?_
      refine V_istore_n X dX12_crown_21 rfl (by decide) rfl (ls1 := [(3, .int (0 : Int32)), (0, .ref (ad 150)), (1, .int a1), (2, .int a2)]) rfl ?_
      refine V_iconst X (v := (0 : Int32)) dX12_crown_22 (by decide) ?_
      refine V_istore X dX12_crown_23 (by decide) rfl (ls1 := [(4, .int (0 : Int32)), (3, .int (0 : Int32)), (0, .ref (ad 150)), (1, .int a1), (2, .int a2)]) rfl ?_
      refine V_sub X (ls1 := [(0, .ref (ad 150)), (1, .int a1), (2, .int a2), (3, .int (0 : Int32)), (4, .int (0 : Int32))]) [2, 3, 4, 1, 0] rfl ?_
      obtain ⟨nn, h⟩ := h
      exact v_12_crown_b25 X hr hZ nn _ _ _ _ _ _ h
    · have h := hf c
      refine V_iconst X (v := (-1 : Int32)) dX12_crown_18 (by decide) ?_
      exact V_iret_m X hr dX12_crown_19 h
theorem c_12_crown {a1 : Int32} {a2 : Int32} (hinj : INJ ad) (hZ : ad 1000 = 189) {w : Mem} {wl : MemL} {Q : Int32 → Mem → MemL → Prop} (h : wp_12_crown a1 a2 w wl Q) : Met l yX12_crown (TBq yX12_crown cX12_crown 5 (some .int)) (RM 9) (va_Pc [.ref (ad 150), .int a1, .int a2] (PB ad cy D (cmb wc w) wl)) (va_Qi (fun r (u : Mem × MemL) => Q r u.1 u.2) (BM ad cy D wc) (AW ad)) 0 0 (AW ad) := M_enter (by decide) (Nat.le_of_ble_eq_true rfl) hinj (fun p e s m args below meth c X hr => v_12_crown X hr hZ h)
theorem mf_12_crown : MFV yX12_crown cX12_crown 5 (some .int) yX12_crown.cls 2 := ⟨q_1743, q_1741, q_1742, q_14, by decide⟩
theorem K_12_crown {own : String} {idx : Nat} {a1 : Int32} {a2 : Int32} (X : CXq p s m args meth c cc nL own ad cy D A H0) (hL : LK own idx yX12_crown) (hZ : ad 1000 = 189) {w : Mem} {wl : MemL} {Q : Int32 → Mem → MemL → Prop} (h : wp_12_crown a1 a2 w wl Q) (hR : (RM 9).frames + 1 ≤ R.frames ∧ 8 + (5 + 11) + (RM 9).locals ≤ R.locals) (hce : ce ≤ R.cells ∧ sl ≤ R.slots) (hcat : (st1.map fun v => v.category).sum ≤ 8) (hd : decode cc pc = .ok (.invokevirtual idx, 3)) (kk : ∀ (r : Int32) (u : Mem) (v : MemL), Q r u v → V p l e R s m args below meth c nL ad cy D A H0 ce sl Qs wc u v (pc + 3) ls (.int r :: st1)) : V p l e R s m args below meth c nL ad cy D A H0 ce sl Qs wc w wl pc ls (.int a2 :: .int a1 :: .ref (ad 150) :: st1) := V_callVI_m X mf_12_crown hL (rfl : vwCl[12]? = some (RX12, TX12, 72)) (by decide) (rfl : SK 150 = 12) (hzk hZ (by decide)).2 (c_12_crown X.2.2.2.2.2.2.2.1 hZ h) (As := [.int a1, .int a2]) rfl ⟨rfl, rfl⟩ hR hce st1 rfl hcat hd kk
set_option maxRecDepth 20000 in
theorem v_12_reversed {a1 : Int32} (X : CXq p s m args meth c cX12_reversed 2 yX12_reversed.cls ad cy D (AW ad) s.heap) (hr : meth.sig.returnType = (some .int)) (hZ : ad 1000 = 189) {w : Mem} {wl : MemL} {Q : Int32 → Mem → MemL → Prop} (h : wp_12_reversed a1 w wl Q) : V p l e (RM 9) s m args below meth c 2 ad cy D (AW ad) s.heap 0 0 (MQ below (va_Qi (fun r (u : Mem × MemL) => Q r u.1 u.2) (BM ad cy D wc) (AW ad)) args s 0 0 (AW ad)) wc w wl 0 [(0, .ref (ad 150)), (1, .int a1)] [] := by
  unfold wp_12_reversed at h
  refine V_aload_n X (i := 0) 0 dX12_reversed_0 rfl rfl ?_
  refine V_iload_n X (i := 1) 1 dX12_reversed_1 rfl rfl ?_
  refine K_12_isMan X (Or.inl q_1621) hZ h ⟨Nat.le_of_ble_eq_true rfl, Nat.le_of_ble_eq_true rfl⟩ ⟨Nat.zero_le _, Nat.zero_le _⟩ (st1 := []) (Nat.le_of_ble_eq_true rfl) dX12_reversed_2 (fun r2 w1 v3 h => ?_)
  obtain ⟨ht, hf⟩ := h
  refine V_if_ne X (tgt := 10) dX12_reversed_5 (by decide) (fun c => ?_) (fun c => ?_)
  · have h := ht c
    refine V_aload_n X (i := 0) 0 dX12_reversed_10 rfl rfl ?_
    refine K_12_begins X (Or.inl q_1199) hZ h ⟨Nat.le_of_ble_eq_true rfl, Nat.le_of_ble_eq_true rfl⟩ ⟨Nat.zero_le _, Nat.zero_le _⟩ (st1 := []) (Nat.le_of_ble_eq_true rfl) dX12_reversed_11 (fun w4 v5 h => ?_)
    refine V_aload_n X (i := 0) 0 dX12_reversed_14 rfl rfl ?_
    refine V_iconst X (v := (1 : Int32)) dX12_reversed_15 (by decide) ?_
    obtain ⟨w6, ew6⟩ : ∃ y : Mem, y = st w4 150 50 (1 : Int32) := ⟨_, rfl⟩
    have h := h w6 ew6
    refine U_12_306 X hZ rfl rfl dX12_reversed_16 ew6 ?_
    refine V_aload_n X (i := 0) 0 dX12_reversed_19 rfl rfl ?_
    refine K_12_startsAll X (Or.inl q_1744) hZ h ⟨Nat.le_of_ble_eq_true rfl, Nat.le_of_ble_eq_true rfl⟩ ⟨Nat.zero_le _, Nat.zero_le _⟩ (st1 := []) (Nat.le_of_ble_eq_true rfl) dX12_reversed_20 (fun w7 v8 h => ?_)
    refine V_aload_n X (i := 0) 0 dX12_reversed_23 rfl rfl ?_
    refine V_iload_n X (i := 1) 1 dX12_reversed_24 rfl rfl ?_
    refine V_iconst X (v := (2 : Int32)) dX12_reversed_25 (by decide) ?_
    refine K_12_rankBy X (Or.inl q_1554) hZ h ⟨Nat.le_of_ble_eq_true rfl, Nat.le_of_ble_eq_true rfl⟩ ⟨Nat.zero_le _, Nat.zero_le _⟩ (st1 := []) (Nat.le_of_ble_eq_true rfl) dX12_reversed_26 (fun r10 w9 v11 h => ?_)
    exact V_iret_m X hr dX12_reversed_29 h
  · have h := hf c
    refine V_iconst X (v := (-1 : Int32)) dX12_reversed_8 (by decide) ?_
    exact V_iret_m X hr dX12_reversed_9 h
theorem c_12_reversed {a1 : Int32} (hinj : INJ ad) (hZ : ad 1000 = 189) {w : Mem} {wl : MemL} {Q : Int32 → Mem → MemL → Prop} (h : wp_12_reversed a1 w wl Q) : Met l yX12_reversed (TBq yX12_reversed cX12_reversed 2 (some .int)) (RM 9) (va_Pc [.ref (ad 150), .int a1] (PB ad cy D (cmb wc w) wl)) (va_Qi (fun r (u : Mem × MemL) => Q r u.1 u.2) (BM ad cy D wc) (AW ad)) 0 0 (AW ad) := M_enter (by decide) (Nat.le_of_ble_eq_true rfl) hinj (fun p e s m args below meth c X hr => v_12_reversed X hr hZ h)
theorem mf_12_reversed : MFV yX12_reversed cX12_reversed 2 (some .int) yX12_reversed.cls 1 := ⟨q_1751, q_1749, q_1750, q_14, by decide⟩
theorem K_12_reversed {own : String} {idx : Nat} {a1 : Int32} (X : CXq p s m args meth c cc nL own ad cy D A H0) (hL : LK own idx yX12_reversed) (hZ : ad 1000 = 189) {w : Mem} {wl : MemL} {Q : Int32 → Mem → MemL → Prop} (h : wp_12_reversed a1 w wl Q) (hR : (RM 9).frames + 1 ≤ R.frames ∧ 8 + (2 + 11) + (RM 9).locals ≤ R.locals) (hce : ce ≤ R.cells ∧ sl ≤ R.slots) (hcat : (st1.map fun v => v.category).sum ≤ 8) (hd : decode cc pc = .ok (.invokevirtual idx, 3)) (kk : ∀ (r : Int32) (u : Mem) (v : MemL), Q r u v → V p l e R s m args below meth c nL ad cy D A H0 ce sl Qs wc u v (pc + 3) ls (.int r :: st1)) : V p l e R s m args below meth c nL ad cy D A H0 ce sl Qs wc w wl pc ls (.int a1 :: .ref (ad 150) :: st1) := V_callVI_m X mf_12_reversed hL (rfl : vwCl[12]? = some (RX12, TX12, 72)) (by decide) (rfl : SK 150 = 12) (hzk hZ (by decide)).2 (c_12_reversed X.2.2.2.2.2.2.2.1 hZ h) (As := [.int a1]) rfl ⟨rfl, rfl⟩ hR hce st1 rfl hcat hd kk
set_option maxRecDepth 20000 in
theorem v_12_pointsWithout {a1 : Int32} {a2 : Int32} {a3 : Int32} (X : CXq p s m args meth c cX12_pointsWithout 4 yX12_pointsWithout.cls ad cy D (AW ad) s.heap) (hr : meth.sig.returnType = (some .int)) (hZ : ad 1000 = 189) {w : Mem} {wl : MemL} {Q : Int32 → Mem → MemL → Prop} (h : wp_12_pointsWithout a1 a2 a3 w wl Q) : V p l e (RM 6) s m args below meth c 4 ad cy D (AW ad) s.heap 0 0 (MQ below (va_Qi (fun r (u : Mem × MemL) => Q r u.1 u.2) (BM ad cy D wc) (AW ad)) args s 0 0 (AW ad)) wc w wl 0 [(0, .ref (ad 150)), (1, .int a1), (2, .int a2), (3, .int a3)] [] := by
  unfold wp_12_pointsWithout at h
  refine V_aload_n X (i := 0) 0 dX12_pointsWithout_0 rfl rfl ?_
  refine G_12_110 X hZ dX12_pointsWithout_1 ?_
  refine V_aload_n X (i := 0) 0 dX12_pointsWithout_4 rfl rfl ?_
  refine V_iconst X (v := (4 : Int32)) dX12_pointsWithout_5 (by decide) ?_
  refine V_iload_n X (i := 2) 2 dX12_pointsWithout_6 rfl rfl ?_
  refine V_iload_n X (i := 1) 1 dX12_pointsWithout_7 rfl rfl ?_
  refine K_12_cell X (Or.inl q_1558) hZ h ⟨Nat.le_of_ble_eq_true rfl, Nat.le_of_ble_eq_true rfl⟩ ⟨Nat.zero_le _, Nat.zero_le _⟩ (st1 := [.ref (ad 181)]) (Nat.le_of_ble_eq_true rfl) dX12_pointsWithout_8 (fun r2 w1 v3 h => ?_)
  obtain ⟨g4, h⟩ := h
  refine V_iald_m X (rfl : SLq 181 = 260) (hzk hZ (by decide)) (rfl : SK 181 = 14) g4 dX12_pointsWithout_11 ?_
  obtain ⟨ht, hf⟩ := h
  refine V_if_ne X (tgt := 17) dX12_pointsWithout_12 (by decide) (fun c => ?_) (fun c => ?_)
  · have h := ht c
    refine V_aload_n X (i := 0) 0 dX12_pointsWithout_17 rfl rfl ?_
    refine V_iload_n X (i := 1) 1 dX12_pointsWithout_18 rfl rfl ?_
    refine V_aload_n X (i := 0) 0 dX12_pointsWithout_19 rfl rfl ?_
    refine G_12_110 X hZ dX12_pointsWithout_20 ?_
    refine V_aload_n X (i := 0) 0 dX12_pointsWithout_23 rfl rfl ?_
    refine V_bipush X (v := (84 : Int32)) dX12_pointsWithout_24 (by decide) ?_
    refine V_iload_n X (i := 2) 2 dX12_pointsWithout_26 rfl rfl ?_
    refine V_iload_n X (i := 1) 1 dX12_pointsWithout_27 rfl rfl ?_
    refine K_12_cell X (Or.inl q_1558) hZ h ⟨Nat.le_of_ble_eq_true rfl, Nat.le_of_ble_eq_true rfl⟩ ⟨Nat.zero_le _, Nat.zero_le _⟩ (st1 := [.ref (ad 181), .int a1, .ref (ad 150)]) (Nat.le_of_ble_eq_true rfl) dX12_pointsWithout_28 (fun r6 w5 v7 h => ?_)
    obtain ⟨g8, h⟩ := h
    refine V_iald_m X (rfl : SLq 181 = 260) (hzk hZ (by decide)) (rfl : SK 181 = 14) g8 dX12_pointsWithout_31 ?_
    refine V_aload_n X (i := 0) 0 dX12_pointsWithout_32 rfl rfl ?_
    refine G_12_110 X hZ dX12_pointsWithout_33 ?_
    refine V_aload_n X (i := 0) 0 dX12_pointsWithout_36 rfl rfl ?_
    refine V_bipush X (v := (68 : Int32)) dX12_pointsWithout_37 (by decide) ?_
    refine V_iload_n X (i := 2) 2 dX12_pointsWithout_39 rfl rfl ?_
    refine V_iload_n X (i := 1) 1 dX12_pointsWithout_40 rfl rfl ?_
    refine K_12_cell X (Or.inl q_1558) hZ h ⟨Nat.le_of_ble_eq_true rfl, Nat.le_of_ble_eq_true rfl⟩ ⟨Nat.zero_le _, Nat.zero_le _⟩ (st1 := [.ref (ad 181), .int (w5 181 (ix r6)), .int a1, .ref (ad 150)]) (Nat.le_of_ble_eq_true rfl) dX12_pointsWithout_41 (fun r10 w9 v11 h => ?_)
    obtain ⟨g12, h⟩ := h
    refine V_iald_m X (rfl : SLq 181 = 260) (hzk hZ (by decide)) (rfl : SK 181 = 14) g12 dX12_pointsWithout_44 ?_
    refine V_aload_n X (i := 0) 0 dX12_pointsWithout_45 rfl rfl ?_
    refine G_12_110 X hZ dX12_pointsWithout_46 ?_
    refine V_aload_n X (i := 0) 0 dX12_pointsWithout_49 rfl rfl ?_
    refine V_bipush X (v := (100 : Int32)) dX12_pointsWithout_50 (by decide) ?_
    refine V_iload_n X (i := 2) 2 dX12_pointsWithout_52 rfl rfl ?_
    refine V_iload_n X (i := 1) 1 dX12_pointsWithout_53 rfl rfl ?_
    refine K_12_cell X (Or.inl q_1558) hZ h ⟨Nat.le_of_ble_eq_true rfl, Nat.le_of_ble_eq_true rfl⟩ ⟨Nat.zero_le _, Nat.zero_le _⟩ (st1 := [.ref (ad 181), .int (w9 181 (ix r10)), .int (w5 181 (ix r6)), .int a1, .ref (ad 150)]) (Nat.le_of_ble_eq_true rfl) dX12_pointsWithout_54 (fun r14 w13 v15 h => ?_)
    obtain ⟨g16, h⟩ := h
    refine V_iald_m X (rfl : SLq 181 = 260) (hzk hZ (by decide)) (rfl : SK 181 = 14) g16 dX12_pointsWithout_57 ?_
    refine V_aload_n X (i := 0) 0 dX12_pointsWithout_58 rfl rfl ?_
    refine G_12_110 X hZ dX12_pointsWithout_59 ?_
    refine V_aload_n X (i := 0) 0 dX12_pointsWithout_62 rfl rfl ?_
    refine V_sipush X (v := (132 : Int32)) dX12_pointsWithout_63 (by decide) ?_
    refine V_iload_n X (i := 2) 2 dX12_pointsWithout_66 rfl rfl ?_
    refine V_iload_n X (i := 1) 1 dX12_pointsWithout_67 rfl rfl ?_
    refine K_12_cell X (Or.inl q_1558) hZ h ⟨Nat.le_of_ble_eq_true rfl, Nat.le_of_ble_eq_true rfl⟩ ⟨Nat.zero_le _, Nat.zero_le _⟩ (st1 := [.ref (ad 181), .int (w13 181 (ix r14)), .int (w9 181 (ix r10)), .int (w5 181 (ix r6)), .int a1, .ref (ad 150)]) (Nat.le_of_ble_eq_true rfl) dX12_pointsWithout_68 (fun r18 w17 v19 h => ?_)
    obtain ⟨g20, h⟩ := h
    refine V_iald_m X (rfl : SLq 181 = 260) (hzk hZ (by decide)) (rfl : SK 181 = 14) g20 dX12_pointsWithout_71 ?_
    refine K_12_setsJump X (Or.inl q_1664) hZ h ⟨Nat.le_of_ble_eq_true rfl, Nat.le_of_ble_eq_true rfl⟩ ⟨Nat.zero_le _, Nat.zero_le _⟩ (st1 := []) (Nat.le_of_ble_eq_true rfl) dX12_pointsWithout_72 (fun w21 v22 h => ?_)
    refine V_aload_n X (i := 0) 0 dX12_pointsWithout_75 rfl rfl ?_
    refine V_iload_n X (i := 3) 3 dX12_pointsWithout_76 rfl rfl ?_
    obtain ⟨w23, ew23⟩ : ∃ y : Mem, y = st w21 150 61 a3 := ⟨_, rfl⟩
    have h := h w23 ew23
    refine U_12_116 X hZ rfl rfl dX12_pointsWithout_77 ew23 ?_
    refine V_aload_n X (i := 0) 0 dX12_pointsWithout_80 rfl rfl ?_
    refine K_12_setsStyle X (Or.inl q_1676) hZ h ⟨Nat.le_of_ble_eq_true rfl, Nat.le_of_ble_eq_true rfl⟩ ⟨Nat.zero_le _, Nat.zero_le _⟩ (st1 := []) (Nat.le_of_ble_eq_true rfl) dX12_pointsWithout_81 (fun w24 v25 h => ?_)
    refine V_aload_n X (i := 0) 0 dX12_pointsWithout_84 rfl rfl ?_
    refine K_12_setsPoints X (Or.inl q_1680) hZ h ⟨Nat.le_of_ble_eq_true rfl, Nat.le_of_ble_eq_true rfl⟩ ⟨Nat.zero_le _, Nat.zero_le _⟩ (st1 := []) (Nat.le_of_ble_eq_true rfl) dX12_pointsWithout_85 (fun w26 v27 h => ?_)
    refine V_aload_n X (i := 0) 0 dX12_pointsWithout_88 rfl rfl ?_
    refine V_iconst X (v := (-1 : Int32)) dX12_pointsWithout_89 (by decide) ?_
    obtain ⟨w28, ew28⟩ : ∃ y : Mem, y = st w26 150 61 (-1 : Int32) := ⟨_, rfl⟩
    have h := h w28 ew28
    refine U_12_116 X hZ rfl rfl dX12_pointsWithout_90 ew28 ?_
    refine V_aload_n X (i := 0) 0 dX12_pointsWithout_93 rfl rfl ?_
    refine G_12_380 X hZ dX12_pointsWithout_94 ?_
    exact V_iret_m X hr dX12_pointsWithout_97 h
  · have h := hf c
    refine V_iconst X (v := (0 : Int32)) dX12_pointsWithout_15 (by decide) ?_
    exact V_iret_m X hr dX12_pointsWithout_16 h
theorem c_12_pointsWithout {a1 : Int32} {a2 : Int32} {a3 : Int32} (hinj : INJ ad) (hZ : ad 1000 = 189) {w : Mem} {wl : MemL} {Q : Int32 → Mem → MemL → Prop} (h : wp_12_pointsWithout a1 a2 a3 w wl Q) : Met l yX12_pointsWithout (TBq yX12_pointsWithout cX12_pointsWithout 4 (some .int)) (RM 6) (va_Pc [.ref (ad 150), .int a1, .int a2, .int a3] (PB ad cy D (cmb wc w) wl)) (va_Qi (fun r (u : Mem × MemL) => Q r u.1 u.2) (BM ad cy D wc) (AW ad)) 0 0 (AW ad) := M_enter (by decide) (Nat.le_of_ble_eq_true rfl) hinj (fun p e s m args below meth c X hr => v_12_pointsWithout X hr hZ h)
theorem mf_12_pointsWithout : MFV yX12_pointsWithout cX12_pointsWithout 4 (some .int) yX12_pointsWithout.cls 3 := ⟨q_1759, q_1758, qs_92, q_14, by decide⟩
theorem K_12_pointsWithout {own : String} {idx : Nat} {a1 : Int32} {a2 : Int32} {a3 : Int32} (X : CXq p s m args meth c cc nL own ad cy D A H0) (hL : LK own idx yX12_pointsWithout) (hZ : ad 1000 = 189) {w : Mem} {wl : MemL} {Q : Int32 → Mem → MemL → Prop} (h : wp_12_pointsWithout a1 a2 a3 w wl Q) (hR : (RM 6).frames + 1 ≤ R.frames ∧ 8 + (4 + 11) + (RM 6).locals ≤ R.locals) (hce : ce ≤ R.cells ∧ sl ≤ R.slots) (hcat : (st1.map fun v => v.category).sum ≤ 8) (hd : decode cc pc = .ok (.invokevirtual idx, 3)) (kk : ∀ (r : Int32) (u : Mem) (v : MemL), Q r u v → V p l e R s m args below meth c nL ad cy D A H0 ce sl Qs wc u v (pc + 3) ls (.int r :: st1)) : V p l e R s m args below meth c nL ad cy D A H0 ce sl Qs wc w wl pc ls (.int a3 :: .int a2 :: .int a1 :: .ref (ad 150) :: st1) := V_callVI_m X mf_12_pointsWithout hL (rfl : vwCl[12]? = some (RX12, TX12, 72)) (by decide) (rfl : SK 150 = 12) (hzk hZ (by decide)).2 (c_12_pointsWithout X.2.2.2.2.2.2.2.1 hZ h) (As := [.int a1, .int a2, .int a3]) rfl ⟨rfl, rfl⟩ hR hce st1 rfl hcat hd kk
set_option maxRecDepth 20000 in
theorem v_12_without_b40 (X : CXq p s m args meth c cX12_without 5 yX12_without.cls ad cy D (AW ad) s.heap) (hr : meth.sig.returnType = (some .int)) (hZ : ad 1000 = 189) {Q : Int32 → Mem → MemL → Prop} {L24 : Int32 → Int32 → Int32 → Mem → MemL → Prop} (HL24 : ∀ (l1 : Int32) (l2 : Int32) (l3 : Int32) (w : Mem) (wl : MemL), L24 l1 l2 l3 w wl → V p l e (RM 7) s m args below meth c 5 ad cy D (AW ad) s.heap 0 0 (MQ below (va_Qi (fun r (u : Mem × MemL) => Q r u.1 u.2) (BM ad cy D wc) (AW ad)) args s 0 0 (AW ad)) wc w wl 24 [(0, .ref (ad 150)), (1, .int l1), (2, .int l2), (3, .int l3)] []) : ∀ (n : Nat) (l1 : Int32) (l2 : Int32) (l3 : Int32) (l4 : Int32) (w : Mem) (wl : MemL), wp_12_without_b40 Q L24 n l1 l2 l3 l4 w wl → V p l e (RM 7) s m args below meth c 5 ad cy D (AW ad) s.heap 0 0 (MQ below (va_Qi (fun r (u : Mem × MemL) => Q r u.1 u.2) (BM ad cy D wc) (AW ad)) args s 0 0 (AW ad)) wc w wl 40 [(0, .ref (ad 150)), (1, .int l1), (2, .int l2), (3, .int l3), (4, .int l4)] [] := by
  intro n
  induction n with
  | zero =>
    intro l1 l2 l3 l4 w wl h
    exact h.elim
  | succ n ih =>
    intro l1 l2 l3 l4 w wl h
    unfold wp_12_without_b40 at h
    refine V_iload X (i := 4) 4 dX12_without_40 rfl ?_
    refine V_iconst X (v := (2 : Int32)) dX12_without_42 (by decide) ?_
    obtain ⟨ht, hf⟩ := h
    refine V_icmp_ge X (tgt := 74) dX12_without_43 (by decide) (fun c => ?_) (fun c => ?_)
    · have h := ht c
      obtain ⟨x1, ex1⟩ : ∃ y : Int32, y = l3 + (1 : Int32) := ⟨_, rfl⟩
      have h := h x1 ex1
      refine V_iinc X 3 dX12_without_74 rfl (by decide) (by rw [ex1]; rfl) (ls1 := [(3, .int x1), (0, .ref (ad 150)), (1, .int l1), (2, .int l2), (4, .int l4)]) rfl ?_
      refine V_goto X (tgt := 24) dX12_without_77 (by decide) ?_
      refine V_sub X (ls1 := [(0, .ref (ad 150)), (1, .int l1), (2, .int l2), (3, .int x1)]) [1, 2, 3, 0] rfl ?_
      exact HL24 _ _ _ _ _ h
    · have h := hf c
      refine V_aload_n X (i := 0) 0 dX12_without_46 rfl rfl ?_
      refine G_12_110 X hZ dX12_without_47 ?_
      refine V_aload_n X (i := 0) 0 dX12_without_50 rfl rfl ?_
      refine V_bipush X (v := (36 : Int32)) dX12_without_51 (by decide) ?_
      refine V_iload X (i := 4) 4 dX12_without_53 rfl ?_
      refine V_iload_n X (i := 3) 3 dX12_without_55 rfl rfl ?_
      refine K_12_cell X (Or.inl q_1558) hZ h ⟨Nat.le_of_ble_eq_true rfl, Nat.le_of_ble_eq_true rfl⟩ ⟨Nat.zero_le _, Nat.zero_le _⟩ (st1 := [.ref (ad 181)]) (Nat.le_of_ble_eq_true rfl) dX12_without_56 (fun r3 w2 v4 h => ?_)
      refine V_aload_n X (i := 0) 0 dX12_without_59 rfl rfl ?_
      refine V_iload_n X (i := 3) 3 dX12_without_60 rfl rfl ?_
      refine V_iload X (i := 4) 4 dX12_without_61 rfl ?_
      refine V_iload_n X (i := 2) 2 dX12_without_63 rfl rfl ?_
      refine K_12_pointsWithout X (Or.inl q_1756) hZ h ⟨Nat.le_of_ble_eq_true rfl, Nat.le_of_ble_eq_true rfl⟩ ⟨Nat.zero_le _, Nat.zero_le _⟩ (st1 := [.int r3, .ref (ad 181)]) (Nat.le_of_ble_eq_true rfl) dX12_without_64 (fun r6 w5 v7 h => ?_)
      obtain ⟨g8, h⟩ := h
      obtain ⟨w9, ew9⟩ : ∃ y : Mem, y = st w5 181 (ix r3) r6 := ⟨_, rfl⟩
      have h := h w9 ew9
      refine V_iast_m X (rfl : SLq 181 = 260) (hzk hZ (by decide)) (rfl : SK 181 = 14) g8 dX12_without_67 ew9 ?_
      obtain ⟨x10, ex10⟩ : ∃ y : Int32, y = l4 + (1 : Int32) := ⟨_, rfl⟩
      have h := h x10 ex10
      refine V_iinc X 4 dX12_without_68 rfl (by decide) (by rw [ex10]; rfl) (ls1 := [(4, .int x10), (0, .ref (ad 150)), (1, .int l1), (2, .int l2), (3, .int l3)]) rfl ?_
      refine V_goto X (tgt := 40) dX12_without_71 (by decide) ?_
      refine V_sub X (ls1 := [(0, .ref (ad 150)), (1, .int l1), (2, .int l2), (3, .int l3), (4, .int x10)]) [1, 2, 3, 4, 0] rfl ?_
      exact ih _ _ _ _ _ _ h
set_option maxRecDepth 20000 in
theorem v_12_without_b24 (X : CXq p s m args meth c cX12_without 5 yX12_without.cls ad cy D (AW ad) s.heap) (hr : meth.sig.returnType = (some .int)) (hZ : ad 1000 = 189) {Q : Int32 → Mem → MemL → Prop} : ∀ (n : Nat) (l1 : Int32) (l2 : Int32) (l3 : Int32) (w : Mem) (wl : MemL), wp_12_without_b24 Q n l1 l2 l3 w wl → V p l e (RM 7) s m args below meth c 5 ad cy D (AW ad) s.heap 0 0 (MQ below (va_Qi (fun r (u : Mem × MemL) => Q r u.1 u.2) (BM ad cy D wc) (AW ad)) args s 0 0 (AW ad)) wc w wl 24 [(0, .ref (ad 150)), (1, .int l1), (2, .int l2), (3, .int l3)] [] := by
  intro n
  induction n with
  | zero =>
    intro l1 l2 l3 w wl h
    exact h.elim
  | succ n ih =>
    intro l1 l2 l3 w wl h
    unfold wp_12_without_b24 at h
    refine V_iload_n X (i := 3) 3 dX12_without_24 rfl rfl ?_
    refine V_aload_n X (i := 0) 0 dX12_without_25 rfl rfl ?_
    refine G_12_46 X hZ dX12_without_26 ?_
    refine V_aload_n X (i := 0) 0 dX12_without_29 rfl rfl ?_
    refine G_12_218 X hZ dX12_without_30 ?_
    obtain ⟨g1, h⟩ := h
    refine V_iald_m X (rfl : SLq 160 = 2) (hzk hZ (by decide)) (rfl : SK 160 = 14) g1 dX12_without_33 ?_
    obtain ⟨ht, hf⟩ := h
    refine V_icmp_ge X (tgt := 80) dX12_without_34 (by decide) (fun c => ?_) (fun c => ?_)
    · have h := ht c
      refine V_aload_n X (i := 0) 0 dX12_without_80 rfl rfl ?_
      refine V_iload_n X (i := 1) 1 dX12_without_81 rfl rfl ?_
      refine V_iconst X (v := (2 : Int32)) dX12_without_82 (by decide) ?_
      refine K_12_rankBy X (Or.inl q_1554) hZ h ⟨Nat.le_of_ble_eq_true rfl, Nat.le_of_ble_eq_true rfl⟩ ⟨Nat.zero_le _, Nat.zero_le _⟩ (st1 := []) (Nat.le_of_ble_eq_true rfl) dX12_without_83 (fun r3 w2 v4 h => ?_)
      exact V_iret_m X hr dX12_without_86 h
    · have h := hf c
      refine V_iconst X (v := (0 : Int32)) dX12_without_37 (by decide) ?_
      refine V_istore X dX12_without_38 (by decide) rfl (ls1 := [(4, .int (0 : Int32)), (0, .ref (ad 150)), (1, .int l1), (2, .int l2), (3, .int l3)]) rfl ?_
      refine V_sub X (ls1 := [(0, .ref (ad 150)), (1, .int l1), (2, .int l2), (3, .int l3), (4, .int (0 : Int32))]) [1, 2, 3, 4, 0] rfl ?_
      obtain ⟨nn, h⟩ := h
      exact v_12_without_b40 X hr hZ ih nn _ _ _ _ _ _ h
set_option maxRecDepth 20000 in
theorem v_12_without {a1 : Int32} {a2 : Int32} (X : CXq p s m args meth c cX12_without 5 yX12_without.cls ad cy D (AW ad) s.heap) (hr : meth.sig.returnType = (some .int)) (hZ : ad 1000 = 189) {w : Mem} {wl : MemL} {Q : Int32 → Mem → MemL → Prop} (h : wp_12_without a1 a2 w wl Q) : V p l e (RM 7) s m args below meth c 5 ad cy D (AW ad) s.heap 0 0 (MQ below (va_Qi (fun r (u : Mem × MemL) => Q r u.1 u.2) (BM ad cy D wc) (AW ad)) args s 0 0 (AW ad)) wc w wl 0 [(0, .ref (ad 150)), (1, .int a1), (2, .int a2)] [] := by
  unfold wp_12_without at h
  refine V_aload_n X (i := 0) 0 dX12_without_0 rfl rfl ?_
  refine V_iload_n X (i := 1) 1 dX12_without_1 rfl rfl ?_
  refine K_12_isMan X (Or.inl q_1621) hZ h ⟨Nat.le_of_ble_eq_true rfl, Nat.le_of_ble_eq_true rfl⟩ ⟨Nat.zero_le _, Nat.zero_le _⟩ (st1 := []) (Nat.le_of_ble_eq_true rfl) dX12_without_2 (fun r2 w1 v3 h => ?_)
  obtain ⟨ht, hf⟩ := h
  refine V_if_eq X (tgt := 16) dX12_without_5 (by decide) (fun c => ?_) (fun c => ?_)
  · have h := ht c
    refine V_iconst X (v := (-1 : Int32)) dX12_without_16 (by decide) ?_
    exact V_iret_m X hr dX12_without_17 h
  · have h := hf c
    refine V_aload_n X (i := 0) 0 dX12_without_8 rfl rfl ?_
    refine V_iload_n X (i := 2) 2 dX12_without_9 rfl rfl ?_
    refine K_12_isJudge X (Or.inl q_1629) hZ h ⟨Nat.le_of_ble_eq_true rfl, Nat.le_of_ble_eq_true rfl⟩ ⟨Nat.zero_le _, Nat.zero_le _⟩ (st1 := []) (Nat.le_of_ble_eq_true rfl) dX12_without_10 (fun r5 w4 v6 h => ?_)
    obtain ⟨ht, hf⟩ := h
    refine V_if_ne X (tgt := 18) dX12_without_13 (by decide) (fun c => ?_) (fun c => ?_)
    · have h := ht c
      refine V_aload_n X (i := 0) 0 dX12_without_18 rfl rfl ?_
      refine K_12_copies X (Or.inl q_1546) hZ h ⟨Nat.le_of_ble_eq_true rfl, Nat.le_of_ble_eq_true rfl⟩ ⟨Nat.zero_le _, Nat.zero_le _⟩ (st1 := []) (Nat.le_of_ble_eq_true rfl) dX12_without_19 (fun w7 v8 h => ?_)
      refine V_iconst X (v := (0 : Int32)) dX12_without_22 (by decide) ?_
      refine V_istore_n X dX12_without_23 rfl (by decide) rfl (ls1 := [(3, .int (0 : Int32)), (0, .ref (ad 150)), (1, .int a1), (2, .int a2)]) rfl ?_
      refine V_sub X (ls1 := [(0, .ref (ad 150)), (1, .int a1), (2, .int a2), (3, .int (0 : Int32))]) [1, 2, 3, 0] rfl ?_
      obtain ⟨nn, h⟩ := h
      exact v_12_without_b24 X hr hZ nn _ _ _ _ _ h
    · have h := hf c
      refine V_iconst X (v := (-1 : Int32)) dX12_without_16 (by decide) ?_
      exact V_iret_m X hr dX12_without_17 h
theorem c_12_without {a1 : Int32} {a2 : Int32} (hinj : INJ ad) (hZ : ad 1000 = 189) {w : Mem} {wl : MemL} {Q : Int32 → Mem → MemL → Prop} (h : wp_12_without a1 a2 w wl Q) : Met l yX12_without (TBq yX12_without cX12_without 5 (some .int)) (RM 7) (va_Pc [.ref (ad 150), .int a1, .int a2] (PB ad cy D (cmb wc w) wl)) (va_Qi (fun r (u : Mem × MemL) => Q r u.1 u.2) (BM ad cy D wc) (AW ad)) 0 0 (AW ad) := M_enter (by decide) (Nat.le_of_ble_eq_true rfl) hinj (fun p e s m args below meth c X hr => v_12_without X hr hZ h)
theorem mf_12_without : MFV yX12_without cX12_without 5 (some .int) yX12_without.cls 2 := ⟨q_1755, q_1753, q_1754, q_14, by decide⟩
theorem K_12_without {own : String} {idx : Nat} {a1 : Int32} {a2 : Int32} (X : CXq p s m args meth c cc nL own ad cy D A H0) (hL : LK own idx yX12_without) (hZ : ad 1000 = 189) {w : Mem} {wl : MemL} {Q : Int32 → Mem → MemL → Prop} (h : wp_12_without a1 a2 w wl Q) (hR : (RM 7).frames + 1 ≤ R.frames ∧ 8 + (5 + 11) + (RM 7).locals ≤ R.locals) (hce : ce ≤ R.cells ∧ sl ≤ R.slots) (hcat : (st1.map fun v => v.category).sum ≤ 8) (hd : decode cc pc = .ok (.invokevirtual idx, 3)) (kk : ∀ (r : Int32) (u : Mem) (v : MemL), Q r u v → V p l e R s m args below meth c nL ad cy D A H0 ce sl Qs wc u v (pc + 3) ls (.int r :: st1)) : V p l e R s m args below meth c nL ad cy D A H0 ce sl Qs wc w wl pc ls (.int a2 :: .int a1 :: .ref (ad 150) :: st1) := V_callVI_m X mf_12_without hL (rfl : vwCl[12]? = some (RX12, TX12, 72)) (by decide) (rfl : SK 150 = 12) (hzk hZ (by decide)).2 (c_12_without X.2.2.2.2.2.2.2.1 hZ h) (As := [.int a1, .int a2]) rfl ⟨rfl, rfl⟩ hR hce st1 rfl hcat hd kk
set_option maxRecDepth 20000 in
theorem v_12_hasLeft_b58 (X : CXq p s m args meth c cX12_hasLeft 2 yX12_hasLeft.cls ad cy D (AW ad) s.heap) (hr : meth.sig.returnType = (some .boolean)) (hZ : ad 1000 = 189) {Q : Int32 → Mem → MemL → Prop} : ∀ (w : Mem) (wl : MemL), wp_12_hasLeft_b58 Q w wl → V p l e (RM 3) s m args below meth c 2 ad cy D (AW ad) s.heap 0 0 (MQ below (va_Qi (fun r (u : Mem × MemL) => Q r u.1 u.2) (BM ad cy D wc) (AW ad)) args s 0 0 (AW ad)) wc w wl 58 [] [] := by
  intro w wl h
  unfold wp_12_hasLeft_b58 at h
  refine V_iconst X (v := (1 : Int32)) dX12_hasLeft_58 (by decide) ?_
  refine V_goto X (tgt := 63) dX12_hasLeft_59 (by decide) ?_
  exact V_zret_m X hr dX12_hasLeft_63 rfl h
set_option maxRecDepth 20000 in
theorem v_12_hasLeft {a1 : Int32} (X : CXq p s m args meth c cX12_hasLeft 2 yX12_hasLeft.cls ad cy D (AW ad) s.heap) (hr : meth.sig.returnType = (some .boolean)) (hZ : ad 1000 = 189) {w : Mem} {wl : MemL} {Q : Int32 → Mem → MemL → Prop} (h : wp_12_hasLeft a1 w wl Q) : V p l e (RM 3) s m args below meth c 2 ad cy D (AW ad) s.heap 0 0 (MQ below (va_Qi (fun r (u : Mem × MemL) => Q r u.1 u.2) (BM ad cy D wc) (AW ad)) args s 0 0 (AW ad)) wc w wl 0 [(0, .ref (ad 150)), (1, .int a1)] [] := by
  unfold wp_12_hasLeft at h
  refine V_aload_n X (i := 0) 0 dX12_hasLeft_0 rfl rfl ?_
  refine G_12_110 X hZ dX12_hasLeft_1 ?_
  refine V_iconst X (v := (1 : Int32)) dX12_hasLeft_4 (by decide) ?_
  refine V_iald_m X (rfl : SLq 181 = 260) (hzk hZ (by decide)) (rfl : SK 181 = 14) (vpl (by decide)) dX12_hasLeft_5 ?_
  refine V_iconst X (v := (3 : Int32)) dX12_hasLeft_6 (by decide) ?_
  obtain ⟨ht, hf⟩ := h
  refine V_icmp_eq X (tgt := 33) dX12_hasLeft_7 (by decide) (fun c => ?_) (fun c => ?_)
  · have h := ht c
    refine V_iconst X (v := (0 : Int32)) dX12_hasLeft_33 (by decide) ?_
    exact V_zret_m X hr dX12_hasLeft_34 rfl h
  · have h := hf c
    refine V_aload_n X (i := 0) 0 dX12_hasLeft_10 rfl rfl ?_
    refine G_12_110 X hZ dX12_hasLeft_11 ?_
    refine V_aload_n X (i := 0) 0 dX12_hasLeft_14 rfl rfl ?_
    refine V_iconst X (v := (4 : Int32)) dX12_hasLeft_15 (by decide) ?_
    refine V_aload_n X (i := 0) 0 dX12_hasLeft_16 rfl rfl ?_
    refine G_12_110 X hZ dX12_hasLeft_17 ?_
    refine V_iconst X (v := (1 : Int32)) dX12_hasLeft_20 (by decide) ?_
    refine V_iald_m X (rfl : SLq 181 = 260) (hzk hZ (by decide)) (rfl : SK 181 = 14) (vpl (by decide)) dX12_hasLeft_21 ?_
    refine V_iconst X (v := (1 : Int32)) dX12_hasLeft_22 (by decide) ?_
    refine V_isub X dX12_hasLeft_23 ?_
    refine V_iload_n X (i := 1) 1 dX12_hasLeft_24 rfl rfl ?_
    refine K_12_cell X (Or.inl q_1558) hZ h ⟨Nat.le_of_ble_eq_true rfl, Nat.le_of_ble_eq_true rfl⟩ ⟨Nat.zero_le _, Nat.zero_le _⟩ (st1 := [.ref (ad 181)]) (Nat.le_of_ble_eq_true rfl) dX12_hasLeft_25 (fun r2 w1 v3 h => ?_)
    obtain ⟨g4, h⟩ := h
    refine V_iald_m X (rfl : SLq 181 = 260) (hzk hZ (by decide)) (rfl : SK 181 = 14) g4 dX12_hasLeft_28 ?_
    refine V_iconst X (v := (1 : Int32)) dX12_hasLeft_29 (by decide) ?_
    obtain ⟨ht, hf⟩ := h
    refine V_icmp_ne X (tgt := 35) dX12_hasLeft_30 (by decide) (fun c => ?_) (fun c => ?_)
    · have h := ht c
      refine V_aload_n X (i := 0) 0 dX12_hasLeft_35 rfl rfl ?_
      refine G_12_110 X hZ dX12_hasLeft_36 ?_
      refine V_iconst X (v := (1 : Int32)) dX12_hasLeft_39 (by decide) ?_
      refine V_iald_m X (rfl : SLq 181 = 260) (hzk hZ (by decide)) (rfl : SK 181 = 14) (vpl (by decide)) dX12_hasLeft_40 ?_
      refine V_iconst X (v := (1 : Int32)) dX12_hasLeft_41 (by decide) ?_
      obtain ⟨ht, hf⟩ := h
      refine V_icmp_eq X (tgt := 58) dX12_hasLeft_42 (by decide) (fun c => ?_) (fun c => ?_)
      · have h := ht c
        refine V_sub X (ls1 := []) [] rfl ?_
        exact v_12_hasLeft_b58 X hr hZ _ _ h
      · have h := hf c
        refine V_aload_n X (i := 0) 0 dX12_hasLeft_45 rfl rfl ?_
        refine V_iload_n X (i := 1) 1 dX12_hasLeft_46 rfl rfl ?_
        refine V_iconst X (v := (1 : Int32)) dX12_hasLeft_47 (by decide) ?_
        refine K_12_rankBy X (Or.inl q_1554) hZ h ⟨Nat.le_of_ble_eq_true rfl, Nat.le_of_ble_eq_true rfl⟩ ⟨Nat.zero_le _, Nat.zero_le _⟩ (st1 := []) (Nat.le_of_ble_eq_true rfl) dX12_hasLeft_48 (fun r6 w5 v7 h => ?_)
        refine V_aload_n X (i := 0) 0 dX12_hasLeft_51 rfl rfl ?_
        refine K_12_inSecond X (Or.inl q_1566) hZ h ⟨Nat.le_of_ble_eq_true rfl, Nat.le_of_ble_eq_true rfl⟩ ⟨Nat.zero_le _, Nat.zero_le _⟩ (st1 := [.int r6]) (Nat.le_of_ble_eq_true rfl) dX12_hasLeft_52 (fun r9 w8 v10 h => ?_)
        obtain ⟨ht, hf⟩ := h
        refine V_icmp_ge X (tgt := 62) dX12_hasLeft_55 (by decide) (fun c => ?_) (fun c => ?_)
        · have h := ht c
          refine V_iconst X (v := (0 : Int32)) dX12_hasLeft_62 (by decide) ?_
          exact V_zret_m X hr dX12_hasLeft_63 rfl h
        · have h := hf c
          refine V_sub X (ls1 := []) [] rfl ?_
          exact v_12_hasLeft_b58 X hr hZ _ _ h
    · have h := hf c
      refine V_iconst X (v := (0 : Int32)) dX12_hasLeft_33 (by decide) ?_
      exact V_zret_m X hr dX12_hasLeft_34 rfl h
theorem c_12_hasLeft {a1 : Int32} (hinj : INJ ad) (hZ : ad 1000 = 189) {w : Mem} {wl : MemL} {Q : Int32 → Mem → MemL → Prop} (h : wp_12_hasLeft a1 w wl Q) : Met l yX12_hasLeft (TBq yX12_hasLeft cX12_hasLeft 2 (some .boolean)) (RM 3) (va_Pc [.ref (ad 150), .int a1] (PB ad cy D (cmb wc w) wl)) (va_Qi (fun r (u : Mem × MemL) => Q r u.1 u.2) (BM ad cy D wc) (AW ad)) 0 0 (AW ad) := M_enter (by decide) (Nat.le_of_ble_eq_true rfl) hinj (fun p e s m args below meth c X hr => v_12_hasLeft X hr hZ h)
theorem mf_12_hasLeft : MFV yX12_hasLeft cX12_hasLeft 2 (some .boolean) yX12_hasLeft.cls 1 := ⟨q_1767, q_1766, qs_93, q_14, by decide⟩
theorem K_12_hasLeft {own : String} {idx : Nat} {a1 : Int32} (X : CXq p s m args meth c cc nL own ad cy D A H0) (hL : LK own idx yX12_hasLeft) (hZ : ad 1000 = 189) {w : Mem} {wl : MemL} {Q : Int32 → Mem → MemL → Prop} (h : wp_12_hasLeft a1 w wl Q) (hR : (RM 3).frames + 1 ≤ R.frames ∧ 8 + (2 + 11) + (RM 3).locals ≤ R.locals) (hce : ce ≤ R.cells ∧ sl ≤ R.slots) (hcat : (st1.map fun v => v.category).sum ≤ 8) (hd : decode cc pc = .ok (.invokevirtual idx, 3)) (kk : ∀ (r : Int32) (u : Mem) (v : MemL), Q r u v → V p l e R s m args below meth c nL ad cy D A H0 ce sl Qs wc u v (pc + 3) ls (.int r :: st1)) : V p l e R s m args below meth c nL ad cy D A H0 ce sl Qs wc w wl pc ls (.int a1 :: .ref (ad 150) :: st1) := V_callVI_m X mf_12_hasLeft hL (rfl : vwCl[12]? = some (RX12, TX12, 72)) (by decide) (rfl : SK 150 = 12) (hzk hZ (by decide)).2 (c_12_hasLeft X.2.2.2.2.2.2.2.1 hZ h) (As := [.int a1]) rfl ⟨rfl, rfl⟩ hR hce st1 rfl hcat hd kk
set_option maxRecDepth 20000 in
theorem v_12_needs_b130 (X : CXq p s m args meth c cX12_needs 6 yX12_needs.cls ad cy D (AW ad) s.heap) (hr : meth.sig.returnType = (some .int)) (hZ : ad 1000 = 189) {Q : Int32 → Mem → MemL → Prop} : ∀ (n : Nat) (l2 : Int32) (l3 : Int32) (l4 : Int32) (w : Mem) (wl : MemL), wp_12_needs_b130 Q n l2 l3 l4 w wl → V p l e (RM 6) s m args below meth c 6 ad cy D (AW ad) s.heap 0 0 (MQ below (va_Qi (fun r (u : Mem × MemL) => Q r u.1 u.2) (BM ad cy D wc) (AW ad)) args s 0 0 (AW ad)) wc w wl 130 [(0, .ref (ad 150)), (2, .int l2), (3, .int l3), (4, .int l4)] [] := by
  intro n
  induction n with
  | zero =>
    intro l2 l3 l4 w wl h
    exact h.elim
  | succ n ih =>
    intro l2 l3 l4 w wl h
    unfold wp_12_needs_b130 at h
    refine V_iload X (i := 4) 3 dX12_needs_130 rfl ?_
    refine V_sipush X (v := (10000 : Int32)) dX12_needs_132 (by decide) ?_
    obtain ⟨ht, hf⟩ := h
    refine V_icmp_ge X (tgt := 167) dX12_needs_135 (by decide) (fun c => ?_) (fun c => ?_)
    · have h := ht c
      refine V_bipush X (v := (-2 : Int32)) dX12_needs_167 (by decide) ?_
      exact V_iret_m X hr dX12_needs_169 h
    · have h := hf c
      refine V_aload_n X (i := 0) 0 dX12_needs_138 rfl rfl ?_
      refine V_iload X (i := 4) 3 dX12_needs_139 rfl ?_
      obtain ⟨w1, ew1⟩ : ∃ y : Mem, y = st w 150 59 l4 := ⟨_, rfl⟩
      have h := h w1 ew1
      refine U_12_365 X hZ rfl rfl dX12_needs_141 ew1 ?_
      refine V_aload_n X (i := 0) 0 dX12_needs_144 rfl rfl ?_
      refine K_12_marksAll X (Or.inl q_1672) hZ h ⟨Nat.le_of_ble_eq_true rfl, Nat.le_of_ble_eq_true rfl⟩ ⟨Nat.zero_le _, Nat.zero_le _⟩ (st1 := []) (Nat.le_of_ble_eq_true rfl) dX12_needs_145 (fun w2 v3 h => ?_)
      refine V_iload_n X (i := 3) 2 dX12_needs_148 rfl rfl ?_
      refine V_aload_n X (i := 0) 0 dX12_needs_149 rfl rfl ?_
      refine G_12_380 X hZ dX12_needs_150 ?_
      refine V_iadd X dX12_needs_153 ?_
      refine V_iload_n X (i := 2) 1 dX12_needs_154 rfl rfl ?_
      obtain ⟨ht, hf⟩ := h
      refine V_icmp_lt X (tgt := 161) dX12_needs_155 (by decide) (fun c => ?_) (fun c => ?_)
      · have h := ht c
        obtain ⟨x4, ex4⟩ : ∃ y : Int32, y = l4 + (1 : Int32) := ⟨_, rfl⟩
        have h := h x4 ex4
        refine V_iinc X 3 dX12_needs_161 rfl (by decide) (by rw [ex4]; rfl) (ls1 := [(4, .int x4), (0, .ref (ad 150)), (2, .int l2), (3, .int l3)]) rfl ?_
        refine V_goto X (tgt := 130) dX12_needs_164 (by decide) ?_
        refine V_sub X (ls1 := [(0, .ref (ad 150)), (2, .int l2), (3, .int l3), (4, .int x4)]) [1, 2, 3, 0] rfl ?_
        exact ih _ _ _ _ _ h
      · have h := hf c
        refine V_iload X (i := 4) 3 dX12_needs_158 rfl ?_
        exact V_iret_m X hr dX12_needs_160 h
set_option maxRecDepth 20000 in
theorem v_12_needs_b121 (X : CXq p s m args meth c cX12_needs 6 yX12_needs.cls ad cy D (AW ad) s.heap) (hr : meth.sig.returnType = (some .int)) (hZ : ad 1000 = 189) {Q : Int32 → Mem → MemL → Prop} {L69 : Int32 → Int32 → Int32 → Int32 → Mem → MemL → Prop} (HL69 : ∀ (l1 : Int32) (l2 : Int32) (l3 : Int32) (l4 : Int32) (w : Mem) (wl : MemL), L69 l1 l2 l3 l4 w wl → V p l e (RM 6) s m args below meth c 6 ad cy D (AW ad) s.heap 0 0 (MQ below (va_Qi (fun r (u : Mem × MemL) => Q r u.1 u.2) (BM ad cy D wc) (AW ad)) args s 0 0 (AW ad)) wc w wl 69 [(0, .ref (ad 150)), (1, .int l1), (2, .int l2), (3, .int l3), (4, .int l4)] []) : ∀ (l1 : Int32) (l2 : Int32) (l3 : Int32) (l4 : Int32) (w : Mem) (wl : MemL), wp_12_needs_b121 Q L69 l1 l2 l3 l4 w wl → V p l e (RM 6) s m args below meth c 6 ad cy D (AW ad) s.heap 0 0 (MQ below (va_Qi (fun r (u : Mem × MemL) => Q r u.1 u.2) (BM ad cy D wc) (AW ad)) args s 0 0 (AW ad)) wc w wl 121 [(0, .ref (ad 150)), (1, .int l1), (2, .int l2), (3, .int l3), (4, .int l4)] [] := by
  intro l1 l2 l3 l4 w wl h
  unfold wp_12_needs_b121 at h
  obtain ⟨x1, ex1⟩ : ∃ y : Int32, y = l4 + (1 : Int32) := ⟨_, rfl⟩
  have h := h x1 ex1
  refine V_iinc X 4 dX12_needs_121 rfl (by decide) (by rw [ex1]; rfl) (ls1 := [(4, .int x1), (0, .ref (ad 150)), (1, .int l1), (2, .int l2), (3, .int l3)]) rfl ?_
  refine V_goto X (tgt := 69) dX12_needs_124 (by decide) ?_
  refine V_sub X (ls1 := [(0, .ref (ad 150)), (1, .int l1), (2, .int l2), (3, .int l3), (4, .int x1)]) [1, 2, 3, 4, 0] rfl ?_
  exact HL69 _ _ _ _ _ _ h
set_option maxRecDepth 20000 in
theorem v_12_needs_b109 (X : CXq p s m args meth c cX12_needs 6 yX12_needs.cls ad cy D (AW ad) s.heap) (hr : meth.sig.returnType = (some .int)) (hZ : ad 1000 = 189) {Q : Int32 → Mem → MemL → Prop} {L69 : Int32 → Int32 → Int32 → Int32 → Mem → MemL → Prop} (HL69 : ∀ (l1 : Int32) (l2 : Int32) (l3 : Int32) (l4 : Int32) (w : Mem) (wl : MemL), L69 l1 l2 l3 l4 w wl → V p l e (RM 6) s m args below meth c 6 ad cy D (AW ad) s.heap 0 0 (MQ below (va_Qi (fun r (u : Mem × MemL) => Q r u.1 u.2) (BM ad cy D wc) (AW ad)) args s 0 0 (AW ad)) wc w wl 69 [(0, .ref (ad 150)), (1, .int l1), (2, .int l2), (3, .int l3), (4, .int l4)] []) : ∀ (l1 : Int32) (l2 : Int32) (l3 : Int32) (l4 : Int32) (s0 : Int32) (s1 : Int32) (w : Mem) (wl : MemL), wp_12_needs_b109 Q L69 l1 l2 l3 l4 s0 s1 w wl → V p l e (RM 6) s m args below meth c 6 ad cy D (AW ad) s.heap 0 0 (MQ below (va_Qi (fun r (u : Mem × MemL) => Q r u.1 u.2) (BM ad cy D wc) (AW ad)) args s 0 0 (AW ad)) wc w wl 109 [(0, .ref (ad 150)), (1, .int l1), (2, .int l2), (3, .int l3), (4, .int l4)] [.int s1, .int s0] := by
  intro l1 l2 l3 l4 s0 s1 w wl h
  unfold wp_12_needs_b109 at h
  refine V_iadd X dX12_needs_109 ?_
  obtain ⟨x1, ex1⟩ : ∃ y : Int32, y = (s0 + s1) := ⟨_, rfl⟩
  have h := h x1 ex1
  refine V_istore X dX12_needs_110 (by decide) ex1 (ls1 := [(5, .int x1), (0, .ref (ad 150)), (1, .int l1), (2, .int l2), (3, .int l3), (4, .int l4)]) rfl ?_
  refine V_iload X (i := 5) 0 dX12_needs_112 rfl ?_
  refine V_iload_n X (i := 2) 3 dX12_needs_114 rfl rfl ?_
  obtain ⟨ht, hf⟩ := h
  refine V_icmp_le X (tgt := 121) dX12_needs_115 (by decide) (fun c => ?_) (fun c => ?_)
  · have h := ht c
    refine V_sub X (ls1 := [(0, .ref (ad 150)), (1, .int l1), (2, .int l2), (3, .int l3), (4, .int l4)]) [1, 2, 3, 4, 5] rfl ?_
    exact v_12_needs_b121 X hr hZ HL69 _ _ _ _ _ _ h
  · have h := hf c
    refine V_iload X (i := 5) 0 dX12_needs_118 rfl ?_
    refine V_istore_n X dX12_needs_120 rfl (by decide) rfl (ls1 := [(2, .int x1), (5, .int x1), (0, .ref (ad 150)), (1, .int l1), (3, .int l3), (4, .int l4)]) rfl ?_
    refine V_sub X (ls1 := [(0, .ref (ad 150)), (1, .int l1), (2, .int x1), (3, .int l3), (4, .int l4)]) [2, 3, 0, 4, 5] rfl ?_
    exact v_12_needs_b121 X hr hZ HL69 _ _ _ _ _ _ h
set_option maxRecDepth 20000 in
theorem v_12_needs_b69 (X : CXq p s m args meth c cX12_needs 6 yX12_needs.cls ad cy D (AW ad) s.heap) (hr : meth.sig.returnType = (some .int)) (hZ : ad 1000 = 189) {Q : Int32 → Mem → MemL → Prop} : ∀ (n : Nat) (l1 : Int32) (l2 : Int32) (l3 : Int32) (l4 : Int32) (w : Mem) (wl : MemL), wp_12_needs_b69 Q n l1 l2 l3 l4 w wl → V p l e (RM 6) s m args below meth c 6 ad cy D (AW ad) s.heap 0 0 (MQ below (va_Qi (fun r (u : Mem × MemL) => Q r u.1 u.2) (BM ad cy D wc) (AW ad)) args s 0 0 (AW ad)) wc w wl 69 [(0, .ref (ad 150)), (1, .int l1), (2, .int l2), (3, .int l3), (4, .int l4)] [] := by
  intro n
  induction n with
  | zero =>
    intro l1 l2 l3 l4 w wl h
    exact h.elim
  | succ n ih =>
    intro l1 l2 l3 l4 w wl h
    unfold wp_12_needs_b69 at h
    refine V_iload X (i := 4) 4 dX12_needs_69 rfl ?_
    refine V_aload_n X (i := 0) 0 dX12_needs_71 rfl rfl ?_
    refine G_12_46 X hZ dX12_needs_72 ?_
    refine V_aload_n X (i := 0) 0 dX12_needs_75 rfl rfl ?_
    refine G_12_218 X hZ dX12_needs_76 ?_
    obtain ⟨g1, h⟩ := h
    refine V_iald_m X (rfl : SLq 160 = 2) (hzk hZ (by decide)) (rfl : SK 160 = 14) g1 dX12_needs_79 ?_
    obtain ⟨ht, hf⟩ := h
    refine V_icmp_ge X (tgt := 127) dX12_needs_80 (by decide) (fun c => ?_) (fun c => ?_)
    · have h := ht c
      refine V_iconst X (v := (0 : Int32)) dX12_needs_127 (by decide) ?_
      refine V_istore X dX12_needs_128 (by decide) rfl (ls1 := [(4, .int (0 : Int32)), (0, .ref (ad 150)), (1, .int l1), (2, .int l2), (3, .int l3)]) rfl ?_
      refine V_sub X (ls1 := [(0, .ref (ad 150)), (2, .int l2), (3, .int l3), (4, .int (0 : Int32))]) [1, 3, 4, 0] rfl ?_
      obtain ⟨nn, h⟩ := h
      exact v_12_needs_b130 X hr hZ nn _ _ _ _ _ h
    · have h := hf c
      refine V_iload X (i := 4) 4 dX12_needs_83 rfl ?_
      refine V_iload_n X (i := 1) 1 dX12_needs_85 rfl rfl ?_
      obtain ⟨ht, hf⟩ := h
      refine V_icmp_ne X (tgt := 92) dX12_needs_86 (by decide) (fun c => ?_) (fun c => ?_)
      · have h := ht c
        refine V_aload_n X (i := 0) 0 dX12_needs_92 rfl rfl ?_
        refine V_iload X (i := 4) 4 dX12_needs_93 rfl ?_
        refine K_12_pointsOf X (Or.inl q_1562) hZ h ⟨Nat.le_of_ble_eq_true rfl, Nat.le_of_ble_eq_true rfl⟩ ⟨Nat.zero_le _, Nat.zero_le _⟩ (st1 := []) (Nat.le_of_ble_eq_true rfl) dX12_needs_95 (fun r3 w2 v4 h => ?_)
        refine V_iload X (i := 4) 4 dX12_needs_98 rfl ?_
        refine V_iload_n X (i := 1) 1 dX12_needs_100 rfl rfl ?_
        obtain ⟨ht, hf⟩ := h
        refine V_icmp_ge X (tgt := 108) dX12_needs_101 (by decide) (fun c => ?_) (fun c => ?_)
        · have h := ht c
          refine V_iconst X (v := (0 : Int32)) dX12_needs_108 (by decide) ?_
          refine V_sub X (ls1 := [(0, .ref (ad 150)), (1, .int l1), (2, .int l2), (3, .int l3), (4, .int l4)]) [0, 1, 2, 3, 4] rfl ?_
          exact v_12_needs_b109 X hr hZ ih _ _ _ _ _ _ _ _ h
        · have h := hf c
          refine V_iconst X (v := (1 : Int32)) dX12_needs_104 (by decide) ?_
          refine V_goto X (tgt := 109) dX12_needs_105 (by decide) ?_
          refine V_sub X (ls1 := [(0, .ref (ad 150)), (1, .int l1), (2, .int l2), (3, .int l3), (4, .int l4)]) [0, 1, 2, 3, 4] rfl ?_
          exact v_12_needs_b109 X hr hZ ih _ _ _ _ _ _ _ _ h
      · have h := hf c
        refine V_goto X (tgt := 121) dX12_needs_89 (by decide) ?_
        refine V_sub X (ls1 := [(0, .ref (ad 150)), (1, .int l1), (2, .int l2), (3, .int l3), (4, .int l4)]) [0, 1, 2, 3, 4] rfl ?_
        exact v_12_needs_b121 X hr hZ ih _ _ _ _ _ _ h
set_option maxRecDepth 20000 in
theorem v_12_needs {a1 : Int32} (X : CXq p s m args meth c cX12_needs 6 yX12_needs.cls ad cy D (AW ad) s.heap) (hr : meth.sig.returnType = (some .int)) (hZ : ad 1000 = 189) {w : Mem} {wl : MemL} {Q : Int32 → Mem → MemL → Prop} (h : wp_12_needs a1 w wl Q) : V p l e (RM 6) s m args below meth c 6 ad cy D (AW ad) s.heap 0 0 (MQ below (va_Qi (fun r (u : Mem × MemL) => Q r u.1 u.2) (BM ad cy D wc) (AW ad)) args s 0 0 (AW ad)) wc w wl 0 [(0, .ref (ad 150)), (1, .int a1)] [] := by
  unfold wp_12_needs at h
  refine V_aload_n X (i := 0) 0 dX12_needs_0 rfl rfl ?_
  refine V_iload_n X (i := 1) 1 dX12_needs_1 rfl rfl ?_
  refine K_12_isMan X (Or.inl q_1621) hZ h ⟨Nat.le_of_ble_eq_true rfl, Nat.le_of_ble_eq_true rfl⟩ ⟨Nat.zero_le _, Nat.zero_le _⟩ (st1 := []) (Nat.le_of_ble_eq_true rfl) dX12_needs_2 (fun r2 w1 v3 h => ?_)
  obtain ⟨ht, hf⟩ := h
  refine V_if_ne X (tgt := 10) dX12_needs_5 (by decide) (fun c => ?_) (fun c => ?_)
  · have h := ht c
    refine V_aload_n X (i := 0) 0 dX12_needs_10 rfl rfl ?_
    refine K_12_copies X (Or.inl q_1546) hZ h ⟨Nat.le_of_ble_eq_true rfl, Nat.le_of_ble_eq_true rfl⟩ ⟨Nat.zero_le _, Nat.zero_le _⟩ (st1 := []) (Nat.le_of_ble_eq_true rfl) dX12_needs_11 (fun w4 v5 h => ?_)
    refine V_aload_n X (i := 0) 0 dX12_needs_14 rfl rfl ?_
    refine V_iload_n X (i := 1) 1 dX12_needs_15 rfl rfl ?_
    refine K_12_hasLeft X (Or.inl q_1764) hZ h ⟨Nat.le_of_ble_eq_true rfl, Nat.le_of_ble_eq_true rfl⟩ ⟨Nat.zero_le _, Nat.zero_le _⟩ (st1 := []) (Nat.le_of_ble_eq_true rfl) dX12_needs_16 (fun r7 w6 v8 h => ?_)
    obtain ⟨ht, hf⟩ := h
    refine V_if_ne X (tgt := 24) dX12_needs_19 (by decide) (fun c => ?_) (fun c => ?_)
    · have h := ht c
      refine V_aload_n X (i := 0) 0 dX12_needs_24 rfl rfl ?_
      refine V_iload_n X (i := 1) 1 dX12_needs_25 rfl rfl ?_
      refine V_aload_n X (i := 0) 0 dX12_needs_26 rfl rfl ?_
      refine G_12_110 X hZ dX12_needs_27 ?_
      refine V_iconst X (v := (0 : Int32)) dX12_needs_30 (by decide) ?_
      refine V_iald_m X (rfl : SLq 181 = 260) (hzk hZ (by decide)) (rfl : SK 181 = 14) (vpl (by decide)) dX12_needs_31 ?_
      refine V_iconst X (v := (0 : Int32)) dX12_needs_32 (by decide) ?_
      refine V_aload_n X (i := 0) 0 dX12_needs_33 rfl rfl ?_
      refine G_12_110 X hZ dX12_needs_34 ?_
      refine V_iconst X (v := (2 : Int32)) dX12_needs_37 (by decide) ?_
      refine V_iald_m X (rfl : SLq 181 = 260) (hzk hZ (by decide)) (rfl : SK 181 = 14) (vpl (by decide)) dX12_needs_38 ?_
      refine V_aload_n X (i := 0) 0 dX12_needs_39 rfl rfl ?_
      refine G_12_110 X hZ dX12_needs_40 ?_
      refine V_iconst X (v := (3 : Int32)) dX12_needs_43 (by decide) ?_
      refine V_iald_m X (rfl : SLq 181 = 260) (hzk hZ (by decide)) (rfl : SK 181 = 14) (vpl (by decide)) dX12_needs_44 ?_
      refine K_12_setsJump X (Or.inl q_1664) hZ h ⟨Nat.le_of_ble_eq_true rfl, Nat.le_of_ble_eq_true rfl⟩ ⟨Nat.zero_le _, Nat.zero_le _⟩ (st1 := []) (Nat.le_of_ble_eq_true rfl) dX12_needs_45 (fun w9 v10 h => ?_)
      refine V_aload_n X (i := 0) 0 dX12_needs_48 rfl rfl ?_
      refine V_iconst X (v := (0 : Int32)) dX12_needs_49 (by decide) ?_
      obtain ⟨w11, ew11⟩ : ∃ y : Mem, y = st w9 150 55 (0 : Int32) := ⟨_, rfl⟩
      have h := h w11 ew11
      refine U_12_347 X hZ rfl rfl dX12_needs_50 ew11 ?_
      refine V_aload_n X (i := 0) 0 dX12_needs_53 rfl rfl ?_
      refine V_iconst X (v := (0 : Int32)) dX12_needs_54 (by decide) ?_
      obtain ⟨w12, ew12⟩ : ∃ y : Mem, y = st w11 150 56 (0 : Int32) := ⟨_, rfl⟩
      have h := h w12 ew12
      refine U_12_353 X hZ rfl rfl dX12_needs_55 ew12 ?_
      refine V_iconst X (v := (-1 : Int32)) dX12_needs_58 (by decide) ?_
      refine V_istore_n X dX12_needs_59 rfl (by decide) rfl (ls1 := [(2, .int (-1 : Int32)), (0, .ref (ad 150)), (1, .int a1)]) rfl ?_
      refine V_aload_n X (i := 0) 1 dX12_needs_60 rfl rfl ?_
      refine V_iload_n X (i := 1) 2 dX12_needs_61 rfl rfl ?_
      refine K_12_pointsOf X (Or.inl q_1562) hZ h ⟨Nat.le_of_ble_eq_true rfl, Nat.le_of_ble_eq_true rfl⟩ ⟨Nat.zero_le _, Nat.zero_le _⟩ (st1 := []) (Nat.le_of_ble_eq_true rfl) dX12_needs_62 (fun r14 w13 v15 h => ?_)
      refine V_istore_n X dX12_needs_65 rfl (by decide) rfl (ls1 := [(3, .int r14), (2, .int (-1 : Int32)), (0, .ref (ad 150)), (1, .int a1)]) rfl ?_
      refine V_iconst X (v := (0 : Int32)) dX12_needs_66 (by decide) ?_
      refine V_istore X dX12_needs_67 (by decide) rfl (ls1 := [(4, .int (0 : Int32)), (3, .int r14), (2, .int (-1 : Int32)), (0, .ref (ad 150)), (1, .int a1)]) rfl ?_
      refine V_sub X (ls1 := [(0, .ref (ad 150)), (1, .int a1), (2, .int (-1 : Int32)), (3, .int r14), (4, .int (0 : Int32))]) [3, 4, 2, 1, 0] rfl ?_
      obtain ⟨nn, h⟩ := h
      exact v_12_needs_b69 X hr hZ nn _ _ _ _ _ _ h
    · have h := hf c
      refine V_iconst X (v := (-1 : Int32)) dX12_needs_22 (by decide) ?_
      exact V_iret_m X hr dX12_needs_23 h
  · have h := hf c
    refine V_iconst X (v := (-1 : Int32)) dX12_needs_8 (by decide) ?_
    exact V_iret_m X hr dX12_needs_9 h
theorem c_12_needs {a1 : Int32} (hinj : INJ ad) (hZ : ad 1000 = 189) {w : Mem} {wl : MemL} {Q : Int32 → Mem → MemL → Prop} (h : wp_12_needs a1 w wl Q) : Met l yX12_needs (TBq yX12_needs cX12_needs 6 (some .int)) (RM 6) (va_Pc [.ref (ad 150), .int a1] (PB ad cy D (cmb wc w) wl)) (va_Qi (fun r (u : Mem × MemL) => Q r u.1 u.2) (BM ad cy D wc) (AW ad)) 0 0 (AW ad) := M_enter (by decide) (Nat.le_of_ble_eq_true rfl) hinj (fun p e s m args below meth c X hr => v_12_needs X hr hZ h)
theorem mf_12_needs : MFV yX12_needs cX12_needs 6 (some .int) yX12_needs.cls 1 := ⟨q_1763, q_1761, q_1762, q_14, by decide⟩
theorem K_12_needs {own : String} {idx : Nat} {a1 : Int32} (X : CXq p s m args meth c cc nL own ad cy D A H0) (hL : LK own idx yX12_needs) (hZ : ad 1000 = 189) {w : Mem} {wl : MemL} {Q : Int32 → Mem → MemL → Prop} (h : wp_12_needs a1 w wl Q) (hR : (RM 6).frames + 1 ≤ R.frames ∧ 8 + (6 + 11) + (RM 6).locals ≤ R.locals) (hce : ce ≤ R.cells ∧ sl ≤ R.slots) (hcat : (st1.map fun v => v.category).sum ≤ 8) (hd : decode cc pc = .ok (.invokevirtual idx, 3)) (kk : ∀ (r : Int32) (u : Mem) (v : MemL), Q r u v → V p l e R s m args below meth c nL ad cy D A H0 ce sl Qs wc u v (pc + 3) ls (.int r :: st1)) : V p l e R s m args below meth c nL ad cy D A H0 ce sl Qs wc w wl pc ls (.int a1 :: .ref (ad 150) :: st1) := V_callVI_m X mf_12_needs hL (rfl : vwCl[12]? = some (RX12, TX12, 72)) (by decide) (rfl : SK 150 = 12) (hzk hZ (by decide)).2 (c_12_needs X.2.2.2.2.2.2.2.1 hZ h) (As := [.int a1]) rfl ⟨rfl, rfl⟩ hR hce st1 rfl hcat hd kk
set_option maxRecDepth 20000 in
theorem v_12_spread_b64 (X : CXq p s m args meth c cX12_spread 5 yX12_spread.cls ad cy D (AW ad) s.heap) (hr : meth.sig.returnType = (some .int)) (hZ : ad 1000 = 189) {Q : Int32 → Mem → MemL → Prop} {L19 : Int32 → Int32 → Int32 → Int32 → Mem → MemL → Prop} (HL19 : ∀ (l1 : Int32) (l2 : Int32) (l3 : Int32) (l4 : Int32) (w : Mem) (wl : MemL), L19 l1 l2 l3 l4 w wl → V p l e (RM 7) s m args below meth c 5 ad cy D (AW ad) s.heap 0 0 (MQ below (va_Qi (fun r (u : Mem × MemL) => Q r u.1 u.2) (BM ad cy D wc) (AW ad)) args s 0 0 (AW ad)) wc w wl 19 [(0, .ref (ad 150)), (1, .int l1), (2, .int l2), (3, .int l3), (4, .int l4)] []) : ∀ (l1 : Int32) (l2 : Int32) (l3 : Int32) (l4 : Int32) (w : Mem) (wl : MemL), wp_12_spread_b64 Q L19 l1 l2 l3 l4 w wl → V p l e (RM 7) s m args below meth c 5 ad cy D (AW ad) s.heap 0 0 (MQ below (va_Qi (fun r (u : Mem × MemL) => Q r u.1 u.2) (BM ad cy D wc) (AW ad)) args s 0 0 (AW ad)) wc w wl 64 [(0, .ref (ad 150)), (1, .int l1), (2, .int l2), (3, .int l3), (4, .int l4)] [] := by
  intro l1 l2 l3 l4 w wl h
  unfold wp_12_spread_b64 at h
  obtain ⟨x1, ex1⟩ : ∃ y : Int32, y = l4 + (1 : Int32) := ⟨_, rfl⟩
  have h := h x1 ex1
  refine V_iinc X 4 dX12_spread_64 rfl (by decide) (by rw [ex1]; rfl) (ls1 := [(4, .int x1), (0, .ref (ad 150)), (1, .int l1), (2, .int l2), (3, .int l3)]) rfl ?_
  refine V_goto X (tgt := 19) dX12_spread_67 (by decide) ?_
  refine V_sub X (ls1 := [(0, .ref (ad 150)), (1, .int l1), (2, .int l2), (3, .int l3), (4, .int x1)]) [1, 2, 3, 4, 0] rfl ?_
  exact HL19 _ _ _ _ _ _ h
set_option maxRecDepth 20000 in
theorem v_12_spread_b51 (X : CXq p s m args meth c cX12_spread 5 yX12_spread.cls ad cy D (AW ad) s.heap) (hr : meth.sig.returnType = (some .int)) (hZ : ad 1000 = 189) {Q : Int32 → Mem → MemL → Prop} {L19 : Int32 → Int32 → Int32 → Int32 → Mem → MemL → Prop} (HL19 : ∀ (l1 : Int32) (l2 : Int32) (l3 : Int32) (l4 : Int32) (w : Mem) (wl : MemL), L19 l1 l2 l3 l4 w wl → V p l e (RM 7) s m args below meth c 5 ad cy D (AW ad) s.heap 0 0 (MQ below (va_Qi (fun r (u : Mem × MemL) => Q r u.1 u.2) (BM ad cy D wc) (AW ad)) args s 0 0 (AW ad)) wc w wl 19 [(0, .ref (ad 150)), (1, .int l1), (2, .int l2), (3, .int l3), (4, .int l4)] []) : ∀ (l1 : Int32) (l2 : Int32) (l3 : Int32) (l4 : Int32) (w : Mem) (wl : MemL), wp_12_spread_b51 Q L19 l1 l2 l3 l4 w wl → V p l e (RM 7) s m args below meth c 5 ad cy D (AW ad) s.heap 0 0 (MQ below (va_Qi (fun r (u : Mem × MemL) => Q r u.1 u.2) (BM ad cy D wc) (AW ad)) args s 0 0 (AW ad)) wc w wl 51 [(0, .ref (ad 150)), (1, .int l1), (2, .int l2), (3, .int l3), (4, .int l4)] [] := by
  intro l1 l2 l3 l4 w wl h
  unfold wp_12_spread_b51 at h
  refine V_aload_n X (i := 0) 0 dX12_spread_51 rfl rfl ?_
  refine G_12_365 X hZ dX12_spread_52 ?_
  refine V_iload_n X (i := 3) 3 dX12_spread_55 rfl rfl ?_
  obtain ⟨ht, hf⟩ := h
  refine V_icmp_le X (tgt := 64) dX12_spread_56 (by decide) (fun c => ?_) (fun c => ?_)
  · have h := ht c
    refine V_sub X (ls1 := [(0, .ref (ad 150)), (1, .int l1), (2, .int l2), (3, .int l3), (4, .int l4)]) [0, 1, 2, 3, 4] rfl ?_
    exact v_12_spread_b64 X hr hZ HL19 _ _ _ _ _ _ h
  · have h := hf c
    refine V_aload_n X (i := 0) 0 dX12_spread_59 rfl rfl ?_
    refine G_12_365 X hZ dX12_spread_60 ?_
    obtain ⟨x1, ex1⟩ : ∃ y : Int32, y = (w 150 59) := ⟨_, rfl⟩
    have h := h x1 ex1
    refine V_istore_n X dX12_spread_63 rfl (by decide) ex1 (ls1 := [(3, .int x1), (0, .ref (ad 150)), (1, .int l1), (2, .int l2), (4, .int l4)]) rfl ?_
    refine V_sub X (ls1 := [(0, .ref (ad 150)), (1, .int l1), (2, .int l2), (3, .int x1), (4, .int l4)]) [1, 2, 3, 0, 4] rfl ?_
    exact v_12_spread_b64 X hr hZ HL19 _ _ _ _ _ _ h
set_option maxRecDepth 20000 in
theorem v_12_spread_b19 (X : CXq p s m args meth c cX12_spread 5 yX12_spread.cls ad cy D (AW ad) s.heap) (hr : meth.sig.returnType = (some .int)) (hZ : ad 1000 = 189) {Q : Int32 → Mem → MemL → Prop} : ∀ (n : Nat) (l1 : Int32) (l2 : Int32) (l3 : Int32) (l4 : Int32) (w : Mem) (wl : MemL), wp_12_spread_b19 Q n l1 l2 l3 l4 w wl → V p l e (RM 7) s m args below meth c 5 ad cy D (AW ad) s.heap 0 0 (MQ below (va_Qi (fun r (u : Mem × MemL) => Q r u.1 u.2) (BM ad cy D wc) (AW ad)) args s 0 0 (AW ad)) wc w wl 19 [(0, .ref (ad 150)), (1, .int l1), (2, .int l2), (3, .int l3), (4, .int l4)] [] := by
  intro n
  induction n with
  | zero =>
    intro l1 l2 l3 l4 w wl h
    exact h.elim
  | succ n ih =>
    intro l1 l2 l3 l4 w wl h
    unfold wp_12_spread_b19 at h
    refine V_iload X (i := 4) 4 dX12_spread_19 rfl ?_
    refine V_aload_n X (i := 0) 0 dX12_spread_21 rfl rfl ?_
    refine V_bipush X (v := (10 : Int32)) dX12_spread_22 (by decide) ?_
    refine K_12_tell0 X (Or.inl q_1203) hZ h ⟨Nat.le_of_ble_eq_true rfl, Nat.le_of_ble_eq_true rfl⟩ ⟨Nat.zero_le _, Nat.zero_le _⟩ (st1 := [.int l4]) (Nat.le_of_ble_eq_true rfl) dX12_spread_24 (fun r2 w1 v3 h => ?_)
    obtain ⟨ht, hf⟩ := h
    refine V_icmp_gt X (tgt := 70) dX12_spread_27 (by decide) (fun c => ?_) (fun c => ?_)
    · have h := ht c
      refine V_iload_n X (i := 3) 3 dX12_spread_70 rfl rfl ?_
      refine V_iload_n X (i := 2) 2 dX12_spread_71 rfl rfl ?_
      refine V_isub X dX12_spread_72 ?_
      exact V_iret_m X hr dX12_spread_73 h
    · have h := hf c
      refine V_aload_n X (i := 0) 0 dX12_spread_30 rfl rfl ?_
      refine V_iload_n X (i := 1) 1 dX12_spread_31 rfl rfl ?_
      refine V_iload X (i := 4) 4 dX12_spread_32 rfl ?_
      refine V_iconst X (v := (0 : Int32)) dX12_spread_34 (by decide) ?_
      refine K_12_tries X (Or.inl q_1708) hZ h ⟨Nat.le_of_ble_eq_true rfl, Nat.le_of_ble_eq_true rfl⟩ ⟨Nat.zero_le _, Nat.zero_le _⟩ (st1 := []) (Nat.le_of_ble_eq_true rfl) dX12_spread_35 (fun w4 v5 h => ?_)
      refine V_aload_n X (i := 0) 0 dX12_spread_38 rfl rfl ?_
      refine G_12_365 X hZ dX12_spread_39 ?_
      refine V_iload_n X (i := 2) 2 dX12_spread_42 rfl rfl ?_
      obtain ⟨ht, hf⟩ := h
      refine V_icmp_ge X (tgt := 51) dX12_spread_43 (by decide) (fun c => ?_) (fun c => ?_)
      · have h := ht c
        refine V_sub X (ls1 := [(0, .ref (ad 150)), (1, .int l1), (2, .int l2), (3, .int l3), (4, .int l4)]) [0, 1, 2, 3, 4] rfl ?_
        exact v_12_spread_b51 X hr hZ ih _ _ _ _ _ _ h
      · have h := hf c
        refine V_aload_n X (i := 0) 0 dX12_spread_46 rfl rfl ?_
        refine G_12_365 X hZ dX12_spread_47 ?_
        obtain ⟨x6, ex6⟩ : ∃ y : Int32, y = (w4 150 59) := ⟨_, rfl⟩
        have h := h x6 ex6
        refine V_istore_n X dX12_spread_50 rfl (by decide) ex6 (ls1 := [(2, .int x6), (0, .ref (ad 150)), (1, .int l1), (3, .int l3), (4, .int l4)]) rfl ?_
        refine V_sub X (ls1 := [(0, .ref (ad 150)), (1, .int l1), (2, .int x6), (3, .int l3), (4, .int l4)]) [1, 2, 0, 3, 4] rfl ?_
        exact v_12_spread_b51 X hr hZ ih _ _ _ _ _ _ h
set_option maxRecDepth 20000 in
theorem v_12_spread {a1 : Int32} (X : CXq p s m args meth c cX12_spread 5 yX12_spread.cls ad cy D (AW ad) s.heap) (hr : meth.sig.returnType = (some .int)) (hZ : ad 1000 = 189) {w : Mem} {wl : MemL} {Q : Int32 → Mem → MemL → Prop} (h : wp_12_spread a1 w wl Q) : V p l e (RM 7) s m args below meth c 5 ad cy D (AW ad) s.heap 0 0 (MQ below (va_Qi (fun r (u : Mem × MemL) => Q r u.1 u.2) (BM ad cy D wc) (AW ad)) args s 0 0 (AW ad)) wc w wl 0 [(0, .ref (ad 150)), (1, .int a1)] [] := by
  unfold wp_12_spread at h
  refine V_aload_n X (i := 0) 0 dX12_spread_0 rfl rfl ?_
  refine V_iload_n X (i := 1) 1 dX12_spread_1 rfl rfl ?_
  refine K_12_isMan X (Or.inl q_1621) hZ h ⟨Nat.le_of_ble_eq_true rfl, Nat.le_of_ble_eq_true rfl⟩ ⟨Nat.zero_le _, Nat.zero_le _⟩ (st1 := []) (Nat.le_of_ble_eq_true rfl) dX12_spread_2 (fun r2 w1 v3 h => ?_)
  obtain ⟨ht, hf⟩ := h
  refine V_if_ne X (tgt := 10) dX12_spread_5 (by decide) (fun c => ?_) (fun c => ?_)
  · have h := ht c
    refine V_sipush X (v := (10000 : Int32)) dX12_spread_10 (by decide) ?_
    refine V_istore_n X dX12_spread_13 rfl (by decide) rfl (ls1 := [(2, .int (10000 : Int32)), (0, .ref (ad 150)), (1, .int a1)]) rfl ?_
    refine V_iconst X (v := (-1 : Int32)) dX12_spread_14 (by decide) ?_
    refine V_istore_n X dX12_spread_15 rfl (by decide) rfl (ls1 := [(3, .int (-1 : Int32)), (2, .int (10000 : Int32)), (0, .ref (ad 150)), (1, .int a1)]) rfl ?_
    refine V_iconst X (v := (0 : Int32)) dX12_spread_16 (by decide) ?_
    refine V_istore X dX12_spread_17 (by decide) rfl (ls1 := [(4, .int (0 : Int32)), (3, .int (-1 : Int32)), (2, .int (10000 : Int32)), (0, .ref (ad 150)), (1, .int a1)]) rfl ?_
    refine V_sub X (ls1 := [(0, .ref (ad 150)), (1, .int a1), (2, .int (10000 : Int32)), (3, .int (-1 : Int32)), (4, .int (0 : Int32))]) [3, 4, 2, 1, 0] rfl ?_
    obtain ⟨nn, h⟩ := h
    exact v_12_spread_b19 X hr hZ nn _ _ _ _ _ _ h
  · have h := hf c
    refine V_iconst X (v := (-1 : Int32)) dX12_spread_8 (by decide) ?_
    exact V_iret_m X hr dX12_spread_9 h
theorem c_12_spread {a1 : Int32} (hinj : INJ ad) (hZ : ad 1000 = 189) {w : Mem} {wl : MemL} {Q : Int32 → Mem → MemL → Prop} (h : wp_12_spread a1 w wl Q) : Met l yX12_spread (TBq yX12_spread cX12_spread 5 (some .int)) (RM 7) (va_Pc [.ref (ad 150), .int a1] (PB ad cy D (cmb wc w) wl)) (va_Qi (fun r (u : Mem × MemL) => Q r u.1 u.2) (BM ad cy D wc) (AW ad)) 0 0 (AW ad) := M_enter (by decide) (Nat.le_of_ble_eq_true rfl) hinj (fun p e s m args below meth c X hr => v_12_spread X hr hZ h)
theorem mf_12_spread : MFV yX12_spread cX12_spread 5 (some .int) yX12_spread.cls 1 := ⟨q_1771, q_1769, q_1770, q_14, by decide⟩
theorem K_12_spread {own : String} {idx : Nat} {a1 : Int32} (X : CXq p s m args meth c cc nL own ad cy D A H0) (hL : LK own idx yX12_spread) (hZ : ad 1000 = 189) {w : Mem} {wl : MemL} {Q : Int32 → Mem → MemL → Prop} (h : wp_12_spread a1 w wl Q) (hR : (RM 7).frames + 1 ≤ R.frames ∧ 8 + (5 + 11) + (RM 7).locals ≤ R.locals) (hce : ce ≤ R.cells ∧ sl ≤ R.slots) (hcat : (st1.map fun v => v.category).sum ≤ 8) (hd : decode cc pc = .ok (.invokevirtual idx, 3)) (kk : ∀ (r : Int32) (u : Mem) (v : MemL), Q r u v → V p l e R s m args below meth c nL ad cy D A H0 ce sl Qs wc u v (pc + 3) ls (.int r :: st1)) : V p l e R s m args below meth c nL ad cy D A H0 ce sl Qs wc w wl pc ls (.int a1 :: .ref (ad 150) :: st1) := V_callVI_m X mf_12_spread hL (rfl : vwCl[12]? = some (RX12, TX12, 72)) (by decide) (rfl : SK 150 = 12) (hzk hZ (by decide)).2 (c_12_spread X.2.2.2.2.2.2.2.1 hZ h) (As := [.int a1]) rfl ⟨rfl, rfl⟩ hR hce st1 rfl hcat hd kk
set_option maxRecDepth 20000 in
theorem v_12_atGate {a1 : Int32} {a2 : Int32} {a3 : Int32} (X : CXq p s m args meth c cX12_atGate 4 yX12_atGate.cls ad cy D (AW ad) s.heap) (hr : meth.sig.returnType = (some .int)) (hZ : ad 1000 = 189) {w : Mem} {wl : MemL} {Q : Int32 → Mem → MemL → Prop} (h : wp_12_atGate a1 a2 a3 w wl Q) : V p l e (RM 6) s m args below meth c 4 ad cy D (AW ad) s.heap 0 0 (MQ below (va_Qi (fun r (u : Mem × MemL) => Q r u.1 u.2) (BM ad cy D wc) (AW ad)) args s 0 0 (AW ad)) wc w wl 0 [(0, .ref (ad 150)), (1, .int a1), (2, .int a2), (3, .int a3)] [] := by
  unfold wp_12_atGate at h
  refine V_aload_n X (i := 0) 0 dX12_atGate_0 rfl rfl ?_
  refine V_iload_n X (i := 1) 1 dX12_atGate_1 rfl rfl ?_
  refine K_12_isMan X (Or.inl q_1621) hZ h ⟨Nat.le_of_ble_eq_true rfl, Nat.le_of_ble_eq_true rfl⟩ ⟨Nat.zero_le _, Nat.zero_le _⟩ (st1 := []) (Nat.le_of_ble_eq_true rfl) dX12_atGate_2 (fun r2 w1 v3 h => ?_)
  obtain ⟨ht, hf⟩ := h
  refine V_if_eq X (tgt := 18) dX12_atGate_5 (by decide) (fun c => ?_) (fun c => ?_)
  · have h := ht c
    refine V_sipush X (v := (-10000 : Int32)) dX12_atGate_18 (by decide) ?_
    exact V_iret_m X hr dX12_atGate_21 h
  · have h := hf c
    refine V_iload_n X (i := 2) 2 dX12_atGate_8 rfl rfl ?_
    refine V_iconst X (v := (0 : Int32)) dX12_atGate_9 (by decide) ?_
    refine V_bipush X (v := (40 : Int32)) dX12_atGate_10 (by decide) ?_
    refine K_12_in X (Or.inl q_1609) hZ h ⟨Nat.le_of_ble_eq_true rfl, Nat.le_of_ble_eq_true rfl⟩ ⟨Nat.zero_le _, Nat.zero_le _⟩ (st1 := []) (Nat.le_of_ble_eq_true rfl) dX12_atGate_12 (fun r5 w4 v6 h => ?_)
    obtain ⟨ht, hf⟩ := h
    refine V_if_ne X (tgt := 22) dX12_atGate_15 (by decide) (fun c => ?_) (fun c => ?_)
    · have h := ht c
      refine V_aload_n X (i := 0) 0 dX12_atGate_22 rfl rfl ?_
      refine K_12_copies X (Or.inl q_1546) hZ h ⟨Nat.le_of_ble_eq_true rfl, Nat.le_of_ble_eq_true rfl⟩ ⟨Nat.zero_le _, Nat.zero_le _⟩ (st1 := []) (Nat.le_of_ble_eq_true rfl) dX12_atGate_23 (fun w7 v8 h => ?_)
      refine V_aload_n X (i := 0) 0 dX12_atGate_26 rfl rfl ?_
      refine V_iload_n X (i := 1) 1 dX12_atGate_27 rfl rfl ?_
      refine V_aload_n X (i := 0) 0 dX12_atGate_28 rfl rfl ?_
      refine G_12_110 X hZ dX12_atGate_29 ?_
      refine V_iconst X (v := (0 : Int32)) dX12_atGate_32 (by decide) ?_
      refine V_iald_m X (rfl : SLq 181 = 260) (hzk hZ (by decide)) (rfl : SK 181 = 14) (vpl (by decide)) dX12_atGate_33 ?_
      refine V_iconst X (v := (0 : Int32)) dX12_atGate_34 (by decide) ?_
      refine V_iload_n X (i := 2) 2 dX12_atGate_35 rfl rfl ?_
      refine V_aload_n X (i := 0) 0 dX12_atGate_36 rfl rfl ?_
      refine G_12_110 X hZ dX12_atGate_37 ?_
      refine V_iconst X (v := (3 : Int32)) dX12_atGate_40 (by decide) ?_
      refine V_iald_m X (rfl : SLq 181 = 260) (hzk hZ (by decide)) (rfl : SK 181 = 14) (vpl (by decide)) dX12_atGate_41 ?_
      refine K_12_setsJump X (Or.inl q_1664) hZ h ⟨Nat.le_of_ble_eq_true rfl, Nat.le_of_ble_eq_true rfl⟩ ⟨Nat.zero_le _, Nat.zero_le _⟩ (st1 := []) (Nat.le_of_ble_eq_true rfl) dX12_atGate_42 (fun w9 v10 h => ?_)
      refine V_iload_n X (i := 3) 3 dX12_atGate_45 rfl rfl ?_
      obtain ⟨ht, hf⟩ := h
      refine V_if_eq X (tgt := 56) dX12_atGate_46 (by decide) (fun c => ?_) (fun c => ?_)
      · have h := ht c
        refine V_aload_n X (i := 0) 0 dX12_atGate_56 rfl rfl ?_
        refine G_12_365 X hZ dX12_atGate_57 ?_
        exact V_iret_m X hr dX12_atGate_60 h
      · have h := hf c
        refine V_aload_n X (i := 0) 0 dX12_atGate_49 rfl rfl ?_
        refine G_12_380 X hZ dX12_atGate_50 ?_
        refine V_goto X (tgt := 60) dX12_atGate_53 (by decide) ?_
        exact V_iret_m X hr dX12_atGate_60 h
    · have h := hf c
      refine V_sipush X (v := (-10000 : Int32)) dX12_atGate_18 (by decide) ?_
      exact V_iret_m X hr dX12_atGate_21 h
theorem c_12_atGate {a1 : Int32} {a2 : Int32} {a3 : Int32} (hinj : INJ ad) (hZ : ad 1000 = 189) {w : Mem} {wl : MemL} {Q : Int32 → Mem → MemL → Prop} (h : wp_12_atGate a1 a2 a3 w wl Q) : Met l yX12_atGate (TBq yX12_atGate cX12_atGate 4 (some .int)) (RM 6) (va_Pc [.ref (ad 150), .int a1, .int a2, .int a3] (PB ad cy D (cmb wc w) wl)) (va_Qi (fun r (u : Mem × MemL) => Q r u.1 u.2) (BM ad cy D wc) (AW ad)) 0 0 (AW ad) := M_enter (by decide) (Nat.le_of_ble_eq_true rfl) hinj (fun p e s m args below meth c X hr => v_12_atGate X hr hZ h)
theorem mf_12_atGate : MFV yX12_atGate cX12_atGate 4 (some .int) yX12_atGate.cls 3 := ⟨q_1775, q_1773, q_1774, q_14, by decide⟩
theorem K_12_atGate {own : String} {idx : Nat} {a1 : Int32} {a2 : Int32} {a3 : Int32} (X : CXq p s m args meth c cc nL own ad cy D A H0) (hL : LK own idx yX12_atGate) (hZ : ad 1000 = 189) {w : Mem} {wl : MemL} {Q : Int32 → Mem → MemL → Prop} (h : wp_12_atGate a1 a2 a3 w wl Q) (hR : (RM 6).frames + 1 ≤ R.frames ∧ 8 + (4 + 11) + (RM 6).locals ≤ R.locals) (hce : ce ≤ R.cells ∧ sl ≤ R.slots) (hcat : (st1.map fun v => v.category).sum ≤ 8) (hd : decode cc pc = .ok (.invokevirtual idx, 3)) (kk : ∀ (r : Int32) (u : Mem) (v : MemL), Q r u v → V p l e R s m args below meth c nL ad cy D A H0 ce sl Qs wc u v (pc + 3) ls (.int r :: st1)) : V p l e R s m args below meth c nL ad cy D A H0 ce sl Qs wc w wl pc ls (.int a3 :: .int a2 :: .int a1 :: .ref (ad 150) :: st1) := V_callVI_m X mf_12_atGate hL (rfl : vwCl[12]? = some (RX12, TX12, 72)) (by decide) (rfl : SK 150 = 12) (hzk hZ (by decide)).2 (c_12_atGate X.2.2.2.2.2.2.2.1 hZ h) (As := [.int a1, .int a2, .int a3]) rfl ⟨rfl, rfl⟩ hR hce st1 rfl hcat hd kk
set_option maxRecDepth 20000 in
theorem v_12_lead_b53 (X : CXq p s m args meth c cX12_lead 4 yX12_lead.cls ad cy D (AW ad) s.heap) (hr : meth.sig.returnType = (some .int)) (hZ : ad 1000 = 189) {Q : Int32 → Mem → MemL → Prop} {L20 : Int32 → Int32 → Int32 → Mem → MemL → Prop} (HL20 : ∀ (l1 : Int32) (l2 : Int32) (l3 : Int32) (w : Mem) (wl : MemL), L20 l1 l2 l3 w wl → V p l e (RM 3) s m args below meth c 4 ad cy D (AW ad) s.heap 0 0 (MQ below (va_Qi (fun r (u : Mem × MemL) => Q r u.1 u.2) (BM ad cy D wc) (AW ad)) args s 0 0 (AW ad)) wc w wl 20 [(0, .ref (ad 150)), (1, .int l1), (2, .int l2), (3, .int l3)] []) : ∀ (l1 : Int32) (l2 : Int32) (l3 : Int32) (w : Mem) (wl : MemL), wp_12_lead_b53 Q L20 l1 l2 l3 w wl → V p l e (RM 3) s m args below meth c 4 ad cy D (AW ad) s.heap 0 0 (MQ below (va_Qi (fun r (u : Mem × MemL) => Q r u.1 u.2) (BM ad cy D wc) (AW ad)) args s 0 0 (AW ad)) wc w wl 53 [(0, .ref (ad 150)), (1, .int l1), (2, .int l2), (3, .int l3)] [] := by
  intro l1 l2 l3 w wl h
  unfold wp_12_lead_b53 at h
  obtain ⟨x1, ex1⟩ : ∃ y : Int32, y = l3 + (1 : Int32) := ⟨_, rfl⟩
  have h := h x1 ex1
  refine V_iinc X 3 dX12_lead_53 rfl (by decide) (by rw [ex1]; rfl) (ls1 := [(3, .int x1), (0, .ref (ad 150)), (1, .int l1), (2, .int l2)]) rfl ?_
  refine V_goto X (tgt := 20) dX12_lead_56 (by decide) ?_
  refine V_sub X (ls1 := [(0, .ref (ad 150)), (1, .int l1), (2, .int l2), (3, .int x1)]) [1, 2, 3, 0] rfl ?_
  exact HL20 _ _ _ _ _ h
set_option maxRecDepth 20000 in
theorem v_12_lead_b20 (X : CXq p s m args meth c cX12_lead 4 yX12_lead.cls ad cy D (AW ad) s.heap) (hr : meth.sig.returnType = (some .int)) (hZ : ad 1000 = 189) {Q : Int32 → Mem → MemL → Prop} : ∀ (n : Nat) (l1 : Int32) (l2 : Int32) (l3 : Int32) (w : Mem) (wl : MemL), wp_12_lead_b20 Q n l1 l2 l3 w wl → V p l e (RM 3) s m args below meth c 4 ad cy D (AW ad) s.heap 0 0 (MQ below (va_Qi (fun r (u : Mem × MemL) => Q r u.1 u.2) (BM ad cy D wc) (AW ad)) args s 0 0 (AW ad)) wc w wl 20 [(0, .ref (ad 150)), (1, .int l1), (2, .int l2), (3, .int l3)] [] := by
  intro n
  induction n with
  | zero =>
    intro l1 l2 l3 w wl h
    exact h.elim
  | succ n ih =>
    intro l1 l2 l3 w wl h
    unfold wp_12_lead_b20 at h
    refine V_iload_n X (i := 3) 3 dX12_lead_20 rfl rfl ?_
    refine V_aload_n X (i := 0) 0 dX12_lead_21 rfl rfl ?_
    refine G_12_46 X hZ dX12_lead_22 ?_
    refine V_aload_n X (i := 0) 0 dX12_lead_25 rfl rfl ?_
    refine G_12_218 X hZ dX12_lead_26 ?_
    obtain ⟨g1, h⟩ := h
    refine V_iald_m X (rfl : SLq 160 = 2) (hzk hZ (by decide)) (rfl : SK 160 = 14) g1 dX12_lead_29 ?_
    obtain ⟨ht, hf⟩ := h
    refine V_icmp_ge X (tgt := 59) dX12_lead_30 (by decide) (fun c => ?_) (fun c => ?_)
    · have h := ht c
      refine V_aload_n X (i := 0) 0 dX12_lead_59 rfl rfl ?_
      refine V_iload_n X (i := 1) 1 dX12_lead_60 rfl rfl ?_
      refine K_12_pointsOf X (Or.inl q_1562) hZ h ⟨Nat.le_of_ble_eq_true rfl, Nat.le_of_ble_eq_true rfl⟩ ⟨Nat.zero_le _, Nat.zero_le _⟩ (st1 := []) (Nat.le_of_ble_eq_true rfl) dX12_lead_61 (fun r3 w2 v4 h => ?_)
      refine V_iload_n X (i := 2) 2 dX12_lead_64 rfl rfl ?_
      refine V_isub X dX12_lead_65 ?_
      exact V_iret_m X hr dX12_lead_66 h
    · have h := hf c
      refine V_iload_n X (i := 3) 3 dX12_lead_33 rfl rfl ?_
      refine V_iload_n X (i := 1) 1 dX12_lead_34 rfl rfl ?_
      obtain ⟨ht, hf⟩ := h
      refine V_icmp_eq X (tgt := 53) dX12_lead_35 (by decide) (fun c => ?_) (fun c => ?_)
      · have h := ht c
        refine V_sub X (ls1 := [(0, .ref (ad 150)), (1, .int l1), (2, .int l2), (3, .int l3)]) [0, 1, 2, 3] rfl ?_
        exact v_12_lead_b53 X hr hZ ih _ _ _ _ _ h
      · have h := hf c
        refine V_aload_n X (i := 0) 0 dX12_lead_38 rfl rfl ?_
        refine V_iload_n X (i := 3) 3 dX12_lead_39 rfl rfl ?_
        refine K_12_pointsOf X (Or.inl q_1562) hZ h ⟨Nat.le_of_ble_eq_true rfl, Nat.le_of_ble_eq_true rfl⟩ ⟨Nat.zero_le _, Nat.zero_le _⟩ (st1 := []) (Nat.le_of_ble_eq_true rfl) dX12_lead_40 (fun r6 w5 v7 h => ?_)
        refine V_iload_n X (i := 2) 2 dX12_lead_43 rfl rfl ?_
        obtain ⟨ht, hf⟩ := h
        refine V_icmp_le X (tgt := 53) dX12_lead_44 (by decide) (fun c => ?_) (fun c => ?_)
        · have h := ht c
          refine V_sub X (ls1 := [(0, .ref (ad 150)), (1, .int l1), (2, .int l2), (3, .int l3)]) [0, 1, 2, 3] rfl ?_
          exact v_12_lead_b53 X hr hZ ih _ _ _ _ _ h
        · have h := hf c
          refine V_aload_n X (i := 0) 0 dX12_lead_47 rfl rfl ?_
          refine V_iload_n X (i := 3) 3 dX12_lead_48 rfl rfl ?_
          refine K_12_pointsOf X (Or.inl q_1562) hZ h ⟨Nat.le_of_ble_eq_true rfl, Nat.le_of_ble_eq_true rfl⟩ ⟨Nat.zero_le _, Nat.zero_le _⟩ (st1 := []) (Nat.le_of_ble_eq_true rfl) dX12_lead_49 (fun r9 w8 v10 h => ?_)
          refine V_istore_n X dX12_lead_52 rfl (by decide) rfl (ls1 := [(2, .int r9), (0, .ref (ad 150)), (1, .int l1), (3, .int l3)]) rfl ?_
          refine V_sub X (ls1 := [(0, .ref (ad 150)), (1, .int l1), (2, .int r9), (3, .int l3)]) [1, 2, 0, 3] rfl ?_
          exact v_12_lead_b53 X hr hZ ih _ _ _ _ _ h
set_option maxRecDepth 20000 in
theorem v_12_lead {a1 : Int32} (X : CXq p s m args meth c cX12_lead 4 yX12_lead.cls ad cy D (AW ad) s.heap) (hr : meth.sig.returnType = (some .int)) (hZ : ad 1000 = 189) {w : Mem} {wl : MemL} {Q : Int32 → Mem → MemL → Prop} (h : wp_12_lead a1 w wl Q) : V p l e (RM 3) s m args below meth c 4 ad cy D (AW ad) s.heap 0 0 (MQ below (va_Qi (fun r (u : Mem × MemL) => Q r u.1 u.2) (BM ad cy D wc) (AW ad)) args s 0 0 (AW ad)) wc w wl 0 [(0, .ref (ad 150)), (1, .int a1)] [] := by
  unfold wp_12_lead at h
  refine V_aload_n X (i := 0) 0 dX12_lead_0 rfl rfl ?_
  refine V_iload_n X (i := 1) 1 dX12_lead_1 rfl rfl ?_
  refine K_12_isMan X (Or.inl q_1621) hZ h ⟨Nat.le_of_ble_eq_true rfl, Nat.le_of_ble_eq_true rfl⟩ ⟨Nat.zero_le _, Nat.zero_le _⟩ (st1 := []) (Nat.le_of_ble_eq_true rfl) dX12_lead_2 (fun r2 w1 v3 h => ?_)
  obtain ⟨ht, hf⟩ := h
  refine V_if_ne X (tgt := 12) dX12_lead_5 (by decide) (fun c => ?_) (fun c => ?_)
  · have h := ht c
    refine V_aload_n X (i := 0) 0 dX12_lead_12 rfl rfl ?_
    refine K_12_copies X (Or.inl q_1546) hZ h ⟨Nat.le_of_ble_eq_true rfl, Nat.le_of_ble_eq_true rfl⟩ ⟨Nat.zero_le _, Nat.zero_le _⟩ (st1 := []) (Nat.le_of_ble_eq_true rfl) dX12_lead_13 (fun w4 v5 h => ?_)
    refine V_iconst X (v := (0 : Int32)) dX12_lead_16 (by decide) ?_
    refine V_istore_n X dX12_lead_17 rfl (by decide) rfl (ls1 := [(2, .int (0 : Int32)), (0, .ref (ad 150)), (1, .int a1)]) rfl ?_
    refine V_iconst X (v := (0 : Int32)) dX12_lead_18 (by decide) ?_
    refine V_istore_n X dX12_lead_19 rfl (by decide) rfl (ls1 := [(3, .int (0 : Int32)), (2, .int (0 : Int32)), (0, .ref (ad 150)), (1, .int a1)]) rfl ?_
    refine V_sub X (ls1 := [(0, .ref (ad 150)), (1, .int a1), (2, .int (0 : Int32)), (3, .int (0 : Int32))]) [2, 3, 1, 0] rfl ?_
    obtain ⟨nn, h⟩ := h
    exact v_12_lead_b20 X hr hZ nn _ _ _ _ _ h
  · have h := hf c
    refine V_sipush X (v := (-10000 : Int32)) dX12_lead_8 (by decide) ?_
    exact V_iret_m X hr dX12_lead_11 h
theorem c_12_lead {a1 : Int32} (hinj : INJ ad) (hZ : ad 1000 = 189) {w : Mem} {wl : MemL} {Q : Int32 → Mem → MemL → Prop} (h : wp_12_lead a1 w wl Q) : Met l yX12_lead (TBq yX12_lead cX12_lead 4 (some .int)) (RM 3) (va_Pc [.ref (ad 150), .int a1] (PB ad cy D (cmb wc w) wl)) (va_Qi (fun r (u : Mem × MemL) => Q r u.1 u.2) (BM ad cy D wc) (AW ad)) 0 0 (AW ad) := M_enter (by decide) (Nat.le_of_ble_eq_true rfl) hinj (fun p e s m args below meth c X hr => v_12_lead X hr hZ h)
theorem mf_12_lead : MFV yX12_lead cX12_lead 4 (some .int) yX12_lead.cls 1 := ⟨q_1779, q_1777, q_1778, q_14, by decide⟩
theorem K_12_lead {own : String} {idx : Nat} {a1 : Int32} (X : CXq p s m args meth c cc nL own ad cy D A H0) (hL : LK own idx yX12_lead) (hZ : ad 1000 = 189) {w : Mem} {wl : MemL} {Q : Int32 → Mem → MemL → Prop} (h : wp_12_lead a1 w wl Q) (hR : (RM 3).frames + 1 ≤ R.frames ∧ 8 + (4 + 11) + (RM 3).locals ≤ R.locals) (hce : ce ≤ R.cells ∧ sl ≤ R.slots) (hcat : (st1.map fun v => v.category).sum ≤ 8) (hd : decode cc pc = .ok (.invokevirtual idx, 3)) (kk : ∀ (r : Int32) (u : Mem) (v : MemL), Q r u v → V p l e R s m args below meth c nL ad cy D A H0 ce sl Qs wc u v (pc + 3) ls (.int r :: st1)) : V p l e R s m args below meth c nL ad cy D A H0 ce sl Qs wc w wl pc ls (.int a1 :: .ref (ad 150) :: st1) := V_callVI_m X mf_12_lead hL (rfl : vwCl[12]? = some (RX12, TX12, 72)) (by decide) (rfl : SK 150 = 12) (hzk hZ (by decide)).2 (c_12_lead X.2.2.2.2.2.2.2.1 hZ h) (As := [.int a1]) rfl ⟨rfl, rfl⟩ hR hce st1 rfl hcat hd kk
set_option maxRecDepth 20000 in
theorem v_12_gaveInAll_b40 (X : CXq p s m args meth c cX12_gaveInAll 4 yX12_gaveInAll.cls ad cy D (AW ad) s.heap) (hr : meth.sig.returnType = (some .int)) (hZ : ad 1000 = 189) {Q : Int32 → Mem → MemL → Prop} {L4 : Int32 → Int32 → Int32 → Mem → MemL → Prop} (HL4 : ∀ (l1 : Int32) (l2 : Int32) (l3 : Int32) (w : Mem) (wl : MemL), L4 l1 l2 l3 w wl → V p l e (RM 0) s m args below meth c 4 ad cy D (AW ad) s.heap 0 0 (MQ below (va_Qi (fun r (u : Mem × MemL) => Q r u.1 u.2) (BM ad cy D wc) (AW ad)) args s 0 0 (AW ad)) wc w wl 4 [(0, .ref (ad 150)), (1, .int l1), (2, .int l2), (3, .int l3)] []) : ∀ (l1 : Int32) (l2 : Int32) (l3 : Int32) (w : Mem) (wl : MemL), wp_12_gaveInAll_b40 Q L4 l1 l2 l3 w wl → V p l e (RM 0) s m args below meth c 4 ad cy D (AW ad) s.heap 0 0 (MQ below (va_Qi (fun r (u : Mem × MemL) => Q r u.1 u.2) (BM ad cy D wc) (AW ad)) args s 0 0 (AW ad)) wc w wl 40 [(0, .ref (ad 150)), (1, .int l1), (2, .int l2), (3, .int l3)] [] := by
  intro l1 l2 l3 w wl h
  unfold wp_12_gaveInAll_b40 at h
  obtain ⟨x1, ex1⟩ : ∃ y : Int32, y = l3 + (1 : Int32) := ⟨_, rfl⟩
  have h := h x1 ex1
  refine V_iinc X 3 dX12_gaveInAll_40 rfl (by decide) (by rw [ex1]; rfl) (ls1 := [(3, .int x1), (0, .ref (ad 150)), (1, .int l1), (2, .int l2)]) rfl ?_
  refine V_goto X (tgt := 4) dX12_gaveInAll_43 (by decide) ?_
  refine V_sub X (ls1 := [(0, .ref (ad 150)), (1, .int l1), (2, .int l2), (3, .int x1)]) [1, 2, 3, 0] rfl ?_
  exact HL4 _ _ _ _ _ h
set_option maxRecDepth 20000 in
theorem v_12_gaveInAll_b4 (X : CXq p s m args meth c cX12_gaveInAll 4 yX12_gaveInAll.cls ad cy D (AW ad) s.heap) (hr : meth.sig.returnType = (some .int)) (hZ : ad 1000 = 189) {Q : Int32 → Mem → MemL → Prop} : ∀ (n : Nat) (l1 : Int32) (l2 : Int32) (l3 : Int32) (w : Mem) (wl : MemL), wp_12_gaveInAll_b4 Q n l1 l2 l3 w wl → V p l e (RM 0) s m args below meth c 4 ad cy D (AW ad) s.heap 0 0 (MQ below (va_Qi (fun r (u : Mem × MemL) => Q r u.1 u.2) (BM ad cy D wc) (AW ad)) args s 0 0 (AW ad)) wc w wl 4 [(0, .ref (ad 150)), (1, .int l1), (2, .int l2), (3, .int l3)] [] := by
  intro n
  induction n with
  | zero =>
    intro l1 l2 l3 w wl h
    exact h.elim
  | succ n ih =>
    intro l1 l2 l3 w wl h
    unfold wp_12_gaveInAll_b4 at h
    refine V_iload_n X (i := 3) 3 dX12_gaveInAll_4 rfl rfl ?_
    refine V_bipush X (v := (16 : Int32)) dX12_gaveInAll_5 (by decide) ?_
    obtain ⟨ht, hf⟩ := h
    refine V_icmp_ge X (tgt := 46) dX12_gaveInAll_7 (by decide) (fun c => ?_) (fun c => ?_)
    · have h := ht c
      refine V_iload_n X (i := 2) 2 dX12_gaveInAll_46 rfl rfl ?_
      exact V_iret_m X hr dX12_gaveInAll_47 h
    · have h := hf c
      refine V_aload_n X (i := 0) 0 dX12_gaveInAll_10 rfl rfl ?_
      refine G_12_107 X hZ dX12_gaveInAll_11 ?_
      refine V_iconst X (v := (4 : Int32)) dX12_gaveInAll_14 (by decide) ?_
      refine V_iload_n X (i := 3) 3 dX12_gaveInAll_15 rfl rfl ?_
      refine V_iadd X dX12_gaveInAll_16 ?_
      obtain ⟨g1, h⟩ := h
      refine V_iald_m X (rfl : SLq 180 = 260) (hzk hZ (by decide)) (rfl : SK 180 = 14) g1 dX12_gaveInAll_17 ?_
      refine V_iconst X (v := (1 : Int32)) dX12_gaveInAll_18 (by decide) ?_
      obtain ⟨ht, hf⟩ := h
      refine V_icmp_ne X (tgt := 40) dX12_gaveInAll_19 (by decide) (fun c => ?_) (fun c => ?_)
      · have h := ht c
        refine V_sub X (ls1 := [(0, .ref (ad 150)), (1, .int l1), (2, .int l2), (3, .int l3)]) [0, 1, 2, 3] rfl ?_
        exact v_12_gaveInAll_b40 X hr hZ ih _ _ _ _ _ h
      · have h := hf c
        refine V_iload_n X (i := 2) 2 dX12_gaveInAll_22 rfl rfl ?_
        refine V_aload_n X (i := 0) 0 dX12_gaveInAll_23 rfl rfl ?_
        refine G_12_107 X hZ dX12_gaveInAll_24 ?_
        refine V_sipush X (v := (148 : Int32)) dX12_gaveInAll_27 (by decide) ?_
        refine V_bipush X (v := (7 : Int32)) dX12_gaveInAll_30 (by decide) ?_
        refine V_iload_n X (i := 3) 3 dX12_gaveInAll_32 rfl rfl ?_
        refine V_imul X dX12_gaveInAll_33 ?_
        refine V_iadd X dX12_gaveInAll_34 ?_
        refine V_iload_n X (i := 1) 1 dX12_gaveInAll_35 rfl rfl ?_
        refine V_iadd X dX12_gaveInAll_36 ?_
        obtain ⟨g2, h⟩ := h
        refine V_iald_m X (rfl : SLq 180 = 260) (hzk hZ (by decide)) (rfl : SK 180 = 14) g2 dX12_gaveInAll_37 ?_
        refine V_iadd X dX12_gaveInAll_38 ?_
        obtain ⟨x3, ex3⟩ : ∃ y : Int32, y = (l2 + (w 180 (ix (((148 : Int32) + ((7 : Int32) * l3)) + l1)))) := ⟨_, rfl⟩
        have h := h x3 ex3
        refine V_istore_n X dX12_gaveInAll_39 rfl (by decide) ex3 (ls1 := [(2, .int x3), (0, .ref (ad 150)), (1, .int l1), (3, .int l3)]) rfl ?_
        refine V_sub X (ls1 := [(0, .ref (ad 150)), (1, .int l1), (2, .int x3), (3, .int l3)]) [1, 2, 0, 3] rfl ?_
        exact v_12_gaveInAll_b40 X hr hZ ih _ _ _ _ _ h
set_option maxRecDepth 20000 in
theorem v_12_gaveInAll {a1 : Int32} (X : CXq p s m args meth c cX12_gaveInAll 4 yX12_gaveInAll.cls ad cy D (AW ad) s.heap) (hr : meth.sig.returnType = (some .int)) (hZ : ad 1000 = 189) {w : Mem} {wl : MemL} {Q : Int32 → Mem → MemL → Prop} (h : wp_12_gaveInAll a1 w wl Q) : V p l e (RM 0) s m args below meth c 4 ad cy D (AW ad) s.heap 0 0 (MQ below (va_Qi (fun r (u : Mem × MemL) => Q r u.1 u.2) (BM ad cy D wc) (AW ad)) args s 0 0 (AW ad)) wc w wl 0 [(0, .ref (ad 150)), (1, .int a1)] [] := by
  unfold wp_12_gaveInAll at h
  refine V_iconst X (v := (0 : Int32)) dX12_gaveInAll_0 (by decide) ?_
  refine V_istore_n X dX12_gaveInAll_1 rfl (by decide) rfl (ls1 := [(2, .int (0 : Int32)), (0, .ref (ad 150)), (1, .int a1)]) rfl ?_
  refine V_iconst X (v := (0 : Int32)) dX12_gaveInAll_2 (by decide) ?_
  refine V_istore_n X dX12_gaveInAll_3 rfl (by decide) rfl (ls1 := [(3, .int (0 : Int32)), (2, .int (0 : Int32)), (0, .ref (ad 150)), (1, .int a1)]) rfl ?_
  refine V_sub X (ls1 := [(0, .ref (ad 150)), (1, .int a1), (2, .int (0 : Int32)), (3, .int (0 : Int32))]) [2, 3, 1, 0] rfl ?_
  obtain ⟨nn, h⟩ := h
  exact v_12_gaveInAll_b4 X hr hZ nn _ _ _ _ _ h
theorem c_12_gaveInAll {a1 : Int32} (hinj : INJ ad) (hZ : ad 1000 = 189) {w : Mem} {wl : MemL} {Q : Int32 → Mem → MemL → Prop} (h : wp_12_gaveInAll a1 w wl Q) : Met l yX12_gaveInAll (TBq yX12_gaveInAll cX12_gaveInAll 4 (some .int)) (RM 0) (va_Pc [.ref (ad 150), .int a1] (PB ad cy D (cmb wc w) wl)) (va_Qi (fun r (u : Mem × MemL) => Q r u.1 u.2) (BM ad cy D wc) (AW ad)) 0 0 (AW ad) := M_enter (by decide) (Nat.le_of_ble_eq_true rfl) hinj (fun p e s m args below meth c X hr => v_12_gaveInAll X hr hZ h)
theorem mf_12_gaveInAll : MFV yX12_gaveInAll cX12_gaveInAll 4 (some .int) yX12_gaveInAll.cls 1 := ⟨q_1787, q_1786, qs_94, q_14, by decide⟩
theorem K_12_gaveInAll {own : String} {idx : Nat} {a1 : Int32} (X : CXq p s m args meth c cc nL own ad cy D A H0) (hL : LK own idx yX12_gaveInAll) (hZ : ad 1000 = 189) {w : Mem} {wl : MemL} {Q : Int32 → Mem → MemL → Prop} (h : wp_12_gaveInAll a1 w wl Q) (hR : (RM 0).frames + 1 ≤ R.frames ∧ 8 + (4 + 11) + (RM 0).locals ≤ R.locals) (hce : ce ≤ R.cells ∧ sl ≤ R.slots) (hcat : (st1.map fun v => v.category).sum ≤ 8) (hd : decode cc pc = .ok (.invokevirtual idx, 3)) (kk : ∀ (r : Int32) (u : Mem) (v : MemL), Q r u v → V p l e R s m args below meth c nL ad cy D A H0 ce sl Qs wc u v (pc + 3) ls (.int r :: st1)) : V p l e R s m args below meth c nL ad cy D A H0 ce sl Qs wc w wl pc ls (.int a1 :: .ref (ad 150) :: st1) := V_callVI_m X mf_12_gaveInAll hL (rfl : vwCl[12]? = some (RX12, TX12, 72)) (by decide) (rfl : SK 150 = 12) (hzk hZ (by decide)).2 (c_12_gaveInAll X.2.2.2.2.2.2.2.1 hZ h) (As := [.int a1]) rfl ⟨rfl, rfl⟩ hR hce st1 rfl hcat hd kk
set_option maxRecDepth 20000 in
theorem v_12_harsh_b83 (X : CXq p s m args meth c cX12_harsh 5 yX12_harsh.cls ad cy D (AW ad) s.heap) (hr : meth.sig.returnType = (some .int)) (hZ : ad 1000 = 189) {Q : Int32 → Mem → MemL → Prop} {L31 : Int32 → Int32 → Int32 → Int32 → Mem → MemL → Prop} (HL31 : ∀ (l1 : Int32) (l2 : Int32) (l3 : Int32) (l4 : Int32) (w : Mem) (wl : MemL), L31 l1 l2 l3 l4 w wl → V p l e (RM 1) s m args below meth c 5 ad cy D (AW ad) s.heap 0 0 (MQ below (va_Qi (fun r (u : Mem × MemL) => Q r u.1 u.2) (BM ad cy D wc) (AW ad)) args s 0 0 (AW ad)) wc w wl 31 [(0, .ref (ad 150)), (1, .int l1), (2, .int l2), (3, .int l3), (4, .int l4)] []) : ∀ (l1 : Int32) (l2 : Int32) (l3 : Int32) (l4 : Int32) (w : Mem) (wl : MemL), wp_12_harsh_b83 Q L31 l1 l2 l3 l4 w wl → V p l e (RM 1) s m args below meth c 5 ad cy D (AW ad) s.heap 0 0 (MQ below (va_Qi (fun r (u : Mem × MemL) => Q r u.1 u.2) (BM ad cy D wc) (AW ad)) args s 0 0 (AW ad)) wc w wl 83 [(0, .ref (ad 150)), (1, .int l1), (2, .int l2), (3, .int l3), (4, .int l4)] [] := by
  intro l1 l2 l3 l4 w wl h
  unfold wp_12_harsh_b83 at h
  obtain ⟨x1, ex1⟩ : ∃ y : Int32, y = l4 + (1 : Int32) := ⟨_, rfl⟩
  have h := h x1 ex1
  refine V_iinc X 4 dX12_harsh_83 rfl (by decide) (by rw [ex1]; rfl) (ls1 := [(4, .int x1), (0, .ref (ad 150)), (1, .int l1), (2, .int l2), (3, .int l3)]) rfl ?_
  refine V_goto X (tgt := 31) dX12_harsh_86 (by decide) ?_
  refine V_sub X (ls1 := [(0, .ref (ad 150)), (1, .int l1), (2, .int l2), (3, .int l3), (4, .int x1)]) [1, 2, 3, 4, 0] rfl ?_
  exact HL31 _ _ _ _ _ _ h
set_option maxRecDepth 20000 in
theorem v_12_harsh_b80 (X : CXq p s m args meth c cX12_harsh 5 yX12_harsh.cls ad cy D (AW ad) s.heap) (hr : meth.sig.returnType = (some .int)) (hZ : ad 1000 = 189) {Q : Int32 → Mem → MemL → Prop} {L31 : Int32 → Int32 → Int32 → Int32 → Mem → MemL → Prop} (HL31 : ∀ (l1 : Int32) (l2 : Int32) (l3 : Int32) (l4 : Int32) (w : Mem) (wl : MemL), L31 l1 l2 l3 l4 w wl → V p l e (RM 1) s m args below meth c 5 ad cy D (AW ad) s.heap 0 0 (MQ below (va_Qi (fun r (u : Mem × MemL) => Q r u.1 u.2) (BM ad cy D wc) (AW ad)) args s 0 0 (AW ad)) wc w wl 31 [(0, .ref (ad 150)), (1, .int l1), (2, .int l2), (3, .int l3), (4, .int l4)] []) : ∀ (l1 : Int32) (l2 : Int32) (l4 : Int32) (w : Mem) (wl : MemL), wp_12_harsh_b80 Q L31 l1 l2 l4 w wl → V p l e (RM 1) s m args below meth c 5 ad cy D (AW ad) s.heap 0 0 (MQ below (va_Qi (fun r (u : Mem × MemL) => Q r u.1 u.2) (BM ad cy D wc) (AW ad)) args s 0 0 (AW ad)) wc w wl 80 [(0, .ref (ad 150)), (1, .int l1), (2, .int l2), (4, .int l4)] [] := by
  intro l1 l2 l4 w wl h
  unfold wp_12_harsh_b80 at h
  refine V_iload X (i := 4) 3 dX12_harsh_80 rfl ?_
  refine V_istore_n X dX12_harsh_82 rfl (by decide) rfl (ls1 := [(3, .int l4), (0, .ref (ad 150)), (1, .int l1), (2, .int l2), (4, .int l4)]) rfl ?_
  refine V_sub X (ls1 := [(0, .ref (ad 150)), (1, .int l1), (2, .int l2), (3, .int l4), (4, .int l4)]) [1, 2, 3, 0, 4] rfl ?_
  exact v_12_harsh_b83 X hr hZ HL31 _ _ _ _ _ _ h
set_option maxRecDepth 20000 in
theorem v_12_harsh_b31 (X : CXq p s m args meth c cX12_harsh 5 yX12_harsh.cls ad cy D (AW ad) s.heap) (hr : meth.sig.returnType = (some .int)) (hZ : ad 1000 = 189) {Q : Int32 → Mem → MemL → Prop} : ∀ (n : Nat) (l1 : Int32) (l2 : Int32) (l3 : Int32) (l4 : Int32) (w : Mem) (wl : MemL), wp_12_harsh_b31 Q n l1 l2 l3 l4 w wl → V p l e (RM 1) s m args below meth c 5 ad cy D (AW ad) s.heap 0 0 (MQ below (va_Qi (fun r (u : Mem × MemL) => Q r u.1 u.2) (BM ad cy D wc) (AW ad)) args s 0 0 (AW ad)) wc w wl 31 [(0, .ref (ad 150)), (1, .int l1), (2, .int l2), (3, .int l3), (4, .int l4)] [] := by
  intro n
  induction n with
  | zero =>
    intro l1 l2 l3 l4 w wl h
    exact h.elim
  | succ n ih =>
    intro l1 l2 l3 l4 w wl h
    unfold wp_12_harsh_b31 at h
    refine V_iload X (i := 4) 4 dX12_harsh_31 rfl ?_
    refine V_aload_n X (i := 0) 0 dX12_harsh_33 rfl rfl ?_
    refine G_12_61 X hZ dX12_harsh_34 ?_
    refine V_aload_n X (i := 0) 0 dX12_harsh_37 rfl rfl ?_
    refine G_12_218 X hZ dX12_harsh_38 ?_
    obtain ⟨g1, h⟩ := h
    refine V_iald_m X (rfl : SLq 165 = 2) (hzk hZ (by decide)) (rfl : SK 165 = 14) g1 dX12_harsh_41 ?_
    obtain ⟨ht, hf⟩ := h
    refine V_icmp_ge X (tgt := 89) dX12_harsh_42 (by decide) (fun c => ?_) (fun c => ?_)
    · have h := ht c
      refine V_iload_n X (i := 2) 2 dX12_harsh_89 rfl rfl ?_
      obtain ⟨ht, hf⟩ := h
      refine V_if_ne X (tgt := 97) dX12_harsh_90 (by decide) (fun c => ?_) (fun c => ?_)
      · have h := ht c
        refine V_aload_n X (i := 0) 0 dX12_harsh_97 rfl rfl ?_
        refine V_iload_n X (i := 3) 3 dX12_harsh_98 rfl rfl ?_
        refine K_12_gaveInAll X (Or.inl q_1784) hZ h ⟨Nat.le_of_ble_eq_true rfl, Nat.le_of_ble_eq_true rfl⟩ ⟨Nat.zero_le _, Nat.zero_le _⟩ (st1 := []) (Nat.le_of_ble_eq_true rfl) dX12_harsh_99 (fun r3 w2 v4 h => ?_)
        exact V_iret_m X hr dX12_harsh_102 h
      · have h := hf c
        refine V_iload_n X (i := 3) 3 dX12_harsh_93 rfl rfl ?_
        refine V_goto X (tgt := 102) dX12_harsh_94 (by decide) ?_
        exact V_iret_m X hr dX12_harsh_102 h
    · have h := hf c
      refine V_iload_n X (i := 1) 1 dX12_harsh_45 rfl rfl ?_
      obtain ⟨ht, hf⟩ := h
      refine V_if_eq X (tgt := 66) dX12_harsh_46 (by decide) (fun c => ?_) (fun c => ?_)
      · have h := ht c
        refine V_aload_n X (i := 0) 0 dX12_harsh_66 rfl rfl ?_
        refine V_iload X (i := 4) 4 dX12_harsh_67 rfl ?_
        refine K_12_gaveInAll X (Or.inl q_1784) hZ h ⟨Nat.le_of_ble_eq_true rfl, Nat.le_of_ble_eq_true rfl⟩ ⟨Nat.zero_le _, Nat.zero_le _⟩ (st1 := []) (Nat.le_of_ble_eq_true rfl) dX12_harsh_69 (fun r6 w5 v7 h => ?_)
        refine V_aload_n X (i := 0) 0 dX12_harsh_72 rfl rfl ?_
        refine V_iload_n X (i := 3) 3 dX12_harsh_73 rfl rfl ?_
        refine K_12_gaveInAll X (Or.inl q_1784) hZ h ⟨Nat.le_of_ble_eq_true rfl, Nat.le_of_ble_eq_true rfl⟩ ⟨Nat.zero_le _, Nat.zero_le _⟩ (st1 := [.int r6]) (Nat.le_of_ble_eq_true rfl) dX12_harsh_74 (fun r9 w8 v10 h => ?_)
        obtain ⟨ht, hf⟩ := h
        refine V_icmp_ge X (tgt := 83) dX12_harsh_77 (by decide) (fun c => ?_) (fun c => ?_)
        · have h := ht c
          refine V_sub X (ls1 := [(0, .ref (ad 150)), (1, .int l1), (2, .int l2), (3, .int l3), (4, .int l4)]) [0, 1, 2, 3, 4] rfl ?_
          exact v_12_harsh_b83 X hr hZ ih _ _ _ _ _ _ h
        · have h := hf c
          refine V_sub X (ls1 := [(0, .ref (ad 150)), (1, .int l1), (2, .int l2), (4, .int l4)]) [0, 1, 2, 4] rfl ?_
          exact v_12_harsh_b80 X hr hZ ih _ _ _ _ _ h
      · have h := hf c
        refine V_aload_n X (i := 0) 0 dX12_harsh_49 rfl rfl ?_
        refine V_iload X (i := 4) 4 dX12_harsh_50 rfl ?_
        refine K_12_gaveInAll X (Or.inl q_1784) hZ h ⟨Nat.le_of_ble_eq_true rfl, Nat.le_of_ble_eq_true rfl⟩ ⟨Nat.zero_le _, Nat.zero_le _⟩ (st1 := []) (Nat.le_of_ble_eq_true rfl) dX12_harsh_52 (fun r12 w11 v13 h => ?_)
        refine V_aload_n X (i := 0) 0 dX12_harsh_55 rfl rfl ?_
        refine V_iload_n X (i := 3) 3 dX12_harsh_56 rfl rfl ?_
        refine K_12_gaveInAll X (Or.inl q_1784) hZ h ⟨Nat.le_of_ble_eq_true rfl, Nat.le_of_ble_eq_true rfl⟩ ⟨Nat.zero_le _, Nat.zero_le _⟩ (st1 := [.int r12]) (Nat.le_of_ble_eq_true rfl) dX12_harsh_57 (fun r15 w14 v16 h => ?_)
        obtain ⟨ht, hf⟩ := h
        refine V_icmp_le X (tgt := 83) dX12_harsh_60 (by decide) (fun c => ?_) (fun c => ?_)
        · have h := ht c
          refine V_sub X (ls1 := [(0, .ref (ad 150)), (1, .int l1), (2, .int l2), (3, .int l3), (4, .int l4)]) [0, 1, 2, 3, 4] rfl ?_
          exact v_12_harsh_b83 X hr hZ ih _ _ _ _ _ _ h
        · have h := hf c
          refine V_goto X (tgt := 80) dX12_harsh_63 (by decide) ?_
          refine V_sub X (ls1 := [(0, .ref (ad 150)), (1, .int l1), (2, .int l2), (4, .int l4)]) [0, 1, 2, 4] rfl ?_
          exact v_12_harsh_b80 X hr hZ ih _ _ _ _ _ h
set_option maxRecDepth 20000 in
theorem v_12_harsh {a1 : Int32} {a2 : Int32} (X : CXq p s m args meth c cX12_harsh 5 yX12_harsh.cls ad cy D (AW ad) s.heap) (hr : meth.sig.returnType = (some .int)) (hZ : ad 1000 = 189) {w : Mem} {wl : MemL} {Q : Int32 → Mem → MemL → Prop} (h : wp_12_harsh a1 a2 w wl Q) : V p l e (RM 1) s m args below meth c 5 ad cy D (AW ad) s.heap 0 0 (MQ below (va_Qi (fun r (u : Mem × MemL) => Q r u.1 u.2) (BM ad cy D wc) (AW ad)) args s 0 0 (AW ad)) wc w wl 0 [(0, .ref (ad 150)), (1, .int a1), (2, .int a2)] [] := by
  unfold wp_12_harsh at h
  refine V_iload_n X (i := 2) 2 dX12_harsh_0 rfl rfl ?_
  refine V_iconst X (v := (0 : Int32)) dX12_harsh_1 (by decide) ?_
  refine V_iconst X (v := (1 : Int32)) dX12_harsh_2 (by decide) ?_
  refine K_12_in X (Or.inl q_1609) hZ h ⟨Nat.le_of_ble_eq_true rfl, Nat.le_of_ble_eq_true rfl⟩ ⟨Nat.zero_le _, Nat.zero_le _⟩ (st1 := []) (Nat.le_of_ble_eq_true rfl) dX12_harsh_3 (fun r2 w1 v3 h => ?_)
  obtain ⟨ht, hf⟩ := h
  refine V_if_ne X (tgt := 11) dX12_harsh_6 (by decide) (fun c => ?_) (fun c => ?_)
  · have h := ht c
    refine V_aload_n X (i := 0) 0 dX12_harsh_11 rfl rfl ?_
    refine G_12_61 X hZ dX12_harsh_12 ?_
    refine V_aload_n X (i := 0) 0 dX12_harsh_15 rfl rfl ?_
    refine G_12_218 X hZ dX12_harsh_16 ?_
    obtain ⟨g4, h⟩ := h
    refine V_iald_m X (rfl : SLq 165 = 2) (hzk hZ (by decide)) (rfl : SK 165 = 14) g4 dX12_harsh_19 ?_
    obtain ⟨ht, hf⟩ := h
    refine V_if_ne X (tgt := 26) dX12_harsh_20 (by decide) (fun c => ?_) (fun c => ?_)
    · have h := ht c
      refine V_iconst X (v := (0 : Int32)) dX12_harsh_26 (by decide) ?_
      refine V_istore_n X dX12_harsh_27 rfl (by decide) rfl (ls1 := [(3, .int (0 : Int32)), (0, .ref (ad 150)), (1, .int a1), (2, .int a2)]) rfl ?_
      refine V_iconst X (v := (1 : Int32)) dX12_harsh_28 (by decide) ?_
      refine V_istore X dX12_harsh_29 (by decide) rfl (ls1 := [(4, .int (1 : Int32)), (3, .int (0 : Int32)), (0, .ref (ad 150)), (1, .int a1), (2, .int a2)]) rfl ?_
      refine V_sub X (ls1 := [(0, .ref (ad 150)), (1, .int a1), (2, .int a2), (3, .int (0 : Int32)), (4, .int (1 : Int32))]) [2, 3, 4, 1, 0] rfl ?_
      obtain ⟨nn, h⟩ := h
      exact v_12_harsh_b31 X hr hZ nn _ _ _ _ _ _ h
    · have h := hf c
      refine V_bipush X (v := (-2 : Int32)) dX12_harsh_23 (by decide) ?_
      exact V_iret_m X hr dX12_harsh_25 h
  · have h := hf c
    refine V_iconst X (v := (-1 : Int32)) dX12_harsh_9 (by decide) ?_
    exact V_iret_m X hr dX12_harsh_10 h
theorem c_12_harsh {a1 : Int32} {a2 : Int32} (hinj : INJ ad) (hZ : ad 1000 = 189) {w : Mem} {wl : MemL} {Q : Int32 → Mem → MemL → Prop} (h : wp_12_harsh a1 a2 w wl Q) : Met l yX12_harsh (TBq yX12_harsh cX12_harsh 5 (some .int)) (RM 1) (va_Pc [.ref (ad 150), .int a1, .int a2] (PB ad cy D (cmb wc w) wl)) (va_Qi (fun r (u : Mem × MemL) => Q r u.1 u.2) (BM ad cy D wc) (AW ad)) 0 0 (AW ad) := M_enter (by decide) (Nat.le_of_ble_eq_true rfl) hinj (fun p e s m args below meth c X hr => v_12_harsh X hr hZ h)
theorem mf_12_harsh : MFV yX12_harsh cX12_harsh 5 (some .int) yX12_harsh.cls 2 := ⟨q_1783, q_1781, q_1782, q_14, by decide⟩
theorem K_12_harsh {own : String} {idx : Nat} {a1 : Int32} {a2 : Int32} (X : CXq p s m args meth c cc nL own ad cy D A H0) (hL : LK own idx yX12_harsh) (hZ : ad 1000 = 189) {w : Mem} {wl : MemL} {Q : Int32 → Mem → MemL → Prop} (h : wp_12_harsh a1 a2 w wl Q) (hR : (RM 1).frames + 1 ≤ R.frames ∧ 8 + (5 + 11) + (RM 1).locals ≤ R.locals) (hce : ce ≤ R.cells ∧ sl ≤ R.slots) (hcat : (st1.map fun v => v.category).sum ≤ 8) (hd : decode cc pc = .ok (.invokevirtual idx, 3)) (kk : ∀ (r : Int32) (u : Mem) (v : MemL), Q r u v → V p l e R s m args below meth c nL ad cy D A H0 ce sl Qs wc u v (pc + 3) ls (.int r :: st1)) : V p l e R s m args below meth c nL ad cy D A H0 ce sl Qs wc w wl pc ls (.int a2 :: .int a1 :: .ref (ad 150) :: st1) := V_callVI_m X mf_12_harsh hL (rfl : vwCl[12]? = some (RX12, TX12, 72)) (by decide) (rfl : SK 150 = 12) (hzk hZ (by decide)).2 (c_12_harsh X.2.2.2.2.2.2.2.1 hZ h) (As := [.int a1, .int a2]) rfl ⟨rfl, rfl⟩ hR hce st1 rfl hcat hd kk
set_option maxRecDepth 20000 in
theorem v_12_plainly0 {a1 : Int32} (X : CXq p s m args meth c cX12_plainly0 1 yX12_plainly0.cls ad cy D (AW ad) s.heap) (hr : meth.sig.returnType = (some .int)) (hZ : ad 1000 = 189) {w : Mem} {wl : MemL} {Q : Int32 → Mem → MemL → Prop} (h : wp_12_plainly0 a1 w wl Q) : V p l e (RM 0) s m args below meth c 1 ad cy D (AW ad) s.heap 0 0 (MQ below (va_Qi (fun r (u : Mem × MemL) => Q r u.1 u.2) (BM ad cy D wc) (AW ad)) args s 0 0 (AW ad)) wc w wl 0 [(0, .int a1)] [] := by
  unfold wp_12_plainly0 at h
  refine V_iload_n X (i := 0) 0 dX12_plainly0_0 rfl rfl ?_
  obtain ⟨ht, hf⟩ := h
  refine V_if_ge X (tgt := 9) dX12_plainly0_1 (by decide) (fun c => ?_) (fun c => ?_)
  · have h := ht c
    refine V_iload_n X (i := 0) 0 dX12_plainly0_9 rfl rfl ?_
    exact V_iret_m X hr dX12_plainly0_10 h
  · have h := hf c
    refine V_iload_n X (i := 0) 0 dX12_plainly0_4 rfl rfl ?_
    refine V_ineg X dX12_plainly0_5 ?_
    refine V_goto X (tgt := 10) dX12_plainly0_6 (by decide) ?_
    exact V_iret_m X hr dX12_plainly0_10 h
theorem c_12_plainly0 {a1 : Int32} (hinj : INJ ad) (hZ : ad 1000 = 189) {w : Mem} {wl : MemL} {Q : Int32 → Mem → MemL → Prop} (h : wp_12_plainly0 a1 w wl Q) : Met l yX12_plainly0 (TBq yX12_plainly0 cX12_plainly0 1 (some .int)) (RM 0) (va_Pc [.int a1] (PB ad cy D (cmb wc w) wl)) (va_Qi (fun r (u : Mem × MemL) => Q r u.1 u.2) (BM ad cy D wc) (AW ad)) 0 0 (AW ad) := M_enter (by decide) (Nat.le_of_ble_eq_true rfl) hinj (fun p e s m args below meth c X hr => v_12_plainly0 X hr hZ h)
theorem mf_12_plainly0 : MFS yX12_plainly0 cX12_plainly0 1 (some .int) 1 := ⟨q_1794, q_1793, q_14, by decide⟩
theorem K_12_plainly0 {own : String} {idx : Nat} {a1 : Int32} (X : CXq p s m args meth c cc nL own ad cy D A H0) (hL : LK own idx yX12_plainly0) (hZ : ad 1000 = 189) {w : Mem} {wl : MemL} {Q : Int32 → Mem → MemL → Prop} (h : wp_12_plainly0 a1 w wl Q) (hR : (RM 0).frames + 1 ≤ R.frames ∧ 8 + (1 + 11) + (RM 0).locals ≤ R.locals) (hce : ce ≤ R.cells ∧ sl ≤ R.slots) (hcat : (st1.map fun v => v.category).sum ≤ 8) (hd : decode cc pc = .ok (.invokestatic idx, 3)) (kk : ∀ (r : Int32) (u : Mem) (v : MemL), Q r u v → V p l e R s m args below meth c nL ad cy D A H0 ce sl Qs wc u v (pc + 3) ls (.int r :: st1)) : V p l e R s m args below meth c nL ad cy D A H0 ce sl Qs wc w wl pc ls (.int a1 :: st1) := V_callSI_m X mf_12_plainly0 hL (c_12_plainly0 X.2.2.2.2.2.2.2.1 hZ h) (As := [.int a1]) rfl ⟨rfl, rfl⟩ hR hce st1 rfl hcat hd kk
set_option maxRecDepth 20000 in
theorem v_12_calm_b89 (X : CXq p s m args meth c cX12_calm 7 yX12_calm.cls ad cy D (AW ad) s.heap) (hr : meth.sig.returnType = (some .int)) (hZ : ad 1000 = 189) {Q : Int32 → Mem → MemL → Prop} {L45 : Int32 → Int32 → Int32 → Int32 → Int32 → Mem → MemL → Prop} (HL45 : ∀ (l1 : Int32) (l2 : Int32) (l3 : Int32) (l4 : Int32) (l5 : Int32) (w : Mem) (wl : MemL), L45 l1 l2 l3 l4 l5 w wl → V p l e (RM 4) s m args below meth c 7 ad cy D (AW ad) s.heap 0 0 (MQ below (va_Qi (fun r (u : Mem × MemL) => Q r u.1 u.2) (BM ad cy D wc) (AW ad)) args s 0 0 (AW ad)) wc w wl 45 [(0, .ref (ad 150)), (1, .int l1), (2, .int l2), (3, .int l3), (4, .int l4), (5, .int l5)] []) : ∀ (l1 : Int32) (l2 : Int32) (l3 : Int32) (l4 : Int32) (l5 : Int32) (w : Mem) (wl : MemL), wp_12_calm_b89 Q L45 l1 l2 l3 l4 l5 w wl → V p l e (RM 4) s m args below meth c 7 ad cy D (AW ad) s.heap 0 0 (MQ below (va_Qi (fun r (u : Mem × MemL) => Q r u.1 u.2) (BM ad cy D wc) (AW ad)) args s 0 0 (AW ad)) wc w wl 89 [(0, .ref (ad 150)), (1, .int l1), (2, .int l2), (3, .int l3), (4, .int l4), (5, .int l5)] [] := by
  intro l1 l2 l3 l4 l5 w wl h
  unfold wp_12_calm_b89 at h
  obtain ⟨x1, ex1⟩ : ∃ y : Int32, y = l5 + (1 : Int32) := ⟨_, rfl⟩
  have h := h x1 ex1
  refine V_iinc X 5 dX12_calm_89 rfl (by decide) (by rw [ex1]; rfl) (ls1 := [(5, .int x1), (0, .ref (ad 150)), (1, .int l1), (2, .int l2), (3, .int l3), (4, .int l4)]) rfl ?_
  refine V_goto X (tgt := 45) dX12_calm_92 (by decide) ?_
  refine V_sub X (ls1 := [(0, .ref (ad 150)), (1, .int l1), (2, .int l2), (3, .int l3), (4, .int l4), (5, .int x1)]) [1, 2, 3, 4, 5, 0] rfl ?_
  exact HL45 _ _ _ _ _ _ _ h
set_option maxRecDepth 20000 in
theorem v_12_calm_b45 (X : CXq p s m args meth c cX12_calm 7 yX12_calm.cls ad cy D (AW ad) s.heap) (hr : meth.sig.returnType = (some .int)) (hZ : ad 1000 = 189) {Q : Int32 → Mem → MemL → Prop} : ∀ (n : Nat) (l1 : Int32) (l2 : Int32) (l3 : Int32) (l4 : Int32) (l5 : Int32) (w : Mem) (wl : MemL), wp_12_calm_b45 Q n l1 l2 l3 l4 l5 w wl → V p l e (RM 4) s m args below meth c 7 ad cy D (AW ad) s.heap 0 0 (MQ below (va_Qi (fun r (u : Mem × MemL) => Q r u.1 u.2) (BM ad cy D wc) (AW ad)) args s 0 0 (AW ad)) wc w wl 45 [(0, .ref (ad 150)), (1, .int l1), (2, .int l2), (3, .int l3), (4, .int l4), (5, .int l5)] [] := by
  intro n
  induction n with
  | zero =>
    intro l1 l2 l3 l4 l5 w wl h
    exact h.elim
  | succ n ih =>
    intro l1 l2 l3 l4 l5 w wl h
    unfold wp_12_calm_b45 at h
    refine V_iload X (i := 5) 5 dX12_calm_45 rfl ?_
    refine V_iload_n X (i := 1) 1 dX12_calm_47 rfl rfl ?_
    obtain ⟨ht, hf⟩ := h
    refine V_icmp_gt X (tgt := 95) dX12_calm_48 (by decide) (fun c => ?_) (fun c => ?_)
    · have h := ht c
      refine V_iload_n X (i := 2) 2 dX12_calm_95 rfl rfl ?_
      obtain ⟨ht, hf⟩ := h
      refine V_if_ne X (tgt := 103) dX12_calm_96 (by decide) (fun c => ?_) (fun c => ?_)
      · have h := ht c
        refine V_iload X (i := 4) 4 dX12_calm_103 rfl ?_
        exact V_iret_m X hr dX12_calm_105 h
      · have h := hf c
        refine V_iload_n X (i := 3) 3 dX12_calm_99 rfl rfl ?_
        refine V_goto X (tgt := 105) dX12_calm_100 (by decide) ?_
        exact V_iret_m X hr dX12_calm_105 h
    · have h := hf c
      refine V_aload_n X (i := 0) 0 dX12_calm_51 rfl rfl ?_
      refine V_aload_n X (i := 0) 0 dX12_calm_52 rfl rfl ?_
      refine G_12_110 X hZ dX12_calm_53 ?_
      refine V_iconst X (v := (0 : Int32)) dX12_calm_56 (by decide) ?_
      refine V_iald_m X (rfl : SLq 181 = 260) (hzk hZ (by decide)) (rfl : SK 181 = 14) (vpl (by decide)) dX12_calm_57 ?_
      refine V_iload X (i := 5) 5 dX12_calm_58 rfl ?_
      refine V_iadd X dX12_calm_60 ?_
      refine K_12_meanOf X (Or.inl q_1570) hZ h ⟨Nat.le_of_ble_eq_true rfl, Nat.le_of_ble_eq_true rfl⟩ ⟨Nat.zero_le _, Nat.zero_le _⟩ (st1 := []) (Nat.le_of_ble_eq_true rfl) dX12_calm_61 (fun r2 w1 v3 h => ?_)
      refine V_istore X dX12_calm_64 (by decide) rfl (ls1 := [(6, .int r2), (0, .ref (ad 150)), (1, .int l1), (2, .int l2), (3, .int l3), (4, .int l4), (5, .int l5)]) rfl ?_
      refine V_iload X (i := 6) 0 dX12_calm_66 rfl ?_
      refine K_12_plainly0 X (Or.inl q_1792) hZ h ⟨Nat.le_of_ble_eq_true rfl, Nat.le_of_ble_eq_true rfl⟩ ⟨Nat.zero_le _, Nat.zero_le _⟩ (st1 := []) (Nat.le_of_ble_eq_true rfl) dX12_calm_68 (fun r5 w4 v6 h => ?_)
      refine V_iload X (i := 4) 5 dX12_calm_71 rfl ?_
      refine K_12_plainly0 X (Or.inl q_1792) hZ h ⟨Nat.le_of_ble_eq_true rfl, Nat.le_of_ble_eq_true rfl⟩ ⟨Nat.zero_le _, Nat.zero_le _⟩ (st1 := [.int r5]) (Nat.le_of_ble_eq_true rfl) dX12_calm_73 (fun r8 w7 v9 h => ?_)
      obtain ⟨ht, hf⟩ := h
      refine V_icmp_lt X (tgt := 82) dX12_calm_76 (by decide) (fun c => ?_) (fun c => ?_)
      · have h := ht c
        refine V_iload X (i := 5) 6 dX12_calm_82 rfl ?_
        refine V_istore_n X dX12_calm_84 rfl (by decide) rfl (ls1 := [(3, .int l5), (6, .int r2), (0, .ref (ad 150)), (1, .int l1), (2, .int l2), (4, .int l4), (5, .int l5)]) rfl ?_
        refine V_iload X (i := 6) 1 dX12_calm_85 rfl ?_
        refine V_istore X dX12_calm_87 (by decide) rfl (ls1 := [(4, .int r2), (3, .int l5), (6, .int r2), (0, .ref (ad 150)), (1, .int l1), (2, .int l2), (5, .int l5)]) rfl ?_
        refine V_sub X (ls1 := [(0, .ref (ad 150)), (1, .int l1), (2, .int l2), (3, .int l5), (4, .int r2), (5, .int l5)]) [3, 4, 5, 1, 0, 6] rfl ?_
        exact v_12_calm_b89 X hr hZ ih _ _ _ _ _ _ _ h
      · have h := hf c
        refine V_goto X (tgt := 89) dX12_calm_79 (by decide) ?_
        refine V_sub X (ls1 := [(0, .ref (ad 150)), (1, .int l1), (2, .int l2), (3, .int l3), (4, .int l4), (5, .int l5)]) [1, 2, 3, 4, 5, 6] rfl ?_
        exact v_12_calm_b89 X hr hZ ih _ _ _ _ _ _ _ h
set_option maxRecDepth 20000 in
theorem v_12_calm {a1 : Int32} {a2 : Int32} (X : CXq p s m args meth c cX12_calm 7 yX12_calm.cls ad cy D (AW ad) s.heap) (hr : meth.sig.returnType = (some .int)) (hZ : ad 1000 = 189) {w : Mem} {wl : MemL} {Q : Int32 → Mem → MemL → Prop} (h : wp_12_calm a1 a2 w wl Q) : V p l e (RM 4) s m args below meth c 7 ad cy D (AW ad) s.heap 0 0 (MQ below (va_Qi (fun r (u : Mem × MemL) => Q r u.1 u.2) (BM ad cy D wc) (AW ad)) args s 0 0 (AW ad)) wc w wl 0 [(0, .ref (ad 150)), (1, .int a1), (2, .int a2)] [] := by
  unfold wp_12_calm at h
  refine V_iload_n X (i := 1) 1 dX12_calm_0 rfl rfl ?_
  refine V_iconst X (v := (0 : Int32)) dX12_calm_1 (by decide) ?_
  refine V_sipush X (v := (999 : Int32)) dX12_calm_2 (by decide) ?_
  refine K_12_in X (Or.inl q_1609) hZ h ⟨Nat.le_of_ble_eq_true rfl, Nat.le_of_ble_eq_true rfl⟩ ⟨Nat.zero_le _, Nat.zero_le _⟩ (st1 := []) (Nat.le_of_ble_eq_true rfl) dX12_calm_5 (fun r2 w1 v3 h => ?_)
  obtain ⟨ht, hf⟩ := h
  refine V_if_eq X (tgt := 20) dX12_calm_8 (by decide) (fun c => ?_) (fun c => ?_)
  · have h := ht c
    refine V_sipush X (v := (-10000 : Int32)) dX12_calm_20 (by decide) ?_
    exact V_iret_m X hr dX12_calm_23 h
  · have h := hf c
    refine V_iload_n X (i := 2) 2 dX12_calm_11 rfl rfl ?_
    refine V_iconst X (v := (0 : Int32)) dX12_calm_12 (by decide) ?_
    refine V_iconst X (v := (1 : Int32)) dX12_calm_13 (by decide) ?_
    refine K_12_in X (Or.inl q_1609) hZ h ⟨Nat.le_of_ble_eq_true rfl, Nat.le_of_ble_eq_true rfl⟩ ⟨Nat.zero_le _, Nat.zero_le _⟩ (st1 := []) (Nat.le_of_ble_eq_true rfl) dX12_calm_14 (fun r5 w4 v6 h => ?_)
    obtain ⟨ht, hf⟩ := h
    refine V_if_ne X (tgt := 24) dX12_calm_17 (by decide) (fun c => ?_) (fun c => ?_)
    · have h := ht c
      refine V_aload_n X (i := 0) 0 dX12_calm_24 rfl rfl ?_
      refine K_12_copies X (Or.inl q_1546) hZ h ⟨Nat.le_of_ble_eq_true rfl, Nat.le_of_ble_eq_true rfl⟩ ⟨Nat.zero_le _, Nat.zero_le _⟩ (st1 := []) (Nat.le_of_ble_eq_true rfl) dX12_calm_25 (fun w7 v8 h => ?_)
      refine V_iconst X (v := (0 : Int32)) dX12_calm_28 (by decide) ?_
      refine V_istore_n X dX12_calm_29 rfl (by decide) rfl (ls1 := [(3, .int (0 : Int32)), (0, .ref (ad 150)), (1, .int a1), (2, .int a2)]) rfl ?_
      refine V_aload_n X (i := 0) 1 dX12_calm_30 rfl rfl ?_
      refine V_aload_n X (i := 0) 1 dX12_calm_31 rfl rfl ?_
      refine G_12_110 X hZ dX12_calm_32 ?_
      refine V_iconst X (v := (0 : Int32)) dX12_calm_35 (by decide) ?_
      refine V_iald_m X (rfl : SLq 181 = 260) (hzk hZ (by decide)) (rfl : SK 181 = 14) (vpl (by decide)) dX12_calm_36 ?_
      refine K_12_meanOf X (Or.inl q_1570) hZ h ⟨Nat.le_of_ble_eq_true rfl, Nat.le_of_ble_eq_true rfl⟩ ⟨Nat.zero_le _, Nat.zero_le _⟩ (st1 := []) (Nat.le_of_ble_eq_true rfl) dX12_calm_37 (fun r10 w9 v11 h => ?_)
      refine V_istore X dX12_calm_40 (by decide) rfl (ls1 := [(4, .int r10), (3, .int (0 : Int32)), (0, .ref (ad 150)), (1, .int a1), (2, .int a2)]) rfl ?_
      refine V_iconst X (v := (1 : Int32)) dX12_calm_42 (by decide) ?_
      refine V_istore X dX12_calm_43 (by decide) rfl (ls1 := [(5, .int (1 : Int32)), (4, .int r10), (3, .int (0 : Int32)), (0, .ref (ad 150)), (1, .int a1), (2, .int a2)]) rfl ?_
      refine V_sub X (ls1 := [(0, .ref (ad 150)), (1, .int a1), (2, .int a2), (3, .int (0 : Int32)), (4, .int r10), (5, .int (1 : Int32))]) [3, 4, 5, 2, 1, 0] rfl ?_
      obtain ⟨nn, h⟩ := h
      exact v_12_calm_b45 X hr hZ nn _ _ _ _ _ _ _ h
    · have h := hf c
      refine V_sipush X (v := (-10000 : Int32)) dX12_calm_20 (by decide) ?_
      exact V_iret_m X hr dX12_calm_23 h
theorem c_12_calm {a1 : Int32} {a2 : Int32} (hinj : INJ ad) (hZ : ad 1000 = 189) {w : Mem} {wl : MemL} {Q : Int32 → Mem → MemL → Prop} (h : wp_12_calm a1 a2 w wl Q) : Met l yX12_calm (TBq yX12_calm cX12_calm 7 (some .int)) (RM 4) (va_Pc [.ref (ad 150), .int a1, .int a2] (PB ad cy D (cmb wc w) wl)) (va_Qi (fun r (u : Mem × MemL) => Q r u.1 u.2) (BM ad cy D wc) (AW ad)) 0 0 (AW ad) := M_enter (by decide) (Nat.le_of_ble_eq_true rfl) hinj (fun p e s m args below meth c X hr => v_12_calm X hr hZ h)
theorem mf_12_calm : MFV yX12_calm cX12_calm 7 (some .int) yX12_calm.cls 2 := ⟨q_1791, q_1789, q_1790, q_14, by decide⟩
theorem K_12_calm {own : String} {idx : Nat} {a1 : Int32} {a2 : Int32} (X : CXq p s m args meth c cc nL own ad cy D A H0) (hL : LK own idx yX12_calm) (hZ : ad 1000 = 189) {w : Mem} {wl : MemL} {Q : Int32 → Mem → MemL → Prop} (h : wp_12_calm a1 a2 w wl Q) (hR : (RM 4).frames + 1 ≤ R.frames ∧ 8 + (7 + 11) + (RM 4).locals ≤ R.locals) (hce : ce ≤ R.cells ∧ sl ≤ R.slots) (hcat : (st1.map fun v => v.category).sum ≤ 8) (hd : decode cc pc = .ok (.invokevirtual idx, 3)) (kk : ∀ (r : Int32) (u : Mem) (v : MemL), Q r u v → V p l e R s m args below meth c nL ad cy D A H0 ce sl Qs wc u v (pc + 3) ls (.int r :: st1)) : V p l e R s m args below meth c nL ad cy D A H0 ce sl Qs wc w wl pc ls (.int a2 :: .int a1 :: .ref (ad 150) :: st1) := V_callVI_m X mf_12_calm hL (rfl : vwCl[12]? = some (RX12, TX12, 72)) (by decide) (rfl : SK 150 = 12) (hzk hZ (by decide)).2 (c_12_calm X.2.2.2.2.2.2.2.1 hZ h) (As := [.int a1, .int a2]) rfl ⟨rfl, rfl⟩ hR hce st1 rfl hcat hd kk
set_option maxRecDepth 20000 in
theorem v_12_windiest_b49 (X : CXq p s m args meth c cX12_windiest 4 yX12_windiest.cls ad cy D (AW ad) s.heap) (hr : meth.sig.returnType = (some .int)) (hZ : ad 1000 = 189) {Q : Int32 → Mem → MemL → Prop} {L21 : Int32 → Int32 → Int32 → Mem → MemL → Prop} (HL21 : ∀ (l1 : Int32) (l2 : Int32) (l3 : Int32) (w : Mem) (wl : MemL), L21 l1 l2 l3 w wl → V p l e (RM 3) s m args below meth c 4 ad cy D (AW ad) s.heap 0 0 (MQ below (va_Qi (fun r (u : Mem × MemL) => Q r u.1 u.2) (BM ad cy D wc) (AW ad)) args s 0 0 (AW ad)) wc w wl 21 [(0, .ref (ad 150)), (1, .int l1), (2, .int l2), (3, .int l3)] []) : ∀ (l1 : Int32) (l2 : Int32) (l3 : Int32) (w : Mem) (wl : MemL), wp_12_windiest_b49 Q L21 l1 l2 l3 w wl → V p l e (RM 3) s m args below meth c 4 ad cy D (AW ad) s.heap 0 0 (MQ below (va_Qi (fun r (u : Mem × MemL) => Q r u.1 u.2) (BM ad cy D wc) (AW ad)) args s 0 0 (AW ad)) wc w wl 49 [(0, .ref (ad 150)), (1, .int l1), (2, .int l2), (3, .int l3)] [] := by
  intro l1 l2 l3 w wl h
  unfold wp_12_windiest_b49 at h
  obtain ⟨x1, ex1⟩ : ∃ y : Int32, y = l3 + (1 : Int32) := ⟨_, rfl⟩
  have h := h x1 ex1
  refine V_iinc X 3 dX12_windiest_49 rfl (by decide) (by rw [ex1]; rfl) (ls1 := [(3, .int x1), (0, .ref (ad 150)), (1, .int l1), (2, .int l2)]) rfl ?_
  refine V_goto X (tgt := 21) dX12_windiest_52 (by decide) ?_
  refine V_sub X (ls1 := [(0, .ref (ad 150)), (1, .int l1), (2, .int l2), (3, .int x1)]) [1, 2, 3, 0] rfl ?_
  exact HL21 _ _ _ _ _ h
set_option maxRecDepth 20000 in
theorem v_12_windiest_b21 (X : CXq p s m args meth c cX12_windiest 4 yX12_windiest.cls ad cy D (AW ad) s.heap) (hr : meth.sig.returnType = (some .int)) (hZ : ad 1000 = 189) {Q : Int32 → Mem → MemL → Prop} : ∀ (n : Nat) (l1 : Int32) (l2 : Int32) (l3 : Int32) (w : Mem) (wl : MemL), wp_12_windiest_b21 Q n l1 l2 l3 w wl → V p l e (RM 3) s m args below meth c 4 ad cy D (AW ad) s.heap 0 0 (MQ below (va_Qi (fun r (u : Mem × MemL) => Q r u.1 u.2) (BM ad cy D wc) (AW ad)) args s 0 0 (AW ad)) wc w wl 21 [(0, .ref (ad 150)), (1, .int l1), (2, .int l2), (3, .int l3)] [] := by
  intro n
  induction n with
  | zero =>
    intro l1 l2 l3 w wl h
    exact h.elim
  | succ n ih =>
    intro l1 l2 l3 w wl h
    unfold wp_12_windiest_b21 at h
    refine V_iload_n X (i := 3) 3 dX12_windiest_21 rfl rfl ?_
    refine V_iconst X (v := (5 : Int32)) dX12_windiest_22 (by decide) ?_
    obtain ⟨ht, hf⟩ := h
    refine V_icmp_ge X (tgt := 55) dX12_windiest_23 (by decide) (fun c => ?_) (fun c => ?_)
    · have h := ht c
      refine V_iload_n X (i := 2) 2 dX12_windiest_55 rfl rfl ?_
      exact V_iret_m X hr dX12_windiest_56 h
    · have h := hf c
      refine V_aload_n X (i := 0) 0 dX12_windiest_26 rfl rfl ?_
      refine V_iload_n X (i := 3) 3 dX12_windiest_27 rfl rfl ?_
      refine V_iload_n X (i := 1) 1 dX12_windiest_28 rfl rfl ?_
      refine K_12_windOf X (Or.inl q_1574) hZ h ⟨Nat.le_of_ble_eq_true rfl, Nat.le_of_ble_eq_true rfl⟩ ⟨Nat.zero_le _, Nat.zero_le _⟩ (st1 := []) (Nat.le_of_ble_eq_true rfl) dX12_windiest_29 (fun r2 w1 v3 h => ?_)
      refine K_12_plainly0 X (Or.inl q_1792) hZ h ⟨Nat.le_of_ble_eq_true rfl, Nat.le_of_ble_eq_true rfl⟩ ⟨Nat.zero_le _, Nat.zero_le _⟩ (st1 := []) (Nat.le_of_ble_eq_true rfl) dX12_windiest_32 (fun r5 w4 v6 h => ?_)
      refine V_aload_n X (i := 0) 0 dX12_windiest_35 rfl rfl ?_
      refine V_iload_n X (i := 2) 2 dX12_windiest_36 rfl rfl ?_
      refine V_iload_n X (i := 1) 1 dX12_windiest_37 rfl rfl ?_
      refine K_12_windOf X (Or.inl q_1574) hZ h ⟨Nat.le_of_ble_eq_true rfl, Nat.le_of_ble_eq_true rfl⟩ ⟨Nat.zero_le _, Nat.zero_le _⟩ (st1 := [.int r5]) (Nat.le_of_ble_eq_true rfl) dX12_windiest_38 (fun r8 w7 v9 h => ?_)
      refine K_12_plainly0 X (Or.inl q_1792) hZ h ⟨Nat.le_of_ble_eq_true rfl, Nat.le_of_ble_eq_true rfl⟩ ⟨Nat.zero_le _, Nat.zero_le _⟩ (st1 := [.int r5]) (Nat.le_of_ble_eq_true rfl) dX12_windiest_41 (fun r11 w10 v12 h => ?_)
      obtain ⟨ht, hf⟩ := h
      refine V_icmp_le X (tgt := 49) dX12_windiest_44 (by decide) (fun c => ?_) (fun c => ?_)
      · have h := ht c
        refine V_sub X (ls1 := [(0, .ref (ad 150)), (1, .int l1), (2, .int l2), (3, .int l3)]) [0, 1, 2, 3] rfl ?_
        exact v_12_windiest_b49 X hr hZ ih _ _ _ _ _ h
      · have h := hf c
        refine V_iload_n X (i := 3) 3 dX12_windiest_47 rfl rfl ?_
        refine V_istore_n X dX12_windiest_48 rfl (by decide) rfl (ls1 := [(2, .int l3), (0, .ref (ad 150)), (1, .int l1), (3, .int l3)]) rfl ?_
        refine V_sub X (ls1 := [(0, .ref (ad 150)), (1, .int l1), (2, .int l3), (3, .int l3)]) [1, 2, 0, 3] rfl ?_
        exact v_12_windiest_b49 X hr hZ ih _ _ _ _ _ h
set_option maxRecDepth 20000 in
theorem v_12_windiest {a1 : Int32} (X : CXq p s m args meth c cX12_windiest 4 yX12_windiest.cls ad cy D (AW ad) s.heap) (hr : meth.sig.returnType = (some .int)) (hZ : ad 1000 = 189) {w : Mem} {wl : MemL} {Q : Int32 → Mem → MemL → Prop} (h : wp_12_windiest a1 w wl Q) : V p l e (RM 3) s m args below meth c 4 ad cy D (AW ad) s.heap 0 0 (MQ below (va_Qi (fun r (u : Mem × MemL) => Q r u.1 u.2) (BM ad cy D wc) (AW ad)) args s 0 0 (AW ad)) wc w wl 0 [(0, .ref (ad 150)), (1, .int a1)] [] := by
  unfold wp_12_windiest at h
  refine V_iload_n X (i := 1) 1 dX12_windiest_0 rfl rfl ?_
  refine V_iconst X (v := (0 : Int32)) dX12_windiest_1 (by decide) ?_
  refine V_ldcw X (v := (99999 : Int32)) dX12_windiest_2 q_1612 ?_
  refine K_12_in X (Or.inl q_1609) hZ h ⟨Nat.le_of_ble_eq_true rfl, Nat.le_of_ble_eq_true rfl⟩ ⟨Nat.zero_le _, Nat.zero_le _⟩ (st1 := []) (Nat.le_of_ble_eq_true rfl) dX12_windiest_5 (fun r2 w1 v3 h => ?_)
  obtain ⟨ht, hf⟩ := h
  refine V_if_ne X (tgt := 13) dX12_windiest_8 (by decide) (fun c => ?_) (fun c => ?_)
  · have h := ht c
    refine V_aload_n X (i := 0) 0 dX12_windiest_13 rfl rfl ?_
    refine K_12_copies X (Or.inl q_1546) hZ h ⟨Nat.le_of_ble_eq_true rfl, Nat.le_of_ble_eq_true rfl⟩ ⟨Nat.zero_le _, Nat.zero_le _⟩ (st1 := []) (Nat.le_of_ble_eq_true rfl) dX12_windiest_14 (fun w4 v5 h => ?_)
    refine V_iconst X (v := (0 : Int32)) dX12_windiest_17 (by decide) ?_
    refine V_istore_n X dX12_windiest_18 rfl (by decide) rfl (ls1 := [(2, .int (0 : Int32)), (0, .ref (ad 150)), (1, .int a1)]) rfl ?_
    refine V_iconst X (v := (1 : Int32)) dX12_windiest_19 (by decide) ?_
    refine V_istore_n X dX12_windiest_20 rfl (by decide) rfl (ls1 := [(3, .int (1 : Int32)), (2, .int (0 : Int32)), (0, .ref (ad 150)), (1, .int a1)]) rfl ?_
    refine V_sub X (ls1 := [(0, .ref (ad 150)), (1, .int a1), (2, .int (0 : Int32)), (3, .int (1 : Int32))]) [2, 3, 1, 0] rfl ?_
    obtain ⟨nn, h⟩ := h
    exact v_12_windiest_b21 X hr hZ nn _ _ _ _ _ h
  · have h := hf c
    refine V_iconst X (v := (-1 : Int32)) dX12_windiest_11 (by decide) ?_
    exact V_iret_m X hr dX12_windiest_12 h
theorem c_12_windiest {a1 : Int32} (hinj : INJ ad) (hZ : ad 1000 = 189) {w : Mem} {wl : MemL} {Q : Int32 → Mem → MemL → Prop} (h : wp_12_windiest a1 w wl Q) : Met l yX12_windiest (TBq yX12_windiest cX12_windiest 4 (some .int)) (RM 3) (va_Pc [.ref (ad 150), .int a1] (PB ad cy D (cmb wc w) wl)) (va_Qi (fun r (u : Mem × MemL) => Q r u.1 u.2) (BM ad cy D wc) (AW ad)) 0 0 (AW ad) := M_enter (by decide) (Nat.le_of_ble_eq_true rfl) hinj (fun p e s m args below meth c X hr => v_12_windiest X hr hZ h)
theorem mf_12_windiest : MFV yX12_windiest cX12_windiest 4 (some .int) yX12_windiest.cls 1 := ⟨q_1798, q_1796, q_1797, q_14, by decide⟩
theorem K_12_windiest {own : String} {idx : Nat} {a1 : Int32} (X : CXq p s m args meth c cc nL own ad cy D A H0) (hL : LK own idx yX12_windiest) (hZ : ad 1000 = 189) {w : Mem} {wl : MemL} {Q : Int32 → Mem → MemL → Prop} (h : wp_12_windiest a1 w wl Q) (hR : (RM 3).frames + 1 ≤ R.frames ∧ 8 + (4 + 11) + (RM 3).locals ≤ R.locals) (hce : ce ≤ R.cells ∧ sl ≤ R.slots) (hcat : (st1.map fun v => v.category).sum ≤ 8) (hd : decode cc pc = .ok (.invokevirtual idx, 3)) (kk : ∀ (r : Int32) (u : Mem) (v : MemL), Q r u v → V p l e R s m args below meth c nL ad cy D A H0 ce sl Qs wc u v (pc + 3) ls (.int r :: st1)) : V p l e R s m args below meth c nL ad cy D A H0 ce sl Qs wc w wl pc ls (.int a1 :: .ref (ad 150) :: st1) := V_callVI_m X mf_12_windiest hL (rfl : vwCl[12]? = some (RX12, TX12, 72)) (by decide) (rfl : SK 150 = 12) (hzk hZ (by decide)).2 (c_12_windiest X.2.2.2.2.2.2.2.1 hZ h) (As := [.int a1]) rfl ⟨rfl, rfl⟩ hR hce st1 rfl hcat hd kk
set_option maxRecDepth 20000 in
theorem v_12_progress_b48 (X : CXq p s m args meth c cX12_progress 2 yX12_progress.cls ad cy D (AW ad) s.heap) (hr : meth.sig.returnType = (some .int)) (hZ : ad 1000 = 189) {Q : Int32 → Mem → MemL → Prop} : ∀ (w : Mem) (wl : MemL), wp_12_progress_b48 Q w wl → V p l e (RM 3) s m args below meth c 2 ad cy D (AW ad) s.heap 0 0 (MQ below (va_Qi (fun r (u : Mem × MemL) => Q r u.1 u.2) (BM ad cy D wc) (AW ad)) args s 0 0 (AW ad)) wc w wl 48 [] [] := by
  intro w wl h
  unfold wp_12_progress_b48 at h
  refine V_sipush X (v := (-10000 : Int32)) dX12_progress_48 (by decide) ?_
  exact V_iret_m X hr dX12_progress_51 h
set_option maxRecDepth 20000 in
theorem v_12_progress {a1 : Int32} (X : CXq p s m args meth c cX12_progress 2 yX12_progress.cls ad cy D (AW ad) s.heap) (hr : meth.sig.returnType = (some .int)) (hZ : ad 1000 = 189) {w : Mem} {wl : MemL} {Q : Int32 → Mem → MemL → Prop} (h : wp_12_progress a1 w wl Q) : V p l e (RM 3) s m args below meth c 2 ad cy D (AW ad) s.heap 0 0 (MQ below (va_Qi (fun r (u : Mem × MemL) => Q r u.1 u.2) (BM ad cy D wc) (AW ad)) args s 0 0 (AW ad)) wc w wl 0 [(0, .ref (ad 150)), (1, .int a1)] [] := by
  unfold wp_12_progress at h
  refine V_aload_n X (i := 0) 0 dX12_progress_0 rfl rfl ?_
  refine V_iload_n X (i := 1) 1 dX12_progress_1 rfl rfl ?_
  refine V_iconst X (v := (1 : Int32)) dX12_progress_2 (by decide) ?_
  refine K_12_hasJump X (Or.inl q_1617) hZ h ⟨Nat.le_of_ble_eq_true rfl, Nat.le_of_ble_eq_true rfl⟩ ⟨Nat.zero_le _, Nat.zero_le _⟩ (st1 := []) (Nat.le_of_ble_eq_true rfl) dX12_progress_3 (fun r2 w1 v3 h => ?_)
  obtain ⟨ht, hf⟩ := h
  refine V_if_eq X (tgt := 48) dX12_progress_6 (by decide) (fun c => ?_) (fun c => ?_)
  · have h := ht c
    refine V_sub X (ls1 := []) [] rfl ?_
    exact v_12_progress_b48 X hr hZ _ _ h
  · have h := hf c
    refine V_aload_n X (i := 0) 0 dX12_progress_9 rfl rfl ?_
    refine V_iload_n X (i := 1) 1 dX12_progress_10 rfl rfl ?_
    refine V_iconst X (v := (2 : Int32)) dX12_progress_11 (by decide) ?_
    refine K_12_hasJump X (Or.inl q_1617) hZ h ⟨Nat.le_of_ble_eq_true rfl, Nat.le_of_ble_eq_true rfl⟩ ⟨Nat.zero_le _, Nat.zero_le _⟩ (st1 := []) (Nat.le_of_ble_eq_true rfl) dX12_progress_12 (fun r5 w4 v6 h => ?_)
    obtain ⟨ht, hf⟩ := h
    refine V_if_eq X (tgt := 48) dX12_progress_15 (by decide) (fun c => ?_) (fun c => ?_)
    · have h := ht c
      refine V_sub X (ls1 := []) [] rfl ?_
      exact v_12_progress_b48 X hr hZ _ _ h
    · have h := hf c
      refine V_aload_n X (i := 0) 0 dX12_progress_18 rfl rfl ?_
      refine G_12_107 X hZ dX12_progress_19 ?_
      refine V_aload_n X (i := 0) 0 dX12_progress_22 rfl rfl ?_
      refine V_bipush X (v := (20 : Int32)) dX12_progress_23 (by decide) ?_
      refine V_iconst X (v := (1 : Int32)) dX12_progress_25 (by decide) ?_
      refine V_iload_n X (i := 1) 1 dX12_progress_26 rfl rfl ?_
      refine K_12_cell X (Or.inl q_1558) hZ h ⟨Nat.le_of_ble_eq_true rfl, Nat.le_of_ble_eq_true rfl⟩ ⟨Nat.zero_le _, Nat.zero_le _⟩ (st1 := [.ref (ad 180)]) (Nat.le_of_ble_eq_true rfl) dX12_progress_27 (fun r8 w7 v9 h => ?_)
      obtain ⟨g10, h⟩ := h
      refine V_iald_m X (rfl : SLq 180 = 260) (hzk hZ (by decide)) (rfl : SK 180 = 14) g10 dX12_progress_30 ?_
      refine V_aload_n X (i := 0) 0 dX12_progress_31 rfl rfl ?_
      refine G_12_107 X hZ dX12_progress_32 ?_
      refine V_aload_n X (i := 0) 0 dX12_progress_35 rfl rfl ?_
      refine V_bipush X (v := (20 : Int32)) dX12_progress_36 (by decide) ?_
      refine V_iconst X (v := (0 : Int32)) dX12_progress_38 (by decide) ?_
      refine V_iload_n X (i := 1) 1 dX12_progress_39 rfl rfl ?_
      refine K_12_cell X (Or.inl q_1558) hZ h ⟨Nat.le_of_ble_eq_true rfl, Nat.le_of_ble_eq_true rfl⟩ ⟨Nat.zero_le _, Nat.zero_le _⟩ (st1 := [.ref (ad 180), .int (w7 180 (ix r8))]) (Nat.le_of_ble_eq_true rfl) dX12_progress_40 (fun r12 w11 v13 h => ?_)
      obtain ⟨g14, h⟩ := h
      refine V_iald_m X (rfl : SLq 180 = 260) (hzk hZ (by decide)) (rfl : SK 180 = 14) g14 dX12_progress_43 ?_
      refine V_isub X dX12_progress_44 ?_
      refine V_goto X (tgt := 51) dX12_progress_45 (by decide) ?_
      exact V_iret_m X hr dX12_progress_51 h
theorem c_12_progress {a1 : Int32} (hinj : INJ ad) (hZ : ad 1000 = 189) {w : Mem} {wl : MemL} {Q : Int32 → Mem → MemL → Prop} (h : wp_12_progress a1 w wl Q) : Met l yX12_progress (TBq yX12_progress cX12_progress 2 (some .int)) (RM 3) (va_Pc [.ref (ad 150), .int a1] (PB ad cy D (cmb wc w) wl)) (va_Qi (fun r (u : Mem × MemL) => Q r u.1 u.2) (BM ad cy D wc) (AW ad)) 0 0 (AW ad) := M_enter (by decide) (Nat.le_of_ble_eq_true rfl) hinj (fun p e s m args below meth c X hr => v_12_progress X hr hZ h)
theorem mf_12_progress : MFV yX12_progress cX12_progress 2 (some .int) yX12_progress.cls 1 := ⟨q_1802, q_1800, q_1801, q_14, by decide⟩
theorem K_12_progress {own : String} {idx : Nat} {a1 : Int32} (X : CXq p s m args meth c cc nL own ad cy D A H0) (hL : LK own idx yX12_progress) (hZ : ad 1000 = 189) {w : Mem} {wl : MemL} {Q : Int32 → Mem → MemL → Prop} (h : wp_12_progress a1 w wl Q) (hR : (RM 3).frames + 1 ≤ R.frames ∧ 8 + (2 + 11) + (RM 3).locals ≤ R.locals) (hce : ce ≤ R.cells ∧ sl ≤ R.slots) (hcat : (st1.map fun v => v.category).sum ≤ 8) (hd : decode cc pc = .ok (.invokevirtual idx, 3)) (kk : ∀ (r : Int32) (u : Mem) (v : MemL), Q r u v → V p l e R s m args below meth c nL ad cy D A H0 ce sl Qs wc u v (pc + 3) ls (.int r :: st1)) : V p l e R s m args below meth c nL ad cy D A H0 ce sl Qs wc w wl pc ls (.int a1 :: .ref (ad 150) :: st1) := V_callVI_m X mf_12_progress hL (rfl : vwCl[12]? = some (RX12, TX12, 72)) (by decide) (rfl : SK 150 = 12) (hzk hZ (by decide)).2 (c_12_progress X.2.2.2.2.2.2.2.1 hZ h) (As := [.int a1]) rfl ⟨rfl, rfl⟩ hR hce st1 rfl hcat hd kk
end
