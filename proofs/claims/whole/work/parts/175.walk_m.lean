-- printed by wip/whole/gen6.py out of the decode rows and the tables
section
variable {p : Program} {l : Launch} {e : Env} {R : Room} {s : State} {m : MethodId} {args : Array Value} {below : List Frame} {meth : Method} {c : Code} {cc : ByteArray} {nL : Nat} {ad : Nat → Nat} {cy : Nat → ClassId} {D : va_G} {A : Nat → Prop} {H0 : Heap} {ce sl : Nat} {Qs : State → Prop} {wc wm : Mem} {wl0 : MemL} {pc : Nat} {ls : List (Nat × Value)} {st1 : List Value}
set_option maxRecDepth 20000 in
theorem v_12_himself_b173 (X : CXq p s m args meth c cX12_himself 8 yX12_himself.cls ad cy D (AW ad) s.heap) (hr : meth.sig.returnType = (some .int)) (hZ : ad 1000 = 189) {Q : Int32 → Mem → MemL → Prop} {L30 : Int32 → Int32 → Int32 → Int32 → Int32 → Mem → MemL → Prop} (HL30 : ∀ (l1 : Int32) (l2 : Int32) (l3 : Int32) (l4 : Int32) (l5 : Int32) (w : Mem) (wl : MemL), L30 l1 l2 l3 l4 l5 w wl → V p l e (RM 6) s m args below meth c 8 ad cy D (AW ad) s.heap 0 0 (MQ below (va_Qi (fun r (u : Mem × MemL) => Q r u.1 u.2) (BM ad cy D wc) (AW ad)) args s 0 0 (AW ad)) wc w wl 30 [(0, .ref (ad 150)), (1, .int l1), (2, .int l2), (3, .int l3), (4, .int l4), (5, .int l5)] []) {L47 : Int32 → Int32 → Int32 → Int32 → Int32 → Int32 → Mem → MemL → Prop} (HL47 : ∀ (l1 : Int32) (l2 : Int32) (l3 : Int32) (l4 : Int32) (l5 : Int32) (l6 : Int32) (w : Mem) (wl : MemL), L47 l1 l2 l3 l4 l5 l6 w wl → V p l e (RM 6) s m args below meth c 8 ad cy D (AW ad) s.heap 0 0 (MQ below (va_Qi (fun r (u : Mem × MemL) => Q r u.1 u.2) (BM ad cy D wc) (AW ad)) args s 0 0 (AW ad)) wc w wl 47 [(0, .ref (ad 150)), (1, .int l1), (2, .int l2), (3, .int l3), (4, .int l4), (5, .int l5), (6, .int l6)] []) : ∀ (l1 : Int32) (l2 : Int32) (l3 : Int32) (l4 : Int32) (l5 : Int32) (l6 : Int32) (w : Mem) (wl : MemL), wp_12_himself_b173 Q L30 L47 l1 l2 l3 l4 l5 l6 w wl → V p l e (RM 6) s m args below meth c 8 ad cy D (AW ad) s.heap 0 0 (MQ below (va_Qi (fun r (u : Mem × MemL) => Q r u.1 u.2) (BM ad cy D wc) (AW ad)) args s 0 0 (AW ad)) wc w wl 173 [(0, .ref (ad 150)), (1, .int l1), (2, .int l2), (3, .int l3), (4, .int l4), (5, .int l5), (6, .int l6)] [] := by
  intro l1 l2 l3 l4 l5 l6 w wl h
  unfold wp_12_himself_b173 at h
  obtain ⟨x1, ex1⟩ : ∃ y : Int32, y = l6 + (1 : Int32) := ⟨_, rfl⟩
  have h := h x1 ex1
  refine V_iinc X 6 dX12_himself_173 rfl (by decide) (by rw [ex1]; rfl) (ls1 := [(6, .int x1), (0, .ref (ad 150)), (1, .int l1), (2, .int l2), (3, .int l3), (4, .int l4), (5, .int l5)]) rfl ?_
  refine V_goto X (tgt := 47) dX12_himself_176 (by decide) ?_
  refine V_sub X (ls1 := [(0, .ref (ad 150)), (1, .int l1), (2, .int l2), (3, .int l3), (4, .int l4), (5, .int l5), (6, .int x1)]) [1, 2, 3, 4, 5, 6, 0] rfl ?_
  exact HL47 _ _ _ _ _ _ _ _ h
set_option maxRecDepth 20000 in
theorem v_12_himself_b161 (X : CXq p s m args meth c cX12_himself 8 yX12_himself.cls ad cy D (AW ad) s.heap) (hr : meth.sig.returnType = (some .int)) (hZ : ad 1000 = 189) {Q : Int32 → Mem → MemL → Prop} {L30 : Int32 → Int32 → Int32 → Int32 → Int32 → Mem → MemL → Prop} (HL30 : ∀ (l1 : Int32) (l2 : Int32) (l3 : Int32) (l4 : Int32) (l5 : Int32) (w : Mem) (wl : MemL), L30 l1 l2 l3 l4 l5 w wl → V p l e (RM 6) s m args below meth c 8 ad cy D (AW ad) s.heap 0 0 (MQ below (va_Qi (fun r (u : Mem × MemL) => Q r u.1 u.2) (BM ad cy D wc) (AW ad)) args s 0 0 (AW ad)) wc w wl 30 [(0, .ref (ad 150)), (1, .int l1), (2, .int l2), (3, .int l3), (4, .int l4), (5, .int l5)] []) {L47 : Int32 → Int32 → Int32 → Int32 → Int32 → Int32 → Mem → MemL → Prop} (HL47 : ∀ (l1 : Int32) (l2 : Int32) (l3 : Int32) (l4 : Int32) (l5 : Int32) (l6 : Int32) (w : Mem) (wl : MemL), L47 l1 l2 l3 l4 l5 l6 w wl → V p l e (RM 6) s m args below meth c 8 ad cy D (AW ad) s.heap 0 0 (MQ below (va_Qi (fun r (u : Mem × MemL) => Q r u.1 u.2) (BM ad cy D wc) (AW ad)) args s 0 0 (AW ad)) wc w wl 47 [(0, .ref (ad 150)), (1, .int l1), (2, .int l2), (3, .int l3), (4, .int l4), (5, .int l5), (6, .int l6)] []) : ∀ (l1 : Int32) (l5 : Int32) (l6 : Int32) (l7 : Int32) (w : Mem) (wl : MemL), wp_12_himself_b161 Q L30 L47 l1 l5 l6 l7 w wl → V p l e (RM 6) s m args below meth c 8 ad cy D (AW ad) s.heap 0 0 (MQ below (va_Qi (fun r (u : Mem × MemL) => Q r u.1 u.2) (BM ad cy D wc) (AW ad)) args s 0 0 (AW ad)) wc w wl 161 [(0, .ref (ad 150)), (1, .int l1), (5, .int l5), (6, .int l6), (7, .int l7)] [] := by
  intro l1 l5 l6 l7 w wl h
  unfold wp_12_himself_b161 at h
  refine V_iload X (i := 5) 2 dX12_himself_161 rfl ?_
  refine V_istore_n X dX12_himself_163 rfl (by decide) rfl (ls1 := [(2, .int l5), (0, .ref (ad 150)), (1, .int l1), (5, .int l5), (6, .int l6), (7, .int l7)]) rfl ?_
  refine V_iload X (i := 7) 5 dX12_himself_164 rfl ?_
  refine V_istore_n X dX12_himself_166 rfl (by decide) rfl (ls1 := [(3, .int l7), (2, .int l5), (0, .ref (ad 150)), (1, .int l1), (5, .int l5), (6, .int l6), (7, .int l7)]) rfl ?_
  refine V_iload X (i := 6) 5 dX12_himself_167 rfl ?_
  refine V_iconst X (v := (1 : Int32)) dX12_himself_169 (by decide) ?_
  refine V_iadd X dX12_himself_170 ?_
  obtain ⟨x1, ex1⟩ : ∃ y : Int32, y = (l6 + (1 : Int32)) := ⟨_, rfl⟩
  have h := h x1 ex1
  refine V_istore X dX12_himself_171 (by decide) ex1 (ls1 := [(4, .int x1), (3, .int l7), (2, .int l5), (0, .ref (ad 150)), (1, .int l1), (5, .int l5), (6, .int l6), (7, .int l7)]) rfl ?_
  refine V_sub X (ls1 := [(0, .ref (ad 150)), (1, .int l1), (2, .int l5), (3, .int l7), (4, .int x1), (5, .int l5), (6, .int l6)]) [3, 4, 2, 1, 0, 5, 6] rfl ?_
  exact v_12_himself_b173 X hr hZ HL30 HL47 _ _ _ _ _ _ _ _ h
set_option maxRecDepth 20000 in
theorem v_12_himself_b47 (X : CXq p s m args meth c cX12_himself 8 yX12_himself.cls ad cy D (AW ad) s.heap) (hr : meth.sig.returnType = (some .int)) (hZ : ad 1000 = 189) {Q : Int32 → Mem → MemL → Prop} {L30 : Int32 → Int32 → Int32 → Int32 → Int32 → Mem → MemL → Prop} (HL30 : ∀ (l1 : Int32) (l2 : Int32) (l3 : Int32) (l4 : Int32) (l5 : Int32) (w : Mem) (wl : MemL), L30 l1 l2 l3 l4 l5 w wl → V p l e (RM 6) s m args below meth c 8 ad cy D (AW ad) s.heap 0 0 (MQ below (va_Qi (fun r (u : Mem × MemL) => Q r u.1 u.2) (BM ad cy D wc) (AW ad)) args s 0 0 (AW ad)) wc w wl 30 [(0, .ref (ad 150)), (1, .int l1), (2, .int l2), (3, .int l3), (4, .int l4), (5, .int l5)] []) : ∀ (n : Nat) (l1 : Int32) (l2 : Int32) (l3 : Int32) (l4 : Int32) (l5 : Int32) (l6 : Int32) (w : Mem) (wl : MemL), wp_12_himself_b47 Q L30 n l1 l2 l3 l4 l5 l6 w wl → V p l e (RM 6) s m args below meth c 8 ad cy D (AW ad) s.heap 0 0 (MQ below (va_Qi (fun r (u : Mem × MemL) => Q r u.1 u.2) (BM ad cy D wc) (AW ad)) args s 0 0 (AW ad)) wc w wl 47 [(0, .ref (ad 150)), (1, .int l1), (2, .int l2), (3, .int l3), (4, .int l4), (5, .int l5), (6, .int l6)] [] := by
  intro n
  induction n with
  | zero =>
    intro l1 l2 l3 l4 l5 l6 w wl h
    exact h.elim
  | succ n ih =>
    intro l1 l2 l3 l4 l5 l6 w wl h
    unfold wp_12_himself_b47 at h
    refine V_iload X (i := 6) 6 dX12_himself_47 rfl ?_
    refine V_iconst X (v := (2 : Int32)) dX12_himself_49 (by decide) ?_
    obtain ⟨ht, hf⟩ := h
    refine V_icmp_ge X (tgt := 179) dX12_himself_50 (by decide) (fun c => ?_) (fun c => ?_)
    · have h := ht c
      obtain ⟨x1, ex1⟩ : ∃ y : Int32, y = l5 + (1 : Int32) := ⟨_, rfl⟩
      have h := h x1 ex1
      refine V_iinc X 5 dX12_himself_179 rfl (by decide) (by rw [ex1]; rfl) (ls1 := [(5, .int x1), (0, .ref (ad 150)), (1, .int l1), (2, .int l2), (3, .int l3), (4, .int l4), (6, .int l6)]) rfl ?_
      refine V_goto X (tgt := 30) dX12_himself_182 (by decide) ?_
      refine V_sub X (ls1 := [(0, .ref (ad 150)), (1, .int l1), (2, .int l2), (3, .int l3), (4, .int l4), (5, .int x1)]) [1, 2, 3, 4, 5, 0] rfl ?_
      exact HL30 _ _ _ _ _ _ _ h
    · have h := hf c
      refine V_aload_n X (i := 0) 0 dX12_himself_53 rfl rfl ?_
      refine G_12_110 X hZ dX12_himself_54 ?_
      refine V_aload_n X (i := 0) 0 dX12_himself_57 rfl rfl ?_
      refine V_iconst X (v := (4 : Int32)) dX12_himself_58 (by decide) ?_
      refine V_iload X (i := 6) 6 dX12_himself_59 rfl ?_
      refine V_iload X (i := 5) 5 dX12_himself_61 rfl ?_
      refine K_12_cell X (Or.inl q_1558) hZ h ⟨Nat.le_of_ble_eq_true rfl, Nat.le_of_ble_eq_true rfl⟩ ⟨Nat.zero_le _, Nat.zero_le _⟩ (st1 := [.ref (ad 181)]) (Nat.le_of_ble_eq_true rfl) dX12_himself_63 (fun r3 w2 v4 h => ?_)
      obtain ⟨g5, h⟩ := h
      refine V_iald_m X (rfl : SLq 181 = 260) (hzk hZ (by decide)) (rfl : SK 181 = 14) g5 dX12_himself_66 ?_
      obtain ⟨ht, hf⟩ := h
      refine V_if_ne X (tgt := 73) dX12_himself_67 (by decide) (fun c => ?_) (fun c => ?_)
      · have h := ht c
        refine V_aload_n X (i := 0) 0 dX12_himself_73 rfl rfl ?_
        refine V_iload X (i := 5) 5 dX12_himself_74 rfl ?_
        refine V_aload_n X (i := 0) 0 dX12_himself_76 rfl rfl ?_
        refine G_12_110 X hZ dX12_himself_77 ?_
        refine V_aload_n X (i := 0) 0 dX12_himself_80 rfl rfl ?_
        refine V_bipush X (v := (84 : Int32)) dX12_himself_81 (by decide) ?_
        refine V_iload X (i := 6) 6 dX12_himself_83 rfl ?_
        refine V_iload X (i := 5) 5 dX12_himself_85 rfl ?_
        refine K_12_cell X (Or.inl q_1558) hZ h ⟨Nat.le_of_ble_eq_true rfl, Nat.le_of_ble_eq_true rfl⟩ ⟨Nat.zero_le _, Nat.zero_le _⟩ (st1 := [.ref (ad 181), .int l5, .ref (ad 150)]) (Nat.le_of_ble_eq_true rfl) dX12_himself_87 (fun r7 w6 v8 h => ?_)
        obtain ⟨g9, h⟩ := h
        refine V_iald_m X (rfl : SLq 181 = 260) (hzk hZ (by decide)) (rfl : SK 181 = 14) g9 dX12_himself_90 ?_
        refine V_iconst X (v := (0 : Int32)) dX12_himself_91 (by decide) ?_
        refine V_aload_n X (i := 0) 0 dX12_himself_92 rfl rfl ?_
        refine G_12_110 X hZ dX12_himself_93 ?_
        refine V_aload_n X (i := 0) 0 dX12_himself_96 rfl rfl ?_
        refine V_bipush X (v := (100 : Int32)) dX12_himself_97 (by decide) ?_
        refine V_iload X (i := 6) 6 dX12_himself_99 rfl ?_
        refine V_iload X (i := 5) 5 dX12_himself_101 rfl ?_
        refine K_12_cell X (Or.inl q_1558) hZ h ⟨Nat.le_of_ble_eq_true rfl, Nat.le_of_ble_eq_true rfl⟩ ⟨Nat.zero_le _, Nat.zero_le _⟩ (st1 := [.ref (ad 181), .int (0 : Int32), .int (w6 181 (ix r7)), .int l5, .ref (ad 150)]) (Nat.le_of_ble_eq_true rfl) dX12_himself_103 (fun r11 w10 v12 h => ?_)
        obtain ⟨g13, h⟩ := h
        refine V_iald_m X (rfl : SLq 181 = 260) (hzk hZ (by decide)) (rfl : SK 181 = 14) g13 dX12_himself_106 ?_
        refine V_aload_n X (i := 0) 0 dX12_himself_107 rfl rfl ?_
        refine G_12_110 X hZ dX12_himself_108 ?_
        refine V_aload_n X (i := 0) 0 dX12_himself_111 rfl rfl ?_
        refine V_sipush X (v := (132 : Int32)) dX12_himself_112 (by decide) ?_
        refine V_iload X (i := 6) 6 dX12_himself_115 rfl ?_
        refine V_iload X (i := 5) 5 dX12_himself_117 rfl ?_
        refine K_12_cell X (Or.inl q_1558) hZ h ⟨Nat.le_of_ble_eq_true rfl, Nat.le_of_ble_eq_true rfl⟩ ⟨Nat.zero_le _, Nat.zero_le _⟩ (st1 := [.ref (ad 181), .int (w10 181 (ix r11)), .int (0 : Int32), .int (w6 181 (ix r7)), .int l5, .ref (ad 150)]) (Nat.le_of_ble_eq_true rfl) dX12_himself_119 (fun r15 w14 v16 h => ?_)
        obtain ⟨g17, h⟩ := h
        refine V_iald_m X (rfl : SLq 181 = 260) (hzk hZ (by decide)) (rfl : SK 181 = 14) g17 dX12_himself_122 ?_
        refine K_12_setsJump X (Or.inl q_1664) hZ h ⟨Nat.le_of_ble_eq_true rfl, Nat.le_of_ble_eq_true rfl⟩ ⟨Nat.zero_le _, Nat.zero_le _⟩ (st1 := []) (Nat.le_of_ble_eq_true rfl) dX12_himself_123 (fun w18 v19 h => ?_)
        refine V_aload_n X (i := 0) 0 dX12_himself_126 rfl rfl ?_
        refine G_12_110 X hZ dX12_himself_127 ?_
        refine V_aload_n X (i := 0) 0 dX12_himself_130 rfl rfl ?_
        refine V_bipush X (v := (20 : Int32)) dX12_himself_131 (by decide) ?_
        refine V_iload X (i := 6) 6 dX12_himself_133 rfl ?_
        refine V_iload X (i := 5) 5 dX12_himself_135 rfl ?_
        refine K_12_cell X (Or.inl q_1558) hZ h ⟨Nat.le_of_ble_eq_true rfl, Nat.le_of_ble_eq_true rfl⟩ ⟨Nat.zero_le _, Nat.zero_le _⟩ (st1 := [.ref (ad 181)]) (Nat.le_of_ble_eq_true rfl) dX12_himself_137 (fun r21 w20 v22 h => ?_)
        obtain ⟨g23, h⟩ := h
        refine V_iald_m X (rfl : SLq 181 = 260) (hzk hZ (by decide)) (rfl : SK 181 = 14) g23 dX12_himself_140 ?_
        refine V_aload_n X (i := 0) 0 dX12_himself_141 rfl rfl ?_
        refine G_12_365 X hZ dX12_himself_142 ?_
        refine V_isub X dX12_himself_145 ?_
        obtain ⟨x24, ex24⟩ : ∃ y : Int32, y = ((w20 181 (ix r21)) - (w20 150 59)) := ⟨_, rfl⟩
        have h := h x24 ex24
        refine V_istore X dX12_himself_146 (by decide) ex24 (ls1 := [(7, .int x24), (0, .ref (ad 150)), (1, .int l1), (2, .int l2), (3, .int l3), (4, .int l4), (5, .int l5), (6, .int l6)]) rfl ?_
        refine V_iload_n X (i := 2) 3 dX12_himself_148 rfl rfl ?_
        obtain ⟨ht, hf⟩ := h
        refine V_if_lt X (tgt := 161) dX12_himself_149 (by decide) (fun c => ?_) (fun c => ?_)
        · have h := ht c
          refine V_sub X (ls1 := [(0, .ref (ad 150)), (1, .int l1), (5, .int l5), (6, .int l6), (7, .int x24)]) [1, 2, 6, 7, 0] rfl ?_
          exact v_12_himself_b161 X hr hZ HL30 ih _ _ _ _ _ _ h
        · have h := hf c
          refine V_iload X (i := 7) 0 dX12_himself_152 rfl ?_
          refine V_iload_n X (i := 3) 4 dX12_himself_154 rfl rfl ?_
          obtain ⟨ht, hf⟩ := h
          refine V_icmp_gt X (tgt := 161) dX12_himself_155 (by decide) (fun c => ?_) (fun c => ?_)
          · have h := ht c
            refine V_sub X (ls1 := [(0, .ref (ad 150)), (1, .int l1), (5, .int l5), (6, .int l6), (7, .int x24)]) [1, 2, 6, 7, 0] rfl ?_
            exact v_12_himself_b161 X hr hZ HL30 ih _ _ _ _ _ _ h
          · have h := hf c
            refine V_goto X (tgt := 173) dX12_himself_158 (by decide) ?_
            refine V_sub X (ls1 := [(0, .ref (ad 150)), (1, .int l1), (2, .int l2), (3, .int l3), (4, .int l4), (5, .int l5), (6, .int l6)]) [1, 2, 3, 4, 5, 6, 7] rfl ?_
            exact v_12_himself_b173 X hr hZ HL30 ih _ _ _ _ _ _ _ _ h
      · have h := hf c
        refine V_goto X (tgt := 173) dX12_himself_70 (by decide) ?_
        refine V_sub X (ls1 := [(0, .ref (ad 150)), (1, .int l1), (2, .int l2), (3, .int l3), (4, .int l4), (5, .int l5), (6, .int l6)]) [0, 1, 2, 3, 4, 5, 6] rfl ?_
        exact v_12_himself_b173 X hr hZ HL30 ih _ _ _ _ _ _ _ _ h
set_option maxRecDepth 20000 in
theorem v_12_himself_b30 (X : CXq p s m args meth c cX12_himself 8 yX12_himself.cls ad cy D (AW ad) s.heap) (hr : meth.sig.returnType = (some .int)) (hZ : ad 1000 = 189) {Q : Int32 → Mem → MemL → Prop} : ∀ (n : Nat) (l1 : Int32) (l2 : Int32) (l3 : Int32) (l4 : Int32) (l5 : Int32) (w : Mem) (wl : MemL), wp_12_himself_b30 Q n l1 l2 l3 l4 l5 w wl → V p l e (RM 6) s m args below meth c 8 ad cy D (AW ad) s.heap 0 0 (MQ below (va_Qi (fun r (u : Mem × MemL) => Q r u.1 u.2) (BM ad cy D wc) (AW ad)) args s 0 0 (AW ad)) wc w wl 30 [(0, .ref (ad 150)), (1, .int l1), (2, .int l2), (3, .int l3), (4, .int l4), (5, .int l5)] [] := by
  intro n
  induction n with
  | zero =>
    intro l1 l2 l3 l4 l5 w wl h
    exact h.elim
  | succ n ih =>
    intro l1 l2 l3 l4 l5 w wl h
    unfold wp_12_himself_b30 at h
    refine V_iload X (i := 5) 5 dX12_himself_30 rfl ?_
    refine V_aload_n X (i := 0) 0 dX12_himself_32 rfl rfl ?_
    refine G_12_46 X hZ dX12_himself_33 ?_
    refine V_aload_n X (i := 0) 0 dX12_himself_36 rfl rfl ?_
    refine G_12_218 X hZ dX12_himself_37 ?_
    obtain ⟨g1, h⟩ := h
    refine V_iald_m X (rfl : SLq 160 = 2) (hzk hZ (by decide)) (rfl : SK 160 = 14) g1 dX12_himself_40 ?_
    obtain ⟨ht, hf⟩ := h
    refine V_icmp_ge X (tgt := 185) dX12_himself_41 (by decide) (fun c => ?_) (fun c => ?_)
    · have h := ht c
      refine V_iload_n X (i := 1) 1 dX12_himself_185 rfl rfl ?_
      obtain ⟨ht, hf⟩ := h
      refine V_if_ne X (tgt := 193) dX12_himself_186 (by decide) (fun c => ?_) (fun c => ?_)
      · have h := ht c
        refine V_iload_n X (i := 1) 1 dX12_himself_193 rfl rfl ?_
        refine V_iconst X (v := (1 : Int32)) dX12_himself_194 (by decide) ?_
        obtain ⟨ht, hf⟩ := h
        refine V_icmp_ne X (tgt := 202) dX12_himself_195 (by decide) (fun c => ?_) (fun c => ?_)
        · have h := ht c
          refine V_iload X (i := 4) 4 dX12_himself_202 rfl ?_
          exact V_iret_m X hr dX12_himself_204 h
        · have h := hf c
          refine V_iload_n X (i := 3) 3 dX12_himself_198 rfl rfl ?_
          refine V_goto X (tgt := 204) dX12_himself_199 (by decide) ?_
          exact V_iret_m X hr dX12_himself_204 h
      · have h := hf c
        refine V_iload_n X (i := 2) 2 dX12_himself_189 rfl rfl ?_
        refine V_goto X (tgt := 204) dX12_himself_190 (by decide) ?_
        exact V_iret_m X hr dX12_himself_204 h
    · have h := hf c
      refine V_iconst X (v := (0 : Int32)) dX12_himself_44 (by decide) ?_
      refine V_istore X dX12_himself_45 (by decide) rfl (ls1 := [(6, .int (0 : Int32)), (0, .ref (ad 150)), (1, .int l1), (2, .int l2), (3, .int l3), (4, .int l4), (5, .int l5)]) rfl ?_
      refine V_sub X (ls1 := [(0, .ref (ad 150)), (1, .int l1), (2, .int l2), (3, .int l3), (4, .int l4), (5, .int l5), (6, .int (0 : Int32))]) [1, 2, 3, 4, 5, 6, 0] rfl ?_
      obtain ⟨nn, h⟩ := h
      exact v_12_himself_b47 X hr hZ ih nn _ _ _ _ _ _ _ _ h
set_option maxRecDepth 20000 in
theorem v_12_himself {a1 : Int32} (X : CXq p s m args meth c cX12_himself 8 yX12_himself.cls ad cy D (AW ad) s.heap) (hr : meth.sig.returnType = (some .int)) (hZ : ad 1000 = 189) {w : Mem} {wl : MemL} {Q : Int32 → Mem → MemL → Prop} (h : wp_12_himself a1 w wl Q) : V p l e (RM 6) s m args below meth c 8 ad cy D (AW ad) s.heap 0 0 (MQ below (va_Qi (fun r (u : Mem × MemL) => Q r u.1 u.2) (BM ad cy D wc) (AW ad)) args s 0 0 (AW ad)) wc w wl 0 [(0, .ref (ad 150)), (1, .int a1)] [] := by
  unfold wp_12_himself at h
  refine V_iload_n X (i := 1) 1 dX12_himself_0 rfl rfl ?_
  refine V_iconst X (v := (0 : Int32)) dX12_himself_1 (by decide) ?_
  refine V_iconst X (v := (2 : Int32)) dX12_himself_2 (by decide) ?_
  refine K_12_in X (Or.inl q_1609) hZ h ⟨Nat.le_of_ble_eq_true rfl, Nat.le_of_ble_eq_true rfl⟩ ⟨Nat.zero_le _, Nat.zero_le _⟩ (st1 := []) (Nat.le_of_ble_eq_true rfl) dX12_himself_3 (fun r2 w1 v3 h => ?_)
  obtain ⟨ht, hf⟩ := h
  refine V_if_ne X (tgt := 13) dX12_himself_6 (by decide) (fun c => ?_) (fun c => ?_)
  · have h := ht c
    refine V_aload_n X (i := 0) 0 dX12_himself_13 rfl rfl ?_
    refine K_12_copies X (Or.inl q_1546) hZ h ⟨Nat.le_of_ble_eq_true rfl, Nat.le_of_ble_eq_true rfl⟩ ⟨Nat.zero_le _, Nat.zero_le _⟩ (st1 := []) (Nat.le_of_ble_eq_true rfl) dX12_himself_14 (fun w4 v5 h => ?_)
    refine V_bipush X (v := (-2 : Int32)) dX12_himself_17 (by decide) ?_
    refine V_istore_n X dX12_himself_19 rfl (by decide) rfl (ls1 := [(2, .int (-2 : Int32)), (0, .ref (ad 150)), (1, .int a1)]) rfl ?_
    refine V_bipush X (v := (-2 : Int32)) dX12_himself_20 (by decide) ?_
    refine V_istore_n X dX12_himself_22 rfl (by decide) rfl (ls1 := [(3, .int (-2 : Int32)), (2, .int (-2 : Int32)), (0, .ref (ad 150)), (1, .int a1)]) rfl ?_
    refine V_bipush X (v := (-2 : Int32)) dX12_himself_23 (by decide) ?_
    refine V_istore X dX12_himself_25 (by decide) rfl (ls1 := [(4, .int (-2 : Int32)), (3, .int (-2 : Int32)), (2, .int (-2 : Int32)), (0, .ref (ad 150)), (1, .int a1)]) rfl ?_
    refine V_iconst X (v := (0 : Int32)) dX12_himself_27 (by decide) ?_
    refine V_istore X dX12_himself_28 (by decide) rfl (ls1 := [(5, .int (0 : Int32)), (4, .int (-2 : Int32)), (3, .int (-2 : Int32)), (2, .int (-2 : Int32)), (0, .ref (ad 150)), (1, .int a1)]) rfl ?_
    refine V_sub X (ls1 := [(0, .ref (ad 150)), (1, .int a1), (2, .int (-2 : Int32)), (3, .int (-2 : Int32)), (4, .int (-2 : Int32)), (5, .int (0 : Int32))]) [4, 5, 3, 2, 1, 0] rfl ?_
    obtain ⟨nn, h⟩ := h
    exact v_12_himself_b30 X hr hZ nn _ _ _ _ _ _ _ h
  · have h := hf c
    refine V_sipush X (v := (-10000 : Int32)) dX12_himself_9 (by decide) ?_
    exact V_iret_m X hr dX12_himself_12 h
theorem c_12_himself {a1 : Int32} (hinj : INJ ad) (hZ : ad 1000 = 189) {w : Mem} {wl : MemL} {Q : Int32 → Mem → MemL → Prop} (h : wp_12_himself a1 w wl Q) : Met l yX12_himself (TBq yX12_himself cX12_himself 8 (some .int)) (RM 6) (va_Pc [.ref (ad 150), .int a1] (PB ad cy D (cmb wc w) wl)) (va_Qi (fun r (u : Mem × MemL) => Q r u.1 u.2) (BM ad cy D wc) (AW ad)) 0 0 (AW ad) := M_enter (by decide) (Nat.le_of_ble_eq_true rfl) hinj (fun p e s m args below meth c X hr => v_12_himself X hr hZ h)
theorem mf_12_himself : MFV yX12_himself cX12_himself 8 (some .int) yX12_himself.cls 1 := ⟨q_1806, q_1804, q_1805, q_14, by decide⟩
theorem K_12_himself {own : String} {idx : Nat} {a1 : Int32} (X : CXq p s m args meth c cc nL own ad cy D A H0) (hL : LK own idx yX12_himself) (hZ : ad 1000 = 189) {w : Mem} {wl : MemL} {Q : Int32 → Mem → MemL → Prop} (h : wp_12_himself a1 w wl Q) (hR : (RM 6).frames + 1 ≤ R.frames ∧ 8 + (8 + 11) + (RM 6).locals ≤ R.locals) (hce : ce ≤ R.cells ∧ sl ≤ R.slots) (hcat : (st1.map fun v => v.category).sum ≤ 8) (hd : decode cc pc = .ok (.invokevirtual idx, 3)) (kk : ∀ (r : Int32) (u : Mem) (v : MemL), Q r u v → V p l e R s m args below meth c nL ad cy D A H0 ce sl Qs wc u v (pc + 3) ls (.int r :: st1)) : V p l e R s m args below meth c nL ad cy D A H0 ce sl Qs wc w wl pc ls (.int a1 :: .ref (ad 150) :: st1) := V_callVI_m X mf_12_himself hL (rfl : vwCl[12]? = some (RX12, TX12, 72)) (by decide) (rfl : SK 150 = 12) (hzk hZ (by decide)).2 (c_12_himself X.2.2.2.2.2.2.2.1 hZ h) (As := [.int a1]) rfl ⟨rfl, rfl⟩ hR hce st1 rfl hcat hd kk
set_option maxRecDepth 20000 in
theorem v_12_tell {a1 : Int32} {a2 : Int32} {a3 : Int32} (X : CXq p s m args meth c cX12_tell 4 yX12_tell.cls ad cy D (AW ad) s.heap) (hr : meth.sig.returnType = (some .int)) (hZ : ad 1000 = 189) {w : Mem} {wl : MemL} {Q : Int32 → Mem → MemL → Prop} (h : wp_12_tell a1 a2 a3 w wl Q) : V p l e (RM 2) s m args below meth c 4 ad cy D (AW ad) s.heap 0 0 (MQ below (va_Qi (fun r (u : Mem × MemL) => Q r u.1 u.2) (BM ad cy D wc) (AW ad)) args s 0 0 (AW ad)) wc w wl 0 [(0, .ref (ad 150)), (1, .int a1), (2, .int a2), (3, .int a3)] [] := by
  unfold wp_12_tell at h
  refine V_aload_n X (i := 0) 0 dX12_tell_0 rfl rfl ?_
  refine G_12_239 X hZ dX12_tell_1 ?_
  refine V_bipush X (v := (20 : Int32)) dX12_tell_4 (by decide) ?_
  obtain ⟨ht, hf⟩ := h
  refine V_icmp_eq X (tgt := 39) dX12_tell_6 (by decide) (fun c => ?_) (fun c => ?_)
  · have h := ht c
    refine V_iconst X (v := (-1 : Int32)) dX12_tell_39 (by decide) ?_
    exact V_iret_m X hr dX12_tell_40 h
  · have h := hf c
    refine V_aload_n X (i := 0) 0 dX12_tell_9 rfl rfl ?_
    refine V_iload_n X (i := 1) 1 dX12_tell_10 rfl rfl ?_
    refine K_12_isMan X (Or.inl q_1621) hZ h ⟨Nat.le_of_ble_eq_true rfl, Nat.le_of_ble_eq_true rfl⟩ ⟨Nat.zero_le _, Nat.zero_le _⟩ (st1 := []) (Nat.le_of_ble_eq_true rfl) dX12_tell_11 (fun r2 w1 v3 h => ?_)
    obtain ⟨ht, hf⟩ := h
    refine V_if_eq X (tgt := 39) dX12_tell_14 (by decide) (fun c => ?_) (fun c => ?_)
    · have h := ht c
      refine V_iconst X (v := (-1 : Int32)) dX12_tell_39 (by decide) ?_
      exact V_iret_m X hr dX12_tell_40 h
    · have h := hf c
      refine V_iload_n X (i := 2) 2 dX12_tell_17 rfl rfl ?_
      refine V_iconst X (v := (0 : Int32)) dX12_tell_18 (by decide) ?_
      refine V_sipush X (v := (9999 : Int32)) dX12_tell_19 (by decide) ?_
      refine K_12_in X (Or.inl q_1609) hZ h ⟨Nat.le_of_ble_eq_true rfl, Nat.le_of_ble_eq_true rfl⟩ ⟨Nat.zero_le _, Nat.zero_le _⟩ (st1 := []) (Nat.le_of_ble_eq_true rfl) dX12_tell_22 (fun r5 w4 v6 h => ?_)
      obtain ⟨ht, hf⟩ := h
      refine V_if_eq X (tgt := 39) dX12_tell_25 (by decide) (fun c => ?_) (fun c => ?_)
      · have h := ht c
        refine V_iconst X (v := (-1 : Int32)) dX12_tell_39 (by decide) ?_
        exact V_iret_m X hr dX12_tell_40 h
      · have h := hf c
        refine V_iload_n X (i := 3) 3 dX12_tell_28 rfl rfl ?_
        refine V_iconst X (v := (0 : Int32)) dX12_tell_29 (by decide) ?_
        refine V_sipush X (v := (9999 : Int32)) dX12_tell_30 (by decide) ?_
        refine K_12_in X (Or.inl q_1609) hZ h ⟨Nat.le_of_ble_eq_true rfl, Nat.le_of_ble_eq_true rfl⟩ ⟨Nat.zero_le _, Nat.zero_le _⟩ (st1 := []) (Nat.le_of_ble_eq_true rfl) dX12_tell_33 (fun r8 w7 v9 h => ?_)
        obtain ⟨ht, hf⟩ := h
        refine V_if_ne X (tgt := 41) dX12_tell_36 (by decide) (fun c => ?_) (fun c => ?_)
        · have h := ht c
          refine V_aload_n X (i := 0) 0 dX12_tell_41 rfl rfl ?_
          refine G_12_122 X hZ dX12_tell_42 ?_
          refine V_aload_n X (i := 0) 0 dX12_tell_45 rfl rfl ?_
          refine G_12_239 X hZ dX12_tell_46 ?_
          refine V_iload_n X (i := 1) 1 dX12_tell_49 rfl rfl ?_
          obtain ⟨g10, h⟩ := h
          obtain ⟨w11, ew11⟩ : ∃ y : Mem, y = st w7 184 (ix (w7 150 66)) a1 := ⟨_, rfl⟩
          have h := h w11 ew11
          refine V_iast_m X (rfl : SLq 184 = 20) (hzk hZ (by decide)) (rfl : SK 184 = 14) g10 dX12_tell_50 ew11 ?_
          refine V_aload_n X (i := 0) 0 dX12_tell_51 rfl rfl ?_
          refine G_12_125 X hZ dX12_tell_52 ?_
          refine V_aload_n X (i := 0) 0 dX12_tell_55 rfl rfl ?_
          refine G_12_239 X hZ dX12_tell_56 ?_
          refine V_iload_n X (i := 2) 2 dX12_tell_59 rfl rfl ?_
          obtain ⟨g12, h⟩ := h
          obtain ⟨w13, ew13⟩ : ∃ y : Mem, y = st w11 185 (ix (w11 150 66)) a2 := ⟨_, rfl⟩
          have h := h w13 ew13
          refine V_iast_m X (rfl : SLq 185 = 20) (hzk hZ (by decide)) (rfl : SK 185 = 14) g12 dX12_tell_60 ew13 ?_
          refine V_aload_n X (i := 0) 0 dX12_tell_61 rfl rfl ?_
          refine G_12_128 X hZ dX12_tell_62 ?_
          refine V_aload_n X (i := 0) 0 dX12_tell_65 rfl rfl ?_
          refine G_12_239 X hZ dX12_tell_66 ?_
          refine V_iload_n X (i := 3) 3 dX12_tell_69 rfl rfl ?_
          obtain ⟨g14, h⟩ := h
          obtain ⟨w15, ew15⟩ : ∃ y : Mem, y = st w13 186 (ix (w13 150 66)) a3 := ⟨_, rfl⟩
          have h := h w15 ew15
          refine V_iast_m X (rfl : SLq 186 = 20) (hzk hZ (by decide)) (rfl : SK 186 = 14) g14 dX12_tell_70 ew15 ?_
          refine V_aload_n X (i := 0) 0 dX12_tell_71 rfl rfl ?_
          refine V_dup X dX12_tell_72 rfl ?_
          refine G_12_239 X hZ dX12_tell_73 ?_
          refine V_iconst X (v := (1 : Int32)) dX12_tell_76 (by decide) ?_
          refine V_iadd X dX12_tell_77 ?_
          obtain ⟨w16, ew16⟩ : ∃ y : Mem, y = st w15 150 66 ((w15 150 66) + (1 : Int32)) := ⟨_, rfl⟩
          have h := h w16 ew16
          refine U_12_239 X hZ rfl rfl dX12_tell_78 ew16 ?_
          refine V_aload_n X (i := 0) 0 dX12_tell_81 rfl rfl ?_
          refine G_12_239 X hZ dX12_tell_82 ?_
          refine V_iconst X (v := (1 : Int32)) dX12_tell_85 (by decide) ?_
          refine V_isub X dX12_tell_86 ?_
          exact V_iret_m X hr dX12_tell_87 h
        · have h := hf c
          refine V_iconst X (v := (-1 : Int32)) dX12_tell_39 (by decide) ?_
          exact V_iret_m X hr dX12_tell_40 h
theorem c_12_tell {a1 : Int32} {a2 : Int32} {a3 : Int32} (hinj : INJ ad) (hZ : ad 1000 = 189) {w : Mem} {wl : MemL} {Q : Int32 → Mem → MemL → Prop} (h : wp_12_tell a1 a2 a3 w wl Q) : Met l yX12_tell (TBq yX12_tell cX12_tell 4 (some .int)) (RM 2) (va_Pc [.ref (ad 150), .int a1, .int a2, .int a3] (PB ad cy D (cmb wc w) wl)) (va_Qi (fun r (u : Mem × MemL) => Q r u.1 u.2) (BM ad cy D wc) (AW ad)) 0 0 (AW ad) := M_enter (by decide) (Nat.le_of_ble_eq_true rfl) hinj (fun p e s m args below meth c X hr => v_12_tell X hr hZ h)
theorem mf_12_tell : MFV yX12_tell cX12_tell 4 (some .int) yX12_tell.cls 3 := ⟨q_1810, q_1808, q_1809, q_14, by decide⟩
theorem K_12_tell {own : String} {idx : Nat} {a1 : Int32} {a2 : Int32} {a3 : Int32} (X : CXq p s m args meth c cc nL own ad cy D A H0) (hL : LK own idx yX12_tell) (hZ : ad 1000 = 189) {w : Mem} {wl : MemL} {Q : Int32 → Mem → MemL → Prop} (h : wp_12_tell a1 a2 a3 w wl Q) (hR : (RM 2).frames + 1 ≤ R.frames ∧ 8 + (4 + 11) + (RM 2).locals ≤ R.locals) (hce : ce ≤ R.cells ∧ sl ≤ R.slots) (hcat : (st1.map fun v => v.category).sum ≤ 8) (hd : decode cc pc = .ok (.invokevirtual idx, 3)) (kk : ∀ (r : Int32) (u : Mem) (v : MemL), Q r u v → V p l e R s m args below meth c nL ad cy D A H0 ce sl Qs wc u v (pc + 3) ls (.int r :: st1)) : V p l e R s m args below meth c nL ad cy D A H0 ce sl Qs wc w wl pc ls (.int a3 :: .int a2 :: .int a1 :: .ref (ad 150) :: st1) := V_callVI_m X mf_12_tell hL (rfl : vwCl[12]? = some (RX12, TX12, 72)) (by decide) (rfl : SK 150 = 12) (hzk hZ (by decide)).2 (c_12_tell X.2.2.2.2.2.2.2.1 hZ h) (As := [.int a1, .int a2, .int a3]) rfl ⟨rfl, rfl⟩ hR hce st1 rfl hcat hd kk
set_option maxRecDepth 20000 in
theorem v_12_forget (X : CXq p s m args meth c cX12_forget 2 yX12_forget.cls ad cy D (AW ad) s.heap) (hr : meth.sig.returnType = (some .int)) (hZ : ad 1000 = 189) {w : Mem} {wl : MemL} {Q : Int32 → Mem → MemL → Prop} (h : wp_12_forget w wl Q) : V p l e (RM 0) s m args below meth c 2 ad cy D (AW ad) s.heap 0 0 (MQ below (va_Qi (fun r (u : Mem × MemL) => Q r u.1 u.2) (BM ad cy D wc) (AW ad)) args s 0 0 (AW ad)) wc w wl 0 [(0, .ref (ad 150))] [] := by
  unfold wp_12_forget at h
  refine V_aload_n X (i := 0) 0 dX12_forget_0 rfl rfl ?_
  refine G_12_239 X hZ dX12_forget_1 ?_
  obtain ⟨x1, ex1⟩ : ∃ y : Int32, y = (w 150 66) := ⟨_, rfl⟩
  have h := h x1 ex1
  refine V_istore_n X dX12_forget_4 rfl (by decide) ex1 (ls1 := [(1, .int x1), (0, .ref (ad 150))]) rfl ?_
  refine V_aload_n X (i := 0) 1 dX12_forget_5 rfl rfl ?_
  refine V_iconst X (v := (0 : Int32)) dX12_forget_6 (by decide) ?_
  obtain ⟨w2, ew2⟩ : ∃ y : Mem, y = st w 150 66 (0 : Int32) := ⟨_, rfl⟩
  have h := h w2 ew2
  refine U_12_239 X hZ rfl rfl dX12_forget_7 ew2 ?_
  refine V_iload_n X (i := 1) 0 dX12_forget_10 rfl rfl ?_
  exact V_iret_m X hr dX12_forget_11 h
theorem c_12_forget (hinj : INJ ad) (hZ : ad 1000 = 189) {w : Mem} {wl : MemL} {Q : Int32 → Mem → MemL → Prop} (h : wp_12_forget w wl Q) : Met l yX12_forget (TBq yX12_forget cX12_forget 2 (some .int)) (RM 0) (va_Pc [.ref (ad 150)] (PB ad cy D (cmb wc w) wl)) (va_Qi (fun r (u : Mem × MemL) => Q r u.1 u.2) (BM ad cy D wc) (AW ad)) 0 0 (AW ad) := M_enter (by decide) (Nat.le_of_ble_eq_true rfl) hinj (fun p e s m args below meth c X hr => v_12_forget X hr hZ h)
theorem mf_12_forget : MFV yX12_forget cX12_forget 2 (some .int) yX12_forget.cls 0 := ⟨q_1814, q_1812, q_1813, q_14, by decide⟩
theorem K_12_forget {own : String} {idx : Nat} (X : CXq p s m args meth c cc nL own ad cy D A H0) (hL : LK own idx yX12_forget) (hZ : ad 1000 = 189) {w : Mem} {wl : MemL} {Q : Int32 → Mem → MemL → Prop} (h : wp_12_forget w wl Q) (hR : (RM 0).frames + 1 ≤ R.frames ∧ 8 + (2 + 11) + (RM 0).locals ≤ R.locals) (hce : ce ≤ R.cells ∧ sl ≤ R.slots) (hcat : (st1.map fun v => v.category).sum ≤ 8) (hd : decode cc pc = .ok (.invokevirtual idx, 3)) (kk : ∀ (r : Int32) (u : Mem) (v : MemL), Q r u v → V p l e R s m args below meth c nL ad cy D A H0 ce sl Qs wc u v (pc + 3) ls (.int r :: st1)) : V p l e R s m args below meth c nL ad cy D A H0 ce sl Qs wc w wl pc ls (.ref (ad 150) :: st1) := V_callVI_m X mf_12_forget hL (rfl : vwCl[12]? = some (RX12, TX12, 72)) (by decide) (rfl : SK 150 = 12) (hzk hZ (by decide)).2 (c_12_forget X.2.2.2.2.2.2.2.1 hZ h) (As := []) rfl ⟨rfl, rfl⟩ hR hce st1 rfl hcat hd kk
set_option maxRecDepth 20000 in
theorem v_12_isSo_b59 (X : CXq p s m args meth c cX12_isSo 5 yX12_isSo.cls ad cy D (AW ad) s.heap) (hr : meth.sig.returnType = (some .boolean)) (hZ : ad 1000 = 189) {Q : Int32 → Mem → MemL → Prop} {L3 : Int32 → Int32 → Int32 → Int32 → Mem → MemL → Prop} (HL3 : ∀ (l1 : Int32) (l2 : Int32) (l3 : Int32) (l4 : Int32) (w : Mem) (wl : MemL), L3 l1 l2 l3 l4 w wl → V p l e (RM 6) s m args below meth c 5 ad cy D (AW ad) s.heap 0 0 (MQ below (va_Qi (fun r (u : Mem × MemL) => Q r u.1 u.2) (BM ad cy D wc) (AW ad)) args s 0 0 (AW ad)) wc w wl 3 [(0, .ref (ad 150)), (1, .int l1), (2, .int l2), (3, .int l3), (4, .int l4)] []) : ∀ (l1 : Int32) (l2 : Int32) (l3 : Int32) (l4 : Int32) (w : Mem) (wl : MemL), wp_12_isSo_b59 Q L3 l1 l2 l3 l4 w wl → V p l e (RM 6) s m args below meth c 5 ad cy D (AW ad) s.heap 0 0 (MQ below (va_Qi (fun r (u : Mem × MemL) => Q r u.1 u.2) (BM ad cy D wc) (AW ad)) args s 0 0 (AW ad)) wc w wl 59 [(0, .ref (ad 150)), (1, .int l1), (2, .int l2), (3, .int l3), (4, .int l4)] [] := by
  intro l1 l2 l3 l4 w wl h
  unfold wp_12_isSo_b59 at h
  obtain ⟨x1, ex1⟩ : ∃ y : Int32, y = l4 + (1 : Int32) := ⟨_, rfl⟩
  have h := h x1 ex1
  refine V_iinc X 4 dX12_isSo_59 rfl (by decide) (by rw [ex1]; rfl) (ls1 := [(4, .int x1), (0, .ref (ad 150)), (1, .int l1), (2, .int l2), (3, .int l3)]) rfl ?_
  refine V_goto X (tgt := 3) dX12_isSo_62 (by decide) ?_
  refine V_sub X (ls1 := [(0, .ref (ad 150)), (1, .int l1), (2, .int l2), (3, .int l3), (4, .int x1)]) [1, 2, 3, 4, 0] rfl ?_
  exact HL3 _ _ _ _ _ _ h
set_option maxRecDepth 20000 in
theorem v_12_isSo_b3 (X : CXq p s m args meth c cX12_isSo 5 yX12_isSo.cls ad cy D (AW ad) s.heap) (hr : meth.sig.returnType = (some .boolean)) (hZ : ad 1000 = 189) {Q : Int32 → Mem → MemL → Prop} : ∀ (n : Nat) (l1 : Int32) (l2 : Int32) (l3 : Int32) (l4 : Int32) (w : Mem) (wl : MemL), wp_12_isSo_b3 Q n l1 l2 l3 l4 w wl → V p l e (RM 6) s m args below meth c 5 ad cy D (AW ad) s.heap 0 0 (MQ below (va_Qi (fun r (u : Mem × MemL) => Q r u.1 u.2) (BM ad cy D wc) (AW ad)) args s 0 0 (AW ad)) wc w wl 3 [(0, .ref (ad 150)), (1, .int l1), (2, .int l2), (3, .int l3), (4, .int l4)] [] := by
  intro n
  induction n with
  | zero =>
    intro l1 l2 l3 l4 w wl h
    exact h.elim
  | succ n ih =>
    intro l1 l2 l3 l4 w wl h
    unfold wp_12_isSo_b3 at h
    refine V_iload X (i := 4) 4 dX12_isSo_3 rfl ?_
    refine V_iload_n X (i := 3) 3 dX12_isSo_5 rfl rfl ?_
    obtain ⟨ht, hf⟩ := h
    refine V_icmp_ge X (tgt := 65) dX12_isSo_6 (by decide) (fun c => ?_) (fun c => ?_)
    · have h := ht c
      refine V_iconst X (v := (1 : Int32)) dX12_isSo_65 (by decide) ?_
      exact V_zret_m X hr dX12_isSo_66 rfl h
    · have h := hf c
      refine V_aload_n X (i := 0) 0 dX12_isSo_9 rfl rfl ?_
      refine G_12_122 X hZ dX12_isSo_10 ?_
      refine V_iload X (i := 4) 4 dX12_isSo_13 rfl ?_
      obtain ⟨g1, h⟩ := h
      refine V_iald_m X (rfl : SLq 184 = 20) (hzk hZ (by decide)) (rfl : SK 184 = 14) g1 dX12_isSo_15 ?_
      refine V_iload_n X (i := 1) 1 dX12_isSo_16 rfl rfl ?_
      obtain ⟨ht, hf⟩ := h
      refine V_icmp_eq X (tgt := 23) dX12_isSo_17 (by decide) (fun c => ?_) (fun c => ?_)
      · have h := ht c
        refine V_aload_n X (i := 0) 0 dX12_isSo_23 rfl rfl ?_
        refine V_iload_n X (i := 1) 1 dX12_isSo_24 rfl rfl ?_
        refine V_aload_n X (i := 0) 0 dX12_isSo_25 rfl rfl ?_
        refine G_12_125 X hZ dX12_isSo_26 ?_
        refine V_iload X (i := 4) 4 dX12_isSo_29 rfl ?_
        obtain ⟨g2, h⟩ := h
        refine V_iald_m X (rfl : SLq 185 = 20) (hzk hZ (by decide)) (rfl : SK 185 = 14) g2 dX12_isSo_31 ?_
        refine V_iload_n X (i := 2) 2 dX12_isSo_32 rfl rfl ?_
        refine V_aload_n X (i := 0) 0 dX12_isSo_33 rfl rfl ?_
        refine V_bipush X (v := (12 : Int32)) dX12_isSo_34 (by decide) ?_
        refine K_12_tell0 X (Or.inl q_1203) hZ h ⟨Nat.le_of_ble_eq_true rfl, Nat.le_of_ble_eq_true rfl⟩ ⟨Nat.zero_le _, Nat.zero_le _⟩ (st1 := [.int l2, .int (w 185 (ix l4)), .int l1, .ref (ad 150)]) (Nat.le_of_ble_eq_true rfl) dX12_isSo_36 (fun r4 w3 v5 h => ?_)
        refine V_iconst X (v := (0 : Int32)) dX12_isSo_39 (by decide) ?_
        refine K_12_setsJump X (Or.inl q_1664) hZ h ⟨Nat.le_of_ble_eq_true rfl, Nat.le_of_ble_eq_true rfl⟩ ⟨Nat.zero_le _, Nat.zero_le _⟩ (st1 := []) (Nat.le_of_ble_eq_true rfl) dX12_isSo_40 (fun w6 v7 h => ?_)
        refine V_aload_n X (i := 0) 0 dX12_isSo_43 rfl rfl ?_
        refine G_12_365 X hZ dX12_isSo_44 ?_
        refine V_aload_n X (i := 0) 0 dX12_isSo_47 rfl rfl ?_
        refine G_12_128 X hZ dX12_isSo_48 ?_
        refine V_iload X (i := 4) 4 dX12_isSo_51 rfl ?_
        obtain ⟨g8, h⟩ := h
        refine V_iald_m X (rfl : SLq 186 = 20) (hzk hZ (by decide)) (rfl : SK 186 = 14) g8 dX12_isSo_53 ?_
        obtain ⟨ht, hf⟩ := h
        refine V_icmp_eq X (tgt := 59) dX12_isSo_54 (by decide) (fun c => ?_) (fun c => ?_)
        · have h := ht c
          refine V_sub X (ls1 := [(0, .ref (ad 150)), (1, .int l1), (2, .int l2), (3, .int l3), (4, .int l4)]) [0, 1, 2, 3, 4] rfl ?_
          exact v_12_isSo_b59 X hr hZ ih _ _ _ _ _ _ h
        · have h := hf c
          refine V_iconst X (v := (0 : Int32)) dX12_isSo_57 (by decide) ?_
          exact V_zret_m X hr dX12_isSo_58 rfl h
      · have h := hf c
        refine V_goto X (tgt := 59) dX12_isSo_20 (by decide) ?_
        refine V_sub X (ls1 := [(0, .ref (ad 150)), (1, .int l1), (2, .int l2), (3, .int l3), (4, .int l4)]) [0, 1, 2, 3, 4] rfl ?_
        exact v_12_isSo_b59 X hr hZ ih _ _ _ _ _ _ h
set_option maxRecDepth 20000 in
theorem v_12_isSo {a1 : Int32} {a2 : Int32} {a3 : Int32} (X : CXq p s m args meth c cX12_isSo 5 yX12_isSo.cls ad cy D (AW ad) s.heap) (hr : meth.sig.returnType = (some .boolean)) (hZ : ad 1000 = 189) {w : Mem} {wl : MemL} {Q : Int32 → Mem → MemL → Prop} (h : wp_12_isSo a1 a2 a3 w wl Q) : V p l e (RM 6) s m args below meth c 5 ad cy D (AW ad) s.heap 0 0 (MQ below (va_Qi (fun r (u : Mem × MemL) => Q r u.1 u.2) (BM ad cy D wc) (AW ad)) args s 0 0 (AW ad)) wc w wl 0 [(0, .ref (ad 150)), (1, .int a1), (2, .int a2), (3, .int a3)] [] := by
  unfold wp_12_isSo at h
  refine V_iconst X (v := (0 : Int32)) dX12_isSo_0 (by decide) ?_
  refine V_istore X dX12_isSo_1 (by decide) rfl (ls1 := [(4, .int (0 : Int32)), (0, .ref (ad 150)), (1, .int a1), (2, .int a2), (3, .int a3)]) rfl ?_
  refine V_sub X (ls1 := [(0, .ref (ad 150)), (1, .int a1), (2, .int a2), (3, .int a3), (4, .int (0 : Int32))]) [1, 2, 3, 4, 0] rfl ?_
  obtain ⟨nn, h⟩ := h
  exact v_12_isSo_b3 X hr hZ nn _ _ _ _ _ _ h
theorem c_12_isSo {a1 : Int32} {a2 : Int32} {a3 : Int32} (hinj : INJ ad) (hZ : ad 1000 = 189) {w : Mem} {wl : MemL} {Q : Int32 → Mem → MemL → Prop} (h : wp_12_isSo a1 a2 a3 w wl Q) : Met l yX12_isSo (TBq yX12_isSo cX12_isSo 5 (some .boolean)) (RM 6) (va_Pc [.ref (ad 150), .int a1, .int a2, .int a3] (PB ad cy D (cmb wc w) wl)) (va_Qi (fun r (u : Mem × MemL) => Q r u.1 u.2) (BM ad cy D wc) (AW ad)) 0 0 (AW ad) := M_enter (by decide) (Nat.le_of_ble_eq_true rfl) hinj (fun p e s m args below meth c X hr => v_12_isSo X hr hZ h)
theorem mf_12_isSo : MFV yX12_isSo cX12_isSo 5 (some .boolean) yX12_isSo.cls 3 := ⟨q_1822, q_1821, qs_95, q_14, by decide⟩
theorem K_12_isSo {own : String} {idx : Nat} {a1 : Int32} {a2 : Int32} {a3 : Int32} (X : CXq p s m args meth c cc nL own ad cy D A H0) (hL : LK own idx yX12_isSo) (hZ : ad 1000 = 189) {w : Mem} {wl : MemL} {Q : Int32 → Mem → MemL → Prop} (h : wp_12_isSo a1 a2 a3 w wl Q) (hR : (RM 6).frames + 1 ≤ R.frames ∧ 8 + (5 + 11) + (RM 6).locals ≤ R.locals) (hce : ce ≤ R.cells ∧ sl ≤ R.slots) (hcat : (st1.map fun v => v.category).sum ≤ 8) (hd : decode cc pc = .ok (.invokevirtual idx, 3)) (kk : ∀ (r : Int32) (u : Mem) (v : MemL), Q r u v → V p l e R s m args below meth c nL ad cy D A H0 ce sl Qs wc u v (pc + 3) ls (.int r :: st1)) : V p l e R s m args below meth c nL ad cy D A H0 ce sl Qs wc w wl pc ls (.int a3 :: .int a2 :: .int a1 :: .ref (ad 150) :: st1) := V_callVI_m X mf_12_isSo hL (rfl : vwCl[12]? = some (RX12, TX12, 72)) (by decide) (rfl : SK 150 = 12) (hzk hZ (by decide)).2 (c_12_isSo X.2.2.2.2.2.2.2.1 hZ h) (As := [.int a1, .int a2, .int a3]) rfl ⟨rfl, rfl⟩ hR hce st1 rfl hcat hd kk
set_option maxRecDepth 20000 in
theorem v_12_slips_b73 (X : CXq p s m args meth c cX12_slips 6 yX12_slips.cls ad cy D (AW ad) s.heap) (hr : meth.sig.returnType = (some .int)) (hZ : ad 1000 = 189) {Q : Int32 → Mem → MemL → Prop} {L37 : Int32 → Int32 → Int32 → Int32 → Int32 → Mem → MemL → Prop} (HL37 : ∀ (l1 : Int32) (l2 : Int32) (l3 : Int32) (l4 : Int32) (l5 : Int32) (w : Mem) (wl : MemL), L37 l1 l2 l3 l4 l5 w wl → V p l e (RM 7) s m args below meth c 6 ad cy D (AW ad) s.heap 0 0 (MQ below (va_Qi (fun r (u : Mem × MemL) => Q r u.1 u.2) (BM ad cy D wc) (AW ad)) args s 0 0 (AW ad)) wc w wl 37 [(0, .ref (ad 150)), (1, .int l1), (2, .int l2), (3, .int l3), (4, .int l4), (5, .int l5)] []) : ∀ (l1 : Int32) (l2 : Int32) (l3 : Int32) (l4 : Int32) (l5 : Int32) (w : Mem) (wl : MemL), wp_12_slips_b73 Q L37 l1 l2 l3 l4 l5 w wl → V p l e (RM 7) s m args below meth c 6 ad cy D (AW ad) s.heap 0 0 (MQ below (va_Qi (fun r (u : Mem × MemL) => Q r u.1 u.2) (BM ad cy D wc) (AW ad)) args s 0 0 (AW ad)) wc w wl 73 [(0, .ref (ad 150)), (1, .int l1), (2, .int l2), (3, .int l3), (4, .int l4), (5, .int l5)] [] := by
  intro l1 l2 l3 l4 l5 w wl h
  unfold wp_12_slips_b73 at h
  obtain ⟨x1, ex1⟩ : ∃ y : Int32, y = l5 + (1 : Int32) := ⟨_, rfl⟩
  have h := h x1 ex1
  refine V_iinc X 5 dX12_slips_73 rfl (by decide) (by rw [ex1]; rfl) (ls1 := [(5, .int x1), (0, .ref (ad 150)), (1, .int l1), (2, .int l2), (3, .int l3), (4, .int l4)]) rfl ?_
  refine V_goto X (tgt := 37) dX12_slips_76 (by decide) ?_
  refine V_sub X (ls1 := [(0, .ref (ad 150)), (1, .int l1), (2, .int l2), (3, .int l3), (4, .int l4), (5, .int x1)]) [1, 2, 3, 4, 5, 0] rfl ?_
  exact HL37 _ _ _ _ _ _ _ h
set_option maxRecDepth 20000 in
theorem v_12_slips_b37 (X : CXq p s m args meth c cX12_slips 6 yX12_slips.cls ad cy D (AW ad) s.heap) (hr : meth.sig.returnType = (some .int)) (hZ : ad 1000 = 189) {Q : Int32 → Mem → MemL → Prop} : ∀ (n : Nat) (l1 : Int32) (l2 : Int32) (l3 : Int32) (l4 : Int32) (l5 : Int32) (w : Mem) (wl : MemL), wp_12_slips_b37 Q n l1 l2 l3 l4 l5 w wl → V p l e (RM 7) s m args below meth c 6 ad cy D (AW ad) s.heap 0 0 (MQ below (va_Qi (fun r (u : Mem × MemL) => Q r u.1 u.2) (BM ad cy D wc) (AW ad)) args s 0 0 (AW ad)) wc w wl 37 [(0, .ref (ad 150)), (1, .int l1), (2, .int l2), (3, .int l3), (4, .int l4), (5, .int l5)] [] := by
  intro n
  induction n with
  | zero =>
    intro l1 l2 l3 l4 l5 w wl h
    exact h.elim
  | succ n ih =>
    intro l1 l2 l3 l4 l5 w wl h
    unfold wp_12_slips_b37 at h
    refine V_iload X (i := 5) 5 dX12_slips_37 rfl ?_
    refine V_bipush X (v := (19 : Int32)) dX12_slips_39 (by decide) ?_
    obtain ⟨ht, hf⟩ := h
    refine V_icmp_ge X (tgt := 79) dX12_slips_41 (by decide) (fun c => ?_) (fun c => ?_)
    · have h := ht c
      refine V_iload_n X (i := 3) 3 dX12_slips_79 rfl rfl ?_
      refine V_iconst X (v := (-1 : Int32)) dX12_slips_80 (by decide) ?_
      obtain ⟨ht, hf⟩ := h
      refine V_icmp_ne X (tgt := 89) dX12_slips_81 (by decide) (fun c => ?_) (fun c => ?_)
      · have h := ht c
        refine V_iconst X (v := (-1 : Int32)) dX12_slips_89 (by decide) ?_
        exact V_iret_m X hr dX12_slips_90 h
      · have h := hf c
        refine V_iload X (i := 4) 4 dX12_slips_84 rfl ?_
        refine V_goto X (tgt := 90) dX12_slips_86 (by decide) ?_
        exact V_iret_m X hr dX12_slips_90 h
    · have h := hf c
      refine V_aload_n X (i := 0) 0 dX12_slips_44 rfl rfl ?_
      refine V_iload_n X (i := 1) 1 dX12_slips_45 rfl rfl ?_
      refine V_iload X (i := 5) 5 dX12_slips_46 rfl ?_
      refine V_bipush X (v := (9 : Int32)) dX12_slips_48 (by decide) ?_
      refine V_isub X dX12_slips_50 ?_
      refine V_iload_n X (i := 2) 2 dX12_slips_51 rfl rfl ?_
      refine K_12_isSo X (Or.inl q_1819) hZ h ⟨Nat.le_of_ble_eq_true rfl, Nat.le_of_ble_eq_true rfl⟩ ⟨Nat.zero_le _, Nat.zero_le _⟩ (st1 := []) (Nat.le_of_ble_eq_true rfl) dX12_slips_52 (fun r2 w1 v3 h => ?_)
      obtain ⟨ht, hf⟩ := h
      refine V_if_ne X (tgt := 61) dX12_slips_55 (by decide) (fun c => ?_) (fun c => ?_)
      · have h := ht c
        refine V_iload X (i := 4) 4 dX12_slips_61 rfl ?_
        refine V_iload_n X (i := 3) 3 dX12_slips_63 rfl rfl ?_
        obtain ⟨ht, hf⟩ := h
        refine V_icmp_ne X (tgt := 70) dX12_slips_64 (by decide) (fun c => ?_) (fun c => ?_)
        · have h := ht c
          obtain ⟨x4, ex4⟩ : ∃ y : Int32, y = l4 + (1 : Int32) := ⟨_, rfl⟩
          have h := h x4 ex4
          refine V_iinc X 4 dX12_slips_70 rfl (by decide) (by rw [ex4]; rfl) (ls1 := [(4, .int x4), (0, .ref (ad 150)), (1, .int l1), (2, .int l2), (3, .int l3), (5, .int l5)]) rfl ?_
          refine V_sub X (ls1 := [(0, .ref (ad 150)), (1, .int l1), (2, .int l2), (3, .int l3), (4, .int x4), (5, .int l5)]) [1, 2, 3, 4, 0, 5] rfl ?_
          exact v_12_slips_b73 X hr hZ ih _ _ _ _ _ _ _ h
        · have h := hf c
          refine V_iload X (i := 5) 5 dX12_slips_67 rfl ?_
          exact V_iret_m X hr dX12_slips_69 h
      · have h := hf c
        refine V_goto X (tgt := 73) dX12_slips_58 (by decide) ?_
        refine V_sub X (ls1 := [(0, .ref (ad 150)), (1, .int l1), (2, .int l2), (3, .int l3), (4, .int l4), (5, .int l5)]) [0, 1, 2, 3, 4, 5] rfl ?_
        exact v_12_slips_b73 X hr hZ ih _ _ _ _ _ _ _ h
set_option maxRecDepth 20000 in
theorem v_12_slips {a1 : Int32} {a2 : Int32} {a3 : Int32} (X : CXq p s m args meth c cX12_slips 6 yX12_slips.cls ad cy D (AW ad) s.heap) (hr : meth.sig.returnType = (some .int)) (hZ : ad 1000 = 189) {w : Mem} {wl : MemL} {Q : Int32 → Mem → MemL → Prop} (h : wp_12_slips a1 a2 a3 w wl Q) : V p l e (RM 7) s m args below meth c 6 ad cy D (AW ad) s.heap 0 0 (MQ below (va_Qi (fun r (u : Mem × MemL) => Q r u.1 u.2) (BM ad cy D wc) (AW ad)) args s 0 0 (AW ad)) wc w wl 0 [(0, .ref (ad 150)), (1, .int a1), (2, .int a2), (3, .int a3)] [] := by
  unfold wp_12_slips at h
  refine V_aload_n X (i := 0) 0 dX12_slips_0 rfl rfl ?_
  refine V_iload_n X (i := 1) 1 dX12_slips_1 rfl rfl ?_
  refine K_12_isMan X (Or.inl q_1621) hZ h ⟨Nat.le_of_ble_eq_true rfl, Nat.le_of_ble_eq_true rfl⟩ ⟨Nat.zero_le _, Nat.zero_le _⟩ (st1 := []) (Nat.le_of_ble_eq_true rfl) dX12_slips_2 (fun r2 w1 v3 h => ?_)
  obtain ⟨ht, hf⟩ := h
  refine V_if_eq X (tgt := 25) dX12_slips_5 (by decide) (fun c => ?_) (fun c => ?_)
  · have h := ht c
    refine V_iconst X (v := (-1 : Int32)) dX12_slips_25 (by decide) ?_
    exact V_iret_m X hr dX12_slips_26 h
  · have h := hf c
    refine V_iload_n X (i := 2) 2 dX12_slips_8 rfl rfl ?_
    refine V_iconst X (v := (0 : Int32)) dX12_slips_9 (by decide) ?_
    refine V_aload_n X (i := 0) 0 dX12_slips_10 rfl rfl ?_
    refine G_12_239 X hZ dX12_slips_11 ?_
    refine K_12_in X (Or.inl q_1609) hZ h ⟨Nat.le_of_ble_eq_true rfl, Nat.le_of_ble_eq_true rfl⟩ ⟨Nat.zero_le _, Nat.zero_le _⟩ (st1 := []) (Nat.le_of_ble_eq_true rfl) dX12_slips_14 (fun r5 w4 v6 h => ?_)
    obtain ⟨ht, hf⟩ := h
    refine V_if_eq X (tgt := 25) dX12_slips_17 (by decide) (fun c => ?_) (fun c => ?_)
    · have h := ht c
      refine V_iconst X (v := (-1 : Int32)) dX12_slips_25 (by decide) ?_
      exact V_iret_m X hr dX12_slips_26 h
    · have h := hf c
      refine V_iload_n X (i := 3) 3 dX12_slips_20 rfl rfl ?_
      refine V_iconst X (v := (-1 : Int32)) dX12_slips_21 (by decide) ?_
      obtain ⟨ht, hf⟩ := h
      refine V_icmp_ge X (tgt := 27) dX12_slips_22 (by decide) (fun c => ?_) (fun c => ?_)
      · have h := ht c
        refine V_aload_n X (i := 0) 0 dX12_slips_27 rfl rfl ?_
        refine K_12_plainly X (Or.inl q_1207) hZ h ⟨Nat.le_of_ble_eq_true rfl, Nat.le_of_ble_eq_true rfl⟩ ⟨Nat.zero_le _, Nat.zero_le _⟩ (st1 := []) (Nat.le_of_ble_eq_true rfl) dX12_slips_28 (fun w7 v8 h => ?_)
        refine V_iconst X (v := (0 : Int32)) dX12_slips_31 (by decide) ?_
        refine V_istore X dX12_slips_32 (by decide) rfl (ls1 := [(4, .int (0 : Int32)), (0, .ref (ad 150)), (1, .int a1), (2, .int a2), (3, .int a3)]) rfl ?_
        refine V_iconst X (v := (0 : Int32)) dX12_slips_34 (by decide) ?_
        refine V_istore X dX12_slips_35 (by decide) rfl (ls1 := [(5, .int (0 : Int32)), (4, .int (0 : Int32)), (0, .ref (ad 150)), (1, .int a1), (2, .int a2), (3, .int a3)]) rfl ?_
        refine V_sub X (ls1 := [(0, .ref (ad 150)), (1, .int a1), (2, .int a2), (3, .int a3), (4, .int (0 : Int32)), (5, .int (0 : Int32))]) [2, 3, 4, 5, 1, 0] rfl ?_
        obtain ⟨nn, h⟩ := h
        exact v_12_slips_b37 X hr hZ nn _ _ _ _ _ _ _ h
      · have h := hf c
        refine V_iconst X (v := (-1 : Int32)) dX12_slips_25 (by decide) ?_
        exact V_iret_m X hr dX12_slips_26 h
theorem c_12_slips {a1 : Int32} {a2 : Int32} {a3 : Int32} (hinj : INJ ad) (hZ : ad 1000 = 189) {w : Mem} {wl : MemL} {Q : Int32 → Mem → MemL → Prop} (h : wp_12_slips a1 a2 a3 w wl Q) : Met l yX12_slips (TBq yX12_slips cX12_slips 6 (some .int)) (RM 7) (va_Pc [.ref (ad 150), .int a1, .int a2, .int a3] (PB ad cy D (cmb wc w) wl)) (va_Qi (fun r (u : Mem × MemL) => Q r u.1 u.2) (BM ad cy D wc) (AW ad)) 0 0 (AW ad) := M_enter (by decide) (Nat.le_of_ble_eq_true rfl) hinj (fun p e s m args below meth c X hr => v_12_slips X hr hZ h)
theorem mf_12_slips : MFV yX12_slips cX12_slips 6 (some .int) yX12_slips.cls 3 := ⟨q_1818, q_1816, q_1817, q_14, by decide⟩
theorem K_12_slips {own : String} {idx : Nat} {a1 : Int32} {a2 : Int32} {a3 : Int32} (X : CXq p s m args meth c cc nL own ad cy D A H0) (hL : LK own idx yX12_slips) (hZ : ad 1000 = 189) {w : Mem} {wl : MemL} {Q : Int32 → Mem → MemL → Prop} (h : wp_12_slips a1 a2 a3 w wl Q) (hR : (RM 7).frames + 1 ≤ R.frames ∧ 8 + (6 + 11) + (RM 7).locals ≤ R.locals) (hce : ce ≤ R.cells ∧ sl ≤ R.slots) (hcat : (st1.map fun v => v.category).sum ≤ 8) (hd : decode cc pc = .ok (.invokevirtual idx, 3)) (kk : ∀ (r : Int32) (u : Mem) (v : MemL), Q r u v → V p l e R s m args below meth c nL ad cy D A H0 ce sl Qs wc u v (pc + 3) ls (.int r :: st1)) : V p l e R s m args below meth c nL ad cy D A H0 ce sl Qs wc w wl pc ls (.int a3 :: .int a2 :: .int a1 :: .ref (ad 150) :: st1) := V_callVI_m X mf_12_slips hL (rfl : vwCl[12]? = some (RX12, TX12, 72)) (by decide) (rfl : SK 150 = 12) (hzk hZ (by decide)).2 (c_12_slips X.2.2.2.2.2.2.2.1 hZ h) (As := [.int a1, .int a2, .int a3]) rfl ⟨rfl, rfl⟩ hR hce st1 rfl hcat hd kk
set_option maxRecDepth 20000 in
theorem v_12_hold_b20 (X : CXq p s m args meth c cX12_hold 3 yX12_hold.cls ad cy D (AW ad) s.heap) (hr : meth.sig.returnType = (some .boolean)) (hZ : ad 1000 = 189) {Q : Int32 → Mem → MemL → Prop} : ∀ (n : Nat) (l1 : Int32) (l2 : Int32) (w : Mem) (wl : MemL), wp_12_hold_b20 Q n l1 l2 w wl → V p l e (RM 1) s m args below meth c 3 ad cy D (AW ad) s.heap 0 0 (MQ below (va_Qi (fun r (u : Mem × MemL) => Q r u.1 u.2) (BM ad cy D wc) (AW ad)) args s 0 0 (AW ad)) wc w wl 20 [(0, .ref (ad 150)), (1, .int l1), (2, .int l2)] [] := by
  intro n
  induction n with
  | zero =>
    intro l1 l2 w wl h
    exact h.elim
  | succ n ih =>
    intro l1 l2 w wl h
    unfold wp_12_hold_b20 at h
    refine V_iload_n X (i := 2) 2 dX12_hold_20 rfl rfl ?_
    refine V_sipush X (v := (260 : Int32)) dX12_hold_21 (by decide) ?_
    obtain ⟨ht, hf⟩ := h
    refine V_icmp_ge X (tgt := 51) dX12_hold_24 (by decide) (fun c => ?_) (fun c => ?_)
    · have h := ht c
      refine V_iconst X (v := (1 : Int32)) dX12_hold_51 (by decide) ?_
      exact V_zret_m X hr dX12_hold_52 rfl h
    · have h := hf c
      refine V_aload_n X (i := 0) 0 dX12_hold_27 rfl rfl ?_
      refine G_12_134 X hZ dX12_hold_28 ?_
      refine V_sipush X (v := (260 : Int32)) dX12_hold_31 (by decide) ?_
      refine V_iload_n X (i := 1) 1 dX12_hold_34 rfl rfl ?_
      refine V_imul X dX12_hold_35 ?_
      refine V_iload_n X (i := 2) 2 dX12_hold_36 rfl rfl ?_
      refine V_iadd X dX12_hold_37 ?_
      refine V_aload_n X (i := 0) 0 dX12_hold_38 rfl rfl ?_
      refine G_12_107 X hZ dX12_hold_39 ?_
      refine V_iload_n X (i := 2) 2 dX12_hold_42 rfl rfl ?_
      obtain ⟨g1, h⟩ := h
      refine V_iald_m X (rfl : SLq 180 = 260) (hzk hZ (by decide)) (rfl : SK 180 = 14) g1 dX12_hold_43 ?_
      obtain ⟨g2, h⟩ := h
      obtain ⟨w3, ew3⟩ : ∃ y : Mem, y = st w 188 (ix (((260 : Int32) * l1) + l2)) (w 180 (ix l2)) := ⟨_, rfl⟩
      have h := h w3 ew3
      refine V_iast_m X (rfl : SLq 188 = 780) (hzk hZ (by decide)) (rfl : SK 188 = 14) g2 dX12_hold_44 ew3 ?_
      obtain ⟨x4, ex4⟩ : ∃ y : Int32, y = l2 + (1 : Int32) := ⟨_, rfl⟩
      have h := h x4 ex4
      refine V_iinc X 2 dX12_hold_45 rfl (by decide) (by rw [ex4]; rfl) (ls1 := [(2, .int x4), (0, .ref (ad 150)), (1, .int l1)]) rfl ?_
      refine V_goto X (tgt := 20) dX12_hold_48 (by decide) ?_
      refine V_sub X (ls1 := [(0, .ref (ad 150)), (1, .int l1), (2, .int x4)]) [1, 2, 0] rfl ?_
      exact ih _ _ _ _ h
set_option maxRecDepth 20000 in
theorem v_12_hold {a1 : Int32} (X : CXq p s m args meth c cX12_hold 3 yX12_hold.cls ad cy D (AW ad) s.heap) (hr : meth.sig.returnType = (some .boolean)) (hZ : ad 1000 = 189) {w : Mem} {wl : MemL} {Q : Int32 → Mem → MemL → Prop} (h : wp_12_hold a1 w wl Q) : V p l e (RM 1) s m args below meth c 3 ad cy D (AW ad) s.heap 0 0 (MQ below (va_Qi (fun r (u : Mem × MemL) => Q r u.1 u.2) (BM ad cy D wc) (AW ad)) args s 0 0 (AW ad)) wc w wl 0 [(0, .ref (ad 150)), (1, .int a1)] [] := by
  unfold wp_12_hold at h
  refine V_iload_n X (i := 1) 1 dX12_hold_0 rfl rfl ?_
  refine V_iconst X (v := (0 : Int32)) dX12_hold_1 (by decide) ?_
  refine V_iconst X (v := (2 : Int32)) dX12_hold_2 (by decide) ?_
  refine K_12_in X (Or.inl q_1609) hZ h ⟨Nat.le_of_ble_eq_true rfl, Nat.le_of_ble_eq_true rfl⟩ ⟨Nat.zero_le _, Nat.zero_le _⟩ (st1 := []) (Nat.le_of_ble_eq_true rfl) dX12_hold_3 (fun r2 w1 v3 h => ?_)
  obtain ⟨ht, hf⟩ := h
  refine V_if_ne X (tgt := 11) dX12_hold_6 (by decide) (fun c => ?_) (fun c => ?_)
  · have h := ht c
    refine V_aload_n X (i := 0) 0 dX12_hold_11 rfl rfl ?_
    refine G_12_131 X hZ dX12_hold_12 ?_
    refine V_iload_n X (i := 1) 1 dX12_hold_15 rfl rfl ?_
    refine V_iconst X (v := (1 : Int32)) dX12_hold_16 (by decide) ?_
    obtain ⟨g4, h⟩ := h
    obtain ⟨w5, ew5⟩ : ∃ y : Mem, y = st w1 187 (ix a1) (vp_nar .boolean (1 : Int32)) := ⟨_, rfl⟩
    have h := h w5 ew5
    refine V_zast_m X (rfl : SLq 187 = 3) (hzk hZ (by decide)) (rfl : SK 187 = 16) g4 dX12_hold_17 ew5 ?_
    refine V_iconst X (v := (0 : Int32)) dX12_hold_18 (by decide) ?_
    refine V_istore_n X dX12_hold_19 rfl (by decide) rfl (ls1 := [(2, .int (0 : Int32)), (0, .ref (ad 150)), (1, .int a1)]) rfl ?_
    refine V_sub X (ls1 := [(0, .ref (ad 150)), (1, .int a1), (2, .int (0 : Int32))]) [1, 2, 0] rfl ?_
    obtain ⟨nn, h⟩ := h
    exact v_12_hold_b20 X hr hZ nn _ _ _ _ h
  · have h := hf c
    refine V_iconst X (v := (0 : Int32)) dX12_hold_9 (by decide) ?_
    exact V_zret_m X hr dX12_hold_10 rfl h
theorem c_12_hold {a1 : Int32} (hinj : INJ ad) (hZ : ad 1000 = 189) {w : Mem} {wl : MemL} {Q : Int32 → Mem → MemL → Prop} (h : wp_12_hold a1 w wl Q) : Met l yX12_hold (TBq yX12_hold cX12_hold 3 (some .boolean)) (RM 1) (va_Pc [.ref (ad 150), .int a1] (PB ad cy D (cmb wc w) wl)) (va_Qi (fun r (u : Mem × MemL) => Q r u.1 u.2) (BM ad cy D wc) (AW ad)) 0 0 (AW ad) := M_enter (by decide) (Nat.le_of_ble_eq_true rfl) hinj (fun p e s m args below meth c X hr => v_12_hold X hr hZ h)
theorem mf_12_hold : MFV yX12_hold cX12_hold 3 (some .boolean) yX12_hold.cls 1 := ⟨q_1826, q_1824, q_1825, q_14, by decide⟩
theorem K_12_hold {own : String} {idx : Nat} {a1 : Int32} (X : CXq p s m args meth c cc nL own ad cy D A H0) (hL : LK own idx yX12_hold) (hZ : ad 1000 = 189) {w : Mem} {wl : MemL} {Q : Int32 → Mem → MemL → Prop} (h : wp_12_hold a1 w wl Q) (hR : (RM 1).frames + 1 ≤ R.frames ∧ 8 + (3 + 11) + (RM 1).locals ≤ R.locals) (hce : ce ≤ R.cells ∧ sl ≤ R.slots) (hcat : (st1.map fun v => v.category).sum ≤ 8) (hd : decode cc pc = .ok (.invokevirtual idx, 3)) (kk : ∀ (r : Int32) (u : Mem) (v : MemL), Q r u v → V p l e R s m args below meth c nL ad cy D A H0 ce sl Qs wc u v (pc + 3) ls (.int r :: st1)) : V p l e R s m args below meth c nL ad cy D A H0 ce sl Qs wc w wl pc ls (.int a1 :: .ref (ad 150) :: st1) := V_callVI_m X mf_12_hold hL (rfl : vwCl[12]? = some (RX12, TX12, 72)) (by decide) (rfl : SK 150 = 12) (hzk hZ (by decide)).2 (c_12_hold X.2.2.2.2.2.2.2.1 hZ h) (As := [.int a1]) rfl ⟨rfl, rfl⟩ hR hce st1 rfl hcat hd kk
set_option maxRecDepth 20000 in
theorem v_12_restore_b22 (X : CXq p s m args meth c cX12_restore 3 yX12_restore.cls ad cy D (AW ad) s.heap) (hr : meth.sig.returnType = (some .boolean)) (hZ : ad 1000 = 189) {Q : Int32 → Mem → MemL → Prop} : ∀ (n : Nat) (l1 : Int32) (l2 : Int32) (w : Mem) (wl : MemL), wp_12_restore_b22 Q n l1 l2 w wl → V p l e (RM 1) s m args below meth c 3 ad cy D (AW ad) s.heap 0 0 (MQ below (va_Qi (fun r (u : Mem × MemL) => Q r u.1 u.2) (BM ad cy D wc) (AW ad)) args s 0 0 (AW ad)) wc w wl 22 [(0, .ref (ad 150)), (1, .int l1), (2, .int l2)] [] := by
  intro n
  induction n with
  | zero =>
    intro l1 l2 w wl h
    exact h.elim
  | succ n ih =>
    intro l1 l2 w wl h
    unfold wp_12_restore_b22 at h
    refine V_iload_n X (i := 2) 2 dX12_restore_22 rfl rfl ?_
    refine V_sipush X (v := (260 : Int32)) dX12_restore_23 (by decide) ?_
    obtain ⟨ht, hf⟩ := h
    refine V_icmp_ge X (tgt := 53) dX12_restore_26 (by decide) (fun c => ?_) (fun c => ?_)
    · have h := ht c
      refine V_aload_n X (i := 0) 0 dX12_restore_53 rfl rfl ?_
      refine V_iconst X (v := (0 : Int32)) dX12_restore_54 (by decide) ?_
      obtain ⟨w1, ew1⟩ : ∃ y : Mem, y = st w 150 64 (0 : Int32) := ⟨_, rfl⟩
      have h := h w1 ew1
      refine U_12_236 X hZ rfl rfl dX12_restore_55 ew1 ?_
      refine V_iconst X (v := (1 : Int32)) dX12_restore_58 (by decide) ?_
      exact V_zret_m X hr dX12_restore_59 rfl h
    · have h := hf c
      refine V_aload_n X (i := 0) 0 dX12_restore_29 rfl rfl ?_
      refine G_12_107 X hZ dX12_restore_30 ?_
      refine V_iload_n X (i := 2) 2 dX12_restore_33 rfl rfl ?_
      refine V_aload_n X (i := 0) 0 dX12_restore_34 rfl rfl ?_
      refine G_12_134 X hZ dX12_restore_35 ?_
      refine V_sipush X (v := (260 : Int32)) dX12_restore_38 (by decide) ?_
      refine V_iload_n X (i := 1) 1 dX12_restore_41 rfl rfl ?_
      refine V_imul X dX12_restore_42 ?_
      refine V_iload_n X (i := 2) 2 dX12_restore_43 rfl rfl ?_
      refine V_iadd X dX12_restore_44 ?_
      obtain ⟨g2, h⟩ := h
      refine V_iald_m X (rfl : SLq 188 = 780) (hzk hZ (by decide)) (rfl : SK 188 = 14) g2 dX12_restore_45 ?_
      obtain ⟨g3, h⟩ := h
      obtain ⟨w4, ew4⟩ : ∃ y : Mem, y = st w 180 (ix l2) (w 188 (ix (((260 : Int32) * l1) + l2))) := ⟨_, rfl⟩
      have h := h w4 ew4
      refine V_iast_m X (rfl : SLq 180 = 260) (hzk hZ (by decide)) (rfl : SK 180 = 14) g3 dX12_restore_46 ew4 ?_
      obtain ⟨x5, ex5⟩ : ∃ y : Int32, y = l2 + (1 : Int32) := ⟨_, rfl⟩
      have h := h x5 ex5
      refine V_iinc X 2 dX12_restore_47 rfl (by decide) (by rw [ex5]; rfl) (ls1 := [(2, .int x5), (0, .ref (ad 150)), (1, .int l1)]) rfl ?_
      refine V_goto X (tgt := 22) dX12_restore_50 (by decide) ?_
      refine V_sub X (ls1 := [(0, .ref (ad 150)), (1, .int l1), (2, .int x5)]) [1, 2, 0] rfl ?_
      exact ih _ _ _ _ h
set_option maxRecDepth 20000 in
theorem v_12_restore {a1 : Int32} (X : CXq p s m args meth c cX12_restore 3 yX12_restore.cls ad cy D (AW ad) s.heap) (hr : meth.sig.returnType = (some .boolean)) (hZ : ad 1000 = 189) {w : Mem} {wl : MemL} {Q : Int32 → Mem → MemL → Prop} (h : wp_12_restore a1 w wl Q) : V p l e (RM 1) s m args below meth c 3 ad cy D (AW ad) s.heap 0 0 (MQ below (va_Qi (fun r (u : Mem × MemL) => Q r u.1 u.2) (BM ad cy D wc) (AW ad)) args s 0 0 (AW ad)) wc w wl 0 [(0, .ref (ad 150)), (1, .int a1)] [] := by
  unfold wp_12_restore at h
  refine V_iload_n X (i := 1) 1 dX12_restore_0 rfl rfl ?_
  refine V_iconst X (v := (0 : Int32)) dX12_restore_1 (by decide) ?_
  refine V_iconst X (v := (2 : Int32)) dX12_restore_2 (by decide) ?_
  refine K_12_in X (Or.inl q_1609) hZ h ⟨Nat.le_of_ble_eq_true rfl, Nat.le_of_ble_eq_true rfl⟩ ⟨Nat.zero_le _, Nat.zero_le _⟩ (st1 := []) (Nat.le_of_ble_eq_true rfl) dX12_restore_3 (fun r2 w1 v3 h => ?_)
  obtain ⟨ht, hf⟩ := h
  refine V_if_eq X (tgt := 18) dX12_restore_6 (by decide) (fun c => ?_) (fun c => ?_)
  · have h := ht c
    refine V_iconst X (v := (0 : Int32)) dX12_restore_18 (by decide) ?_
    exact V_zret_m X hr dX12_restore_19 rfl h
  · have h := hf c
    refine V_aload_n X (i := 0) 0 dX12_restore_9 rfl rfl ?_
    refine G_12_131 X hZ dX12_restore_10 ?_
    refine V_iload_n X (i := 1) 1 dX12_restore_13 rfl rfl ?_
    obtain ⟨g4, h⟩ := h
    refine V_zald_m X (rfl : SLq 187 = 3) (hzk hZ (by decide)) (rfl : SK 187 = 16) g4 dX12_restore_14 ?_
    obtain ⟨ht, hf⟩ := h
    refine V_if_ne X (tgt := 20) dX12_restore_15 (by decide) (fun c => ?_) (fun c => ?_)
    · have h := ht c
      refine V_iconst X (v := (0 : Int32)) dX12_restore_20 (by decide) ?_
      refine V_istore_n X dX12_restore_21 rfl (by decide) rfl (ls1 := [(2, .int (0 : Int32)), (0, .ref (ad 150)), (1, .int a1)]) rfl ?_
      refine V_sub X (ls1 := [(0, .ref (ad 150)), (1, .int a1), (2, .int (0 : Int32))]) [1, 2, 0] rfl ?_
      obtain ⟨nn, h⟩ := h
      exact v_12_restore_b22 X hr hZ nn _ _ _ _ h
    · have h := hf c
      refine V_iconst X (v := (0 : Int32)) dX12_restore_18 (by decide) ?_
      exact V_zret_m X hr dX12_restore_19 rfl h
theorem c_12_restore {a1 : Int32} (hinj : INJ ad) (hZ : ad 1000 = 189) {w : Mem} {wl : MemL} {Q : Int32 → Mem → MemL → Prop} (h : wp_12_restore a1 w wl Q) : Met l yX12_restore (TBq yX12_restore cX12_restore 3 (some .boolean)) (RM 1) (va_Pc [.ref (ad 150), .int a1] (PB ad cy D (cmb wc w) wl)) (va_Qi (fun r (u : Mem × MemL) => Q r u.1 u.2) (BM ad cy D wc) (AW ad)) 0 0 (AW ad) := M_enter (by decide) (Nat.le_of_ble_eq_true rfl) hinj (fun p e s m args below meth c X hr => v_12_restore X hr hZ h)
theorem mf_12_restore : MFV yX12_restore cX12_restore 3 (some .boolean) yX12_restore.cls 1 := ⟨q_1830, q_1828, q_1829, q_14, by decide⟩
theorem K_12_restore {own : String} {idx : Nat} {a1 : Int32} (X : CXq p s m args meth c cc nL own ad cy D A H0) (hL : LK own idx yX12_restore) (hZ : ad 1000 = 189) {w : Mem} {wl : MemL} {Q : Int32 → Mem → MemL → Prop} (h : wp_12_restore a1 w wl Q) (hR : (RM 1).frames + 1 ≤ R.frames ∧ 8 + (3 + 11) + (RM 1).locals ≤ R.locals) (hce : ce ≤ R.cells ∧ sl ≤ R.slots) (hcat : (st1.map fun v => v.category).sum ≤ 8) (hd : decode cc pc = .ok (.invokevirtual idx, 3)) (kk : ∀ (r : Int32) (u : Mem) (v : MemL), Q r u v → V p l e R s m args below meth c nL ad cy D A H0 ce sl Qs wc u v (pc + 3) ls (.int r :: st1)) : V p l e R s m args below meth c nL ad cy D A H0 ce sl Qs wc w wl pc ls (.int a1 :: .ref (ad 150) :: st1) := V_callVI_m X mf_12_restore hL (rfl : vwCl[12]? = some (RX12, TX12, 72)) (by decide) (rfl : SK 150 = 12) (hzk hZ (by decide)).2 (c_12_restore X.2.2.2.2.2.2.2.1 hZ h) (As := [.int a1]) rfl ⟨rfl, rfl⟩ hR hce st1 rfl hcat hd kk
set_option maxRecDepth 20000 in
theorem v_12_count_b265 (X : CXq p s m args meth c cX12_count 4 yX12_count.cls ad cy D (AW ad) s.heap) (hr : meth.sig.returnType = (some .int)) (hZ : ad 1000 = 189) {Q : Int32 → Mem → MemL → Prop} {L224 : Int32 → Int32 → Mem → MemL → Prop} (HL224 : ∀ (l2 : Int32) (l3 : Int32) (w : Mem) (wl : MemL), L224 l2 l3 w wl → V p l e (RM 1) s m args below meth c 4 ad cy D (AW ad) s.heap 0 0 (MQ below (va_Qi (fun r (u : Mem × MemL) => Q r u.1 u.2) (BM ad cy D wc) (AW ad)) args s 0 0 (AW ad)) wc w wl 224 [(0, .ref (ad 150)), (2, .int l2), (3, .int l3)] []) : ∀ (l2 : Int32) (l3 : Int32) (w : Mem) (wl : MemL), wp_12_count_b265 Q L224 l2 l3 w wl → V p l e (RM 1) s m args below meth c 4 ad cy D (AW ad) s.heap 0 0 (MQ below (va_Qi (fun r (u : Mem × MemL) => Q r u.1 u.2) (BM ad cy D wc) (AW ad)) args s 0 0 (AW ad)) wc w wl 265 [(0, .ref (ad 150)), (2, .int l2), (3, .int l3)] [] := by
  intro l2 l3 w wl h
  unfold wp_12_count_b265 at h
  obtain ⟨x1, ex1⟩ : ∃ y : Int32, y = l3 + (1 : Int32) := ⟨_, rfl⟩
  have h := h x1 ex1
  refine V_iinc X 2 dX12_count_265 rfl (by decide) (by rw [ex1]; rfl) (ls1 := [(3, .int x1), (0, .ref (ad 150)), (2, .int l2)]) rfl ?_
  refine V_goto X (tgt := 224) dX12_count_268 (by decide) ?_
  refine V_sub X (ls1 := [(0, .ref (ad 150)), (2, .int l2), (3, .int x1)]) [1, 2, 0] rfl ?_
  exact HL224 _ _ _ _ h
set_option maxRecDepth 20000 in
theorem v_12_count_b224 (X : CXq p s m args meth c cX12_count 4 yX12_count.cls ad cy D (AW ad) s.heap) (hr : meth.sig.returnType = (some .int)) (hZ : ad 1000 = 189) {Q : Int32 → Mem → MemL → Prop} : ∀ (n : Nat) (l2 : Int32) (l3 : Int32) (w : Mem) (wl : MemL), wp_12_count_b224 Q n l2 l3 w wl → V p l e (RM 1) s m args below meth c 4 ad cy D (AW ad) s.heap 0 0 (MQ below (va_Qi (fun r (u : Mem × MemL) => Q r u.1 u.2) (BM ad cy D wc) (AW ad)) args s 0 0 (AW ad)) wc w wl 224 [(0, .ref (ad 150)), (2, .int l2), (3, .int l3)] [] := by
  intro n
  induction n with
  | zero =>
    intro l2 l3 w wl h
    exact h.elim
  | succ n ih =>
    intro l2 l3 w wl h
    unfold wp_12_count_b224 at h
    refine V_iload_n X (i := 3) 2 dX12_count_224 rfl rfl ?_
    refine V_bipush X (v := (16 : Int32)) dX12_count_225 (by decide) ?_
    obtain ⟨ht, hf⟩ := h
    refine V_icmp_ge X (tgt := 271) dX12_count_227 (by decide) (fun c => ?_) (fun c => ?_)
    · have h := ht c
      refine V_iload_n X (i := 2) 1 dX12_count_271 rfl rfl ?_
      exact V_iret_m X hr dX12_count_272 h
    · have h := hf c
      refine V_aload_n X (i := 0) 0 dX12_count_230 rfl rfl ?_
      refine G_12_107 X hZ dX12_count_231 ?_
      refine V_iconst X (v := (4 : Int32)) dX12_count_234 (by decide) ?_
      refine V_iload_n X (i := 3) 2 dX12_count_235 rfl rfl ?_
      refine V_iadd X dX12_count_236 ?_
      obtain ⟨g1, h⟩ := h
      refine V_iald_m X (rfl : SLq 180 = 260) (hzk hZ (by decide)) (rfl : SK 180 = 14) g1 dX12_count_237 ?_
      refine V_iconst X (v := (1 : Int32)) dX12_count_238 (by decide) ?_
      obtain ⟨ht, hf⟩ := h
      refine V_icmp_ne X (tgt := 265) dX12_count_239 (by decide) (fun c => ?_) (fun c => ?_)
      · have h := ht c
        refine V_sub X (ls1 := [(0, .ref (ad 150)), (2, .int l2), (3, .int l3)]) [0, 1, 2] rfl ?_
        exact v_12_count_b265 X hr hZ ih _ _ _ _ h
      · have h := hf c
        refine V_aload_n X (i := 0) 0 dX12_count_242 rfl rfl ?_
        refine G_12_107 X hZ dX12_count_243 ?_
        refine V_bipush X (v := (20 : Int32)) dX12_count_246 (by decide) ?_
        refine V_iload_n X (i := 3) 2 dX12_count_248 rfl rfl ?_
        refine V_iadd X dX12_count_249 ?_
        obtain ⟨g2, h⟩ := h
        refine V_iald_m X (rfl : SLq 180 = 260) (hzk hZ (by decide)) (rfl : SK 180 = 14) g2 dX12_count_250 ?_
        refine V_iload_n X (i := 2) 1 dX12_count_251 rfl rfl ?_
        obtain ⟨ht, hf⟩ := h
        refine V_icmp_le X (tgt := 265) dX12_count_252 (by decide) (fun c => ?_) (fun c => ?_)
        · have h := ht c
          refine V_sub X (ls1 := [(0, .ref (ad 150)), (2, .int l2), (3, .int l3)]) [0, 1, 2] rfl ?_
          exact v_12_count_b265 X hr hZ ih _ _ _ _ h
        · have h := hf c
          refine V_aload_n X (i := 0) 0 dX12_count_255 rfl rfl ?_
          refine G_12_107 X hZ dX12_count_256 ?_
          refine V_bipush X (v := (20 : Int32)) dX12_count_259 (by decide) ?_
          refine V_iload_n X (i := 3) 2 dX12_count_261 rfl rfl ?_
          refine V_iadd X dX12_count_262 ?_
          obtain ⟨g3, h⟩ := h
          refine V_iald_m X (rfl : SLq 180 = 260) (hzk hZ (by decide)) (rfl : SK 180 = 14) g3 dX12_count_263 ?_
          obtain ⟨x4, ex4⟩ : ∃ y : Int32, y = (w 180 (ix ((20 : Int32) + l3))) := ⟨_, rfl⟩
          have h := h x4 ex4
          refine V_istore_n X dX12_count_264 rfl (by decide) ex4 (ls1 := [(2, .int x4), (0, .ref (ad 150)), (3, .int l3)]) rfl ?_
          refine V_sub X (ls1 := [(0, .ref (ad 150)), (2, .int x4), (3, .int l3)]) [1, 0, 2] rfl ?_
          exact v_12_count_b265 X hr hZ ih _ _ _ _ h
set_option maxRecDepth 20000 in
theorem v_12_count_b203 (X : CXq p s m args meth c cX12_count 4 yX12_count.cls ad cy D (AW ad) s.heap) (hr : meth.sig.returnType = (some .int)) (hZ : ad 1000 = 189) {Q : Int32 → Mem → MemL → Prop} : ∀ (s0 : Int32) (s1 : Int32) (w : Mem) (wl : MemL), wp_12_count_b203 Q s0 s1 w wl → V p l e (RM 1) s m args below meth c 4 ad cy D (AW ad) s.heap 0 0 (MQ below (va_Qi (fun r (u : Mem × MemL) => Q r u.1 u.2) (BM ad cy D wc) (AW ad)) args s 0 0 (AW ad)) wc w wl 203 [(0, .ref (ad 150))] [.int s1, .int s0] := by
  intro s0 s1 w wl h
  unfold wp_12_count_b203 at h
  refine V_iadd X dX12_count_203 ?_
  refine V_aload_n X (i := 0) 0 dX12_count_204 rfl rfl ?_
  refine G_12_131 X hZ dX12_count_205 ?_
  refine V_iconst X (v := (2 : Int32)) dX12_count_208 (by decide) ?_
  refine V_zald_m X (rfl : SLq 187 = 3) (hzk hZ (by decide)) (rfl : SK 187 = 16) (vpl (by decide)) dX12_count_209 ?_
  obtain ⟨ht, hf⟩ := h
  refine V_if_eq X (tgt := 217) dX12_count_210 (by decide) (fun c => ?_) (fun c => ?_)
  · have h := ht c
    refine V_iconst X (v := (0 : Int32)) dX12_count_217 (by decide) ?_
    refine V_iadd X dX12_count_218 ?_
    exact V_iret_m X hr dX12_count_219 h
  · have h := hf c
    refine V_iconst X (v := (1 : Int32)) dX12_count_213 (by decide) ?_
    refine V_goto X (tgt := 218) dX12_count_214 (by decide) ?_
    refine V_iadd X dX12_count_218 ?_
    exact V_iret_m X hr dX12_count_219 h
set_option maxRecDepth 20000 in
theorem v_12_count_b189 (X : CXq p s m args meth c cX12_count 4 yX12_count.cls ad cy D (AW ad) s.heap) (hr : meth.sig.returnType = (some .int)) (hZ : ad 1000 = 189) {Q : Int32 → Mem → MemL → Prop} : ∀ (s0 : Int32) (w : Mem) (wl : MemL), wp_12_count_b189 Q s0 w wl → V p l e (RM 1) s m args below meth c 4 ad cy D (AW ad) s.heap 0 0 (MQ below (va_Qi (fun r (u : Mem × MemL) => Q r u.1 u.2) (BM ad cy D wc) (AW ad)) args s 0 0 (AW ad)) wc w wl 189 [(0, .ref (ad 150))] [.int s0] := by
  intro s0 w wl h
  unfold wp_12_count_b189 at h
  refine V_aload_n X (i := 0) 0 dX12_count_189 rfl rfl ?_
  refine G_12_131 X hZ dX12_count_190 ?_
  refine V_iconst X (v := (1 : Int32)) dX12_count_193 (by decide) ?_
  refine V_zald_m X (rfl : SLq 187 = 3) (hzk hZ (by decide)) (rfl : SK 187 = 16) (vpl (by decide)) dX12_count_194 ?_
  obtain ⟨ht, hf⟩ := h
  refine V_if_eq X (tgt := 202) dX12_count_195 (by decide) (fun c => ?_) (fun c => ?_)
  · have h := ht c
    refine V_iconst X (v := (0 : Int32)) dX12_count_202 (by decide) ?_
    refine V_sub X (ls1 := [(0, .ref (ad 150))]) [0] rfl ?_
    exact v_12_count_b203 X hr hZ _ _ _ _ h
  · have h := hf c
    refine V_iconst X (v := (1 : Int32)) dX12_count_198 (by decide) ?_
    refine V_goto X (tgt := 203) dX12_count_199 (by decide) ?_
    refine V_sub X (ls1 := [(0, .ref (ad 150))]) [0] rfl ?_
    exact v_12_count_b203 X hr hZ _ _ _ _ h
set_option maxRecDepth 20000 in
theorem v_12_count_b152 (X : CXq p s m args meth c cX12_count 4 yX12_count.cls ad cy D (AW ad) s.heap) (hr : meth.sig.returnType = (some .int)) (hZ : ad 1000 = 189) {Q : Int32 → Mem → MemL → Prop} {L114 : Int32 → Int32 → Mem → MemL → Prop} (HL114 : ∀ (l2 : Int32) (l3 : Int32) (w : Mem) (wl : MemL), L114 l2 l3 w wl → V p l e (RM 1) s m args below meth c 4 ad cy D (AW ad) s.heap 0 0 (MQ below (va_Qi (fun r (u : Mem × MemL) => Q r u.1 u.2) (BM ad cy D wc) (AW ad)) args s 0 0 (AW ad)) wc w wl 114 [(0, .ref (ad 150)), (2, .int l2), (3, .int l3)] []) : ∀ (l2 : Int32) (l3 : Int32) (w : Mem) (wl : MemL), wp_12_count_b152 Q L114 l2 l3 w wl → V p l e (RM 1) s m args below meth c 4 ad cy D (AW ad) s.heap 0 0 (MQ below (va_Qi (fun r (u : Mem × MemL) => Q r u.1 u.2) (BM ad cy D wc) (AW ad)) args s 0 0 (AW ad)) wc w wl 152 [(0, .ref (ad 150)), (2, .int l2), (3, .int l3)] [] := by
  intro l2 l3 w wl h
  unfold wp_12_count_b152 at h
  obtain ⟨x1, ex1⟩ : ∃ y : Int32, y = l3 + (1 : Int32) := ⟨_, rfl⟩
  have h := h x1 ex1
  refine V_iinc X 2 dX12_count_152 rfl (by decide) (by rw [ex1]; rfl) (ls1 := [(3, .int x1), (0, .ref (ad 150)), (2, .int l2)]) rfl ?_
  refine V_goto X (tgt := 114) dX12_count_155 (by decide) ?_
  refine V_sub X (ls1 := [(0, .ref (ad 150)), (2, .int l2), (3, .int x1)]) [1, 2, 0] rfl ?_
  exact HL114 _ _ _ _ h
set_option maxRecDepth 20000 in
theorem v_12_count_b114 (X : CXq p s m args meth c cX12_count 4 yX12_count.cls ad cy D (AW ad) s.heap) (hr : meth.sig.returnType = (some .int)) (hZ : ad 1000 = 189) {Q : Int32 → Mem → MemL → Prop} : ∀ (n : Nat) (l2 : Int32) (l3 : Int32) (w : Mem) (wl : MemL), wp_12_count_b114 Q n l2 l3 w wl → V p l e (RM 1) s m args below meth c 4 ad cy D (AW ad) s.heap 0 0 (MQ below (va_Qi (fun r (u : Mem × MemL) => Q r u.1 u.2) (BM ad cy D wc) (AW ad)) args s 0 0 (AW ad)) wc w wl 114 [(0, .ref (ad 150)), (2, .int l2), (3, .int l3)] [] := by
  intro n
  induction n with
  | zero =>
    intro l2 l3 w wl h
    exact h.elim
  | succ n ih =>
    intro l2 l3 w wl h
    unfold wp_12_count_b114 at h
    refine V_iload_n X (i := 3) 2 dX12_count_114 rfl rfl ?_
    refine V_bipush X (v := (16 : Int32)) dX12_count_115 (by decide) ?_
    obtain ⟨ht, hf⟩ := h
    refine V_icmp_ge X (tgt := 158) dX12_count_117 (by decide) (fun c => ?_) (fun c => ?_)
    · have h := ht c
      refine V_iload_n X (i := 2) 1 dX12_count_158 rfl rfl ?_
      exact V_iret_m X hr dX12_count_159 h
    · have h := hf c
      refine V_aload_n X (i := 0) 0 dX12_count_120 rfl rfl ?_
      refine G_12_107 X hZ dX12_count_121 ?_
      refine V_iconst X (v := (4 : Int32)) dX12_count_124 (by decide) ?_
      refine V_iload_n X (i := 3) 2 dX12_count_125 rfl rfl ?_
      refine V_iadd X dX12_count_126 ?_
      obtain ⟨g1, h⟩ := h
      refine V_iald_m X (rfl : SLq 180 = 260) (hzk hZ (by decide)) (rfl : SK 180 = 14) g1 dX12_count_127 ?_
      refine V_iconst X (v := (1 : Int32)) dX12_count_128 (by decide) ?_
      obtain ⟨ht, hf⟩ := h
      refine V_icmp_ne X (tgt := 152) dX12_count_129 (by decide) (fun c => ?_) (fun c => ?_)
      · have h := ht c
        refine V_sub X (ls1 := [(0, .ref (ad 150)), (2, .int l2), (3, .int l3)]) [0, 1, 2] rfl ?_
        exact v_12_count_b152 X hr hZ ih _ _ _ _ h
      · have h := hf c
        refine V_aload_n X (i := 0) 0 dX12_count_132 rfl rfl ?_
        refine G_12_107 X hZ dX12_count_133 ?_
        refine V_bipush X (v := (20 : Int32)) dX12_count_136 (by decide) ?_
        refine V_iload_n X (i := 3) 2 dX12_count_138 rfl rfl ?_
        refine V_iadd X dX12_count_139 ?_
        obtain ⟨g2, h⟩ := h
        refine V_iald_m X (rfl : SLq 180 = 260) (hzk hZ (by decide)) (rfl : SK 180 = 14) g2 dX12_count_140 ?_
        refine V_aload_n X (i := 0) 0 dX12_count_141 rfl rfl ?_
        refine V_iconst X (v := (1 : Int32)) dX12_count_142 (by decide) ?_
        refine K_12_tell0 X (Or.inl q_1203) hZ h ⟨Nat.le_of_ble_eq_true rfl, Nat.le_of_ble_eq_true rfl⟩ ⟨Nat.zero_le _, Nat.zero_le _⟩ (st1 := [.int (w 180 (ix ((20 : Int32) + l3)))]) (Nat.le_of_ble_eq_true rfl) dX12_count_143 (fun r4 w3 v5 h => ?_)
        obtain ⟨ht, hf⟩ := h
        refine V_icmp_le X (tgt := 152) dX12_count_146 (by decide) (fun c => ?_) (fun c => ?_)
        · have h := ht c
          refine V_sub X (ls1 := [(0, .ref (ad 150)), (2, .int l2), (3, .int l3)]) [0, 1, 2] rfl ?_
          exact v_12_count_b152 X hr hZ ih _ _ _ _ h
        · have h := hf c
          obtain ⟨x6, ex6⟩ : ∃ y : Int32, y = l2 + (1 : Int32) := ⟨_, rfl⟩
          have h := h x6 ex6
          refine V_iinc X 1 dX12_count_149 rfl (by decide) (by rw [ex6]; rfl) (ls1 := [(2, .int x6), (0, .ref (ad 150)), (3, .int l3)]) rfl ?_
          refine V_sub X (ls1 := [(0, .ref (ad 150)), (2, .int x6), (3, .int l3)]) [1, 0, 2] rfl ?_
          exact v_12_count_b152 X hr hZ ih _ _ _ _ h
set_option maxRecDepth 20000 in
theorem v_12_count {a1 : Int32} (X : CXq p s m args meth c cX12_count 4 yX12_count.cls ad cy D (AW ad) s.heap) (hr : meth.sig.returnType = (some .int)) (hZ : ad 1000 = 189) {w : Mem} {wl : MemL} {Q : Int32 → Mem → MemL → Prop} (h : wp_12_count a1 w wl Q) : V p l e (RM 1) s m args below meth c 4 ad cy D (AW ad) s.heap 0 0 (MQ below (va_Qi (fun r (u : Mem × MemL) => Q r u.1 u.2) (BM ad cy D wc) (AW ad)) args s 0 0 (AW ad)) wc w wl 0 [(0, .ref (ad 150)), (1, .int a1)] [] := by
  unfold wp_12_count at h
  refine V_iload_n X (i := 1) 1 dX12_count_0 rfl rfl ?_
  obtain ⟨ht, h⟩ := h
  by_cases c0 : a1 = (0 : Int32)
  · have h := ht c0
    refine V_tableIn X (tgt := 68) dX12_count_1 (by rw [c0]; decide) (by rw [c0]; decide) (off := 67) (by rw [c0]; decide) (by decide) ?_
    refine V_aload_n X (i := 0) 0 dX12_count_68 rfl rfl ?_
    refine G_12_46 X hZ dX12_count_69 ?_
    refine V_aload_n X (i := 0) 0 dX12_count_72 rfl rfl ?_
    refine G_12_218 X hZ dX12_count_73 ?_
    obtain ⟨g1, h⟩ := h
    refine V_iald_m X (rfl : SLq 160 = 2) (hzk hZ (by decide)) (rfl : SK 160 = 14) g1 dX12_count_76 ?_
    exact V_iret_m X hr dX12_count_77 h
  have h := h c0
  obtain ⟨ht, h⟩ := h
  by_cases c1 : a1 = (1 : Int32)
  · have h := ht c1
    refine V_tableIn X (tgt := 78) dX12_count_1 (by rw [c1]; decide) (by rw [c1]; decide) (off := 77) (by rw [c1]; decide) (by decide) ?_
    refine V_aload_n X (i := 0) 0 dX12_count_78 rfl rfl ?_
    refine G_12_61 X hZ dX12_count_79 ?_
    refine V_aload_n X (i := 0) 0 dX12_count_82 rfl rfl ?_
    refine G_12_218 X hZ dX12_count_83 ?_
    obtain ⟨g2, h⟩ := h
    refine V_iald_m X (rfl : SLq 165 = 2) (hzk hZ (by decide)) (rfl : SK 165 = 14) g2 dX12_count_86 ?_
    exact V_iret_m X hr dX12_count_87 h
  have h := h c1
  obtain ⟨ht, h⟩ := h
  by_cases c2 : a1 = (2 : Int32)
  · have h := ht c2
    refine V_tableIn X (tgt := 88) dX12_count_1 (by rw [c2]; decide) (by rw [c2]; decide) (off := 87) (by rw [c2]; decide) (by decide) ?_
    refine V_aload_n X (i := 0) 0 dX12_count_88 rfl rfl ?_
    refine V_iload_n X (i := 1) 1 dX12_count_89 rfl rfl ?_
    refine V_iconst X (v := (2 : Int32)) dX12_count_90 (by decide) ?_
    refine V_isub X dX12_count_91 ?_
    refine K_12_tell0 X (Or.inl q_1203) hZ h ⟨Nat.le_of_ble_eq_true rfl, Nat.le_of_ble_eq_true rfl⟩ ⟨Nat.zero_le _, Nat.zero_le _⟩ (st1 := []) (Nat.le_of_ble_eq_true rfl) dX12_count_92 (fun r4 w3 v5 h => ?_)
    exact V_iret_m X hr dX12_count_95 h
  have h := h c2
  obtain ⟨ht, h⟩ := h
  by_cases c3 : a1 = (3 : Int32)
  · have h := ht c3
    refine V_tableIn X (tgt := 88) dX12_count_1 (by rw [c3]; decide) (by rw [c3]; decide) (off := 87) (by rw [c3]; decide) (by decide) ?_
    refine V_aload_n X (i := 0) 0 dX12_count_88 rfl rfl ?_
    refine V_iload_n X (i := 1) 1 dX12_count_89 rfl rfl ?_
    refine V_iconst X (v := (2 : Int32)) dX12_count_90 (by decide) ?_
    refine V_isub X dX12_count_91 ?_
    refine K_12_tell0 X (Or.inl q_1203) hZ h ⟨Nat.le_of_ble_eq_true rfl, Nat.le_of_ble_eq_true rfl⟩ ⟨Nat.zero_le _, Nat.zero_le _⟩ (st1 := []) (Nat.le_of_ble_eq_true rfl) dX12_count_92 (fun r7 w6 v8 h => ?_)
    exact V_iret_m X hr dX12_count_95 h
  have h := h c3
  obtain ⟨ht, h⟩ := h
  by_cases c4 : a1 = (4 : Int32)
  · have h := ht c4
    refine V_tableIn X (tgt := 88) dX12_count_1 (by rw [c4]; decide) (by rw [c4]; decide) (off := 87) (by rw [c4]; decide) (by decide) ?_
    refine V_aload_n X (i := 0) 0 dX12_count_88 rfl rfl ?_
    refine V_iload_n X (i := 1) 1 dX12_count_89 rfl rfl ?_
    refine V_iconst X (v := (2 : Int32)) dX12_count_90 (by decide) ?_
    refine V_isub X dX12_count_91 ?_
    refine K_12_tell0 X (Or.inl q_1203) hZ h ⟨Nat.le_of_ble_eq_true rfl, Nat.le_of_ble_eq_true rfl⟩ ⟨Nat.zero_le _, Nat.zero_le _⟩ (st1 := []) (Nat.le_of_ble_eq_true rfl) dX12_count_92 (fun r10 w9 v11 h => ?_)
    exact V_iret_m X hr dX12_count_95 h
  have h := h c4
  obtain ⟨ht, h⟩ := h
  by_cases c5 : a1 = (5 : Int32)
  · have h := ht c5
    refine V_tableIn X (tgt := 96) dX12_count_1 (by rw [c5]; decide) (by rw [c5]; decide) (off := 95) (by rw [c5]; decide) (by decide) ?_
    refine V_aload_n X (i := 0) 0 dX12_count_96 rfl rfl ?_
    refine V_bipush X (v := (10 : Int32)) dX12_count_97 (by decide) ?_
    refine K_12_tell0 X (Or.inl q_1203) hZ h ⟨Nat.le_of_ble_eq_true rfl, Nat.le_of_ble_eq_true rfl⟩ ⟨Nat.zero_le _, Nat.zero_le _⟩ (st1 := []) (Nat.le_of_ble_eq_true rfl) dX12_count_99 (fun r13 w12 v14 h => ?_)
    exact V_iret_m X hr dX12_count_102 h
  have h := h c5
  obtain ⟨ht, h⟩ := h
  by_cases c6 : a1 = (6 : Int32)
  · have h := ht c6
    refine V_tableIn X (tgt := 103) dX12_count_1 (by rw [c6]; decide) (by rw [c6]; decide) (off := 102) (by rw [c6]; decide) (by decide) ?_
    refine V_aload_n X (i := 0) 0 dX12_count_103 rfl rfl ?_
    refine V_bipush X (v := (14 : Int32)) dX12_count_104 (by decide) ?_
    refine K_12_tell0 X (Or.inl q_1203) hZ h ⟨Nat.le_of_ble_eq_true rfl, Nat.le_of_ble_eq_true rfl⟩ ⟨Nat.zero_le _, Nat.zero_le _⟩ (st1 := []) (Nat.le_of_ble_eq_true rfl) dX12_count_106 (fun r16 w15 v17 h => ?_)
    exact V_iret_m X hr dX12_count_109 h
  have h := h c6
  obtain ⟨ht, h⟩ := h
  by_cases c7 : a1 = (7 : Int32)
  · have h := ht c7
    refine V_tableIn X (tgt := 110) dX12_count_1 (by rw [c7]; decide) (by rw [c7]; decide) (off := 109) (by rw [c7]; decide) (by decide) ?_
    refine V_iconst X (v := (0 : Int32)) dX12_count_110 (by decide) ?_
    refine V_istore_n X dX12_count_111 rfl (by decide) rfl (ls1 := [(2, .int (0 : Int32)), (0, .ref (ad 150)), (1, .int a1)]) rfl ?_
    refine V_iconst X (v := (0 : Int32)) dX12_count_112 (by decide) ?_
    refine V_istore_n X dX12_count_113 rfl (by decide) rfl (ls1 := [(3, .int (0 : Int32)), (2, .int (0 : Int32)), (0, .ref (ad 150)), (1, .int a1)]) rfl ?_
    refine V_sub X (ls1 := [(0, .ref (ad 150)), (2, .int (0 : Int32)), (3, .int (0 : Int32))]) [2, 1, 0] rfl ?_
    obtain ⟨nn, h⟩ := h
    exact v_12_count_b114 X hr hZ nn _ _ _ _ h
  have h := h c7
  obtain ⟨ht, h⟩ := h
  by_cases c8 : a1 = (8 : Int32)
  · have h := ht c8
    refine V_tableIn X (tgt := 160) dX12_count_1 (by rw [c8]; decide) (by rw [c8]; decide) (off := 159) (by rw [c8]; decide) (by decide) ?_
    refine V_aload_n X (i := 0) 0 dX12_count_160 rfl rfl ?_
    refine G_12_151 X hZ dX12_count_161 ?_
    exact V_iret_m X hr dX12_count_164 h
  have h := h c8
  obtain ⟨ht, h⟩ := h
  by_cases c9 : a1 = (9 : Int32)
  · have h := ht c9
    refine V_tableIn X (tgt := 165) dX12_count_1 (by rw [c9]; decide) (by rw [c9]; decide) (off := 164) (by rw [c9]; decide) (by decide) ?_
    refine V_aload_n X (i := 0) 0 dX12_count_165 rfl rfl ?_
    refine G_12_236 X hZ dX12_count_166 ?_
    exact V_iret_m X hr dX12_count_169 h
  have h := h c9
  obtain ⟨ht, h⟩ := h
  by_cases c10 : a1 = (10 : Int32)
  · have h := ht c10
    refine V_tableIn X (tgt := 170) dX12_count_1 (by rw [c10]; decide) (by rw [c10]; decide) (off := 169) (by rw [c10]; decide) (by decide) ?_
    refine V_aload_n X (i := 0) 0 dX12_count_170 rfl rfl ?_
    refine G_12_239 X hZ dX12_count_171 ?_
    exact V_iret_m X hr dX12_count_174 h
  have h := h c10
  obtain ⟨ht, h⟩ := h
  by_cases c11 : a1 = (11 : Int32)
  · have h := ht c11
    refine V_tableIn X (tgt := 175) dX12_count_1 (by rw [c11]; decide) (by rw [c11]; decide) (off := 174) (by rw [c11]; decide) (by decide) ?_
    refine V_aload_n X (i := 0) 0 dX12_count_175 rfl rfl ?_
    refine G_12_131 X hZ dX12_count_176 ?_
    refine V_iconst X (v := (0 : Int32)) dX12_count_179 (by decide) ?_
    refine V_zald_m X (rfl : SLq 187 = 3) (hzk hZ (by decide)) (rfl : SK 187 = 16) (vpl (by decide)) dX12_count_180 ?_
    obtain ⟨ht, hf⟩ := h
    refine V_if_eq X (tgt := 188) dX12_count_181 (by decide) (fun c => ?_) (fun c => ?_)
    · have h := ht c
      refine V_iconst X (v := (0 : Int32)) dX12_count_188 (by decide) ?_
      refine V_sub X (ls1 := [(0, .ref (ad 150))]) [0] rfl ?_
      exact v_12_count_b189 X hr hZ _ _ _ h
    · have h := hf c
      refine V_iconst X (v := (1 : Int32)) dX12_count_184 (by decide) ?_
      refine V_goto X (tgt := 189) dX12_count_185 (by decide) ?_
      refine V_sub X (ls1 := [(0, .ref (ad 150))]) [0] rfl ?_
      exact v_12_count_b189 X hr hZ _ _ _ h
  have h := h c11
  obtain ⟨ht, h⟩ := h
  by_cases c12 : a1 = (12 : Int32)
  · have h := ht c12
    refine V_tableIn X (tgt := 220) dX12_count_1 (by rw [c12]; decide) (by rw [c12]; decide) (off := 219) (by rw [c12]; decide) (by decide) ?_
    refine V_iconst X (v := (0 : Int32)) dX12_count_220 (by decide) ?_
    refine V_istore_n X dX12_count_221 rfl (by decide) rfl (ls1 := [(2, .int (0 : Int32)), (0, .ref (ad 150)), (1, .int a1)]) rfl ?_
    refine V_iconst X (v := (0 : Int32)) dX12_count_222 (by decide) ?_
    refine V_istore_n X dX12_count_223 rfl (by decide) rfl (ls1 := [(3, .int (0 : Int32)), (2, .int (0 : Int32)), (0, .ref (ad 150)), (1, .int a1)]) rfl ?_
    refine V_sub X (ls1 := [(0, .ref (ad 150)), (2, .int (0 : Int32)), (3, .int (0 : Int32))]) [2, 1, 0] rfl ?_
    obtain ⟨nn, h⟩ := h
    exact v_12_count_b224 X hr hZ nn _ _ _ _ h
  have h := h c12
  have z0 := tne c0 (z := 0) (by decide)
  have z1 := tne c1 (z := 1) (by decide)
  have z2 := tne c2 (z := 2) (by decide)
  have z3 := tne c3 (z := 3) (by decide)
  have z4 := tne c4 (z := 4) (by decide)
  have z5 := tne c5 (z := 5) (by decide)
  have z6 := tne c6 (z := 6) (by decide)
  have z7 := tne c7 (z := 7) (by decide)
  have z8 := tne c8 (z := 8) (by decide)
  have z9 := tne c9 (z := 9) (by decide)
  have z10 := tne c10 (z := 10) (by decide)
  have z11 := tne c11 (z := 11) (by decide)
  have z12 := tne c12 (z := 12) (by decide)
  refine V_tableOut X (tgt := 273) dX12_count_1 (by omega) (by decide) ?_
  refine V_iconst X (v := (-1 : Int32)) dX12_count_273 (by decide) ?_
  exact V_iret_m X hr dX12_count_274 h
theorem c_12_count {a1 : Int32} (hinj : INJ ad) (hZ : ad 1000 = 189) {w : Mem} {wl : MemL} {Q : Int32 → Mem → MemL → Prop} (h : wp_12_count a1 w wl Q) : Met l yX12_count (TBq yX12_count cX12_count 4 (some .int)) (RM 1) (va_Pc [.ref (ad 150), .int a1] (PB ad cy D (cmb wc w) wl)) (va_Qi (fun r (u : Mem × MemL) => Q r u.1 u.2) (BM ad cy D wc) (AW ad)) 0 0 (AW ad) := M_enter (by decide) (Nat.le_of_ble_eq_true rfl) hinj (fun p e s m args below meth c X hr => v_12_count X hr hZ h)
theorem mf_12_count : MFV yX12_count cX12_count 4 (some .int) yX12_count.cls 1 := ⟨q_1834, q_1832, q_1833, q_14, by decide⟩
theorem K_12_count {own : String} {idx : Nat} {a1 : Int32} (X : CXq p s m args meth c cc nL own ad cy D A H0) (hL : LK own idx yX12_count) (hZ : ad 1000 = 189) {w : Mem} {wl : MemL} {Q : Int32 → Mem → MemL → Prop} (h : wp_12_count a1 w wl Q) (hR : (RM 1).frames + 1 ≤ R.frames ∧ 8 + (4 + 11) + (RM 1).locals ≤ R.locals) (hce : ce ≤ R.cells ∧ sl ≤ R.slots) (hcat : (st1.map fun v => v.category).sum ≤ 8) (hd : decode cc pc = .ok (.invokevirtual idx, 3)) (kk : ∀ (r : Int32) (u : Mem) (v : MemL), Q r u v → V p l e R s m args below meth c nL ad cy D A H0 ce sl Qs wc u v (pc + 3) ls (.int r :: st1)) : V p l e R s m args below meth c nL ad cy D A H0 ce sl Qs wc w wl pc ls (.int a1 :: .ref (ad 150) :: st1) := V_callVI_m X mf_12_count hL (rfl : vwCl[12]? = some (RX12, TX12, 72)) (by decide) (rfl : SK 150 = 12) (hzk hZ (by decide)).2 (c_12_count X.2.2.2.2.2.2.2.1 hZ h) (As := [.int a1]) rfl ⟨rfl, rfl⟩ hR hce st1 rfl hcat hd kk
end
