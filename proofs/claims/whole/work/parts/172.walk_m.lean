-- printed by wip/whole/gen6.py out of the decode rows and the tables
section
variable {p : Program} {l : Launch} {e : Env} {R : Room} {s : State} {m : MethodId} {args : Array Value} {below : List Frame} {meth : Method} {c : Code} {cc : ByteArray} {nL : Nat} {ad : Nat → Nat} {cy : Nat → ClassId} {D : va_G} {A : Nat → Prop} {H0 : Heap} {ce sl : Nat} {Qs : State → Prop} {wc wm : Mem} {wl0 : MemL} {pc : Nat} {ls : List (Nat × Value)} {st1 : List Value}
set_option maxRecDepth 20000 in
theorem v_12_termOf_b159 (X : CXq p s m args meth c cX12_termOf 8 yX12_termOf.cls ad cy D (AW ad) s.heap) (hr : meth.sig.returnType = (some .int)) (hZ : ad 1000 = 189) {Q : Int32 → Mem → MemL → Prop} {L5 : Int32 → Int32 → Int32 → Mem → MemL → Prop} (HL5 : ∀ (l2 : Int32) (l3 : Int32) (l4 : Int32) (w : Mem) (wl : MemL), L5 l2 l3 l4 w wl → V p l e (RM 0) s m args below meth c 8 ad cy D (AW ad) s.heap 0 0 (MQ below (va_Qi (fun r (u : Mem × MemL) => Q r u.1 u.2) (BM ad cy D wc) (AW ad)) args s 0 0 (AW ad)) wc w wl 5 [(0, .ref (ad 150)), (2, .int l2), (3, .int l3), (4, .int l4)] []) : ∀ (l2 : Int32) (l3 : Int32) (l4 : Int32) (w : Mem) (wl : MemL), wp_12_termOf_b159 Q L5 l2 l3 l4 w wl → V p l e (RM 0) s m args below meth c 8 ad cy D (AW ad) s.heap 0 0 (MQ below (va_Qi (fun r (u : Mem × MemL) => Q r u.1 u.2) (BM ad cy D wc) (AW ad)) args s 0 0 (AW ad)) wc w wl 159 [(0, .ref (ad 150)), (2, .int l2), (3, .int l3), (4, .int l4)] [] := by
  intro l2 l3 l4 w wl h
  unfold wp_12_termOf_b159 at h
  obtain ⟨x1, ex1⟩ : ∃ y : Int32, y = l4 + (1 : Int32) := ⟨_, rfl⟩
  have h := h x1 ex1
  refine V_iinc X 3 dX12_termOf_159 rfl (by decide) (by rw [ex1]; rfl) (ls1 := [(4, .int x1), (0, .ref (ad 150)), (2, .int l2), (3, .int l3)]) rfl ?_
  refine V_goto X (tgt := 5) dX12_termOf_162 (by decide) ?_
  refine V_sub X (ls1 := [(0, .ref (ad 150)), (2, .int l2), (3, .int l3), (4, .int x1)]) [1, 2, 3, 0] rfl ?_
  exact HL5 _ _ _ _ _ h
set_option maxRecDepth 20000 in
theorem v_12_termOf_b158 (X : CXq p s m args meth c cX12_termOf 8 yX12_termOf.cls ad cy D (AW ad) s.heap) (hr : meth.sig.returnType = (some .int)) (hZ : ad 1000 = 189) {Q : Int32 → Mem → MemL → Prop} {L5 : Int32 → Int32 → Int32 → Mem → MemL → Prop} (HL5 : ∀ (l2 : Int32) (l3 : Int32) (l4 : Int32) (w : Mem) (wl : MemL), L5 l2 l3 l4 w wl → V p l e (RM 0) s m args below meth c 8 ad cy D (AW ad) s.heap 0 0 (MQ below (va_Qi (fun r (u : Mem × MemL) => Q r u.1 u.2) (BM ad cy D wc) (AW ad)) args s 0 0 (AW ad)) wc w wl 5 [(0, .ref (ad 150)), (2, .int l2), (3, .int l3), (4, .int l4)] []) : ∀ (l2 : Int32) (l3 : Int32) (l4 : Int32) (s1 : Int32) (s2 : Int32) (w : Mem) (wl : MemL), wp_12_termOf_b158 Q L5 l2 l3 l4 s1 s2 w wl → V p l e (RM 0) s m args below meth c 8 ad cy D (AW ad) s.heap 0 0 (MQ below (va_Qi (fun r (u : Mem × MemL) => Q r u.1 u.2) (BM ad cy D wc) (AW ad)) args s 0 0 (AW ad)) wc w wl 158 [(0, .ref (ad 150)), (2, .int l2), (3, .int l3), (4, .int l4)] [.int s2, .int s1, .ref (ad 179)] := by
  intro l2 l3 l4 s1 s2 w wl h
  unfold wp_12_termOf_b158 at h
  obtain ⟨g1, h⟩ := h
  obtain ⟨w2, ew2⟩ : ∃ y : Mem, y = st w 179 (ix s1) s2 := ⟨_, rfl⟩
  have h := h w2 ew2
  refine V_iast_m X (rfl : SLq 179 = 400) (hzk hZ (by decide)) (rfl : SK 179 = 14) g1 dX12_termOf_158 ew2 ?_
  refine V_sub X (ls1 := [(0, .ref (ad 150)), (2, .int l2), (3, .int l3), (4, .int l4)]) [0, 1, 2, 3] rfl ?_
  exact v_12_termOf_b159 X hr hZ HL5 _ _ _ _ _ h
set_option maxRecDepth 20000 in
theorem v_12_termOf_b104 (X : CXq p s m args meth c cX12_termOf 8 yX12_termOf.cls ad cy D (AW ad) s.heap) (hr : meth.sig.returnType = (some .int)) (hZ : ad 1000 = 189) {Q : Int32 → Mem → MemL → Prop} {L5 : Int32 → Int32 → Int32 → Mem → MemL → Prop} (HL5 : ∀ (l2 : Int32) (l3 : Int32) (l4 : Int32) (w : Mem) (wl : MemL), L5 l2 l3 l4 w wl → V p l e (RM 0) s m args below meth c 8 ad cy D (AW ad) s.heap 0 0 (MQ below (va_Qi (fun r (u : Mem × MemL) => Q r u.1 u.2) (BM ad cy D wc) (AW ad)) args s 0 0 (AW ad)) wc w wl 5 [(0, .ref (ad 150)), (2, .int l2), (3, .int l3), (4, .int l4)] []) : ∀ (l2 : Int32) (l3 : Int32) (l4 : Int32) (l5 : Int32) (l6 : Int32) (l7 : Int32) (w : Mem) (wl : MemL), wp_12_termOf_b104 Q L5 l2 l3 l4 l5 l6 l7 w wl → V p l e (RM 0) s m args below meth c 8 ad cy D (AW ad) s.heap 0 0 (MQ below (va_Qi (fun r (u : Mem × MemL) => Q r u.1 u.2) (BM ad cy D wc) (AW ad)) args s 0 0 (AW ad)) wc w wl 104 [(0, .ref (ad 150)), (2, .int l2), (3, .int l3), (4, .int l4), (5, .int l5), (6, .int l6), (7, .int l7)] [] := by
  intro l2 l3 l4 l5 l6 l7 w wl h
  unfold wp_12_termOf_b104 at h
  refine V_aload_n X (i := 0) 0 dX12_termOf_104 rfl rfl ?_
  refine G_12_104 X hZ dX12_termOf_105 ?_
  refine V_iload_n X (i := 3) 2 dX12_termOf_108 rfl rfl ?_
  refine V_iconst X (v := (1 : Int32)) dX12_termOf_109 (by decide) ?_
  refine V_isub X dX12_termOf_110 ?_
  refine V_iload X (i := 5) 4 dX12_termOf_111 rfl ?_
  refine V_iconst X (v := (2 : Int32)) dX12_termOf_113 (by decide) ?_
  obtain ⟨ht, hf⟩ := h
  refine V_icmp_ne X (tgt := 125) dX12_termOf_114 (by decide) (fun c => ?_) (fun c => ?_)
  · have h := ht c
    refine V_iload X (i := 5) 4 dX12_termOf_125 rfl ?_
    refine V_iconst X (v := (3 : Int32)) dX12_termOf_127 (by decide) ?_
    obtain ⟨ht, hf⟩ := h
    refine V_icmp_ne X (tgt := 139) dX12_termOf_128 (by decide) (fun c => ?_) (fun c => ?_)
    · have h := ht c
      refine V_iload X (i := 5) 4 dX12_termOf_139 rfl ?_
      refine V_iconst X (v := (4 : Int32)) dX12_termOf_141 (by decide) ?_
      obtain ⟨ht, hf⟩ := h
      refine V_icmp_ne X (tgt := 153) dX12_termOf_142 (by decide) (fun c => ?_) (fun c => ?_)
      · have h := ht c
        refine V_iload X (i := 6) 5 dX12_termOf_153 rfl ?_
        refine V_iload X (i := 7) 6 dX12_termOf_155 rfl ?_
        obtain ⟨g1, h⟩ := h
        refine V_idiv X dX12_termOf_157 g1 ?_
        refine V_sub X (ls1 := [(0, .ref (ad 150)), (2, .int l2), (3, .int l3), (4, .int l4)]) [0, 1, 2, 3] rfl ?_
        exact v_12_termOf_b158 X hr hZ HL5 _ _ _ _ _ _ _ h
      · have h := hf c
        refine V_iload X (i := 6) 5 dX12_termOf_145 rfl ?_
        refine V_iload X (i := 7) 6 dX12_termOf_147 rfl ?_
        refine V_imul X dX12_termOf_149 ?_
        refine V_goto X (tgt := 158) dX12_termOf_150 (by decide) ?_
        refine V_sub X (ls1 := [(0, .ref (ad 150)), (2, .int l2), (3, .int l3), (4, .int l4)]) [0, 1, 2, 3] rfl ?_
        exact v_12_termOf_b158 X hr hZ HL5 _ _ _ _ _ _ _ h
    · have h := hf c
      refine V_iload X (i := 6) 5 dX12_termOf_131 rfl ?_
      refine V_iload X (i := 7) 6 dX12_termOf_133 rfl ?_
      refine V_isub X dX12_termOf_135 ?_
      refine V_goto X (tgt := 158) dX12_termOf_136 (by decide) ?_
      refine V_sub X (ls1 := [(0, .ref (ad 150)), (2, .int l2), (3, .int l3), (4, .int l4)]) [0, 1, 2, 3] rfl ?_
      exact v_12_termOf_b158 X hr hZ HL5 _ _ _ _ _ _ _ h
  · have h := hf c
    refine V_iload X (i := 6) 5 dX12_termOf_117 rfl ?_
    refine V_iload X (i := 7) 6 dX12_termOf_119 rfl ?_
    refine V_iadd X dX12_termOf_121 ?_
    refine V_goto X (tgt := 158) dX12_termOf_122 (by decide) ?_
    refine V_sub X (ls1 := [(0, .ref (ad 150)), (2, .int l2), (3, .int l3), (4, .int l4)]) [0, 1, 2, 3] rfl ?_
    exact v_12_termOf_b158 X hr hZ HL5 _ _ _ _ _ _ _ h
set_option maxRecDepth 20000 in
theorem v_12_termOf_b58 (X : CXq p s m args meth c cX12_termOf 8 yX12_termOf.cls ad cy D (AW ad) s.heap) (hr : meth.sig.returnType = (some .int)) (hZ : ad 1000 = 189) {Q : Int32 → Mem → MemL → Prop} {L5 : Int32 → Int32 → Int32 → Mem → MemL → Prop} (HL5 : ∀ (l2 : Int32) (l3 : Int32) (l4 : Int32) (w : Mem) (wl : MemL), L5 l2 l3 l4 w wl → V p l e (RM 0) s m args below meth c 8 ad cy D (AW ad) s.heap 0 0 (MQ below (va_Qi (fun r (u : Mem × MemL) => Q r u.1 u.2) (BM ad cy D wc) (AW ad)) args s 0 0 (AW ad)) wc w wl 5 [(0, .ref (ad 150)), (2, .int l2), (3, .int l3), (4, .int l4)] []) : ∀ (l2 : Int32) (l3 : Int32) (l4 : Int32) (s1 : Int32) (s2 : Int32) (w : Mem) (wl : MemL), wp_12_termOf_b58 Q L5 l2 l3 l4 s1 s2 w wl → V p l e (RM 0) s m args below meth c 8 ad cy D (AW ad) s.heap 0 0 (MQ below (va_Qi (fun r (u : Mem × MemL) => Q r u.1 u.2) (BM ad cy D wc) (AW ad)) args s 0 0 (AW ad)) wc w wl 58 [(0, .ref (ad 150)), (2, .int l2), (3, .int l3), (4, .int l4)] [.int s2, .int s1, .ref (ad 179)] := by
  intro l2 l3 l4 s1 s2 w wl h
  unfold wp_12_termOf_b58 at h
  obtain ⟨g1, h⟩ := h
  obtain ⟨w2, ew2⟩ : ∃ y : Mem, y = st w 179 (ix s1) s2 := ⟨_, rfl⟩
  have h := h w2 ew2
  refine V_iast_m X (rfl : SLq 179 = 400) (hzk hZ (by decide)) (rfl : SK 179 = 14) g1 dX12_termOf_58 ew2 ?_
  obtain ⟨x3, ex3⟩ : ∃ y : Int32, y = l3 + (1 : Int32) := ⟨_, rfl⟩
  have h := h x3 ex3
  refine V_iinc X 2 dX12_termOf_59 rfl (by decide) (by rw [ex3]; rfl) (ls1 := [(3, .int x3), (0, .ref (ad 150)), (2, .int l2), (4, .int l4)]) rfl ?_
  refine V_goto X (tgt := 159) dX12_termOf_62 (by decide) ?_
  refine V_sub X (ls1 := [(0, .ref (ad 150)), (2, .int l2), (3, .int x3), (4, .int l4)]) [1, 2, 0, 3] rfl ?_
  exact v_12_termOf_b159 X hr hZ HL5 _ _ _ _ _ h
set_option maxRecDepth 20000 in
theorem v_12_termOf_b5 (X : CXq p s m args meth c cX12_termOf 8 yX12_termOf.cls ad cy D (AW ad) s.heap) (hr : meth.sig.returnType = (some .int)) (hZ : ad 1000 = 189) {Q : Int32 → Mem → MemL → Prop} : ∀ (n : Nat) (l2 : Int32) (l3 : Int32) (l4 : Int32) (w : Mem) (wl : MemL), wp_12_termOf_b5 Q n l2 l3 l4 w wl → V p l e (RM 0) s m args below meth c 8 ad cy D (AW ad) s.heap 0 0 (MQ below (va_Qi (fun r (u : Mem × MemL) => Q r u.1 u.2) (BM ad cy D wc) (AW ad)) args s 0 0 (AW ad)) wc w wl 5 [(0, .ref (ad 150)), (2, .int l2), (3, .int l3), (4, .int l4)] [] := by
  intro n
  induction n with
  | zero =>
    intro l2 l3 l4 w wl h
    exact h.elim
  | succ n ih =>
    intro l2 l3 l4 w wl h
    unfold wp_12_termOf_b5 at h
    refine V_iload X (i := 4) 3 dX12_termOf_5 rfl ?_
    refine V_iload_n X (i := 2) 1 dX12_termOf_7 rfl rfl ?_
    obtain ⟨ht, hf⟩ := h
    refine V_icmp_ge X (tgt := 165) dX12_termOf_8 (by decide) (fun c => ?_) (fun c => ?_)
    · have h := ht c
      refine V_aload_n X (i := 0) 0 dX12_termOf_165 rfl rfl ?_
      refine G_12_104 X hZ dX12_termOf_166 ?_
      refine V_iconst X (v := (0 : Int32)) dX12_termOf_169 (by decide) ?_
      refine V_iald_m X (rfl : SLq 179 = 400) (hzk hZ (by decide)) (rfl : SK 179 = 14) (vpl (by decide)) dX12_termOf_170 ?_
      exact V_iret_m X hr dX12_termOf_171 h
    · have h := hf c
      refine V_aload_n X (i := 0) 0 dX12_termOf_11 rfl rfl ?_
      refine G_12_92 X hZ dX12_termOf_12 ?_
      refine V_iload X (i := 4) 3 dX12_termOf_15 rfl ?_
      obtain ⟨g1, h⟩ := h
      refine V_iald_m X (rfl : SLq 175 = 840) (hzk hZ (by decide)) (rfl : SK 175 = 14) g1 dX12_termOf_17 ?_
      obtain ⟨x2, ex2⟩ : ∃ y : Int32, y = (w 175 (ix l4)) := ⟨_, rfl⟩
      have h := h x2 ex2
      refine V_istore X dX12_termOf_18 (by decide) ex2 (ls1 := [(5, .int x2), (0, .ref (ad 150)), (2, .int l2), (3, .int l3), (4, .int l4)]) rfl ?_
      refine V_iload X (i := 5) 0 dX12_termOf_20 rfl ?_
      refine V_iconst X (v := (2 : Int32)) dX12_termOf_22 (by decide) ?_
      obtain ⟨ht, hf⟩ := h
      refine V_icmp_ge X (tgt := 65) dX12_termOf_23 (by decide) (fun c => ?_) (fun c => ?_)
      · have h := ht c
        obtain ⟨x3, ex3⟩ : ∃ y : Int32, y = l3 + (-1 : Int32) := ⟨_, rfl⟩
        have h := h x3 ex3
        refine V_iinc X 3 dX12_termOf_65 rfl (by decide) (by rw [ex3]; rfl) (ls1 := [(3, .int x3), (5, .int x2), (0, .ref (ad 150)), (2, .int l2), (4, .int l4)]) rfl ?_
        refine V_aload_n X (i := 0) 2 dX12_termOf_68 rfl rfl ?_
        refine G_12_104 X hZ dX12_termOf_69 ?_
        refine V_iload_n X (i := 3) 0 dX12_termOf_72 rfl rfl ?_
        refine V_iconst X (v := (1 : Int32)) dX12_termOf_73 (by decide) ?_
        refine V_isub X dX12_termOf_74 ?_
        obtain ⟨g4, h⟩ := h
        refine V_iald_m X (rfl : SLq 179 = 400) (hzk hZ (by decide)) (rfl : SK 179 = 14) g4 dX12_termOf_75 ?_
        obtain ⟨x5, ex5⟩ : ∃ y : Int32, y = (w 179 (ix (x3 - (1 : Int32)))) := ⟨_, rfl⟩
        have h := h x5 ex5
        refine V_istore X dX12_termOf_76 (by decide) ex5 (ls1 := [(6, .int x5), (3, .int x3), (5, .int x2), (0, .ref (ad 150)), (2, .int l2), (4, .int l4)]) rfl ?_
        refine V_aload_n X (i := 0) 3 dX12_termOf_78 rfl rfl ?_
        refine G_12_104 X hZ dX12_termOf_79 ?_
        refine V_iload_n X (i := 3) 1 dX12_termOf_82 rfl rfl ?_
        obtain ⟨g6, h⟩ := h
        refine V_iald_m X (rfl : SLq 179 = 400) (hzk hZ (by decide)) (rfl : SK 179 = 14) g6 dX12_termOf_83 ?_
        obtain ⟨x7, ex7⟩ : ∃ y : Int32, y = (w 179 (ix x3)) := ⟨_, rfl⟩
        have h := h x7 ex7
        refine V_istore X dX12_termOf_84 (by decide) ex7 (ls1 := [(7, .int x7), (6, .int x5), (3, .int x3), (5, .int x2), (0, .ref (ad 150)), (2, .int l2), (4, .int l4)]) rfl ?_
        refine V_iload X (i := 5) 3 dX12_termOf_86 rfl ?_
        refine V_iconst X (v := (5 : Int32)) dX12_termOf_88 (by decide) ?_
        obtain ⟨ht, hf⟩ := h
        refine V_icmp_ne X (tgt := 104) dX12_termOf_89 (by decide) (fun c => ?_) (fun c => ?_)
        · have h := ht c
          refine V_sub X (ls1 := [(0, .ref (ad 150)), (2, .int l2), (3, .int x3), (4, .int l4), (5, .int x2), (6, .int x5), (7, .int x7)]) [4, 5, 2, 6, 3, 1, 0] rfl ?_
          exact v_12_termOf_b104 X hr hZ ih _ _ _ _ _ _ _ _ h
        · have h := hf c
          refine V_iload X (i := 7) 0 dX12_termOf_92 rfl ?_
          obtain ⟨ht, hf⟩ := h
          refine V_if_ne X (tgt := 104) dX12_termOf_94 (by decide) (fun c => ?_) (fun c => ?_)
          · have h := ht c
            refine V_sub X (ls1 := [(0, .ref (ad 150)), (2, .int l2), (3, .int x3), (4, .int l4), (5, .int x2), (6, .int x5), (7, .int x7)]) [4, 5, 2, 6, 3, 1, 0] rfl ?_
            exact v_12_termOf_b104 X hr hZ ih _ _ _ _ _ _ _ _ h
          · have h := hf c
            refine V_aload_n X (i := 0) 4 dX12_termOf_97 rfl rfl ?_
            refine V_iconst X (v := (1 : Int32)) dX12_termOf_98 (by decide) ?_
            obtain ⟨w8, ew8⟩ : ∃ y : Mem, y = st w 150 46 (1 : Int32) := ⟨_, rfl⟩
            have h := h w8 ew8
            refine U_12_289 X hZ rfl rfl dX12_termOf_99 ew8 ?_
            refine V_iconst X (v := (0 : Int32)) dX12_termOf_102 (by decide) ?_
            exact V_iret_m X hr dX12_termOf_103 h
      · have h := hf c
        refine V_aload_n X (i := 0) 1 dX12_termOf_26 rfl rfl ?_
        refine G_12_104 X hZ dX12_termOf_27 ?_
        refine V_iload_n X (i := 3) 3 dX12_termOf_30 rfl rfl ?_
        refine V_iload X (i := 5) 0 dX12_termOf_31 rfl ?_
        obtain ⟨ht, hf⟩ := h
        refine V_if_ne X (tgt := 46) dX12_termOf_33 (by decide) (fun c => ?_) (fun c => ?_)
        · have h := ht c
          refine V_aload_n X (i := 0) 1 dX12_termOf_46 rfl rfl ?_
          refine G_12_101 X hZ dX12_termOf_47 ?_
          refine V_aload_n X (i := 0) 1 dX12_termOf_50 rfl rfl ?_
          refine G_12_95 X hZ dX12_termOf_51 ?_
          refine V_iload X (i := 4) 4 dX12_termOf_54 rfl ?_
          obtain ⟨g9, h⟩ := h
          refine V_iald_m X (rfl : SLq 176 = 840) (hzk hZ (by decide)) (rfl : SK 176 = 14) g9 dX12_termOf_56 ?_
          obtain ⟨g10, h⟩ := h
          refine V_iald_m X (rfl : SLq 178 = 11) (hzk hZ (by decide)) (rfl : SK 178 = 14) g10 dX12_termOf_57 ?_
          refine V_sub X (ls1 := [(0, .ref (ad 150)), (2, .int l2), (3, .int l3), (4, .int l4)]) [1, 2, 3, 4] rfl ?_
          exact v_12_termOf_b58 X hr hZ ih _ _ _ _ _ _ _ h
        · have h := hf c
          refine V_aload_n X (i := 0) 1 dX12_termOf_36 rfl rfl ?_
          refine G_12_95 X hZ dX12_termOf_37 ?_
          refine V_iload X (i := 4) 4 dX12_termOf_40 rfl ?_
          obtain ⟨g11, h⟩ := h
          refine V_iald_m X (rfl : SLq 176 = 840) (hzk hZ (by decide)) (rfl : SK 176 = 14) g11 dX12_termOf_42 ?_
          refine V_goto X (tgt := 58) dX12_termOf_43 (by decide) ?_
          refine V_sub X (ls1 := [(0, .ref (ad 150)), (2, .int l2), (3, .int l3), (4, .int l4)]) [1, 2, 3, 4] rfl ?_
          exact v_12_termOf_b58 X hr hZ ih _ _ _ _ _ _ _ h
set_option maxRecDepth 20000 in
theorem v_12_termOf {a1 : Int32} {a2 : Int32} (X : CXq p s m args meth c cX12_termOf 8 yX12_termOf.cls ad cy D (AW ad) s.heap) (hr : meth.sig.returnType = (some .int)) (hZ : ad 1000 = 189) {w : Mem} {wl : MemL} {Q : Int32 → Mem → MemL → Prop} (h : wp_12_termOf a1 a2 w wl Q) : V p l e (RM 0) s m args below meth c 8 ad cy D (AW ad) s.heap 0 0 (MQ below (va_Qi (fun r (u : Mem × MemL) => Q r u.1 u.2) (BM ad cy D wc) (AW ad)) args s 0 0 (AW ad)) wc w wl 0 [(0, .ref (ad 150)), (1, .int a1), (2, .int a2)] [] := by
  unfold wp_12_termOf at h
  refine V_iconst X (v := (0 : Int32)) dX12_termOf_0 (by decide) ?_
  refine V_istore_n X dX12_termOf_1 rfl (by decide) rfl (ls1 := [(3, .int (0 : Int32)), (0, .ref (ad 150)), (1, .int a1), (2, .int a2)]) rfl ?_
  refine V_iload_n X (i := 1) 2 dX12_termOf_2 rfl rfl ?_
  refine V_istore X dX12_termOf_3 (by decide) rfl (ls1 := [(4, .int a1), (3, .int (0 : Int32)), (0, .ref (ad 150)), (1, .int a1), (2, .int a2)]) rfl ?_
  refine V_sub X (ls1 := [(0, .ref (ad 150)), (2, .int a2), (3, .int (0 : Int32)), (4, .int a1)]) [2, 4, 1, 0] rfl ?_
  obtain ⟨nn, h⟩ := h
  exact v_12_termOf_b5 X hr hZ nn _ _ _ _ _ h
theorem c_12_termOf {a1 : Int32} {a2 : Int32} (hinj : INJ ad) (hZ : ad 1000 = 189) {w : Mem} {wl : MemL} {Q : Int32 → Mem → MemL → Prop} (h : wp_12_termOf a1 a2 w wl Q) : Met l yX12_termOf (TBq yX12_termOf cX12_termOf 8 (some .int)) (RM 0) (va_Pc [.ref (ad 150), .int a1, .int a2] (PB ad cy D (cmb wc w) wl)) (va_Qi (fun r (u : Mem × MemL) => Q r u.1 u.2) (BM ad cy D wc) (AW ad)) 0 0 (AW ad) := M_enter (by decide) (Nat.le_of_ble_eq_true rfl) hinj (fun p e s m args below meth c X hr => v_12_termOf X hr hZ h)
theorem mf_12_termOf : MFV yX12_termOf cX12_termOf 8 (some .int) yX12_termOf.cls 2 := ⟨q_1592, q_1591, qs_74, q_14, by decide⟩
theorem K_12_termOf {own : String} {idx : Nat} {a1 : Int32} {a2 : Int32} (X : CXq p s m args meth c cc nL own ad cy D A H0) (hL : LK own idx yX12_termOf) (hZ : ad 1000 = 189) {w : Mem} {wl : MemL} {Q : Int32 → Mem → MemL → Prop} (h : wp_12_termOf a1 a2 w wl Q) (hR : (RM 0).frames + 1 ≤ R.frames ∧ 8 + (8 + 11) + (RM 0).locals ≤ R.locals) (hce : ce ≤ R.cells ∧ sl ≤ R.slots) (hcat : (st1.map fun v => v.category).sum ≤ 8) (hd : decode cc pc = .ok (.invokevirtual idx, 3)) (kk : ∀ (r : Int32) (u : Mem) (v : MemL), Q r u v → V p l e R s m args below meth c nL ad cy D A H0 ce sl Qs wc u v (pc + 3) ls (.int r :: st1)) : V p l e R s m args below meth c nL ad cy D A H0 ce sl Qs wc w wl pc ls (.int a2 :: .int a1 :: .ref (ad 150) :: st1) := V_callVI_m X mf_12_termOf hL (rfl : vwCl[12]? = some (RX12, TX12, 72)) (by decide) (rfl : SK 150 = 12) (hzk hZ (by decide)).2 (c_12_termOf X.2.2.2.2.2.2.2.1 hZ h) (As := [.int a1, .int a2]) rfl ⟨rfl, rfl⟩ hR hce st1 rfl hcat hd kk
set_option maxRecDepth 20000 in
theorem v_12_in_b14 (X : CXq p s m args meth c cX12_in 3 yX12_in.cls ad cy D (AW ad) s.heap) (hr : meth.sig.returnType = (some .boolean)) (hZ : ad 1000 = 189) {Q : Int32 → Mem → MemL → Prop} : ∀ (w : Mem) (wl : MemL), wp_12_in_b14 Q w wl → V p l e (RM 0) s m args below meth c 3 ad cy D (AW ad) s.heap 0 0 (MQ below (va_Qi (fun r (u : Mem × MemL) => Q r u.1 u.2) (BM ad cy D wc) (AW ad)) args s 0 0 (AW ad)) wc w wl 14 [] [] := by
  intro w wl h
  unfold wp_12_in_b14 at h
  refine V_iconst X (v := (0 : Int32)) dX12_in_14 (by decide) ?_
  exact V_zret_m X hr dX12_in_15 rfl h
set_option maxRecDepth 20000 in
theorem v_12_in {a1 : Int32} {a2 : Int32} {a3 : Int32} (X : CXq p s m args meth c cX12_in 3 yX12_in.cls ad cy D (AW ad) s.heap) (hr : meth.sig.returnType = (some .boolean)) (hZ : ad 1000 = 189) {w : Mem} {wl : MemL} {Q : Int32 → Mem → MemL → Prop} (h : wp_12_in a1 a2 a3 w wl Q) : V p l e (RM 0) s m args below meth c 3 ad cy D (AW ad) s.heap 0 0 (MQ below (va_Qi (fun r (u : Mem × MemL) => Q r u.1 u.2) (BM ad cy D wc) (AW ad)) args s 0 0 (AW ad)) wc w wl 0 [(0, .int a1), (1, .int a2), (2, .int a3)] [] := by
  unfold wp_12_in at h
  refine V_iload_n X (i := 0) 0 dX12_in_0 rfl rfl ?_
  refine V_iload_n X (i := 1) 1 dX12_in_1 rfl rfl ?_
  obtain ⟨ht, hf⟩ := h
  refine V_icmp_lt X (tgt := 14) dX12_in_2 (by decide) (fun c => ?_) (fun c => ?_)
  · have h := ht c
    refine V_sub X (ls1 := []) [] rfl ?_
    exact v_12_in_b14 X hr hZ _ _ h
  · have h := hf c
    refine V_iload_n X (i := 0) 0 dX12_in_5 rfl rfl ?_
    refine V_iload_n X (i := 2) 2 dX12_in_6 rfl rfl ?_
    obtain ⟨ht, hf⟩ := h
    refine V_icmp_gt X (tgt := 14) dX12_in_7 (by decide) (fun c => ?_) (fun c => ?_)
    · have h := ht c
      refine V_sub X (ls1 := []) [] rfl ?_
      exact v_12_in_b14 X hr hZ _ _ h
    · have h := hf c
      refine V_iconst X (v := (1 : Int32)) dX12_in_10 (by decide) ?_
      refine V_goto X (tgt := 15) dX12_in_11 (by decide) ?_
      exact V_zret_m X hr dX12_in_15 rfl h
theorem c_12_in {a1 : Int32} {a2 : Int32} {a3 : Int32} (hinj : INJ ad) (hZ : ad 1000 = 189) {w : Mem} {wl : MemL} {Q : Int32 → Mem → MemL → Prop} (h : wp_12_in a1 a2 a3 w wl Q) : Met l yX12_in (TBq yX12_in cX12_in 3 (some .boolean)) (RM 0) (va_Pc [.int a1, .int a2, .int a3] (PB ad cy D (cmb wc w) wl)) (va_Qi (fun r (u : Mem × MemL) => Q r u.1 u.2) (BM ad cy D wc) (AW ad)) 0 0 (AW ad) := M_enter (by decide) (Nat.le_of_ble_eq_true rfl) hinj (fun p e s m args below meth c X hr => v_12_in X hr hZ h)
theorem mf_12_in : MFS yX12_in cX12_in 3 (some .boolean) 3 := ⟨q_1611, q_1610, q_14, by decide⟩
theorem K_12_in {own : String} {idx : Nat} {a1 : Int32} {a2 : Int32} {a3 : Int32} (X : CXq p s m args meth c cc nL own ad cy D A H0) (hL : LK own idx yX12_in) (hZ : ad 1000 = 189) {w : Mem} {wl : MemL} {Q : Int32 → Mem → MemL → Prop} (h : wp_12_in a1 a2 a3 w wl Q) (hR : (RM 0).frames + 1 ≤ R.frames ∧ 8 + (3 + 11) + (RM 0).locals ≤ R.locals) (hce : ce ≤ R.cells ∧ sl ≤ R.slots) (hcat : (st1.map fun v => v.category).sum ≤ 8) (hd : decode cc pc = .ok (.invokestatic idx, 3)) (kk : ∀ (r : Int32) (u : Mem) (v : MemL), Q r u v → V p l e R s m args below meth c nL ad cy D A H0 ce sl Qs wc u v (pc + 3) ls (.int r :: st1)) : V p l e R s m args below meth c nL ad cy D A H0 ce sl Qs wc w wl pc ls (.int a3 :: .int a2 :: .int a1 :: st1) := V_callSI_m X mf_12_in hL (c_12_in X.2.2.2.2.2.2.2.1 hZ h) (As := [.int a1, .int a2, .int a3]) rfl ⟨rfl, rfl⟩ hR hce st1 rfl hcat hd kk
set_option maxRecDepth 20000 in
theorem v_12_isMan {a1 : Int32} (X : CXq p s m args meth c cX12_isMan 2 yX12_isMan.cls ad cy D (AW ad) s.heap) (hr : meth.sig.returnType = (some .boolean)) (hZ : ad 1000 = 189) {w : Mem} {wl : MemL} {Q : Int32 → Mem → MemL → Prop} (h : wp_12_isMan a1 w wl Q) : V p l e (RM 1) s m args below meth c 2 ad cy D (AW ad) s.heap 0 0 (MQ below (va_Qi (fun r (u : Mem × MemL) => Q r u.1 u.2) (BM ad cy D wc) (AW ad)) args s 0 0 (AW ad)) wc w wl 0 [(0, .ref (ad 150)), (1, .int a1)] [] := by
  unfold wp_12_isMan at h
  refine V_iload_n X (i := 1) 1 dX12_isMan_0 rfl rfl ?_
  refine V_iconst X (v := (0 : Int32)) dX12_isMan_1 (by decide) ?_
  refine V_aload_n X (i := 0) 0 dX12_isMan_2 rfl rfl ?_
  refine G_12_46 X hZ dX12_isMan_3 ?_
  refine V_aload_n X (i := 0) 0 dX12_isMan_6 rfl rfl ?_
  refine G_12_218 X hZ dX12_isMan_7 ?_
  obtain ⟨g1, h⟩ := h
  refine V_iald_m X (rfl : SLq 160 = 2) (hzk hZ (by decide)) (rfl : SK 160 = 14) g1 dX12_isMan_10 ?_
  refine V_iconst X (v := (1 : Int32)) dX12_isMan_11 (by decide) ?_
  refine V_isub X dX12_isMan_12 ?_
  refine K_12_in X (Or.inl q_1609) hZ h ⟨Nat.le_of_ble_eq_true rfl, Nat.le_of_ble_eq_true rfl⟩ ⟨Nat.zero_le _, Nat.zero_le _⟩ (st1 := []) (Nat.le_of_ble_eq_true rfl) dX12_isMan_13 (fun r3 w2 v4 h => ?_)
  exact V_zret_m X hr dX12_isMan_16 (bo_z h.1) h.2
theorem c_12_isMan {a1 : Int32} (hinj : INJ ad) (hZ : ad 1000 = 189) {w : Mem} {wl : MemL} {Q : Int32 → Mem → MemL → Prop} (h : wp_12_isMan a1 w wl Q) : Met l yX12_isMan (TBq yX12_isMan cX12_isMan 2 (some .boolean)) (RM 1) (va_Pc [.ref (ad 150), .int a1] (PB ad cy D (cmb wc w) wl)) (va_Qi (fun r (u : Mem × MemL) => Q r u.1 u.2) (BM ad cy D wc) (AW ad)) 0 0 (AW ad) := M_enter (by decide) (Nat.le_of_ble_eq_true rfl) hinj (fun p e s m args below meth c X hr => v_12_isMan X hr hZ h)
theorem mf_12_isMan : MFV yX12_isMan cX12_isMan 2 (some .boolean) yX12_isMan.cls 1 := ⟨q_1624, q_1623, qs_78, q_14, by decide⟩
theorem K_12_isMan {own : String} {idx : Nat} {a1 : Int32} (X : CXq p s m args meth c cc nL own ad cy D A H0) (hL : LK own idx yX12_isMan) (hZ : ad 1000 = 189) {w : Mem} {wl : MemL} {Q : Int32 → Mem → MemL → Prop} (h : wp_12_isMan a1 w wl Q) (hR : (RM 1).frames + 1 ≤ R.frames ∧ 8 + (2 + 11) + (RM 1).locals ≤ R.locals) (hce : ce ≤ R.cells ∧ sl ≤ R.slots) (hcat : (st1.map fun v => v.category).sum ≤ 8) (hd : decode cc pc = .ok (.invokevirtual idx, 3)) (kk : ∀ (r : Int32) (u : Mem) (v : MemL), Q r u v → V p l e R s m args below meth c nL ad cy D A H0 ce sl Qs wc u v (pc + 3) ls (.int r :: st1)) : V p l e R s m args below meth c nL ad cy D A H0 ce sl Qs wc w wl pc ls (.int a1 :: .ref (ad 150) :: st1) := V_callVI_m X mf_12_isMan hL (rfl : vwCl[12]? = some (RX12, TX12, 72)) (by decide) (rfl : SK 150 = 12) (hzk hZ (by decide)).2 (c_12_isMan X.2.2.2.2.2.2.2.1 hZ h) (As := [.int a1]) rfl ⟨rfl, rfl⟩ hR hce st1 rfl hcat hd kk
set_option maxRecDepth 20000 in
theorem v_12_isJudge {a1 : Int32} (X : CXq p s m args meth c cX12_isJudge 2 yX12_isJudge.cls ad cy D (AW ad) s.heap) (hr : meth.sig.returnType = (some .boolean)) (hZ : ad 1000 = 189) {w : Mem} {wl : MemL} {Q : Int32 → Mem → MemL → Prop} (h : wp_12_isJudge a1 w wl Q) : V p l e (RM 1) s m args below meth c 2 ad cy D (AW ad) s.heap 0 0 (MQ below (va_Qi (fun r (u : Mem × MemL) => Q r u.1 u.2) (BM ad cy D wc) (AW ad)) args s 0 0 (AW ad)) wc w wl 0 [(0, .ref (ad 150)), (1, .int a1)] [] := by
  unfold wp_12_isJudge at h
  refine V_iload_n X (i := 1) 1 dX12_isJudge_0 rfl rfl ?_
  refine V_iconst X (v := (0 : Int32)) dX12_isJudge_1 (by decide) ?_
  refine V_aload_n X (i := 0) 0 dX12_isJudge_2 rfl rfl ?_
  refine G_12_61 X hZ dX12_isJudge_3 ?_
  refine V_aload_n X (i := 0) 0 dX12_isJudge_6 rfl rfl ?_
  refine G_12_218 X hZ dX12_isJudge_7 ?_
  obtain ⟨g1, h⟩ := h
  refine V_iald_m X (rfl : SLq 165 = 2) (hzk hZ (by decide)) (rfl : SK 165 = 14) g1 dX12_isJudge_10 ?_
  refine V_iconst X (v := (1 : Int32)) dX12_isJudge_11 (by decide) ?_
  refine V_isub X dX12_isJudge_12 ?_
  refine K_12_in X (Or.inl q_1609) hZ h ⟨Nat.le_of_ble_eq_true rfl, Nat.le_of_ble_eq_true rfl⟩ ⟨Nat.zero_le _, Nat.zero_le _⟩ (st1 := []) (Nat.le_of_ble_eq_true rfl) dX12_isJudge_13 (fun r3 w2 v4 h => ?_)
  exact V_zret_m X hr dX12_isJudge_16 (bo_z h.1) h.2
theorem c_12_isJudge {a1 : Int32} (hinj : INJ ad) (hZ : ad 1000 = 189) {w : Mem} {wl : MemL} {Q : Int32 → Mem → MemL → Prop} (h : wp_12_isJudge a1 w wl Q) : Met l yX12_isJudge (TBq yX12_isJudge cX12_isJudge 2 (some .boolean)) (RM 1) (va_Pc [.ref (ad 150), .int a1] (PB ad cy D (cmb wc w) wl)) (va_Qi (fun r (u : Mem × MemL) => Q r u.1 u.2) (BM ad cy D wc) (AW ad)) 0 0 (AW ad) := M_enter (by decide) (Nat.le_of_ble_eq_true rfl) hinj (fun p e s m args below meth c X hr => v_12_isJudge X hr hZ h)
theorem mf_12_isJudge : MFV yX12_isJudge cX12_isJudge 2 (some .boolean) yX12_isJudge.cls 1 := ⟨q_1632, q_1631, qs_79, q_14, by decide⟩
theorem K_12_isJudge {own : String} {idx : Nat} {a1 : Int32} (X : CXq p s m args meth c cc nL own ad cy D A H0) (hL : LK own idx yX12_isJudge) (hZ : ad 1000 = 189) {w : Mem} {wl : MemL} {Q : Int32 → Mem → MemL → Prop} (h : wp_12_isJudge a1 w wl Q) (hR : (RM 1).frames + 1 ≤ R.frames ∧ 8 + (2 + 11) + (RM 1).locals ≤ R.locals) (hce : ce ≤ R.cells ∧ sl ≤ R.slots) (hcat : (st1.map fun v => v.category).sum ≤ 8) (hd : decode cc pc = .ok (.invokevirtual idx, 3)) (kk : ∀ (r : Int32) (u : Mem) (v : MemL), Q r u v → V p l e R s m args below meth c nL ad cy D A H0 ce sl Qs wc u v (pc + 3) ls (.int r :: st1)) : V p l e R s m args below meth c nL ad cy D A H0 ce sl Qs wc w wl pc ls (.int a1 :: .ref (ad 150) :: st1) := V_callVI_m X mf_12_isJudge hL (rfl : vwCl[12]? = some (RX12, TX12, 72)) (by decide) (rfl : SK 150 = 12) (hzk hZ (by decide)).2 (c_12_isJudge X.2.2.2.2.2.2.2.1 hZ h) (As := [.int a1]) rfl ⟨rfl, rfl⟩ hR hce st1 rfl hcat hd kk
set_option maxRecDepth 20000 in
theorem v_12_copies_b2 (X : CXq p s m args meth c cX12_copies 2 yX12_copies.cls ad cy D (AW ad) s.heap) (hr : meth.sig.returnType = none) (hZ : ad 1000 = 189) {Q : Mem → MemL → Prop} : ∀ (n : Nat) (l1 : Int32) (w : Mem) (wl : MemL), wp_12_copies_b2 Q n l1 w wl → V p l e (RM 2) s m args below meth c 2 ad cy D (AW ad) s.heap 0 0 (MQ below (va_Qv (fun (u : Mem × MemL) => Q u.1 u.2) (BM ad cy D wc) (AW ad)) args s 0 0 (AW ad)) wc w wl 2 [(0, .ref (ad 150)), (1, .int l1)] [] := by
  intro n
  induction n with
  | zero =>
    intro l1 w wl h
    exact h.elim
  | succ n ih =>
    intro l1 w wl h
    unfold wp_12_copies_b2 at h
    refine V_iload_n X (i := 1) 1 dX12_copies_2 rfl rfl ?_
    refine V_sipush X (v := (260 : Int32)) dX12_copies_3 (by decide) ?_
    obtain ⟨ht, hf⟩ := h
    refine V_icmp_ge X (tgt := 27) dX12_copies_6 (by decide) (fun c => ?_) (fun c => ?_)
    · have h := ht c
      refine V_aload_n X (i := 0) 0 dX12_copies_27 rfl rfl ?_
      refine K_12_plainly X (Or.inl q_1207) hZ h ⟨Nat.le_of_ble_eq_true rfl, Nat.le_of_ble_eq_true rfl⟩ ⟨Nat.zero_le _, Nat.zero_le _⟩ (st1 := []) (Nat.le_of_ble_eq_true rfl) dX12_copies_28 (fun w1 v2 h => ?_)
      exact V_vret_m X hr dX12_copies_31 h
    · have h := hf c
      refine V_aload_n X (i := 0) 0 dX12_copies_9 rfl rfl ?_
      refine G_12_110 X hZ dX12_copies_10 ?_
      refine V_iload_n X (i := 1) 1 dX12_copies_13 rfl rfl ?_
      refine V_aload_n X (i := 0) 0 dX12_copies_14 rfl rfl ?_
      refine G_12_107 X hZ dX12_copies_15 ?_
      refine V_iload_n X (i := 1) 1 dX12_copies_18 rfl rfl ?_
      obtain ⟨g3, h⟩ := h
      refine V_iald_m X (rfl : SLq 180 = 260) (hzk hZ (by decide)) (rfl : SK 180 = 14) g3 dX12_copies_19 ?_
      obtain ⟨g4, h⟩ := h
      obtain ⟨w5, ew5⟩ : ∃ y : Mem, y = st w 181 (ix l1) (w 180 (ix l1)) := ⟨_, rfl⟩
      have h := h w5 ew5
      refine V_iast_m X (rfl : SLq 181 = 260) (hzk hZ (by decide)) (rfl : SK 181 = 14) g4 dX12_copies_20 ew5 ?_
      obtain ⟨x6, ex6⟩ : ∃ y : Int32, y = l1 + (1 : Int32) := ⟨_, rfl⟩
      have h := h x6 ex6
      refine V_iinc X 1 dX12_copies_21 rfl (by decide) (by rw [ex6]; rfl) (ls1 := [(1, .int x6), (0, .ref (ad 150))]) rfl ?_
      refine V_goto X (tgt := 2) dX12_copies_24 (by decide) ?_
      refine V_sub X (ls1 := [(0, .ref (ad 150)), (1, .int x6)]) [1, 0] rfl ?_
      exact ih _ _ _ h
set_option maxRecDepth 20000 in
theorem v_12_copies (X : CXq p s m args meth c cX12_copies 2 yX12_copies.cls ad cy D (AW ad) s.heap) (hr : meth.sig.returnType = none) (hZ : ad 1000 = 189) {w : Mem} {wl : MemL} {Q : Mem → MemL → Prop} (h : wp_12_copies w wl Q) : V p l e (RM 2) s m args below meth c 2 ad cy D (AW ad) s.heap 0 0 (MQ below (va_Qv (fun (u : Mem × MemL) => Q u.1 u.2) (BM ad cy D wc) (AW ad)) args s 0 0 (AW ad)) wc w wl 0 [(0, .ref (ad 150))] [] := by
  unfold wp_12_copies at h
  refine V_iconst X (v := (0 : Int32)) dX12_copies_0 (by decide) ?_
  refine V_istore_n X dX12_copies_1 rfl (by decide) rfl (ls1 := [(1, .int (0 : Int32)), (0, .ref (ad 150))]) rfl ?_
  refine V_sub X (ls1 := [(0, .ref (ad 150)), (1, .int (0 : Int32))]) [1, 0] rfl ?_
  obtain ⟨nn, h⟩ := h
  exact v_12_copies_b2 X hr hZ nn _ _ _ h
theorem c_12_copies (hinj : INJ ad) (hZ : ad 1000 = 189) {w : Mem} {wl : MemL} {Q : Mem → MemL → Prop} (h : wp_12_copies w wl Q) : Met l yX12_copies (TBq yX12_copies cX12_copies 2 none) (RM 2) (va_Pc [.ref (ad 150)] (PB ad cy D (cmb wc w) wl)) (va_Qv (fun (u : Mem × MemL) => Q u.1 u.2) (BM ad cy D wc) (AW ad)) 0 0 (AW ad) := M_enter (by decide) (Nat.le_of_ble_eq_true rfl) hinj (fun p e s m args below meth c X hr => v_12_copies X hr hZ h)
theorem mf_12_copies : MFV yX12_copies cX12_copies 2 none yX12_copies.cls 0 := ⟨q_1549, q_1548, qs_64, q_14, by decide⟩
theorem K_12_copies {own : String} {idx : Nat} (X : CXq p s m args meth c cc nL own ad cy D A H0) (hL : LK own idx yX12_copies) (hZ : ad 1000 = 189) {w : Mem} {wl : MemL} {Q : Mem → MemL → Prop} (h : wp_12_copies w wl Q) (hR : (RM 2).frames + 1 ≤ R.frames ∧ 8 + (2 + 11) + (RM 2).locals ≤ R.locals) (hce : ce ≤ R.cells ∧ sl ≤ R.slots) (hcat : (st1.map fun v => v.category).sum ≤ 8) (hd : decode cc pc = .ok (.invokevirtual idx, 3)) (kk : ∀ (u : Mem) (v : MemL), Q u v → V p l e R s m args below meth c nL ad cy D A H0 ce sl Qs wc u v (pc + 3) ls st1) : V p l e R s m args below meth c nL ad cy D A H0 ce sl Qs wc w wl pc ls (.ref (ad 150) :: st1) := V_callVV_m X mf_12_copies hL (rfl : vwCl[12]? = some (RX12, TX12, 72)) (by decide) (rfl : SK 150 = 12) (hzk hZ (by decide)).2 (c_12_copies X.2.2.2.2.2.2.2.1 hZ h) (As := []) rfl ⟨rfl, rfl⟩ hR hce st1 rfl hcat hd kk
set_option maxRecDepth 20000 in
theorem v_12_mixed {a1 : Int32} {a2 : Int32} (X : CXq p s m args meth c cX12_mixed 3 yX12_mixed.cls ad cy D (AW ad) s.heap) (hr : meth.sig.returnType = (some .int)) (hZ : ad 1000 = 189) {w : Mem} {wl : MemL} {Q : Int32 → Mem → MemL → Prop} (h : wp_12_mixed a1 a2 w wl Q) : V p l e (RM 0) s m args below meth c 3 ad cy D (AW ad) s.heap 0 0 (MQ below (va_Qi (fun r (u : Mem × MemL) => Q r u.1 u.2) (BM ad cy D wc) (AW ad)) args s 0 0 (AW ad)) wc w wl 0 [(0, .int a1), (1, .int a2)] [] := by
  unfold wp_12_mixed at h
  refine V_iload_n X (i := 0) 0 dX12_mixed_0 rfl rfl ?_
  refine V_iload_n X (i := 1) 1 dX12_mixed_1 rfl rfl ?_
  refine V_ixor X dX12_mixed_2 ?_
  refine V_ldcw X (v := (1103515245 : Int32)) dX12_mixed_3 q_1600 ?_
  refine V_imul X dX12_mixed_6 ?_
  refine V_sipush X (v := (12345 : Int32)) dX12_mixed_7 (by decide) ?_
  refine V_iadd X dX12_mixed_10 ?_
  obtain ⟨x1, ex1⟩ : ∃ y : Int32, y = (((a1 ^^^ a2) * (1103515245 : Int32)) + (12345 : Int32)) := ⟨_, rfl⟩
  have h := h x1 ex1
  refine V_istore_n X dX12_mixed_11 rfl (by decide) ex1 (ls1 := [(2, .int x1), (0, .int a1), (1, .int a2)]) rfl ?_
  refine V_iload_n X (i := 2) 0 dX12_mixed_12 rfl rfl ?_
  refine V_iload_n X (i := 2) 0 dX12_mixed_13 rfl rfl ?_
  refine V_bipush X (v := (15 : Int32)) dX12_mixed_14 (by decide) ?_
  refine V_iushr X dX12_mixed_16 ?_
  refine V_ixor X dX12_mixed_17 ?_
  exact V_iret_m X hr dX12_mixed_18 h
theorem c_12_mixed {a1 : Int32} {a2 : Int32} (hinj : INJ ad) (hZ : ad 1000 = 189) {w : Mem} {wl : MemL} {Q : Int32 → Mem → MemL → Prop} (h : wp_12_mixed a1 a2 w wl Q) : Met l yX12_mixed (TBq yX12_mixed cX12_mixed 3 (some .int)) (RM 0) (va_Pc [.int a1, .int a2] (PB ad cy D (cmb wc w) wl)) (va_Qi (fun r (u : Mem × MemL) => Q r u.1 u.2) (BM ad cy D wc) (AW ad)) 0 0 (AW ad) := M_enter (by decide) (Nat.le_of_ble_eq_true rfl) hinj (fun p e s m args below meth c X hr => v_12_mixed X hr hZ h)
theorem mf_12_mixed : MFS yX12_mixed cX12_mixed 3 (some .int) 2 := ⟨q_1599, q_1598, q_14, by decide⟩
theorem K_12_mixed {own : String} {idx : Nat} {a1 : Int32} {a2 : Int32} (X : CXq p s m args meth c cc nL own ad cy D A H0) (hL : LK own idx yX12_mixed) (hZ : ad 1000 = 189) {w : Mem} {wl : MemL} {Q : Int32 → Mem → MemL → Prop} (h : wp_12_mixed a1 a2 w wl Q) (hR : (RM 0).frames + 1 ≤ R.frames ∧ 8 + (3 + 11) + (RM 0).locals ≤ R.locals) (hce : ce ≤ R.cells ∧ sl ≤ R.slots) (hcat : (st1.map fun v => v.category).sum ≤ 8) (hd : decode cc pc = .ok (.invokestatic idx, 3)) (kk : ∀ (r : Int32) (u : Mem) (v : MemL), Q r u v → V p l e R s m args below meth c nL ad cy D A H0 ce sl Qs wc u v (pc + 3) ls (.int r :: st1)) : V p l e R s m args below meth c nL ad cy D A H0 ce sl Qs wc w wl pc ls (.int a2 :: .int a1 :: st1) := V_callSI_m X mf_12_mixed hL (c_12_mixed X.2.2.2.2.2.2.2.1 hZ h) (As := [.int a1, .int a2]) rfl ⟨rfl, rfl⟩ hR hce st1 rfl hcat hd kk
set_option maxRecDepth 20000 in
theorem v_12_lotOf {a1 : Int32} {a2 : Int32} (X : CXq p s m args meth c cX12_lotOf 3 yX12_lotOf.cls ad cy D (AW ad) s.heap) (hr : meth.sig.returnType = (some .int)) (hZ : ad 1000 = 189) {w : Mem} {wl : MemL} {Q : Int32 → Mem → MemL → Prop} (h : wp_12_lotOf a1 a2 w wl Q) : V p l e (RM 1) s m args below meth c 3 ad cy D (AW ad) s.heap 0 0 (MQ below (va_Qi (fun r (u : Mem × MemL) => Q r u.1 u.2) (BM ad cy D wc) (AW ad)) args s 0 0 (AW ad)) wc w wl 0 [(0, .ref (ad 150)), (1, .int a1), (2, .int a2)] [] := by
  unfold wp_12_lotOf at h
  refine V_aload_n X (i := 0) 0 dX12_lotOf_0 rfl rfl ?_
  refine G_12_303 X hZ dX12_lotOf_1 ?_
  refine V_bipush X (v := (47 : Int32)) dX12_lotOf_4 (by decide) ?_
  refine K_12_mixed X (Or.inl q_1597) hZ h ⟨Nat.le_of_ble_eq_true rfl, Nat.le_of_ble_eq_true rfl⟩ ⟨Nat.zero_le _, Nat.zero_le _⟩ (st1 := []) (Nat.le_of_ble_eq_true rfl) dX12_lotOf_6 (fun r2 w1 v3 h => ?_)
  refine V_iload_n X (i := 1) 1 dX12_lotOf_9 rfl rfl ?_
  refine K_12_mixed X (Or.inl q_1597) hZ h ⟨Nat.le_of_ble_eq_true rfl, Nat.le_of_ble_eq_true rfl⟩ ⟨Nat.zero_le _, Nat.zero_le _⟩ (st1 := []) (Nat.le_of_ble_eq_true rfl) dX12_lotOf_10 (fun r5 w4 v6 h => ?_)
  refine V_iconst X (v := (1 : Int32)) dX12_lotOf_13 (by decide) ?_
  refine V_iushr X dX12_lotOf_14 ?_
  refine V_iload_n X (i := 2) 2 dX12_lotOf_15 rfl rfl ?_
  obtain ⟨g7, h⟩ := h
  refine V_irem X dX12_lotOf_16 g7 ?_
  exact V_iret_m X hr dX12_lotOf_17 h
theorem c_12_lotOf {a1 : Int32} {a2 : Int32} (hinj : INJ ad) (hZ : ad 1000 = 189) {w : Mem} {wl : MemL} {Q : Int32 → Mem → MemL → Prop} (h : wp_12_lotOf a1 a2 w wl Q) : Met l yX12_lotOf (TBq yX12_lotOf cX12_lotOf 3 (some .int)) (RM 1) (va_Pc [.ref (ad 150), .int a1, .int a2] (PB ad cy D (cmb wc w) wl)) (va_Qi (fun r (u : Mem × MemL) => Q r u.1 u.2) (BM ad cy D wc) (AW ad)) 0 0 (AW ad) := M_enter (by decide) (Nat.le_of_ble_eq_true rfl) hinj (fun p e s m args below meth c X hr => v_12_lotOf X hr hZ h)
theorem mf_12_lotOf : MFV yX12_lotOf cX12_lotOf 3 (some .int) yX12_lotOf.cls 2 := ⟨q_1596, q_1595, qs_75, q_14, by decide⟩
theorem K_12_lotOf {own : String} {idx : Nat} {a1 : Int32} {a2 : Int32} (X : CXq p s m args meth c cc nL own ad cy D A H0) (hL : LK own idx yX12_lotOf) (hZ : ad 1000 = 189) {w : Mem} {wl : MemL} {Q : Int32 → Mem → MemL → Prop} (h : wp_12_lotOf a1 a2 w wl Q) (hR : (RM 1).frames + 1 ≤ R.frames ∧ 8 + (3 + 11) + (RM 1).locals ≤ R.locals) (hce : ce ≤ R.cells ∧ sl ≤ R.slots) (hcat : (st1.map fun v => v.category).sum ≤ 8) (hd : decode cc pc = .ok (.invokevirtual idx, 3)) (kk : ∀ (r : Int32) (u : Mem) (v : MemL), Q r u v → V p l e R s m args below meth c nL ad cy D A H0 ce sl Qs wc u v (pc + 3) ls (.int r :: st1)) : V p l e R s m args below meth c nL ad cy D A H0 ce sl Qs wc w wl pc ls (.int a2 :: .int a1 :: .ref (ad 150) :: st1) := V_callVI_m X mf_12_lotOf hL (rfl : vwCl[12]? = some (RX12, TX12, 72)) (by decide) (rfl : SK 150 = 12) (hzk hZ (by decide)).2 (c_12_lotOf X.2.2.2.2.2.2.2.1 hZ h) (As := [.int a1, .int a2]) rfl ⟨rfl, rfl⟩ hR hce st1 rfl hcat hd kk
set_option maxRecDepth 20000 in
theorem v_12_held {a1 : Int32} {a2 : Int32} {a3 : Int32} (X : CXq p s m args meth c cX12_held 3 yX12_held.cls ad cy D (AW ad) s.heap) (hr : meth.sig.returnType = (some .int)) (hZ : ad 1000 = 189) {w : Mem} {wl : MemL} {Q : Int32 → Mem → MemL → Prop} (h : wp_12_held a1 a2 a3 w wl Q) : V p l e (RM 0) s m args below meth c 3 ad cy D (AW ad) s.heap 0 0 (MQ below (va_Qi (fun r (u : Mem × MemL) => Q r u.1 u.2) (BM ad cy D wc) (AW ad)) args s 0 0 (AW ad)) wc w wl 0 [(0, .int a1), (1, .int a2), (2, .int a3)] [] := by
  unfold wp_12_held at h
  refine V_iload_n X (i := 0) 0 dX12_held_0 rfl rfl ?_
  refine V_iload_n X (i := 1) 1 dX12_held_1 rfl rfl ?_
  obtain ⟨ht, hf⟩ := h
  refine V_icmp_ge X (tgt := 9) dX12_held_2 (by decide) (fun c => ?_) (fun c => ?_)
  · have h := ht c
    refine V_iload_n X (i := 0) 0 dX12_held_9 rfl rfl ?_
    refine V_iload_n X (i := 2) 2 dX12_held_10 rfl rfl ?_
    obtain ⟨ht, hf⟩ := h
    refine V_icmp_le X (tgt := 18) dX12_held_11 (by decide) (fun c => ?_) (fun c => ?_)
    · have h := ht c
      refine V_iload_n X (i := 0) 0 dX12_held_18 rfl rfl ?_
      exact V_iret_m X hr dX12_held_19 h
    · have h := hf c
      refine V_iload_n X (i := 2) 2 dX12_held_14 rfl rfl ?_
      refine V_goto X (tgt := 19) dX12_held_15 (by decide) ?_
      exact V_iret_m X hr dX12_held_19 h
  · have h := hf c
    refine V_iload_n X (i := 1) 1 dX12_held_5 rfl rfl ?_
    refine V_goto X (tgt := 19) dX12_held_6 (by decide) ?_
    exact V_iret_m X hr dX12_held_19 h
theorem c_12_held {a1 : Int32} {a2 : Int32} {a3 : Int32} (hinj : INJ ad) (hZ : ad 1000 = 189) {w : Mem} {wl : MemL} {Q : Int32 → Mem → MemL → Prop} (h : wp_12_held a1 a2 a3 w wl Q) : Met l yX12_held (TBq yX12_held cX12_held 3 (some .int)) (RM 0) (va_Pc [.int a1, .int a2, .int a3] (PB ad cy D (cmb wc w) wl)) (va_Qi (fun r (u : Mem × MemL) => Q r u.1 u.2) (BM ad cy D wc) (AW ad)) 0 0 (AW ad) := M_enter (by decide) (Nat.le_of_ble_eq_true rfl) hinj (fun p e s m args below meth c X hr => v_12_held X hr hZ h)
theorem mf_12_held : MFS yX12_held cX12_held 3 (some .int) 3 := ⟨q_1588, q_1587, q_14, by decide⟩
theorem K_12_held {own : String} {idx : Nat} {a1 : Int32} {a2 : Int32} {a3 : Int32} (X : CXq p s m args meth c cc nL own ad cy D A H0) (hL : LK own idx yX12_held) (hZ : ad 1000 = 189) {w : Mem} {wl : MemL} {Q : Int32 → Mem → MemL → Prop} (h : wp_12_held a1 a2 a3 w wl Q) (hR : (RM 0).frames + 1 ≤ R.frames ∧ 8 + (3 + 11) + (RM 0).locals ≤ R.locals) (hce : ce ≤ R.cells ∧ sl ≤ R.slots) (hcat : (st1.map fun v => v.category).sum ≤ 8) (hd : decode cc pc = .ok (.invokestatic idx, 3)) (kk : ∀ (r : Int32) (u : Mem) (v : MemL), Q r u v → V p l e R s m args below meth c nL ad cy D A H0 ce sl Qs wc u v (pc + 3) ls (.int r :: st1)) : V p l e R s m args below meth c nL ad cy D A H0 ce sl Qs wc w wl pc ls (.int a3 :: .int a2 :: .int a1 :: st1) := V_callSI_m X mf_12_held hL (c_12_held X.2.2.2.2.2.2.2.1 hZ h) (As := [.int a1, .int a2, .int a3]) rfl ⟨rfl, rfl⟩ hR hce st1 rfl hcat hd kk
set_option maxRecDepth 20000 in
theorem v_12_tells_b169 (X : CXq p s m args meth c cX12_tells 9 yX12_tells.cls ad cy D (AW ad) s.heap) (hr : meth.sig.returnType = (some .int)) (hZ : ad 1000 = 189) {Q : Int32 → Mem → MemL → Prop} : ∀ (l3 : Int32) (l4 : Int32) (s0 : Int32) (w : Mem) (wl : MemL), wp_12_tells_b169 Q l3 l4 s0 w wl → V p l e (RM 1) s m args below meth c 9 ad cy D (AW ad) s.heap 0 0 (MQ below (va_Qi (fun r (u : Mem × MemL) => Q r u.1 u.2) (BM ad cy D wc) (AW ad)) args s 0 0 (AW ad)) wc w wl 169 [(3, .int l3), (4, .int l4)] [.int s0] := by
  intro l3 l4 s0 w wl h
  unfold wp_12_tells_b169 at h
  refine V_iload_n X (i := 3) 0 dX12_tells_169 rfl rfl ?_
  refine V_iload X (i := 4) 1 dX12_tells_170 rfl ?_
  refine K_12_held X (Or.inl q_1586) hZ h ⟨Nat.le_of_ble_eq_true rfl, Nat.le_of_ble_eq_true rfl⟩ ⟨Nat.zero_le _, Nat.zero_le _⟩ (st1 := []) (Nat.le_of_ble_eq_true rfl) dX12_tells_172 (fun r2 w1 v3 h => ?_)
  exact V_iret_m X hr dX12_tells_175 h
set_option maxRecDepth 20000 in
theorem v_12_tells_b136 (X : CXq p s m args meth c cX12_tells 9 yX12_tells.cls ad cy D (AW ad) s.heap) (hr : meth.sig.returnType = (some .int)) (hZ : ad 1000 = 189) {Q : Int32 → Mem → MemL → Prop} : ∀ (l3 : Int32) (l4 : Int32) (l6 : Int32) (w : Mem) (wl : MemL), wp_12_tells_b136 Q l3 l4 l6 w wl → V p l e (RM 1) s m args below meth c 9 ad cy D (AW ad) s.heap 0 0 (MQ below (va_Qi (fun r (u : Mem × MemL) => Q r u.1 u.2) (BM ad cy D wc) (AW ad)) args s 0 0 (AW ad)) wc w wl 136 [(0, .ref (ad 150)), (3, .int l3), (4, .int l4), (6, .int l6)] [] := by
  intro l3 l4 l6 w wl h
  unfold wp_12_tells_b136 at h
  refine V_aload_n X (i := 0) 0 dX12_tells_136 rfl rfl ?_
  refine V_aload_n X (i := 0) 0 dX12_tells_137 rfl rfl ?_
  refine G_12_86 X hZ dX12_tells_138 ?_
  refine V_iload X (i := 6) 3 dX12_tells_141 rfl ?_
  obtain ⟨g1, h⟩ := h
  refine V_iald_m X (rfl : SLq 173 = 260) (hzk hZ (by decide)) (rfl : SK 173 = 14) g1 dX12_tells_143 ?_
  refine V_aload_n X (i := 0) 0 dX12_tells_144 rfl rfl ?_
  refine G_12_89 X hZ dX12_tells_145 ?_
  refine V_iload X (i := 6) 3 dX12_tells_148 rfl ?_
  obtain ⟨g2, h⟩ := h
  refine V_iald_m X (rfl : SLq 174 = 260) (hzk hZ (by decide)) (rfl : SK 174 = 14) g2 dX12_tells_150 ?_
  refine K_12_termOf X (Or.inl q_1589) hZ h ⟨Nat.le_of_ble_eq_true rfl, Nat.le_of_ble_eq_true rfl⟩ ⟨Nat.zero_le _, Nat.zero_le _⟩ (st1 := []) (Nat.le_of_ble_eq_true rfl) dX12_tells_151 (fun r4 w3 v5 h => ?_)
  refine V_istore X dX12_tells_154 (by decide) rfl (ls1 := [(7, .int r4), (0, .ref (ad 150)), (3, .int l3), (4, .int l4), (6, .int l6)]) rfl ?_
  refine V_aload_n X (i := 0) 1 dX12_tells_156 rfl rfl ?_
  refine G_12_289 X hZ dX12_tells_157 ?_
  obtain ⟨ht, hf⟩ := h
  refine V_if_eq X (tgt := 167) dX12_tells_160 (by decide) (fun c => ?_) (fun c => ?_)
  · have h := ht c
    refine V_iload X (i := 7) 0 dX12_tells_167 rfl ?_
    refine V_sub X (ls1 := [(3, .int l3), (4, .int l4)]) [2, 3] rfl ?_
    exact v_12_tells_b169 X hr hZ _ _ _ _ _ h
  · have h := hf c
    refine V_iconst X (v := (0 : Int32)) dX12_tells_163 (by decide) ?_
    refine V_goto X (tgt := 169) dX12_tells_164 (by decide) ?_
    refine V_sub X (ls1 := [(3, .int l3), (4, .int l4)]) [2, 3] rfl ?_
    exact v_12_tells_b169 X hr hZ _ _ _ _ _ h
set_option maxRecDepth 20000 in
theorem v_12_tells_b49 (X : CXq p s m args meth c cX12_tells 9 yX12_tells.cls ad cy D (AW ad) s.heap) (hr : meth.sig.returnType = (some .int)) (hZ : ad 1000 = 189) {Q : Int32 → Mem → MemL → Prop} : ∀ (n : Nat) (l3 : Int32) (l4 : Int32) (l5 : Int32) (l6 : Int32) (w : Mem) (wl : MemL), wp_12_tells_b49 Q n l3 l4 l5 l6 w wl → V p l e (RM 1) s m args below meth c 9 ad cy D (AW ad) s.heap 0 0 (MQ below (va_Qi (fun r (u : Mem × MemL) => Q r u.1 u.2) (BM ad cy D wc) (AW ad)) args s 0 0 (AW ad)) wc w wl 49 [(0, .ref (ad 150)), (3, .int l3), (4, .int l4), (5, .int l5), (6, .int l6)] [] := by
  intro n
  induction n with
  | zero =>
    intro l3 l4 l5 l6 w wl h
    exact h.elim
  | succ n ih =>
    intro l3 l4 l5 l6 w wl h
    unfold wp_12_tells_b49 at h
    refine V_iload X (i := 6) 4 dX12_tells_49 rfl ?_
    refine V_aload_n X (i := 0) 0 dX12_tells_51 rfl rfl ?_
    refine G_12_73 X hZ dX12_tells_52 ?_
    refine V_iload X (i := 5) 3 dX12_tells_55 rfl ?_
    obtain ⟨g1, h⟩ := h
    refine V_iald_m X (rfl : SLq 169 = 10) (hzk hZ (by decide)) (rfl : SK 169 = 14) g1 dX12_tells_57 ?_
    obtain ⟨ht, hf⟩ := h
    refine V_icmp_ge X (tgt := 182) dX12_tells_58 (by decide) (fun c => ?_) (fun c => ?_)
    · have h := ht c
      refine V_iconst X (v := (0 : Int32)) dX12_tells_182 (by decide) ?_
      exact V_iret_m X hr dX12_tells_183 h
    · have h := hf c
      refine V_aload_n X (i := 0) 0 dX12_tells_61 rfl rfl ?_
      refine G_12_76 X hZ dX12_tells_62 ?_
      refine V_iload X (i := 6) 4 dX12_tells_65 rfl ?_
      obtain ⟨g2, h⟩ := h
      refine V_zald_m X (rfl : SLq 170 = 260) (hzk hZ (by decide)) (rfl : SK 170 = 16) g2 dX12_tells_67 ?_
      obtain ⟨ht, hf⟩ := h
      refine V_if_eq X (tgt := 136) dX12_tells_68 (by decide) (fun c => ?_) (fun c => ?_)
      · have h := ht c
        refine V_sub X (ls1 := [(0, .ref (ad 150)), (3, .int l3), (4, .int l4), (6, .int l6)]) [0, 1, 2, 4] rfl ?_
        exact v_12_tells_b136 X hr hZ _ _ _ _ _ h
      · have h := hf c
        refine V_aload_n X (i := 0) 0 dX12_tells_71 rfl rfl ?_
        refine V_aload_n X (i := 0) 0 dX12_tells_72 rfl rfl ?_
        refine G_12_80 X hZ dX12_tells_73 ?_
        refine V_iload X (i := 6) 4 dX12_tells_76 rfl ?_
        obtain ⟨g3, h⟩ := h
        refine V_iald_m X (rfl : SLq 171 = 260) (hzk hZ (by decide)) (rfl : SK 171 = 14) g3 dX12_tells_78 ?_
        refine V_aload_n X (i := 0) 0 dX12_tells_79 rfl rfl ?_
        refine G_12_83 X hZ dX12_tells_80 ?_
        refine V_iload X (i := 6) 4 dX12_tells_83 rfl ?_
        obtain ⟨g4, h⟩ := h
        refine V_iald_m X (rfl : SLq 172 = 260) (hzk hZ (by decide)) (rfl : SK 172 = 14) g4 dX12_tells_85 ?_
        refine K_12_termOf X (Or.inl q_1589) hZ h ⟨Nat.le_of_ble_eq_true rfl, Nat.le_of_ble_eq_true rfl⟩ ⟨Nat.zero_le _, Nat.zero_le _⟩ (st1 := []) (Nat.le_of_ble_eq_true rfl) dX12_tells_86 (fun r6 w5 v7 h => ?_)
        refine V_istore X dX12_tells_89 (by decide) rfl (ls1 := [(7, .int r6), (0, .ref (ad 150)), (3, .int l3), (4, .int l4), (5, .int l5), (6, .int l6)]) rfl ?_
        refine V_aload_n X (i := 0) 1 dX12_tells_91 rfl rfl ?_
        refine V_aload_n X (i := 0) 1 dX12_tells_92 rfl rfl ?_
        refine G_12_83 X hZ dX12_tells_93 ?_
        refine V_iload X (i := 6) 5 dX12_tells_96 rfl ?_
        obtain ⟨g8, h⟩ := h
        refine V_iald_m X (rfl : SLq 172 = 260) (hzk hZ (by decide)) (rfl : SK 172 = 14) g8 dX12_tells_98 ?_
        refine V_aload_n X (i := 0) 1 dX12_tells_99 rfl rfl ?_
        refine G_12_86 X hZ dX12_tells_100 ?_
        refine V_iload X (i := 6) 5 dX12_tells_103 rfl ?_
        obtain ⟨g9, h⟩ := h
        refine V_iald_m X (rfl : SLq 173 = 260) (hzk hZ (by decide)) (rfl : SK 173 = 14) g9 dX12_tells_105 ?_
        refine K_12_termOf X (Or.inl q_1589) hZ h ⟨Nat.le_of_ble_eq_true rfl, Nat.le_of_ble_eq_true rfl⟩ ⟨Nat.zero_le _, Nat.zero_le _⟩ (st1 := []) (Nat.le_of_ble_eq_true rfl) dX12_tells_106 (fun r11 w10 v12 h => ?_)
        refine V_istore X dX12_tells_109 (by decide) rfl (ls1 := [(8, .int r11), (7, .int r6), (0, .ref (ad 150)), (3, .int l3), (4, .int l4), (5, .int l5), (6, .int l6)]) rfl ?_
        refine V_aload_n X (i := 0) 2 dX12_tells_111 rfl rfl ?_
        refine G_12_289 X hZ dX12_tells_112 ?_
        obtain ⟨ht, hf⟩ := h
        refine V_if_eq X (tgt := 126) dX12_tells_115 (by decide) (fun c => ?_) (fun c => ?_)
        · have h := ht c
          refine V_iload X (i := 7) 1 dX12_tells_126 rfl ?_
          refine V_iload X (i := 8) 0 dX12_tells_128 rfl ?_
          obtain ⟨ht, hf⟩ := h
          refine V_icmp_lt X (tgt := 136) dX12_tells_130 (by decide) (fun c => ?_) (fun c => ?_)
          · have h := ht c
            refine V_sub X (ls1 := [(0, .ref (ad 150)), (3, .int l3), (4, .int l4), (6, .int l6)]) [2, 3, 4, 6] rfl ?_
            exact v_12_tells_b136 X hr hZ _ _ _ _ _ h
          · have h := hf c
            refine V_goto X (tgt := 176) dX12_tells_133 (by decide) ?_
            obtain ⟨x13, ex13⟩ : ∃ y : Int32, y = l6 + (1 : Int32) := ⟨_, rfl⟩
            have h := h x13 ex13
            refine V_iinc X 6 dX12_tells_176 rfl (by decide) (by rw [ex13]; rfl) (ls1 := [(6, .int x13), (8, .int r11), (7, .int r6), (0, .ref (ad 150)), (3, .int l3), (4, .int l4), (5, .int l5)]) rfl ?_
            refine V_goto X (tgt := 49) dX12_tells_179 (by decide) ?_
            refine V_sub X (ls1 := [(0, .ref (ad 150)), (3, .int l3), (4, .int l4), (5, .int l5), (6, .int x13)]) [3, 4, 5, 6, 0] rfl ?_
            exact ih _ _ _ _ _ _ h
        · have h := hf c
          refine V_iconst X (v := (0 : Int32)) dX12_tells_118 (by decide) ?_
          refine V_iload_n X (i := 3) 3 dX12_tells_119 rfl rfl ?_
          refine V_iload X (i := 4) 4 dX12_tells_120 rfl ?_
          refine K_12_held X (Or.inl q_1586) hZ h ⟨Nat.le_of_ble_eq_true rfl, Nat.le_of_ble_eq_true rfl⟩ ⟨Nat.zero_le _, Nat.zero_le _⟩ (st1 := []) (Nat.le_of_ble_eq_true rfl) dX12_tells_122 (fun r15 w14 v16 h => ?_)
          exact V_iret_m X hr dX12_tells_125 h
set_option maxRecDepth 20000 in
theorem v_12_tells {a1 : Int32} {a2 : Int32} {a3 : Int32} {a4 : Int32} (X : CXq p s m args meth c cX12_tells 9 yX12_tells.cls ad cy D (AW ad) s.heap) (hr : meth.sig.returnType = (some .int)) (hZ : ad 1000 = 189) {w : Mem} {wl : MemL} {Q : Int32 → Mem → MemL → Prop} (h : wp_12_tells a1 a2 a3 a4 w wl Q) : V p l e (RM 1) s m args below meth c 9 ad cy D (AW ad) s.heap 0 0 (MQ below (va_Qi (fun r (u : Mem × MemL) => Q r u.1 u.2) (BM ad cy D wc) (AW ad)) args s 0 0 (AW ad)) wc w wl 0 [(0, .ref (ad 150)), (1, .int a1), (2, .int a2), (3, .int a3), (4, .int a4)] [] := by
  unfold wp_12_tells at h
  refine V_iconst X (v := (5 : Int32)) dX12_tells_0 (by decide) ?_
  refine V_aload_n X (i := 0) 0 dX12_tells_1 rfl rfl ?_
  refine G_12_218 X hZ dX12_tells_2 ?_
  refine V_imul X dX12_tells_5 ?_
  refine V_iload_n X (i := 1) 1 dX12_tells_6 rfl rfl ?_
  refine V_iadd X dX12_tells_7 ?_
  obtain ⟨x1, ex1⟩ : ∃ y : Int32, y = (((5 : Int32) * (w 150 18)) + a1) := ⟨_, rfl⟩
  have h := h x1 ex1
  refine V_istore X dX12_tells_8 (by decide) ex1 (ls1 := [(5, .int x1), (0, .ref (ad 150)), (1, .int a1), (2, .int a2), (3, .int a3), (4, .int a4)]) rfl ?_
  refine V_aload_n X (i := 0) 1 dX12_tells_10 rfl rfl ?_
  refine G_12_70 X hZ dX12_tells_11 ?_
  refine V_iload X (i := 5) 0 dX12_tells_14 rfl ?_
  obtain ⟨g2, h⟩ := h
  refine V_iald_m X (rfl : SLq 168 = 10) (hzk hZ (by decide)) (rfl : SK 168 = 14) g2 dX12_tells_16 ?_
  refine V_aload_n X (i := 0) 1 dX12_tells_17 rfl rfl ?_
  refine G_12_73 X hZ dX12_tells_18 ?_
  refine V_iload X (i := 5) 0 dX12_tells_21 rfl ?_
  obtain ⟨g3, h⟩ := h
  refine V_iald_m X (rfl : SLq 169 = 10) (hzk hZ (by decide)) (rfl : SK 169 = 14) g3 dX12_tells_23 ?_
  obtain ⟨ht, hf⟩ := h
  refine V_icmp_ne X (tgt := 35) dX12_tells_24 (by decide) (fun c => ?_) (fun c => ?_)
  · have h := ht c
    refine V_aload_n X (i := 0) 1 dX12_tells_35 rfl rfl ?_
    refine V_iconst X (v := (0 : Int32)) dX12_tells_36 (by decide) ?_
    obtain ⟨w4, ew4⟩ : ∃ y : Mem, y = st w 150 46 (0 : Int32) := ⟨_, rfl⟩
    have h := h w4 ew4
    refine U_12_289 X hZ rfl rfl dX12_tells_37 ew4 ?_
    refine V_aload_n X (i := 0) 1 dX12_tells_40 rfl rfl ?_
    refine G_12_70 X hZ dX12_tells_41 ?_
    refine V_iload X (i := 5) 0 dX12_tells_44 rfl ?_
    obtain ⟨g5, h⟩ := h
    refine V_iald_m X (rfl : SLq 168 = 10) (hzk hZ (by decide)) (rfl : SK 168 = 14) g5 dX12_tells_46 ?_
    obtain ⟨x6, ex6⟩ : ∃ y : Int32, y = (w4 168 (ix x1)) := ⟨_, rfl⟩
    have h := h x6 ex6
    refine V_istore X dX12_tells_47 (by decide) ex6 (ls1 := [(6, .int x6), (5, .int x1), (0, .ref (ad 150)), (1, .int a1), (2, .int a2), (3, .int a3), (4, .int a4)]) rfl ?_
    refine V_sub X (ls1 := [(0, .ref (ad 150)), (3, .int a3), (4, .int a4), (5, .int x1), (6, .int x6)]) [2, 5, 6, 1, 0] rfl ?_
    obtain ⟨nn, h⟩ := h
    exact v_12_tells_b49 X hr hZ nn _ _ _ _ _ _ h
  · have h := hf c
    refine V_iload_n X (i := 2) 3 dX12_tells_27 rfl rfl ?_
    refine V_iload_n X (i := 3) 4 dX12_tells_28 rfl rfl ?_
    refine V_iload X (i := 4) 5 dX12_tells_29 rfl ?_
    refine K_12_held X (Or.inl q_1586) hZ h ⟨Nat.le_of_ble_eq_true rfl, Nat.le_of_ble_eq_true rfl⟩ ⟨Nat.zero_le _, Nat.zero_le _⟩ (st1 := []) (Nat.le_of_ble_eq_true rfl) dX12_tells_31 (fun r8 w7 v9 h => ?_)
    exact V_iret_m X hr dX12_tells_34 h
theorem c_12_tells {a1 : Int32} {a2 : Int32} {a3 : Int32} {a4 : Int32} (hinj : INJ ad) (hZ : ad 1000 = 189) {w : Mem} {wl : MemL} {Q : Int32 → Mem → MemL → Prop} (h : wp_12_tells a1 a2 a3 a4 w wl Q) : Met l yX12_tells (TBq yX12_tells cX12_tells 9 (some .int)) (RM 1) (va_Pc [.ref (ad 150), .int a1, .int a2, .int a3, .int a4] (PB ad cy D (cmb wc w) wl)) (va_Qi (fun r (u : Mem × MemL) => Q r u.1 u.2) (BM ad cy D wc) (AW ad)) 0 0 (AW ad) := M_enter (by decide) (Nat.le_of_ble_eq_true rfl) hinj (fun p e s m args below meth c X hr => v_12_tells X hr hZ h)
theorem mf_12_tells : MFV yX12_tells cX12_tells 9 (some .int) yX12_tells.cls 4 := ⟨q_1585, q_1584, qs_73, q_14, by decide⟩
theorem K_12_tells {own : String} {idx : Nat} {a1 : Int32} {a2 : Int32} {a3 : Int32} {a4 : Int32} (X : CXq p s m args meth c cc nL own ad cy D A H0) (hL : LK own idx yX12_tells) (hZ : ad 1000 = 189) {w : Mem} {wl : MemL} {Q : Int32 → Mem → MemL → Prop} (h : wp_12_tells a1 a2 a3 a4 w wl Q) (hR : (RM 1).frames + 1 ≤ R.frames ∧ 8 + (9 + 11) + (RM 1).locals ≤ R.locals) (hce : ce ≤ R.cells ∧ sl ≤ R.slots) (hcat : (st1.map fun v => v.category).sum ≤ 8) (hd : decode cc pc = .ok (.invokevirtual idx, 3)) (kk : ∀ (r : Int32) (u : Mem) (v : MemL), Q r u v → V p l e R s m args below meth c nL ad cy D A H0 ce sl Qs wc u v (pc + 3) ls (.int r :: st1)) : V p l e R s m args below meth c nL ad cy D A H0 ce sl Qs wc w wl pc ls (.int a4 :: .int a3 :: .int a2 :: .int a1 :: .ref (ad 150) :: st1) := V_callVI_m X mf_12_tells hL (rfl : vwCl[12]? = some (RX12, TX12, 72)) (by decide) (rfl : SK 150 = 12) (hzk hZ (by decide)).2 (c_12_tells X.2.2.2.2.2.2.2.1 hZ h) (As := [.int a1, .int a2, .int a3, .int a4]) rfl ⟨rfl, rfl⟩ hR hce st1 rfl hcat hd kk
set_option maxRecDepth 20000 in
theorem v_12_clears_b2 (X : CXq p s m args meth c cX12_clears 2 yX12_clears.cls ad cy D (AW ad) s.heap) (hr : meth.sig.returnType = none) (hZ : ad 1000 = 189) {Q : Mem → MemL → Prop} : ∀ (n : Nat) (l1 : Int32) (w : Mem) (wl : MemL), wp_12_clears_b2 Q n l1 w wl → V p l e (RM 0) s m args below meth c 2 ad cy D (AW ad) s.heap 0 0 (MQ below (va_Qv (fun (u : Mem × MemL) => Q u.1 u.2) (BM ad cy D wc) (AW ad)) args s 0 0 (AW ad)) wc w wl 2 [(0, .ref (ad 150)), (1, .int l1)] [] := by
  intro n
  induction n with
  | zero =>
    intro l1 w wl h
    exact h.elim
  | succ n ih =>
    intro l1 w wl h
    unfold wp_12_clears_b2 at h
    refine V_iload_n X (i := 1) 1 dX12_clears_2 rfl rfl ?_
    refine V_bipush X (v := (11 : Int32)) dX12_clears_3 (by decide) ?_
    obtain ⟨ht, hf⟩ := h
    refine V_icmp_ge X (tgt := 21) dX12_clears_5 (by decide) (fun c => ?_) (fun c => ?_)
    · have h := ht c
      exact V_vret_m X hr dX12_clears_21 h
    · have h := hf c
      refine V_aload_n X (i := 0) 0 dX12_clears_8 rfl rfl ?_
      refine G_12_101 X hZ dX12_clears_9 ?_
      refine V_iload_n X (i := 1) 1 dX12_clears_12 rfl rfl ?_
      refine V_iconst X (v := (0 : Int32)) dX12_clears_13 (by decide) ?_
      obtain ⟨g1, h⟩ := h
      obtain ⟨w2, ew2⟩ : ∃ y : Mem, y = st w 178 (ix l1) (0 : Int32) := ⟨_, rfl⟩
      have h := h w2 ew2
      refine V_iast_m X (rfl : SLq 178 = 11) (hzk hZ (by decide)) (rfl : SK 178 = 14) g1 dX12_clears_14 ew2 ?_
      obtain ⟨x3, ex3⟩ : ∃ y : Int32, y = l1 + (1 : Int32) := ⟨_, rfl⟩
      have h := h x3 ex3
      refine V_iinc X 1 dX12_clears_15 rfl (by decide) (by rw [ex3]; rfl) (ls1 := [(1, .int x3), (0, .ref (ad 150))]) rfl ?_
      refine V_goto X (tgt := 2) dX12_clears_18 (by decide) ?_
      refine V_sub X (ls1 := [(0, .ref (ad 150)), (1, .int x3)]) [1, 0] rfl ?_
      exact ih _ _ _ h
set_option maxRecDepth 20000 in
theorem v_12_clears (X : CXq p s m args meth c cX12_clears 2 yX12_clears.cls ad cy D (AW ad) s.heap) (hr : meth.sig.returnType = none) (hZ : ad 1000 = 189) {w : Mem} {wl : MemL} {Q : Mem → MemL → Prop} (h : wp_12_clears w wl Q) : V p l e (RM 0) s m args below meth c 2 ad cy D (AW ad) s.heap 0 0 (MQ below (va_Qv (fun (u : Mem × MemL) => Q u.1 u.2) (BM ad cy D wc) (AW ad)) args s 0 0 (AW ad)) wc w wl 0 [(0, .ref (ad 150))] [] := by
  unfold wp_12_clears at h
  refine V_iconst X (v := (0 : Int32)) dX12_clears_0 (by decide) ?_
  refine V_istore_n X dX12_clears_1 rfl (by decide) rfl (ls1 := [(1, .int (0 : Int32)), (0, .ref (ad 150))]) rfl ?_
  refine V_sub X (ls1 := [(0, .ref (ad 150)), (1, .int (0 : Int32))]) [1, 0] rfl ?_
  obtain ⟨nn, h⟩ := h
  exact v_12_clears_b2 X hr hZ nn _ _ _ h
theorem c_12_clears (hinj : INJ ad) (hZ : ad 1000 = 189) {w : Mem} {wl : MemL} {Q : Mem → MemL → Prop} (h : wp_12_clears w wl Q) : Met l yX12_clears (TBq yX12_clears cX12_clears 2 none) (RM 0) (va_Pc [.ref (ad 150)] (PB ad cy D (cmb wc w) wl)) (va_Qv (fun (u : Mem × MemL) => Q u.1 u.2) (BM ad cy D wc) (AW ad)) 0 0 (AW ad) := M_enter (by decide) (Nat.le_of_ble_eq_true rfl) hinj (fun p e s m args below meth c X hr => v_12_clears X hr hZ h)
theorem mf_12_clears : MFV yX12_clears cX12_clears 2 none yX12_clears.cls 0 := ⟨q_1581, q_1580, qs_72, q_14, by decide⟩
theorem K_12_clears {own : String} {idx : Nat} (X : CXq p s m args meth c cc nL own ad cy D A H0) (hL : LK own idx yX12_clears) (hZ : ad 1000 = 189) {w : Mem} {wl : MemL} {Q : Mem → MemL → Prop} (h : wp_12_clears w wl Q) (hR : (RM 0).frames + 1 ≤ R.frames ∧ 8 + (2 + 11) + (RM 0).locals ≤ R.locals) (hce : ce ≤ R.cells ∧ sl ≤ R.slots) (hcat : (st1.map fun v => v.category).sum ≤ 8) (hd : decode cc pc = .ok (.invokevirtual idx, 3)) (kk : ∀ (u : Mem) (v : MemL), Q u v → V p l e R s m args below meth c nL ad cy D A H0 ce sl Qs wc u v (pc + 3) ls st1) : V p l e R s m args below meth c nL ad cy D A H0 ce sl Qs wc w wl pc ls (.ref (ad 150) :: st1) := V_callVV_m X mf_12_clears hL (rfl : vwCl[12]? = some (RX12, TX12, 72)) (by decide) (rfl : SK 150 = 12) (hzk hZ (by decide)).2 (c_12_clears X.2.2.2.2.2.2.2.1 hZ h) (As := []) rfl ⟨rfl, rfl⟩ hR hce st1 rfl hcat hd kk
set_option maxRecDepth 20000 in
theorem v_12_windOf {a1 : Int32} {a2 : Int32} (X : CXq p s m args meth c cX12_windOf 4 yX12_windOf.cls ad cy D (AW ad) s.heap) (hr : meth.sig.returnType = (some .int)) (hZ : ad 1000 = 189) {w : Mem} {wl : MemL} {Q : Int32 → Mem → MemL → Prop} (h : wp_12_windOf a1 a2 w wl Q) : V p l e (RM 2) s m args below meth c 4 ad cy D (AW ad) s.heap 0 0 (MQ below (va_Qi (fun r (u : Mem × MemL) => Q r u.1 u.2) (BM ad cy D wc) (AW ad)) args s 0 0 (AW ad)) wc w wl 0 [(0, .ref (ad 150)), (1, .int a1), (2, .int a2)] [] := by
  unfold wp_12_windOf at h
  refine V_aload_n X (i := 0) 0 dX12_windOf_0 rfl rfl ?_
  refine K_12_clears X (Or.inl q_1578) hZ h ⟨Nat.le_of_ble_eq_true rfl, Nat.le_of_ble_eq_true rfl⟩ ⟨Nat.zero_le _, Nat.zero_le _⟩ (st1 := []) (Nat.le_of_ble_eq_true rfl) dX12_windOf_1 (fun w1 v2 h => ?_)
  refine V_aload_n X (i := 0) 0 dX12_windOf_4 rfl rfl ?_
  refine G_12_101 X hZ dX12_windOf_5 ?_
  refine V_iconst X (v := (0 : Int32)) dX12_windOf_8 (by decide) ?_
  refine V_iload_n X (i := 2) 2 dX12_windOf_9 rfl rfl ?_
  obtain ⟨w3, ew3⟩ : ∃ y : Mem, y = st w1 178 (ix (0 : Int32)) a2 := ⟨_, rfl⟩
  have h := h w3 ew3
  refine V_iast_m X (rfl : SLq 178 = 11) (hzk hZ (by decide)) (rfl : SK 178 = 14) (vpl (by decide)) dX12_windOf_10 ew3 ?_
  refine V_aload_n X (i := 0) 0 dX12_windOf_11 rfl rfl ?_
  refine G_12_101 X hZ dX12_windOf_12 ?_
  refine V_iconst X (v := (1 : Int32)) dX12_windOf_15 (by decide) ?_
  refine V_iload_n X (i := 1) 1 dX12_windOf_16 rfl rfl ?_
  obtain ⟨w4, ew4⟩ : ∃ y : Mem, y = st w3 178 (ix (1 : Int32)) a1 := ⟨_, rfl⟩
  have h := h w4 ew4
  refine V_iast_m X (rfl : SLq 178 = 11) (hzk hZ (by decide)) (rfl : SK 178 = 14) (vpl (by decide)) dX12_windOf_17 ew4 ?_
  refine V_aload_n X (i := 0) 0 dX12_windOf_18 rfl rfl ?_
  refine V_bipush X (v := (9 : Int32)) dX12_windOf_19 (by decide) ?_
  refine K_12_tell0 X (Or.inl q_1203) hZ h ⟨Nat.le_of_ble_eq_true rfl, Nat.le_of_ble_eq_true rfl⟩ ⟨Nat.zero_le _, Nat.zero_le _⟩ (st1 := []) (Nat.le_of_ble_eq_true rfl) dX12_windOf_21 (fun r6 w5 v7 h => ?_)
  refine V_istore_n X dX12_windOf_24 rfl (by decide) rfl (ls1 := [(3, .int r6), (0, .ref (ad 150)), (1, .int a1), (2, .int a2)]) rfl ?_
  refine V_aload_n X (i := 0) 1 dX12_windOf_25 rfl rfl ?_
  refine V_iconst X (v := (0 : Int32)) dX12_windOf_26 (by decide) ?_
  refine V_iconst X (v := (0 : Int32)) dX12_windOf_27 (by decide) ?_
  refine V_bipush X (v := (-99 : Int32)) dX12_windOf_28 (by decide) ?_
  refine V_bipush X (v := (99 : Int32)) dX12_windOf_30 (by decide) ?_
  refine K_12_tells X (Or.inl q_1582) hZ h ⟨Nat.le_of_ble_eq_true rfl, Nat.le_of_ble_eq_true rfl⟩ ⟨Nat.zero_le _, Nat.zero_le _⟩ (st1 := []) (Nat.le_of_ble_eq_true rfl) dX12_windOf_32 (fun r9 w8 v10 h => ?_)
  refine V_aload_n X (i := 0) 1 dX12_windOf_35 rfl rfl ?_
  refine V_bipush X (v := (8 : Int32)) dX12_windOf_36 (by decide) ?_
  refine V_iload_n X (i := 2) 3 dX12_windOf_38 rfl rfl ?_
  refine V_imul X dX12_windOf_39 ?_
  refine V_iload_n X (i := 1) 2 dX12_windOf_40 rfl rfl ?_
  refine V_iadd X dX12_windOf_41 ?_
  refine V_iconst X (v := (2 : Int32)) dX12_windOf_42 (by decide) ?_
  refine V_iload_n X (i := 3) 0 dX12_windOf_43 rfl rfl ?_
  refine V_imul X dX12_windOf_44 ?_
  refine V_iconst X (v := (1 : Int32)) dX12_windOf_45 (by decide) ?_
  refine V_iadd X dX12_windOf_46 ?_
  refine K_12_lotOf X (Or.inl q_1593) hZ h ⟨Nat.le_of_ble_eq_true rfl, Nat.le_of_ble_eq_true rfl⟩ ⟨Nat.zero_le _, Nat.zero_le _⟩ (st1 := [.int r9]) (Nat.le_of_ble_eq_true rfl) dX12_windOf_47 (fun r12 w11 v13 h => ?_)
  refine V_iadd X dX12_windOf_50 ?_
  refine V_iload_n X (i := 3) 0 dX12_windOf_51 rfl rfl ?_
  refine V_isub X dX12_windOf_52 ?_
  exact V_iret_m X hr dX12_windOf_53 h
theorem c_12_windOf {a1 : Int32} {a2 : Int32} (hinj : INJ ad) (hZ : ad 1000 = 189) {w : Mem} {wl : MemL} {Q : Int32 → Mem → MemL → Prop} (h : wp_12_windOf a1 a2 w wl Q) : Met l yX12_windOf (TBq yX12_windOf cX12_windOf 4 (some .int)) (RM 2) (va_Pc [.ref (ad 150), .int a1, .int a2] (PB ad cy D (cmb wc w) wl)) (va_Qi (fun r (u : Mem × MemL) => Q r u.1 u.2) (BM ad cy D wc) (AW ad)) 0 0 (AW ad) := M_enter (by decide) (Nat.le_of_ble_eq_true rfl) hinj (fun p e s m args below meth c X hr => v_12_windOf X hr hZ h)
theorem mf_12_windOf : MFV yX12_windOf cX12_windOf 4 (some .int) yX12_windOf.cls 2 := ⟨q_1577, q_1576, qs_71, q_14, by decide⟩
theorem K_12_windOf {own : String} {idx : Nat} {a1 : Int32} {a2 : Int32} (X : CXq p s m args meth c cc nL own ad cy D A H0) (hL : LK own idx yX12_windOf) (hZ : ad 1000 = 189) {w : Mem} {wl : MemL} {Q : Int32 → Mem → MemL → Prop} (h : wp_12_windOf a1 a2 w wl Q) (hR : (RM 2).frames + 1 ≤ R.frames ∧ 8 + (4 + 11) + (RM 2).locals ≤ R.locals) (hce : ce ≤ R.cells ∧ sl ≤ R.slots) (hcat : (st1.map fun v => v.category).sum ≤ 8) (hd : decode cc pc = .ok (.invokevirtual idx, 3)) (kk : ∀ (r : Int32) (u : Mem) (v : MemL), Q r u v → V p l e R s m args below meth c nL ad cy D A H0 ce sl Qs wc u v (pc + 3) ls (.int r :: st1)) : V p l e R s m args below meth c nL ad cy D A H0 ce sl Qs wc w wl pc ls (.int a2 :: .int a1 :: .ref (ad 150) :: st1) := V_callVI_m X mf_12_windOf hL (rfl : vwCl[12]? = some (RX12, TX12, 72)) (by decide) (rfl : SK 150 = 12) (hzk hZ (by decide)).2 (c_12_windOf X.2.2.2.2.2.2.2.1 hZ h) (As := [.int a1, .int a2]) rfl ⟨rfl, rfl⟩ hR hce st1 rfl hcat hd kk
set_option maxRecDepth 20000 in
theorem v_12_meanOf_b4 (X : CXq p s m args meth c cX12_meanOf 4 yX12_meanOf.cls ad cy D (AW ad) s.heap) (hr : meth.sig.returnType = (some .int)) (hZ : ad 1000 = 189) {Q : Int32 → Mem → MemL → Prop} : ∀ (n : Nat) (l1 : Int32) (l2 : Int32) (l3 : Int32) (w : Mem) (wl : MemL), wp_12_meanOf_b4 Q n l1 l2 l3 w wl → V p l e (RM 3) s m args below meth c 4 ad cy D (AW ad) s.heap 0 0 (MQ below (va_Qi (fun r (u : Mem × MemL) => Q r u.1 u.2) (BM ad cy D wc) (AW ad)) args s 0 0 (AW ad)) wc w wl 4 [(0, .ref (ad 150)), (1, .int l1), (2, .int l2), (3, .int l3)] [] := by
  intro n
  induction n with
  | zero =>
    intro l1 l2 l3 w wl h
    exact h.elim
  | succ n ih =>
    intro l1 l2 l3 w wl h
    unfold wp_12_meanOf_b4 at h
    refine V_iload_n X (i := 3) 3 dX12_meanOf_4 rfl rfl ?_
    refine V_iconst X (v := (5 : Int32)) dX12_meanOf_5 (by decide) ?_
    obtain ⟨ht, hf⟩ := h
    refine V_icmp_ge X (tgt := 26) dX12_meanOf_6 (by decide) (fun c => ?_) (fun c => ?_)
    · have h := ht c
      refine V_iload_n X (i := 2) 2 dX12_meanOf_26 rfl rfl ?_
      refine V_iconst X (v := (5 : Int32)) dX12_meanOf_27 (by decide) ?_
      refine V_idiv X dX12_meanOf_28 (by decide) ?_
      exact V_iret_m X hr dX12_meanOf_29 h
    · have h := hf c
      refine V_iload_n X (i := 2) 2 dX12_meanOf_9 rfl rfl ?_
      refine V_aload_n X (i := 0) 0 dX12_meanOf_10 rfl rfl ?_
      refine V_iload_n X (i := 3) 3 dX12_meanOf_11 rfl rfl ?_
      refine V_iload_n X (i := 1) 1 dX12_meanOf_12 rfl rfl ?_
      refine V_iload_n X (i := 3) 3 dX12_meanOf_13 rfl rfl ?_
      refine V_iadd X dX12_meanOf_14 ?_
      refine K_12_windOf X (Or.inl q_1574) hZ h ⟨Nat.le_of_ble_eq_true rfl, Nat.le_of_ble_eq_true rfl⟩ ⟨Nat.zero_le _, Nat.zero_le _⟩ (st1 := [.int l2]) (Nat.le_of_ble_eq_true rfl) dX12_meanOf_15 (fun r2 w1 v3 h => ?_)
      refine V_iadd X dX12_meanOf_18 ?_
      obtain ⟨x4, ex4⟩ : ∃ y : Int32, y = (l2 + r2) := ⟨_, rfl⟩
      have h := h x4 ex4
      refine V_istore_n X dX12_meanOf_19 rfl (by decide) ex4 (ls1 := [(2, .int x4), (0, .ref (ad 150)), (1, .int l1), (3, .int l3)]) rfl ?_
      obtain ⟨x5, ex5⟩ : ∃ y : Int32, y = l3 + (1 : Int32) := ⟨_, rfl⟩
      have h := h x5 ex5
      refine V_iinc X 3 dX12_meanOf_20 rfl (by decide) (by rw [ex5]; rfl) (ls1 := [(3, .int x5), (2, .int x4), (0, .ref (ad 150)), (1, .int l1)]) rfl ?_
      refine V_goto X (tgt := 4) dX12_meanOf_23 (by decide) ?_
      refine V_sub X (ls1 := [(0, .ref (ad 150)), (1, .int l1), (2, .int x4), (3, .int x5)]) [2, 3, 1, 0] rfl ?_
      exact ih _ _ _ _ _ h
set_option maxRecDepth 20000 in
theorem v_12_meanOf {a1 : Int32} (X : CXq p s m args meth c cX12_meanOf 4 yX12_meanOf.cls ad cy D (AW ad) s.heap) (hr : meth.sig.returnType = (some .int)) (hZ : ad 1000 = 189) {w : Mem} {wl : MemL} {Q : Int32 → Mem → MemL → Prop} (h : wp_12_meanOf a1 w wl Q) : V p l e (RM 3) s m args below meth c 4 ad cy D (AW ad) s.heap 0 0 (MQ below (va_Qi (fun r (u : Mem × MemL) => Q r u.1 u.2) (BM ad cy D wc) (AW ad)) args s 0 0 (AW ad)) wc w wl 0 [(0, .ref (ad 150)), (1, .int a1)] [] := by
  unfold wp_12_meanOf at h
  refine V_iconst X (v := (0 : Int32)) dX12_meanOf_0 (by decide) ?_
  refine V_istore_n X dX12_meanOf_1 rfl (by decide) rfl (ls1 := [(2, .int (0 : Int32)), (0, .ref (ad 150)), (1, .int a1)]) rfl ?_
  refine V_iconst X (v := (0 : Int32)) dX12_meanOf_2 (by decide) ?_
  refine V_istore_n X dX12_meanOf_3 rfl (by decide) rfl (ls1 := [(3, .int (0 : Int32)), (2, .int (0 : Int32)), (0, .ref (ad 150)), (1, .int a1)]) rfl ?_
  refine V_sub X (ls1 := [(0, .ref (ad 150)), (1, .int a1), (2, .int (0 : Int32)), (3, .int (0 : Int32))]) [2, 3, 1, 0] rfl ?_
  obtain ⟨nn, h⟩ := h
  exact v_12_meanOf_b4 X hr hZ nn _ _ _ _ _ h
theorem c_12_meanOf {a1 : Int32} (hinj : INJ ad) (hZ : ad 1000 = 189) {w : Mem} {wl : MemL} {Q : Int32 → Mem → MemL → Prop} (h : wp_12_meanOf a1 w wl Q) : Met l yX12_meanOf (TBq yX12_meanOf cX12_meanOf 4 (some .int)) (RM 3) (va_Pc [.ref (ad 150), .int a1] (PB ad cy D (cmb wc w) wl)) (va_Qi (fun r (u : Mem × MemL) => Q r u.1 u.2) (BM ad cy D wc) (AW ad)) 0 0 (AW ad) := M_enter (by decide) (Nat.le_of_ble_eq_true rfl) hinj (fun p e s m args below meth c X hr => v_12_meanOf X hr hZ h)
theorem mf_12_meanOf : MFV yX12_meanOf cX12_meanOf 4 (some .int) yX12_meanOf.cls 1 := ⟨q_1573, q_1572, qs_70, q_14, by decide⟩
theorem K_12_meanOf {own : String} {idx : Nat} {a1 : Int32} (X : CXq p s m args meth c cc nL own ad cy D A H0) (hL : LK own idx yX12_meanOf) (hZ : ad 1000 = 189) {w : Mem} {wl : MemL} {Q : Int32 → Mem → MemL → Prop} (h : wp_12_meanOf a1 w wl Q) (hR : (RM 3).frames + 1 ≤ R.frames ∧ 8 + (4 + 11) + (RM 3).locals ≤ R.locals) (hce : ce ≤ R.cells ∧ sl ≤ R.slots) (hcat : (st1.map fun v => v.category).sum ≤ 8) (hd : decode cc pc = .ok (.invokevirtual idx, 3)) (kk : ∀ (r : Int32) (u : Mem) (v : MemL), Q r u v → V p l e R s m args below meth c nL ad cy D A H0 ce sl Qs wc u v (pc + 3) ls (.int r :: st1)) : V p l e R s m args below meth c nL ad cy D A H0 ce sl Qs wc w wl pc ls (.int a1 :: .ref (ad 150) :: st1) := V_callVI_m X mf_12_meanOf hL (rfl : vwCl[12]? = some (RX12, TX12, 72)) (by decide) (rfl : SK 150 = 12) (hzk hZ (by decide)).2 (c_12_meanOf X.2.2.2.2.2.2.2.1 hZ h) (As := [.int a1]) rfl ⟨rfl, rfl⟩ hR hce st1 rfl hcat hd kk
set_option maxRecDepth 20000 in
theorem v_12_trueOf_b7 (X : CXq p s m args meth c cX12_trueOf 5 yX12_trueOf.cls ad cy D (AW ad) s.heap) (hr : meth.sig.returnType = (some .int)) (hZ : ad 1000 = 189) {Q : Int32 → Mem → MemL → Prop} : ∀ (n : Nat) (l1 : Int32) (l2 : Int32) (l3 : Int32) (l4 : Int32) (w : Mem) (wl : MemL), wp_12_trueOf_b7 Q n l1 l2 l3 l4 w wl → V p l e (RM 3) s m args below meth c 5 ad cy D (AW ad) s.heap 0 0 (MQ below (va_Qi (fun r (u : Mem × MemL) => Q r u.1 u.2) (BM ad cy D wc) (AW ad)) args s 0 0 (AW ad)) wc w wl 7 [(0, .ref (ad 150)), (1, .int l1), (2, .int l2), (3, .int l3), (4, .int l4)] [] := by
  intro n
  induction n with
  | zero =>
    intro l1 l2 l3 l4 w wl h
    exact h.elim
  | succ n ih =>
    intro l1 l2 l3 l4 w wl h
    unfold wp_12_trueOf_b7 at h
    refine V_iload X (i := 4) 4 dX12_trueOf_7 rfl ?_
    refine V_iconst X (v := (5 : Int32)) dX12_trueOf_9 (by decide) ?_
    obtain ⟨ht, hf⟩ := h
    refine V_icmp_ge X (tgt := 52) dX12_trueOf_10 (by decide) (fun c => ?_) (fun c => ?_)
    · have h := ht c
      refine V_iload_n X (i := 3) 3 dX12_trueOf_52 rfl rfl ?_
      obtain ⟨ht, hf⟩ := h
      refine V_if_ne X (tgt := 60) dX12_trueOf_53 (by decide) (fun c => ?_) (fun c => ?_)
      · have h := ht c
        refine V_iload_n X (i := 2) 2 dX12_trueOf_60 rfl rfl ?_
        refine V_iload_n X (i := 3) 3 dX12_trueOf_61 rfl rfl ?_
        obtain ⟨g1, h⟩ := h
        refine V_idiv X dX12_trueOf_62 g1 ?_
        exact V_iret_m X hr dX12_trueOf_63 h
      · have h := hf c
        refine V_iconst X (v := (0 : Int32)) dX12_trueOf_56 (by decide) ?_
        refine V_goto X (tgt := 63) dX12_trueOf_57 (by decide) ?_
        exact V_iret_m X hr dX12_trueOf_63 h
    · have h := hf c
      refine V_iload_n X (i := 2) 2 dX12_trueOf_13 rfl rfl ?_
      refine V_aload_n X (i := 0) 0 dX12_trueOf_14 rfl rfl ?_
      refine V_iconst X (v := (3 : Int32)) dX12_trueOf_15 (by decide) ?_
      refine V_iload X (i := 4) 4 dX12_trueOf_16 rfl ?_
      refine V_iadd X dX12_trueOf_18 ?_
      refine K_12_tell0 X (Or.inl q_1203) hZ h ⟨Nat.le_of_ble_eq_true rfl, Nat.le_of_ble_eq_true rfl⟩ ⟨Nat.zero_le _, Nat.zero_le _⟩ (st1 := [.int l2]) (Nat.le_of_ble_eq_true rfl) dX12_trueOf_19 (fun r3 w2 v4 h => ?_)
      refine V_aload_n X (i := 0) 0 dX12_trueOf_22 rfl rfl ?_
      refine V_iload X (i := 4) 4 dX12_trueOf_23 rfl ?_
      refine V_iload_n X (i := 1) 1 dX12_trueOf_25 rfl rfl ?_
      refine V_iload X (i := 4) 4 dX12_trueOf_26 rfl ?_
      refine V_iadd X dX12_trueOf_28 ?_
      refine K_12_windOf X (Or.inl q_1574) hZ h ⟨Nat.le_of_ble_eq_true rfl, Nat.le_of_ble_eq_true rfl⟩ ⟨Nat.zero_le _, Nat.zero_le _⟩ (st1 := [.int r3, .int l2]) (Nat.le_of_ble_eq_true rfl) dX12_trueOf_29 (fun r6 w5 v7 h => ?_)
      refine V_imul X dX12_trueOf_32 ?_
      refine V_iadd X dX12_trueOf_33 ?_
      obtain ⟨x8, ex8⟩ : ∃ y : Int32, y = (l2 + (r3 * r6)) := ⟨_, rfl⟩
      have h := h x8 ex8
      refine V_istore_n X dX12_trueOf_34 rfl (by decide) ex8 (ls1 := [(2, .int x8), (0, .ref (ad 150)), (1, .int l1), (3, .int l3), (4, .int l4)]) rfl ?_
      refine V_iload_n X (i := 3) 3 dX12_trueOf_35 rfl rfl ?_
      refine V_aload_n X (i := 0) 1 dX12_trueOf_36 rfl rfl ?_
      refine V_iconst X (v := (3 : Int32)) dX12_trueOf_37 (by decide) ?_
      refine V_iload X (i := 4) 4 dX12_trueOf_38 rfl ?_
      refine V_iadd X dX12_trueOf_40 ?_
      refine K_12_tell0 X (Or.inl q_1203) hZ h ⟨Nat.le_of_ble_eq_true rfl, Nat.le_of_ble_eq_true rfl⟩ ⟨Nat.zero_le _, Nat.zero_le _⟩ (st1 := [.int l3]) (Nat.le_of_ble_eq_true rfl) dX12_trueOf_41 (fun r10 w9 v11 h => ?_)
      refine V_iadd X dX12_trueOf_44 ?_
      obtain ⟨x12, ex12⟩ : ∃ y : Int32, y = (l3 + r10) := ⟨_, rfl⟩
      have h := h x12 ex12
      refine V_istore_n X dX12_trueOf_45 rfl (by decide) ex12 (ls1 := [(3, .int x12), (2, .int x8), (0, .ref (ad 150)), (1, .int l1), (4, .int l4)]) rfl ?_
      obtain ⟨x13, ex13⟩ : ∃ y : Int32, y = l4 + (1 : Int32) := ⟨_, rfl⟩
      have h := h x13 ex13
      refine V_iinc X 4 dX12_trueOf_46 rfl (by decide) (by rw [ex13]; rfl) (ls1 := [(4, .int x13), (3, .int x12), (2, .int x8), (0, .ref (ad 150)), (1, .int l1)]) rfl ?_
      refine V_goto X (tgt := 7) dX12_trueOf_49 (by decide) ?_
      refine V_sub X (ls1 := [(0, .ref (ad 150)), (1, .int l1), (2, .int x8), (3, .int x12), (4, .int x13)]) [3, 4, 2, 1, 0] rfl ?_
      exact ih _ _ _ _ _ _ h
set_option maxRecDepth 20000 in
theorem v_12_trueOf {a1 : Int32} (X : CXq p s m args meth c cX12_trueOf 5 yX12_trueOf.cls ad cy D (AW ad) s.heap) (hr : meth.sig.returnType = (some .int)) (hZ : ad 1000 = 189) {w : Mem} {wl : MemL} {Q : Int32 → Mem → MemL → Prop} (h : wp_12_trueOf a1 w wl Q) : V p l e (RM 3) s m args below meth c 5 ad cy D (AW ad) s.heap 0 0 (MQ below (va_Qi (fun r (u : Mem × MemL) => Q r u.1 u.2) (BM ad cy D wc) (AW ad)) args s 0 0 (AW ad)) wc w wl 0 [(0, .ref (ad 150)), (1, .int a1)] [] := by
  unfold wp_12_trueOf at h
  refine V_iconst X (v := (0 : Int32)) dX12_trueOf_0 (by decide) ?_
  refine V_istore_n X dX12_trueOf_1 rfl (by decide) rfl (ls1 := [(2, .int (0 : Int32)), (0, .ref (ad 150)), (1, .int a1)]) rfl ?_
  refine V_iconst X (v := (0 : Int32)) dX12_trueOf_2 (by decide) ?_
  refine V_istore_n X dX12_trueOf_3 rfl (by decide) rfl (ls1 := [(3, .int (0 : Int32)), (2, .int (0 : Int32)), (0, .ref (ad 150)), (1, .int a1)]) rfl ?_
  refine V_iconst X (v := (0 : Int32)) dX12_trueOf_4 (by decide) ?_
  refine V_istore X dX12_trueOf_5 (by decide) rfl (ls1 := [(4, .int (0 : Int32)), (3, .int (0 : Int32)), (2, .int (0 : Int32)), (0, .ref (ad 150)), (1, .int a1)]) rfl ?_
  refine V_sub X (ls1 := [(0, .ref (ad 150)), (1, .int a1), (2, .int (0 : Int32)), (3, .int (0 : Int32)), (4, .int (0 : Int32))]) [3, 4, 2, 1, 0] rfl ?_
  obtain ⟨nn, h⟩ := h
  exact v_12_trueOf_b7 X hr hZ nn _ _ _ _ _ _ h
theorem c_12_trueOf {a1 : Int32} (hinj : INJ ad) (hZ : ad 1000 = 189) {w : Mem} {wl : MemL} {Q : Int32 → Mem → MemL → Prop} (h : wp_12_trueOf a1 w wl Q) : Met l yX12_trueOf (TBq yX12_trueOf cX12_trueOf 5 (some .int)) (RM 3) (va_Pc [.ref (ad 150), .int a1] (PB ad cy D (cmb wc w) wl)) (va_Qi (fun r (u : Mem × MemL) => Q r u.1 u.2) (BM ad cy D wc) (AW ad)) 0 0 (AW ad) := M_enter (by decide) (Nat.le_of_ble_eq_true rfl) hinj (fun p e s m args below meth c X hr => v_12_trueOf X hr hZ h)
theorem mf_12_trueOf : MFV yX12_trueOf cX12_trueOf 5 (some .int) yX12_trueOf.cls 1 := ⟨q_1604, q_1603, qs_76, q_14, by decide⟩
theorem K_12_trueOf {own : String} {idx : Nat} {a1 : Int32} (X : CXq p s m args meth c cc nL own ad cy D A H0) (hL : LK own idx yX12_trueOf) (hZ : ad 1000 = 189) {w : Mem} {wl : MemL} {Q : Int32 → Mem → MemL → Prop} (h : wp_12_trueOf a1 w wl Q) (hR : (RM 3).frames + 1 ≤ R.frames ∧ 8 + (5 + 11) + (RM 3).locals ≤ R.locals) (hce : ce ≤ R.cells ∧ sl ≤ R.slots) (hcat : (st1.map fun v => v.category).sum ≤ 8) (hd : decode cc pc = .ok (.invokevirtual idx, 3)) (kk : ∀ (r : Int32) (u : Mem) (v : MemL), Q r u v → V p l e R s m args below meth c nL ad cy D A H0 ce sl Qs wc u v (pc + 3) ls (.int r :: st1)) : V p l e R s m args below meth c nL ad cy D A H0 ce sl Qs wc w wl pc ls (.int a1 :: .ref (ad 150) :: st1) := V_callVI_m X mf_12_trueOf hL (rfl : vwCl[12]? = some (RX12, TX12, 72)) (by decide) (rfl : SK 150 = 12) (hzk hZ (by decide)).2 (c_12_trueOf X.2.2.2.2.2.2.2.1 hZ h) (As := [.int a1]) rfl ⟨rfl, rfl⟩ hR hce st1 rfl hcat hd kk
set_option maxRecDepth 20000 in
theorem v_12_setsStyle_b115 (X : CXq p s m args meth c cX12_setsStyle 6 yX12_setsStyle.cls ad cy D (AW ad) s.heap) (hr : meth.sig.returnType = none) (hZ : ad 1000 = 189) {Q : Mem → MemL → Prop} : ∀ (s1 : Int32) (w : Mem) (wl : MemL), wp_12_setsStyle_b115 Q s1 w wl → V p l e (RM 0) s m args below meth c 6 ad cy D (AW ad) s.heap 0 0 (MQ below (va_Qv (fun (u : Mem × MemL) => Q u.1 u.2) (BM ad cy D wc) (AW ad)) args s 0 0 (AW ad)) wc w wl 115 [] [.int s1, .ref (ad 150)] := by
  intro s1 w wl h
  unfold wp_12_setsStyle_b115 at h
  obtain ⟨w1, ew1⟩ : ∃ y : Mem, y = st w 150 62 s1 := ⟨_, rfl⟩
  have h := h w1 ew1
  refine U_12_377 X hZ rfl rfl dX12_setsStyle_115 ew1 ?_
  exact V_vret_m X hr dX12_setsStyle_118 h
set_option maxRecDepth 20000 in
theorem v_12_setsStyle_b93 (X : CXq p s m args meth c cX12_setsStyle 6 yX12_setsStyle.cls ad cy D (AW ad) s.heap) (hr : meth.sig.returnType = none) (hZ : ad 1000 = 189) {Q : Mem → MemL → Prop} {L14 : Int32 → Int32 → Int32 → Int32 → Int32 → Mem → MemL → Prop} (HL14 : ∀ (l1 : Int32) (l2 : Int32) (l3 : Int32) (l4 : Int32) (l5 : Int32) (w : Mem) (wl : MemL), L14 l1 l2 l3 l4 l5 w wl → V p l e (RM 0) s m args below meth c 6 ad cy D (AW ad) s.heap 0 0 (MQ below (va_Qv (fun (u : Mem × MemL) => Q u.1 u.2) (BM ad cy D wc) (AW ad)) args s 0 0 (AW ad)) wc w wl 14 [(0, .ref (ad 150)), (1, .int l1), (2, .int l2), (3, .int l3), (4, .int l4), (5, .int l5)] []) : ∀ (l1 : Int32) (l2 : Int32) (l3 : Int32) (l4 : Int32) (l5 : Int32) (w : Mem) (wl : MemL), wp_12_setsStyle_b93 Q L14 l1 l2 l3 l4 l5 w wl → V p l e (RM 0) s m args below meth c 6 ad cy D (AW ad) s.heap 0 0 (MQ below (va_Qv (fun (u : Mem × MemL) => Q u.1 u.2) (BM ad cy D wc) (AW ad)) args s 0 0 (AW ad)) wc w wl 93 [(0, .ref (ad 150)), (1, .int l1), (2, .int l2), (3, .int l3), (4, .int l4), (5, .int l5)] [] := by
  intro l1 l2 l3 l4 l5 w wl h
  unfold wp_12_setsStyle_b93 at h
  obtain ⟨x1, ex1⟩ : ∃ y : Int32, y = l5 + (1 : Int32) := ⟨_, rfl⟩
  have h := h x1 ex1
  refine V_iinc X 5 dX12_setsStyle_93 rfl (by decide) (by rw [ex1]; rfl) (ls1 := [(5, .int x1), (0, .ref (ad 150)), (1, .int l1), (2, .int l2), (3, .int l3), (4, .int l4)]) rfl ?_
  refine V_goto X (tgt := 14) dX12_setsStyle_96 (by decide) ?_
  refine V_sub X (ls1 := [(0, .ref (ad 150)), (1, .int l1), (2, .int l2), (3, .int l3), (4, .int l4), (5, .int x1)]) [1, 2, 3, 4, 5, 0] rfl ?_
  exact HL14 _ _ _ _ _ _ _ h
set_option maxRecDepth 20000 in
theorem v_12_setsStyle_b72 (X : CXq p s m args meth c cX12_setsStyle 6 yX12_setsStyle.cls ad cy D (AW ad) s.heap) (hr : meth.sig.returnType = none) (hZ : ad 1000 = 189) {Q : Mem → MemL → Prop} {L14 : Int32 → Int32 → Int32 → Int32 → Int32 → Mem → MemL → Prop} (HL14 : ∀ (l1 : Int32) (l2 : Int32) (l3 : Int32) (l4 : Int32) (l5 : Int32) (w : Mem) (wl : MemL), L14 l1 l2 l3 l4 l5 w wl → V p l e (RM 0) s m args below meth c 6 ad cy D (AW ad) s.heap 0 0 (MQ below (va_Qv (fun (u : Mem × MemL) => Q u.1 u.2) (BM ad cy D wc) (AW ad)) args s 0 0 (AW ad)) wc w wl 14 [(0, .ref (ad 150)), (1, .int l1), (2, .int l2), (3, .int l3), (4, .int l4), (5, .int l5)] []) : ∀ (l1 : Int32) (l2 : Int32) (l3 : Int32) (l4 : Int32) (l5 : Int32) (w : Mem) (wl : MemL), wp_12_setsStyle_b72 Q L14 l1 l2 l3 l4 l5 w wl → V p l e (RM 0) s m args below meth c 6 ad cy D (AW ad) s.heap 0 0 (MQ below (va_Qv (fun (u : Mem × MemL) => Q u.1 u.2) (BM ad cy D wc) (AW ad)) args s 0 0 (AW ad)) wc w wl 72 [(0, .ref (ad 150)), (1, .int l1), (2, .int l2), (3, .int l3), (4, .int l4), (5, .int l5)] [] := by
  intro l1 l2 l3 l4 l5 w wl h
  unfold wp_12_setsStyle_b72 at h
  refine V_aload_n X (i := 0) 0 dX12_setsStyle_72 rfl rfl ?_
  refine G_12_113 X hZ dX12_setsStyle_73 ?_
  refine V_iload X (i := 5) 5 dX12_setsStyle_76 rfl ?_
  obtain ⟨g1, h⟩ := h
  refine V_iald_m X (rfl : SLq 182 = 7) (hzk hZ (by decide)) (rfl : SK 182 = 14) g1 dX12_setsStyle_78 ?_
  refine V_iload X (i := 4) 4 dX12_setsStyle_79 rfl ?_
  obtain ⟨ht, hf⟩ := h
  refine V_icmp_le X (tgt := 93) dX12_setsStyle_81 (by decide) (fun c => ?_) (fun c => ?_)
  · have h := ht c
    refine V_sub X (ls1 := [(0, .ref (ad 150)), (1, .int l1), (2, .int l2), (3, .int l3), (4, .int l4), (5, .int l5)]) [0, 1, 2, 3, 4, 5] rfl ?_
    exact v_12_setsStyle_b93 X hr hZ HL14 _ _ _ _ _ _ _ h
  · have h := hf c
    refine V_aload_n X (i := 0) 0 dX12_setsStyle_84 rfl rfl ?_
    refine G_12_113 X hZ dX12_setsStyle_85 ?_
    refine V_iload X (i := 5) 5 dX12_setsStyle_88 rfl ?_
    obtain ⟨g2, h⟩ := h
    refine V_iald_m X (rfl : SLq 182 = 7) (hzk hZ (by decide)) (rfl : SK 182 = 14) g2 dX12_setsStyle_90 ?_
    obtain ⟨x3, ex3⟩ : ∃ y : Int32, y = (w 182 (ix l5)) := ⟨_, rfl⟩
    have h := h x3 ex3
    refine V_istore X dX12_setsStyle_91 (by decide) ex3 (ls1 := [(4, .int x3), (0, .ref (ad 150)), (1, .int l1), (2, .int l2), (3, .int l3), (5, .int l5)]) rfl ?_
    refine V_sub X (ls1 := [(0, .ref (ad 150)), (1, .int l1), (2, .int l2), (3, .int l3), (4, .int x3), (5, .int l5)]) [1, 2, 3, 4, 0, 5] rfl ?_
    exact v_12_setsStyle_b93 X hr hZ HL14 _ _ _ _ _ _ _ h
set_option maxRecDepth 20000 in
theorem v_12_setsStyle_b14 (X : CXq p s m args meth c cX12_setsStyle 6 yX12_setsStyle.cls ad cy D (AW ad) s.heap) (hr : meth.sig.returnType = none) (hZ : ad 1000 = 189) {Q : Mem → MemL → Prop} : ∀ (n : Nat) (l1 : Int32) (l2 : Int32) (l3 : Int32) (l4 : Int32) (l5 : Int32) (w : Mem) (wl : MemL), wp_12_setsStyle_b14 Q n l1 l2 l3 l4 l5 w wl → V p l e (RM 0) s m args below meth c 6 ad cy D (AW ad) s.heap 0 0 (MQ below (va_Qv (fun (u : Mem × MemL) => Q u.1 u.2) (BM ad cy D wc) (AW ad)) args s 0 0 (AW ad)) wc w wl 14 [(0, .ref (ad 150)), (1, .int l1), (2, .int l2), (3, .int l3), (4, .int l4), (5, .int l5)] [] := by
  intro n
  induction n with
  | zero =>
    intro l1 l2 l3 l4 l5 w wl h
    exact h.elim
  | succ n ih =>
    intro l1 l2 l3 l4 l5 w wl h
    unfold wp_12_setsStyle_b14 at h
    refine V_iload X (i := 5) 5 dX12_setsStyle_14 rfl ?_
    refine V_aload_n X (i := 0) 0 dX12_setsStyle_16 rfl rfl ?_
    refine G_12_61 X hZ dX12_setsStyle_17 ?_
    refine V_aload_n X (i := 0) 0 dX12_setsStyle_20 rfl rfl ?_
    refine G_12_218 X hZ dX12_setsStyle_21 ?_
    obtain ⟨g1, h⟩ := h
    refine V_iald_m X (rfl : SLq 165 = 2) (hzk hZ (by decide)) (rfl : SK 165 = 14) g1 dX12_setsStyle_24 ?_
    obtain ⟨ht, hf⟩ := h
    refine V_icmp_ge X (tgt := 99) dX12_setsStyle_25 (by decide) (fun c => ?_) (fun c => ?_)
    · have h := ht c
      refine V_aload_n X (i := 0) 0 dX12_setsStyle_99 rfl rfl ?_
      refine V_iload_n X (i := 1) 1 dX12_setsStyle_100 rfl rfl ?_
      refine V_iconst X (v := (2 : Int32)) dX12_setsStyle_101 (by decide) ?_
      obtain ⟨ht, hf⟩ := h
      refine V_icmp_le X (tgt := 114) dX12_setsStyle_102 (by decide) (fun c => ?_) (fun c => ?_)
      · have h := ht c
        refine V_iload_n X (i := 2) 2 dX12_setsStyle_114 rfl rfl ?_
        refine V_sub X (ls1 := []) [] rfl ?_
        exact v_12_setsStyle_b115 X hr hZ _ _ _ h
      · have h := hf c
        refine V_iload_n X (i := 2) 2 dX12_setsStyle_105 rfl rfl ?_
        refine V_iload_n X (i := 3) 3 dX12_setsStyle_106 rfl rfl ?_
        refine V_isub X dX12_setsStyle_107 ?_
        refine V_iload X (i := 4) 4 dX12_setsStyle_108 rfl ?_
        refine V_isub X dX12_setsStyle_110 ?_
        refine V_goto X (tgt := 115) dX12_setsStyle_111 (by decide) ?_
        refine V_sub X (ls1 := []) [] rfl ?_
        exact v_12_setsStyle_b115 X hr hZ _ _ _ h
    · have h := hf c
      refine V_iload X (i := 5) 5 dX12_setsStyle_28 rfl ?_
      refine V_aload_n X (i := 0) 0 dX12_setsStyle_30 rfl rfl ?_
      refine G_12_116 X hZ dX12_setsStyle_31 ?_
      obtain ⟨ht, hf⟩ := h
      refine V_icmp_ne X (tgt := 40) dX12_setsStyle_34 (by decide) (fun c => ?_) (fun c => ?_)
      · have h := ht c
        obtain ⟨x2, ex2⟩ : ∃ y : Int32, y = l1 + (1 : Int32) := ⟨_, rfl⟩
        have h := h x2 ex2
        refine V_iinc X 1 dX12_setsStyle_40 rfl (by decide) (by rw [ex2]; rfl) (ls1 := [(1, .int x2), (0, .ref (ad 150)), (2, .int l2), (3, .int l3), (4, .int l4), (5, .int l5)]) rfl ?_
        refine V_iload_n X (i := 2) 2 dX12_setsStyle_43 rfl rfl ?_
        refine V_aload_n X (i := 0) 1 dX12_setsStyle_44 rfl rfl ?_
        refine G_12_113 X hZ dX12_setsStyle_45 ?_
        refine V_iload X (i := 5) 5 dX12_setsStyle_48 rfl ?_
        obtain ⟨g3, h⟩ := h
        refine V_iald_m X (rfl : SLq 182 = 7) (hzk hZ (by decide)) (rfl : SK 182 = 14) g3 dX12_setsStyle_50 ?_
        refine V_iadd X dX12_setsStyle_51 ?_
        obtain ⟨x4, ex4⟩ : ∃ y : Int32, y = (l2 + (w 182 (ix l5))) := ⟨_, rfl⟩
        have h := h x4 ex4
        refine V_istore_n X dX12_setsStyle_52 rfl (by decide) ex4 (ls1 := [(2, .int x4), (1, .int x2), (0, .ref (ad 150)), (3, .int l3), (4, .int l4), (5, .int l5)]) rfl ?_
        refine V_aload_n X (i := 0) 2 dX12_setsStyle_53 rfl rfl ?_
        refine G_12_113 X hZ dX12_setsStyle_54 ?_
        refine V_iload X (i := 5) 5 dX12_setsStyle_57 rfl ?_
        obtain ⟨g5, h⟩ := h
        refine V_iald_m X (rfl : SLq 182 = 7) (hzk hZ (by decide)) (rfl : SK 182 = 14) g5 dX12_setsStyle_59 ?_
        refine V_iload_n X (i := 3) 3 dX12_setsStyle_60 rfl rfl ?_
        obtain ⟨ht, hf⟩ := h
        refine V_icmp_ge X (tgt := 72) dX12_setsStyle_61 (by decide) (fun c => ?_) (fun c => ?_)
        · have h := ht c
          refine V_sub X (ls1 := [(0, .ref (ad 150)), (1, .int x2), (2, .int x4), (3, .int l3), (4, .int l4), (5, .int l5)]) [2, 1, 0, 3, 4, 5] rfl ?_
          exact v_12_setsStyle_b72 X hr hZ ih _ _ _ _ _ _ _ h
        · have h := hf c
          refine V_aload_n X (i := 0) 2 dX12_setsStyle_64 rfl rfl ?_
          refine G_12_113 X hZ dX12_setsStyle_65 ?_
          refine V_iload X (i := 5) 5 dX12_setsStyle_68 rfl ?_
          obtain ⟨g6, h⟩ := h
          refine V_iald_m X (rfl : SLq 182 = 7) (hzk hZ (by decide)) (rfl : SK 182 = 14) g6 dX12_setsStyle_70 ?_
          obtain ⟨x7, ex7⟩ : ∃ y : Int32, y = (w 182 (ix l5)) := ⟨_, rfl⟩
          have h := h x7 ex7
          refine V_istore_n X dX12_setsStyle_71 rfl (by decide) ex7 (ls1 := [(3, .int x7), (2, .int x4), (1, .int x2), (0, .ref (ad 150)), (4, .int l4), (5, .int l5)]) rfl ?_
          refine V_sub X (ls1 := [(0, .ref (ad 150)), (1, .int x2), (2, .int x4), (3, .int x7), (4, .int l4), (5, .int l5)]) [3, 2, 1, 0, 4, 5] rfl ?_
          exact v_12_setsStyle_b72 X hr hZ ih _ _ _ _ _ _ _ h
      · have h := hf c
        refine V_goto X (tgt := 93) dX12_setsStyle_37 (by decide) ?_
        refine V_sub X (ls1 := [(0, .ref (ad 150)), (1, .int l1), (2, .int l2), (3, .int l3), (4, .int l4), (5, .int l5)]) [0, 1, 2, 3, 4, 5] rfl ?_
        exact v_12_setsStyle_b93 X hr hZ ih _ _ _ _ _ _ _ h
set_option maxRecDepth 20000 in
theorem v_12_setsStyle (X : CXq p s m args meth c cX12_setsStyle 6 yX12_setsStyle.cls ad cy D (AW ad) s.heap) (hr : meth.sig.returnType = none) (hZ : ad 1000 = 189) {w : Mem} {wl : MemL} {Q : Mem → MemL → Prop} (h : wp_12_setsStyle w wl Q) : V p l e (RM 0) s m args below meth c 6 ad cy D (AW ad) s.heap 0 0 (MQ below (va_Qv (fun (u : Mem × MemL) => Q u.1 u.2) (BM ad cy D wc) (AW ad)) args s 0 0 (AW ad)) wc w wl 0 [(0, .ref (ad 150))] [] := by
  unfold wp_12_setsStyle at h
  refine V_iconst X (v := (0 : Int32)) dX12_setsStyle_0 (by decide) ?_
  refine V_istore_n X dX12_setsStyle_1 rfl (by decide) rfl (ls1 := [(1, .int (0 : Int32)), (0, .ref (ad 150))]) rfl ?_
  refine V_iconst X (v := (0 : Int32)) dX12_setsStyle_2 (by decide) ?_
  refine V_istore_n X dX12_setsStyle_3 rfl (by decide) rfl (ls1 := [(2, .int (0 : Int32)), (1, .int (0 : Int32)), (0, .ref (ad 150))]) rfl ?_
  refine V_sipush X (v := (200 : Int32)) dX12_setsStyle_4 (by decide) ?_
  refine V_istore_n X dX12_setsStyle_7 rfl (by decide) rfl (ls1 := [(3, .int (200 : Int32)), (2, .int (0 : Int32)), (1, .int (0 : Int32)), (0, .ref (ad 150))]) rfl ?_
  refine V_iconst X (v := (0 : Int32)) dX12_setsStyle_8 (by decide) ?_
  refine V_istore X dX12_setsStyle_9 (by decide) rfl (ls1 := [(4, .int (0 : Int32)), (3, .int (200 : Int32)), (2, .int (0 : Int32)), (1, .int (0 : Int32)), (0, .ref (ad 150))]) rfl ?_
  refine V_iconst X (v := (0 : Int32)) dX12_setsStyle_11 (by decide) ?_
  refine V_istore X dX12_setsStyle_12 (by decide) rfl (ls1 := [(5, .int (0 : Int32)), (4, .int (0 : Int32)), (3, .int (200 : Int32)), (2, .int (0 : Int32)), (1, .int (0 : Int32)), (0, .ref (ad 150))]) rfl ?_
  refine V_sub X (ls1 := [(0, .ref (ad 150)), (1, .int (0 : Int32)), (2, .int (0 : Int32)), (3, .int (200 : Int32)), (4, .int (0 : Int32)), (5, .int (0 : Int32))]) [5, 4, 3, 2, 1, 0] rfl ?_
  obtain ⟨nn, h⟩ := h
  exact v_12_setsStyle_b14 X hr hZ nn _ _ _ _ _ _ _ h
theorem c_12_setsStyle (hinj : INJ ad) (hZ : ad 1000 = 189) {w : Mem} {wl : MemL} {Q : Mem → MemL → Prop} (h : wp_12_setsStyle w wl Q) : Met l yX12_setsStyle (TBq yX12_setsStyle cX12_setsStyle 6 none) (RM 0) (va_Pc [.ref (ad 150)] (PB ad cy D (cmb wc w) wl)) (va_Qv (fun (u : Mem × MemL) => Q u.1 u.2) (BM ad cy D wc) (AW ad)) 0 0 (AW ad) := M_enter (by decide) (Nat.le_of_ble_eq_true rfl) hinj (fun p e s m args below meth c X hr => v_12_setsStyle X hr hZ h)
theorem mf_12_setsStyle : MFV yX12_setsStyle cX12_setsStyle 6 none yX12_setsStyle.cls 0 := ⟨q_1679, q_1678, qs_86, q_14, by decide⟩
theorem K_12_setsStyle {own : String} {idx : Nat} (X : CXq p s m args meth c cc nL own ad cy D A H0) (hL : LK own idx yX12_setsStyle) (hZ : ad 1000 = 189) {w : Mem} {wl : MemL} {Q : Mem → MemL → Prop} (h : wp_12_setsStyle w wl Q) (hR : (RM 0).frames + 1 ≤ R.frames ∧ 8 + (6 + 11) + (RM 0).locals ≤ R.locals) (hce : ce ≤ R.cells ∧ sl ≤ R.slots) (hcat : (st1.map fun v => v.category).sum ≤ 8) (hd : decode cc pc = .ok (.invokevirtual idx, 3)) (kk : ∀ (u : Mem) (v : MemL), Q u v → V p l e R s m args below meth c nL ad cy D A H0 ce sl Qs wc u v (pc + 3) ls st1) : V p l e R s m args below meth c nL ad cy D A H0 ce sl Qs wc w wl pc ls (.ref (ad 150) :: st1) := V_callVV_m X mf_12_setsStyle hL (rfl : vwCl[12]? = some (RX12, TX12, 72)) (by decide) (rfl : SK 150 = 12) (hzk hZ (by decide)).2 (c_12_setsStyle X.2.2.2.2.2.2.2.1 hZ h) (As := []) rfl ⟨rfl, rfl⟩ hR hce st1 rfl hcat hd kk
set_option maxRecDepth 20000 in
theorem v_12_setsPoints_b87 (X : CXq p s m args meth c cX12_setsPoints 3 yX12_setsPoints.cls ad cy D (AW ad) s.heap) (hr : meth.sig.returnType = none) (hZ : ad 1000 = 189) {Q : Mem → MemL → Prop} : ∀ (s1 : Int32) (w : Mem) (wl : MemL), wp_12_setsPoints_b87 Q s1 w wl → V p l e (RM 2) s m args below meth c 3 ad cy D (AW ad) s.heap 0 0 (MQ below (va_Qv (fun (u : Mem × MemL) => Q u.1 u.2) (BM ad cy D wc) (AW ad)) args s 0 0 (AW ad)) wc w wl 87 [] [.int s1, .ref (ad 150)] := by
  intro s1 w wl h
  unfold wp_12_setsPoints_b87 at h
  obtain ⟨w1, ew1⟩ : ∃ y : Mem, y = st w 150 63 s1 := ⟨_, rfl⟩
  have h := h w1 ew1
  refine U_12_380 X hZ rfl rfl dX12_setsPoints_87 ew1 ?_
  exact V_vret_m X hr dX12_setsPoints_90 h
set_option maxRecDepth 20000 in
theorem v_12_setsPoints (X : CXq p s m args meth c cX12_setsPoints 3 yX12_setsPoints.cls ad cy D (AW ad) s.heap) (hr : meth.sig.returnType = none) (hZ : ad 1000 = 189) {w : Mem} {wl : MemL} {Q : Mem → MemL → Prop} (h : wp_12_setsPoints w wl Q) : V p l e (RM 2) s m args below meth c 3 ad cy D (AW ad) s.heap 0 0 (MQ below (va_Qv (fun (u : Mem × MemL) => Q u.1 u.2) (BM ad cy D wc) (AW ad)) args s 0 0 (AW ad)) wc w wl 0 [(0, .ref (ad 150))] [] := by
  unfold wp_12_setsPoints at h
  refine V_aload_n X (i := 0) 0 dX12_setsPoints_0 rfl rfl ?_
  refine K_12_clears X (Or.inl q_1578) hZ h ⟨Nat.le_of_ble_eq_true rfl, Nat.le_of_ble_eq_true rfl⟩ ⟨Nat.zero_le _, Nat.zero_le _⟩ (st1 := []) (Nat.le_of_ble_eq_true rfl) dX12_setsPoints_1 (fun w1 v2 h => ?_)
  refine V_aload_n X (i := 0) 0 dX12_setsPoints_4 rfl rfl ?_
  refine G_12_101 X hZ dX12_setsPoints_5 ?_
  refine V_iconst X (v := (2 : Int32)) dX12_setsPoints_8 (by decide) ?_
  refine V_aload_n X (i := 0) 0 dX12_setsPoints_9 rfl rfl ?_
  refine G_12_353 X hZ dX12_setsPoints_10 ?_
  obtain ⟨w3, ew3⟩ : ∃ y : Mem, y = st w1 178 (ix (2 : Int32)) (w1 150 56) := ⟨_, rfl⟩
  have h := h w3 ew3
  refine V_iast_m X (rfl : SLq 178 = 11) (hzk hZ (by decide)) (rfl : SK 178 = 14) (vpl (by decide)) dX12_setsPoints_13 ew3 ?_
  refine V_aload_n X (i := 0) 0 dX12_setsPoints_14 rfl rfl ?_
  refine V_iconst X (v := (2 : Int32)) dX12_setsPoints_15 (by decide) ?_
  refine V_iconst X (v := (0 : Int32)) dX12_setsPoints_16 (by decide) ?_
  refine V_sipush X (v := (-999 : Int32)) dX12_setsPoints_17 (by decide) ?_
  refine V_sipush X (v := (999 : Int32)) dX12_setsPoints_20 (by decide) ?_
  refine K_12_tells X (Or.inl q_1582) hZ h ⟨Nat.le_of_ble_eq_true rfl, Nat.le_of_ble_eq_true rfl⟩ ⟨Nat.zero_le _, Nat.zero_le _⟩ (st1 := []) (Nat.le_of_ble_eq_true rfl) dX12_setsPoints_23 (fun r5 w4 v6 h => ?_)
  refine V_istore_n X dX12_setsPoints_26 rfl (by decide) rfl (ls1 := [(1, .int r5), (0, .ref (ad 150))]) rfl ?_
  refine V_sipush X (v := (600 : Int32)) dX12_setsPoints_27 (by decide) ?_
  refine V_aload_n X (i := 0) 1 dX12_setsPoints_30 rfl rfl ?_
  refine V_iconst X (v := (2 : Int32)) dX12_setsPoints_31 (by decide) ?_
  refine K_12_tell0 X (Or.inl q_1203) hZ h ⟨Nat.le_of_ble_eq_true rfl, Nat.le_of_ble_eq_true rfl⟩ ⟨Nat.zero_le _, Nat.zero_le _⟩ (st1 := [.int (600 : Int32)]) (Nat.le_of_ble_eq_true rfl) dX12_setsPoints_32 (fun r8 w7 v9 h => ?_)
  refine V_aload_n X (i := 0) 1 dX12_setsPoints_35 rfl rfl ?_
  refine G_12_365 X hZ dX12_setsPoints_36 ?_
  refine V_aload_n X (i := 0) 1 dX12_setsPoints_39 rfl rfl ?_
  refine V_iconst X (v := (0 : Int32)) dX12_setsPoints_40 (by decide) ?_
  refine K_12_tell0 X (Or.inl q_1203) hZ h ⟨Nat.le_of_ble_eq_true rfl, Nat.le_of_ble_eq_true rfl⟩ ⟨Nat.zero_le _, Nat.zero_le _⟩ (st1 := [.int (w7 150 59), .int r8, .int (600 : Int32)]) (Nat.le_of_ble_eq_true rfl) dX12_setsPoints_41 (fun r11 w10 v12 h => ?_)
  refine V_isub X dX12_setsPoints_44 ?_
  refine V_imul X dX12_setsPoints_45 ?_
  refine V_bipush X (v := (10 : Int32)) dX12_setsPoints_46 (by decide) ?_
  refine V_idiv X dX12_setsPoints_48 (by decide) ?_
  refine V_iadd X dX12_setsPoints_49 ?_
  refine V_aload_n X (i := 0) 1 dX12_setsPoints_50 rfl rfl ?_
  refine G_12_377 X hZ dX12_setsPoints_51 ?_
  refine V_iadd X dX12_setsPoints_54 ?_
  refine V_iload_n X (i := 1) 0 dX12_setsPoints_55 rfl rfl ?_
  refine V_iadd X dX12_setsPoints_56 ?_
  refine V_aload_n X (i := 0) 1 dX12_setsPoints_57 rfl rfl ?_
  refine V_bipush X (v := (13 : Int32)) dX12_setsPoints_58 (by decide) ?_
  refine K_12_tell0 X (Or.inl q_1203) hZ h ⟨Nat.le_of_ble_eq_true rfl, Nat.le_of_ble_eq_true rfl⟩ ⟨Nat.zero_le _, Nat.zero_le _⟩ (st1 := [.int ((((600 : Int32) + ((r8 * ((w7 150 59) - r11)) / (10 : Int32))) + (w10 150 62)) + r5)]) (Nat.le_of_ble_eq_true rfl) dX12_setsPoints_60 (fun r14 w13 v15 h => ?_)
  refine V_aload_n X (i := 0) 1 dX12_setsPoints_63 rfl rfl ?_
  refine V_bipush X (v := (12 : Int32)) dX12_setsPoints_64 (by decide) ?_
  refine K_12_tell0 X (Or.inl q_1203) hZ h ⟨Nat.le_of_ble_eq_true rfl, Nat.le_of_ble_eq_true rfl⟩ ⟨Nat.zero_le _, Nat.zero_le _⟩ (st1 := [.int r14, .int ((((600 : Int32) + ((r8 * ((w7 150 59) - r11)) / (10 : Int32))) + (w10 150 62)) + r5)]) (Nat.le_of_ble_eq_true rfl) dX12_setsPoints_66 (fun r17 w16 v18 h => ?_)
  refine V_aload_n X (i := 0) 1 dX12_setsPoints_69 rfl rfl ?_
  refine G_12_338 X hZ dX12_setsPoints_70 ?_
  refine V_isub X dX12_setsPoints_73 ?_
  refine V_imul X dX12_setsPoints_74 ?_
  refine V_iadd X dX12_setsPoints_75 ?_
  obtain ⟨x19, ex19⟩ : ∃ y : Int32, y = (((((600 : Int32) + ((r8 * ((w7 150 59) - r11)) / (10 : Int32))) + (w10 150 62)) + r5) + (r14 * (r17 - (w16 150 53)))) := ⟨_, rfl⟩
  have h := h x19 ex19
  refine V_istore_n X dX12_setsPoints_76 rfl (by decide) ex19 (ls1 := [(2, .int x19), (1, .int r5), (0, .ref (ad 150))]) rfl ?_
  refine V_aload_n X (i := 0) 2 dX12_setsPoints_77 rfl rfl ?_
  refine V_iload_n X (i := 2) 0 dX12_setsPoints_78 rfl rfl ?_
  obtain ⟨ht, hf⟩ := h
  refine V_if_ge X (tgt := 86) dX12_setsPoints_79 (by decide) (fun c => ?_) (fun c => ?_)
  · have h := ht c
    refine V_iload_n X (i := 2) 0 dX12_setsPoints_86 rfl rfl ?_
    refine V_sub X (ls1 := []) [] rfl ?_
    exact v_12_setsPoints_b87 X hr hZ _ _ _ h
  · have h := hf c
    refine V_iconst X (v := (0 : Int32)) dX12_setsPoints_82 (by decide) ?_
    refine V_goto X (tgt := 87) dX12_setsPoints_83 (by decide) ?_
    refine V_sub X (ls1 := []) [] rfl ?_
    exact v_12_setsPoints_b87 X hr hZ _ _ _ h
theorem c_12_setsPoints (hinj : INJ ad) (hZ : ad 1000 = 189) {w : Mem} {wl : MemL} {Q : Mem → MemL → Prop} (h : wp_12_setsPoints w wl Q) : Met l yX12_setsPoints (TBq yX12_setsPoints cX12_setsPoints 3 none) (RM 2) (va_Pc [.ref (ad 150)] (PB ad cy D (cmb wc w) wl)) (va_Qv (fun (u : Mem × MemL) => Q u.1 u.2) (BM ad cy D wc) (AW ad)) 0 0 (AW ad) := M_enter (by decide) (Nat.le_of_ble_eq_true rfl) hinj (fun p e s m args below meth c X hr => v_12_setsPoints X hr hZ h)
theorem mf_12_setsPoints : MFV yX12_setsPoints cX12_setsPoints 3 none yX12_setsPoints.cls 0 := ⟨q_1683, q_1682, qs_87, q_14, by decide⟩
theorem K_12_setsPoints {own : String} {idx : Nat} (X : CXq p s m args meth c cc nL own ad cy D A H0) (hL : LK own idx yX12_setsPoints) (hZ : ad 1000 = 189) {w : Mem} {wl : MemL} {Q : Mem → MemL → Prop} (h : wp_12_setsPoints w wl Q) (hR : (RM 2).frames + 1 ≤ R.frames ∧ 8 + (3 + 11) + (RM 2).locals ≤ R.locals) (hce : ce ≤ R.cells ∧ sl ≤ R.slots) (hcat : (st1.map fun v => v.category).sum ≤ 8) (hd : decode cc pc = .ok (.invokevirtual idx, 3)) (kk : ∀ (u : Mem) (v : MemL), Q u v → V p l e R s m args below meth c nL ad cy D A H0 ce sl Qs wc u v (pc + 3) ls st1) : V p l e R s m args below meth c nL ad cy D A H0 ce sl Qs wc w wl pc ls (.ref (ad 150) :: st1) := V_callVV_m X mf_12_setsPoints hL (rfl : vwCl[12]? = some (RX12, TX12, 72)) (by decide) (rfl : SK 150 = 12) (hzk hZ (by decide)).2 (c_12_setsPoints X.2.2.2.2.2.2.2.1 hZ h) (As := []) rfl ⟨rfl, rfl⟩ hR hce st1 rfl hcat hd kk
set_option maxRecDepth 20000 in
theorem v_12_marksAll_b116 (X : CXq p s m args meth c cX12_marksAll 2 yX12_marksAll.cls ad cy D (AW ad) s.heap) (hr : meth.sig.returnType = none) (hZ : ad 1000 = 189) {Q : Mem → MemL → Prop} {L2 : Int32 → Mem → MemL → Prop} (HL2 : ∀ (l1 : Int32) (w : Mem) (wl : MemL), L2 l1 w wl → V p l e (RM 3) s m args below meth c 2 ad cy D (AW ad) s.heap 0 0 (MQ below (va_Qv (fun (u : Mem × MemL) => Q u.1 u.2) (BM ad cy D wc) (AW ad)) args s 0 0 (AW ad)) wc w wl 2 [(0, .ref (ad 150)), (1, .int l1)] []) : ∀ (l1 : Int32) (s1 : Int32) (s2 : Int32) (w : Mem) (wl : MemL), wp_12_marksAll_b116 Q L2 l1 s1 s2 w wl → V p l e (RM 3) s m args below meth c 2 ad cy D (AW ad) s.heap 0 0 (MQ below (va_Qv (fun (u : Mem × MemL) => Q u.1 u.2) (BM ad cy D wc) (AW ad)) args s 0 0 (AW ad)) wc w wl 116 [(0, .ref (ad 150)), (1, .int l1)] [.int s2, .int s1, .ref (ad 178)] := by
  intro l1 s1 s2 w wl h
  unfold wp_12_marksAll_b116 at h
  obtain ⟨g1, h⟩ := h
  obtain ⟨w2, ew2⟩ : ∃ y : Mem, y = st w 178 (ix s1) s2 := ⟨_, rfl⟩
  have h := h w2 ew2
  refine V_iast_m X (rfl : SLq 178 = 11) (hzk hZ (by decide)) (rfl : SK 178 = 14) g1 dX12_marksAll_116 ew2 ?_
  refine V_aload_n X (i := 0) 0 dX12_marksAll_117 rfl rfl ?_
  refine G_12_113 X hZ dX12_marksAll_118 ?_
  refine V_iload_n X (i := 1) 1 dX12_marksAll_121 rfl rfl ?_
  refine V_aload_n X (i := 0) 0 dX12_marksAll_122 rfl rfl ?_
  refine V_iconst X (v := (3 : Int32)) dX12_marksAll_123 (by decide) ?_
  refine V_sipush X (v := (170 : Int32)) dX12_marksAll_124 (by decide) ?_
  refine V_iconst X (v := (0 : Int32)) dX12_marksAll_127 (by decide) ?_
  refine V_sipush X (v := (200 : Int32)) dX12_marksAll_128 (by decide) ?_
  refine K_12_tells X (Or.inl q_1582) hZ h ⟨Nat.le_of_ble_eq_true rfl, Nat.le_of_ble_eq_true rfl⟩ ⟨Nat.zero_le _, Nat.zero_le _⟩ (st1 := [.int l1, .ref (ad 182)]) (Nat.le_of_ble_eq_true rfl) dX12_marksAll_131 (fun r4 w3 v5 h => ?_)
  obtain ⟨g6, h⟩ := h
  obtain ⟨w7, ew7⟩ : ∃ y : Mem, y = st w3 182 (ix l1) r4 := ⟨_, rfl⟩
  have h := h w7 ew7
  refine V_iast_m X (rfl : SLq 182 = 7) (hzk hZ (by decide)) (rfl : SK 182 = 14) g6 dX12_marksAll_134 ew7 ?_
  obtain ⟨x8, ex8⟩ : ∃ y : Int32, y = l1 + (1 : Int32) := ⟨_, rfl⟩
  have h := h x8 ex8
  refine V_iinc X 1 dX12_marksAll_135 rfl (by decide) (by rw [ex8]; rfl) (ls1 := [(1, .int x8), (0, .ref (ad 150))]) rfl ?_
  refine V_goto X (tgt := 2) dX12_marksAll_138 (by decide) ?_
  refine V_sub X (ls1 := [(0, .ref (ad 150)), (1, .int x8)]) [1, 0] rfl ?_
  exact HL2 _ _ _ h
set_option maxRecDepth 20000 in
theorem v_12_marksAll_b2 (X : CXq p s m args meth c cX12_marksAll 2 yX12_marksAll.cls ad cy D (AW ad) s.heap) (hr : meth.sig.returnType = none) (hZ : ad 1000 = 189) {Q : Mem → MemL → Prop} : ∀ (n : Nat) (l1 : Int32) (w : Mem) (wl : MemL), wp_12_marksAll_b2 Q n l1 w wl → V p l e (RM 3) s m args below meth c 2 ad cy D (AW ad) s.heap 0 0 (MQ below (va_Qv (fun (u : Mem × MemL) => Q u.1 u.2) (BM ad cy D wc) (AW ad)) args s 0 0 (AW ad)) wc w wl 2 [(0, .ref (ad 150)), (1, .int l1)] [] := by
  intro n
  induction n with
  | zero =>
    intro l1 w wl h
    exact h.elim
  | succ n ih =>
    intro l1 w wl h
    unfold wp_12_marksAll_b2 at h
    refine V_iload_n X (i := 1) 1 dX12_marksAll_2 rfl rfl ?_
    refine V_aload_n X (i := 0) 0 dX12_marksAll_3 rfl rfl ?_
    refine G_12_61 X hZ dX12_marksAll_4 ?_
    refine V_aload_n X (i := 0) 0 dX12_marksAll_7 rfl rfl ?_
    refine G_12_218 X hZ dX12_marksAll_8 ?_
    obtain ⟨g1, h⟩ := h
    refine V_iald_m X (rfl : SLq 165 = 2) (hzk hZ (by decide)) (rfl : SK 165 = 14) g1 dX12_marksAll_11 ?_
    obtain ⟨ht, hf⟩ := h
    refine V_icmp_ge X (tgt := 141) dX12_marksAll_12 (by decide) (fun c => ?_) (fun c => ?_)
    · have h := ht c
      refine V_aload_n X (i := 0) 0 dX12_marksAll_141 rfl rfl ?_
      refine K_12_setsStyle X (Or.inl q_1676) hZ h ⟨Nat.le_of_ble_eq_true rfl, Nat.le_of_ble_eq_true rfl⟩ ⟨Nat.zero_le _, Nat.zero_le _⟩ (st1 := []) (Nat.le_of_ble_eq_true rfl) dX12_marksAll_142 (fun w2 v3 h => ?_)
      refine V_aload_n X (i := 0) 0 dX12_marksAll_145 rfl rfl ?_
      refine K_12_setsPoints X (Or.inl q_1680) hZ h ⟨Nat.le_of_ble_eq_true rfl, Nat.le_of_ble_eq_true rfl⟩ ⟨Nat.zero_le _, Nat.zero_le _⟩ (st1 := []) (Nat.le_of_ble_eq_true rfl) dX12_marksAll_146 (fun w4 v5 h => ?_)
      exact V_vret_m X hr dX12_marksAll_149 h
    · have h := hf c
      refine V_aload_n X (i := 0) 0 dX12_marksAll_15 rfl rfl ?_
      refine K_12_clears X (Or.inl q_1578) hZ h ⟨Nat.le_of_ble_eq_true rfl, Nat.le_of_ble_eq_true rfl⟩ ⟨Nat.zero_le _, Nat.zero_le _⟩ (st1 := []) (Nat.le_of_ble_eq_true rfl) dX12_marksAll_16 (fun w6 v7 h => ?_)
      refine V_aload_n X (i := 0) 0 dX12_marksAll_19 rfl rfl ?_
      refine G_12_101 X hZ dX12_marksAll_20 ?_
      refine V_iconst X (v := (2 : Int32)) dX12_marksAll_23 (by decide) ?_
      refine V_aload_n X (i := 0) 0 dX12_marksAll_24 rfl rfl ?_
      refine G_12_347 X hZ dX12_marksAll_25 ?_
      obtain ⟨w8, ew8⟩ : ∃ y : Mem, y = st w6 178 (ix (2 : Int32)) (w6 150 55) := ⟨_, rfl⟩
      have h := h w8 ew8
      refine V_iast_m X (rfl : SLq 178 = 11) (hzk hZ (by decide)) (rfl : SK 178 = 14) (vpl (by decide)) dX12_marksAll_28 ew8 ?_
      refine V_aload_n X (i := 0) 0 dX12_marksAll_29 rfl rfl ?_
      refine G_12_101 X hZ dX12_marksAll_30 ?_
      refine V_iconst X (v := (5 : Int32)) dX12_marksAll_33 (by decide) ?_
      refine V_aload_n X (i := 0) 0 dX12_marksAll_34 rfl rfl ?_
      refine G_12_335 X hZ dX12_marksAll_35 ?_
      obtain ⟨w9, ew9⟩ : ∃ y : Mem, y = st w8 178 (ix (5 : Int32)) (w8 150 52) := ⟨_, rfl⟩
      have h := h w9 ew9
      refine V_iast_m X (rfl : SLq 178 = 11) (hzk hZ (by decide)) (rfl : SK 178 = 14) (vpl (by decide)) dX12_marksAll_38 ew9 ?_
      refine V_aload_n X (i := 0) 0 dX12_marksAll_39 rfl rfl ?_
      refine G_12_101 X hZ dX12_marksAll_40 ?_
      refine V_bipush X (v := (8 : Int32)) dX12_marksAll_43 (by decide) ?_
      refine V_aload_n X (i := 0) 0 dX12_marksAll_45 rfl rfl ?_
      refine G_12_365 X hZ dX12_marksAll_46 ?_
      obtain ⟨w10, ew10⟩ : ∃ y : Mem, y = st w9 178 (ix (8 : Int32)) (w9 150 59) := ⟨_, rfl⟩
      have h := h w10 ew10
      refine V_iast_m X (rfl : SLq 178 = 11) (hzk hZ (by decide)) (rfl : SK 178 = 14) (vpl (by decide)) dX12_marksAll_49 ew10 ?_
      refine V_aload_n X (i := 0) 0 dX12_marksAll_50 rfl rfl ?_
      refine G_12_101 X hZ dX12_marksAll_51 ?_
      refine V_bipush X (v := (9 : Int32)) dX12_marksAll_54 (by decide) ?_
      refine V_aload_n X (i := 0) 0 dX12_marksAll_56 rfl rfl ?_
      refine G_12_64 X hZ dX12_marksAll_57 ?_
      refine V_bipush X (v := (7 : Int32)) dX12_marksAll_60 (by decide) ?_
      refine V_aload_n X (i := 0) 0 dX12_marksAll_62 rfl rfl ?_
      refine G_12_218 X hZ dX12_marksAll_63 ?_
      refine V_imul X dX12_marksAll_66 ?_
      refine V_iload_n X (i := 1) 1 dX12_marksAll_67 rfl rfl ?_
      refine V_iadd X dX12_marksAll_68 ?_
      obtain ⟨g11, h⟩ := h
      refine V_iald_m X (rfl : SLq 166 = 14) (hzk hZ (by decide)) (rfl : SK 166 = 14) g11 dX12_marksAll_69 ?_
      obtain ⟨w12, ew12⟩ : ∃ y : Mem, y = st w10 178 (ix (9 : Int32)) (w10 166 (ix (((7 : Int32) * (w10 150 18)) + l1))) := ⟨_, rfl⟩
      have h := h w12 ew12
      refine V_iast_m X (rfl : SLq 178 = 11) (hzk hZ (by decide)) (rfl : SK 178 = 14) (vpl (by decide)) dX12_marksAll_70 ew12 ?_
      refine V_aload_n X (i := 0) 0 dX12_marksAll_71 rfl rfl ?_
      refine G_12_101 X hZ dX12_marksAll_72 ?_
      refine V_bipush X (v := (10 : Int32)) dX12_marksAll_75 (by decide) ?_
      refine V_aload_n X (i := 0) 0 dX12_marksAll_77 rfl rfl ?_
      refine G_12_67 X hZ dX12_marksAll_78 ?_
      refine V_bipush X (v := (7 : Int32)) dX12_marksAll_81 (by decide) ?_
      refine V_aload_n X (i := 0) 0 dX12_marksAll_83 rfl rfl ?_
      refine G_12_218 X hZ dX12_marksAll_84 ?_
      refine V_imul X dX12_marksAll_87 ?_
      refine V_iload_n X (i := 1) 1 dX12_marksAll_88 rfl rfl ?_
      refine V_iadd X dX12_marksAll_89 ?_
      obtain ⟨g13, h⟩ := h
      refine V_iald_m X (rfl : SLq 167 = 14) (hzk hZ (by decide)) (rfl : SK 167 = 14) g13 dX12_marksAll_90 ?_
      refine V_aload_n X (i := 0) 0 dX12_marksAll_91 rfl rfl ?_
      refine G_12_58 X hZ dX12_marksAll_92 ?_
      refine V_bipush X (v := (8 : Int32)) dX12_marksAll_95 (by decide) ?_
      refine V_aload_n X (i := 0) 0 dX12_marksAll_97 rfl rfl ?_
      refine G_12_218 X hZ dX12_marksAll_98 ?_
      refine V_imul X dX12_marksAll_101 ?_
      refine V_aload_n X (i := 0) 0 dX12_marksAll_102 rfl rfl ?_
      refine G_12_332 X hZ dX12_marksAll_103 ?_
      refine V_iadd X dX12_marksAll_106 ?_
      obtain ⟨g14, h⟩ := h
      refine V_iald_m X (rfl : SLq 164 = 16) (hzk hZ (by decide)) (rfl : SK 164 = 14) g14 dX12_marksAll_107 ?_
      obtain ⟨ht, hf⟩ := h
      refine V_icmp_ne X (tgt := 115) dX12_marksAll_108 (by decide) (fun c => ?_) (fun c => ?_)
      · have h := ht c
        refine V_iconst X (v := (0 : Int32)) dX12_marksAll_115 (by decide) ?_
        refine V_sub X (ls1 := [(0, .ref (ad 150)), (1, .int l1)]) [0, 1] rfl ?_
        exact v_12_marksAll_b116 X hr hZ ih _ _ _ _ _ h
      · have h := hf c
        refine V_iconst X (v := (1 : Int32)) dX12_marksAll_111 (by decide) ?_
        refine V_goto X (tgt := 116) dX12_marksAll_112 (by decide) ?_
        refine V_sub X (ls1 := [(0, .ref (ad 150)), (1, .int l1)]) [0, 1] rfl ?_
        exact v_12_marksAll_b116 X hr hZ ih _ _ _ _ _ h
set_option maxRecDepth 20000 in
theorem v_12_marksAll (X : CXq p s m args meth c cX12_marksAll 2 yX12_marksAll.cls ad cy D (AW ad) s.heap) (hr : meth.sig.returnType = none) (hZ : ad 1000 = 189) {w : Mem} {wl : MemL} {Q : Mem → MemL → Prop} (h : wp_12_marksAll w wl Q) : V p l e (RM 3) s m args below meth c 2 ad cy D (AW ad) s.heap 0 0 (MQ below (va_Qv (fun (u : Mem × MemL) => Q u.1 u.2) (BM ad cy D wc) (AW ad)) args s 0 0 (AW ad)) wc w wl 0 [(0, .ref (ad 150))] [] := by
  unfold wp_12_marksAll at h
  refine V_iconst X (v := (0 : Int32)) dX12_marksAll_0 (by decide) ?_
  refine V_istore_n X dX12_marksAll_1 rfl (by decide) rfl (ls1 := [(1, .int (0 : Int32)), (0, .ref (ad 150))]) rfl ?_
  refine V_sub X (ls1 := [(0, .ref (ad 150)), (1, .int (0 : Int32))]) [1, 0] rfl ?_
  obtain ⟨nn, h⟩ := h
  exact v_12_marksAll_b2 X hr hZ nn _ _ _ h
theorem c_12_marksAll (hinj : INJ ad) (hZ : ad 1000 = 189) {w : Mem} {wl : MemL} {Q : Mem → MemL → Prop} (h : wp_12_marksAll w wl Q) : Met l yX12_marksAll (TBq yX12_marksAll cX12_marksAll 2 none) (RM 3) (va_Pc [.ref (ad 150)] (PB ad cy D (cmb wc w) wl)) (va_Qv (fun (u : Mem × MemL) => Q u.1 u.2) (BM ad cy D wc) (AW ad)) 0 0 (AW ad) := M_enter (by decide) (Nat.le_of_ble_eq_true rfl) hinj (fun p e s m args below meth c X hr => v_12_marksAll X hr hZ h)
theorem mf_12_marksAll : MFV yX12_marksAll cX12_marksAll 2 none yX12_marksAll.cls 0 := ⟨q_1675, q_1674, qs_85, q_14, by decide⟩
theorem K_12_marksAll {own : String} {idx : Nat} (X : CXq p s m args meth c cc nL own ad cy D A H0) (hL : LK own idx yX12_marksAll) (hZ : ad 1000 = 189) {w : Mem} {wl : MemL} {Q : Mem → MemL → Prop} (h : wp_12_marksAll w wl Q) (hR : (RM 3).frames + 1 ≤ R.frames ∧ 8 + (2 + 11) + (RM 3).locals ≤ R.locals) (hce : ce ≤ R.cells ∧ sl ≤ R.slots) (hcat : (st1.map fun v => v.category).sum ≤ 8) (hd : decode cc pc = .ok (.invokevirtual idx, 3)) (kk : ∀ (u : Mem) (v : MemL), Q u v → V p l e R s m args below meth c nL ad cy D A H0 ce sl Qs wc u v (pc + 3) ls st1) : V p l e R s m args below meth c nL ad cy D A H0 ce sl Qs wc w wl pc ls (.ref (ad 150) :: st1) := V_callVV_m X mf_12_marksAll hL (rfl : vwCl[12]? = some (RX12, TX12, 72)) (by decide) (rfl : SK 150 = 12) (hzk hZ (by decide)).2 (c_12_marksAll X.2.2.2.2.2.2.2.1 hZ h) (As := []) rfl ⟨rfl, rfl⟩ hR hce st1 rfl hcat hd kk
set_option maxRecDepth 20000 in
theorem v_12_jumps (X : CXq p s m args meth c cX12_jumps 2 yX12_jumps.cls ad cy D (AW ad) s.heap) (hr : meth.sig.returnType = none) (hZ : ad 1000 = 189) {w : Mem} {wl : MemL} {Q : Mem → MemL → Prop} (h : wp_12_jumps w wl Q) : V p l e (RM 4) s m args below meth c 2 ad cy D (AW ad) s.heap 0 0 (MQ below (va_Qv (fun (u : Mem × MemL) => Q u.1 u.2) (BM ad cy D wc) (AW ad)) args s 0 0 (AW ad)) wc w wl 0 [(0, .ref (ad 150))] [] := by
  unfold wp_12_jumps at h
  refine V_aload_n X (i := 0) 0 dX12_jumps_0 rfl rfl ?_
  refine K_12_clears X (Or.inl q_1578) hZ h ⟨Nat.le_of_ble_eq_true rfl, Nat.le_of_ble_eq_true rfl⟩ ⟨Nat.zero_le _, Nat.zero_le _⟩ (st1 := []) (Nat.le_of_ble_eq_true rfl) dX12_jumps_1 (fun w1 v2 h => ?_)
  refine V_aload_n X (i := 0) 0 dX12_jumps_4 rfl rfl ?_
  refine G_12_338 X hZ dX12_jumps_5 ?_
  refine V_aload_n X (i := 0) 0 dX12_jumps_8 rfl rfl ?_
  refine V_bipush X (v := (12 : Int32)) dX12_jumps_9 (by decide) ?_
  refine K_12_tell0 X (Or.inl q_1203) hZ h ⟨Nat.le_of_ble_eq_true rfl, Nat.le_of_ble_eq_true rfl⟩ ⟨Nat.zero_le _, Nat.zero_le _⟩ (st1 := [.int (w1 150 53)]) (Nat.le_of_ble_eq_true rfl) dX12_jumps_11 (fun r4 w3 v5 h => ?_)
  refine V_isub X dX12_jumps_14 ?_
  obtain ⟨x6, ex6⟩ : ∃ y : Int32, y = ((w1 150 53) - r4) := ⟨_, rfl⟩
  have h := h x6 ex6
  refine V_istore_n X dX12_jumps_15 rfl (by decide) ex6 (ls1 := [(1, .int x6), (0, .ref (ad 150))]) rfl ?_
  refine V_aload_n X (i := 0) 1 dX12_jumps_16 rfl rfl ?_
  refine G_12_101 X hZ dX12_jumps_17 ?_
  refine V_iconst X (v := (2 : Int32)) dX12_jumps_20 (by decide) ?_
  refine V_aload_n X (i := 0) 1 dX12_jumps_21 rfl rfl ?_
  refine G_12_347 X hZ dX12_jumps_22 ?_
  obtain ⟨w7, ew7⟩ : ∃ y : Mem, y = st w3 178 (ix (2 : Int32)) (w3 150 55) := ⟨_, rfl⟩
  have h := h w7 ew7
  refine V_iast_m X (rfl : SLq 178 = 11) (hzk hZ (by decide)) (rfl : SK 178 = 14) (vpl (by decide)) dX12_jumps_25 ew7 ?_
  refine V_aload_n X (i := 0) 1 dX12_jumps_26 rfl rfl ?_
  refine G_12_101 X hZ dX12_jumps_27 ?_
  refine V_iconst X (v := (3 : Int32)) dX12_jumps_30 (by decide) ?_
  refine V_aload_n X (i := 0) 1 dX12_jumps_31 rfl rfl ?_
  refine G_12_49 X hZ dX12_jumps_32 ?_
  refine V_bipush X (v := (8 : Int32)) dX12_jumps_35 (by decide) ?_
  refine V_aload_n X (i := 0) 1 dX12_jumps_37 rfl rfl ?_
  refine G_12_218 X hZ dX12_jumps_38 ?_
  refine V_imul X dX12_jumps_41 ?_
  refine V_aload_n X (i := 0) 1 dX12_jumps_42 rfl rfl ?_
  refine G_12_332 X hZ dX12_jumps_43 ?_
  refine V_iadd X dX12_jumps_46 ?_
  obtain ⟨g8, h⟩ := h
  refine V_iald_m X (rfl : SLq 161 = 16) (hzk hZ (by decide)) (rfl : SK 161 = 14) g8 dX12_jumps_47 ?_
  refine V_aload_n X (i := 0) 1 dX12_jumps_48 rfl rfl ?_
  refine G_12_356 X hZ dX12_jumps_49 ?_
  refine V_isub X dX12_jumps_52 ?_
  obtain ⟨w9, ew9⟩ : ∃ y : Mem, y = st w7 178 (ix (3 : Int32)) ((w7 161 (ix (((8 : Int32) * (w7 150 18)) + (w7 150 51)))) - (w7 150 57)) := ⟨_, rfl⟩
  have h := h w9 ew9
  refine V_iast_m X (rfl : SLq 178 = 11) (hzk hZ (by decide)) (rfl : SK 178 = 14) (vpl (by decide)) dX12_jumps_53 ew9 ?_
  refine V_aload_n X (i := 0) 1 dX12_jumps_54 rfl rfl ?_
  refine G_12_101 X hZ dX12_jumps_55 ?_
  refine V_iconst X (v := (4 : Int32)) dX12_jumps_58 (by decide) ?_
  refine V_aload_n X (i := 0) 1 dX12_jumps_59 rfl rfl ?_
  refine G_12_52 X hZ dX12_jumps_60 ?_
  refine V_bipush X (v := (8 : Int32)) dX12_jumps_63 (by decide) ?_
  refine V_aload_n X (i := 0) 1 dX12_jumps_65 rfl rfl ?_
  refine G_12_218 X hZ dX12_jumps_66 ?_
  refine V_imul X dX12_jumps_69 ?_
  refine V_aload_n X (i := 0) 1 dX12_jumps_70 rfl rfl ?_
  refine G_12_332 X hZ dX12_jumps_71 ?_
  refine V_iadd X dX12_jumps_74 ?_
  obtain ⟨g10, h⟩ := h
  refine V_iald_m X (rfl : SLq 162 = 16) (hzk hZ (by decide)) (rfl : SK 162 = 14) g10 dX12_jumps_75 ?_
  refine V_aload_n X (i := 0) 1 dX12_jumps_76 rfl rfl ?_
  refine G_12_359 X hZ dX12_jumps_77 ?_
  refine V_isub X dX12_jumps_80 ?_
  obtain ⟨w11, ew11⟩ : ∃ y : Mem, y = st w9 178 (ix (4 : Int32)) ((w9 162 (ix (((8 : Int32) * (w9 150 18)) + (w9 150 51)))) - (w9 150 58)) := ⟨_, rfl⟩
  have h := h w11 ew11
  refine V_iast_m X (rfl : SLq 178 = 11) (hzk hZ (by decide)) (rfl : SK 178 = 14) (vpl (by decide)) dX12_jumps_81 ew11 ?_
  refine V_aload_n X (i := 0) 1 dX12_jumps_82 rfl rfl ?_
  refine G_12_101 X hZ dX12_jumps_83 ?_
  refine V_iconst X (v := (5 : Int32)) dX12_jumps_86 (by decide) ?_
  refine V_aload_n X (i := 0) 1 dX12_jumps_87 rfl rfl ?_
  refine G_12_335 X hZ dX12_jumps_88 ?_
  obtain ⟨w12, ew12⟩ : ∃ y : Mem, y = st w11 178 (ix (5 : Int32)) (w11 150 52) := ⟨_, rfl⟩
  have h := h w12 ew12
  refine V_iast_m X (rfl : SLq 178 = 11) (hzk hZ (by decide)) (rfl : SK 178 = 14) (vpl (by decide)) dX12_jumps_91 ew12 ?_
  refine V_aload_n X (i := 0) 1 dX12_jumps_92 rfl rfl ?_
  refine G_12_101 X hZ dX12_jumps_93 ?_
  refine V_bipush X (v := (6 : Int32)) dX12_jumps_96 (by decide) ?_
  refine V_aload_n X (i := 0) 1 dX12_jumps_98 rfl rfl ?_
  refine V_bipush X (v := (8 : Int32)) dX12_jumps_99 (by decide) ?_
  refine K_12_tell0 X (Or.inl q_1203) hZ h ⟨Nat.le_of_ble_eq_true rfl, Nat.le_of_ble_eq_true rfl⟩ ⟨Nat.zero_le _, Nat.zero_le _⟩ (st1 := [.int (6 : Int32), .ref (ad 178)]) (Nat.le_of_ble_eq_true rfl) dX12_jumps_101 (fun r14 w13 v15 h => ?_)
  refine V_aload_n X (i := 0) 1 dX12_jumps_104 rfl rfl ?_
  refine G_12_341 X hZ dX12_jumps_105 ?_
  refine V_imul X dX12_jumps_108 ?_
  obtain ⟨w16, ew16⟩ : ∃ y : Mem, y = st w13 178 (ix (6 : Int32)) (r14 * (w13 150 54)) := ⟨_, rfl⟩
  have h := h w16 ew16
  refine V_iast_m X (rfl : SLq 178 = 11) (hzk hZ (by decide)) (rfl : SK 178 = 14) (vpl (by decide)) dX12_jumps_109 ew16 ?_
  refine V_aload_n X (i := 0) 1 dX12_jumps_110 rfl rfl ?_
  refine G_12_101 X hZ dX12_jumps_111 ?_
  refine V_bipush X (v := (7 : Int32)) dX12_jumps_114 (by decide) ?_
  refine V_iload_n X (i := 1) 0 dX12_jumps_116 rfl rfl ?_
  obtain ⟨w17, ew17⟩ : ∃ y : Mem, y = st w16 178 (ix (7 : Int32)) x6 := ⟨_, rfl⟩
  have h := h w17 ew17
  refine V_iast_m X (rfl : SLq 178 = 11) (hzk hZ (by decide)) (rfl : SK 178 = 14) (vpl (by decide)) dX12_jumps_117 ew17 ?_
  refine V_aload_n X (i := 0) 1 dX12_jumps_118 rfl rfl ?_
  refine V_aload_n X (i := 0) 1 dX12_jumps_119 rfl rfl ?_
  refine V_iconst X (v := (1 : Int32)) dX12_jumps_120 (by decide) ?_
  refine V_aload_n X (i := 0) 1 dX12_jumps_121 rfl rfl ?_
  refine V_iconst X (v := (0 : Int32)) dX12_jumps_122 (by decide) ?_
  refine K_12_tell0 X (Or.inl q_1203) hZ h ⟨Nat.le_of_ble_eq_true rfl, Nat.le_of_ble_eq_true rfl⟩ ⟨Nat.zero_le _, Nat.zero_le _⟩ (st1 := [.int (1 : Int32), .ref (ad 150), .ref (ad 150)]) (Nat.le_of_ble_eq_true rfl) dX12_jumps_123 (fun r19 w18 v20 h => ?_)
  refine V_iconst X (v := (2 : Int32)) dX12_jumps_126 (by decide) ?_
  refine V_aload_n X (i := 0) 1 dX12_jumps_127 rfl rfl ?_
  refine G_12_347 X hZ dX12_jumps_128 ?_
  refine V_imul X dX12_jumps_131 ?_
  refine V_iadd X dX12_jumps_132 ?_
  refine V_iconst X (v := (5 : Int32)) dX12_jumps_133 (by decide) ?_
  refine V_iload_n X (i := 1) 0 dX12_jumps_134 rfl rfl ?_
  refine V_imul X dX12_jumps_135 ?_
  refine V_iadd X dX12_jumps_136 ?_
  refine V_iconst X (v := (0 : Int32)) dX12_jumps_137 (by decide) ?_
  refine V_sipush X (v := (9999 : Int32)) dX12_jumps_138 (by decide) ?_
  refine K_12_tells X (Or.inl q_1582) hZ h ⟨Nat.le_of_ble_eq_true rfl, Nat.le_of_ble_eq_true rfl⟩ ⟨Nat.zero_le _, Nat.zero_le _⟩ (st1 := [.ref (ad 150)]) (Nat.le_of_ble_eq_true rfl) dX12_jumps_141 (fun r22 w21 v23 h => ?_)
  obtain ⟨w24, ew24⟩ : ∃ y : Mem, y = st w21 150 59 r22 := ⟨_, rfl⟩
  have h := h w24 ew24
  refine U_12_365 X hZ rfl rfl dX12_jumps_144 ew24 ?_
  refine V_aload_n X (i := 0) 1 dX12_jumps_147 rfl rfl ?_
  refine K_12_marksAll X (Or.inl q_1672) hZ h ⟨Nat.le_of_ble_eq_true rfl, Nat.le_of_ble_eq_true rfl⟩ ⟨Nat.zero_le _, Nat.zero_le _⟩ (st1 := []) (Nat.le_of_ble_eq_true rfl) dX12_jumps_148 (fun w25 v26 h => ?_)
  exact V_vret_m X hr dX12_jumps_151 h
theorem c_12_jumps (hinj : INJ ad) (hZ : ad 1000 = 189) {w : Mem} {wl : MemL} {Q : Mem → MemL → Prop} (h : wp_12_jumps w wl Q) : Met l yX12_jumps (TBq yX12_jumps cX12_jumps 2 none) (RM 4) (va_Pc [.ref (ad 150)] (PB ad cy D (cmb wc w) wl)) (va_Qv (fun (u : Mem × MemL) => Q u.1 u.2) (BM ad cy D wc) (AW ad)) 0 0 (AW ad) := M_enter (by decide) (Nat.le_of_ble_eq_true rfl) hinj (fun p e s m args below meth c X hr => v_12_jumps X hr hZ h)
theorem mf_12_jumps : MFV yX12_jumps cX12_jumps 2 none yX12_jumps.cls 0 := ⟨q_1671, q_1670, qs_84, q_14, by decide⟩
theorem K_12_jumps {own : String} {idx : Nat} (X : CXq p s m args meth c cc nL own ad cy D A H0) (hL : LK own idx yX12_jumps) (hZ : ad 1000 = 189) {w : Mem} {wl : MemL} {Q : Mem → MemL → Prop} (h : wp_12_jumps w wl Q) (hR : (RM 4).frames + 1 ≤ R.frames ∧ 8 + (2 + 11) + (RM 4).locals ≤ R.locals) (hce : ce ≤ R.cells ∧ sl ≤ R.slots) (hcat : (st1.map fun v => v.category).sum ≤ 8) (hd : decode cc pc = .ok (.invokevirtual idx, 3)) (kk : ∀ (u : Mem) (v : MemL), Q u v → V p l e R s m args below meth c nL ad cy D A H0 ce sl Qs wc u v (pc + 3) ls st1) : V p l e R s m args below meth c nL ad cy D A H0 ce sl Qs wc w wl pc ls (.ref (ad 150) :: st1) := V_callVV_m X mf_12_jumps hL (rfl : vwCl[12]? = some (RX12, TX12, 72)) (by decide) (rfl : SK 150 = 12) (hzk hZ (by decide)).2 (c_12_jumps X.2.2.2.2.2.2.2.1 hZ h) (As := []) rfl ⟨rfl, rfl⟩ hR hce st1 rfl hcat hd kk
set_option maxRecDepth 20000 in
theorem v_12_setsJump {a1 : Int32} {a2 : Int32} {a3 : Int32} {a4 : Int32} {a5 : Int32} (X : CXq p s m args meth c cX12_setsJump 6 yX12_setsJump.cls ad cy D (AW ad) s.heap) (hr : meth.sig.returnType = none) (hZ : ad 1000 = 189) {w : Mem} {wl : MemL} {Q : Mem → MemL → Prop} (h : wp_12_setsJump a1 a2 a3 a4 a5 w wl Q) : V p l e (RM 5) s m args below meth c 6 ad cy D (AW ad) s.heap 0 0 (MQ below (va_Qv (fun (u : Mem × MemL) => Q u.1 u.2) (BM ad cy D wc) (AW ad)) args s 0 0 (AW ad)) wc w wl 0 [(0, .ref (ad 150)), (1, .int a1), (2, .int a2), (3, .int a3), (4, .int a4), (5, .int a5)] [] := by
  unfold wp_12_setsJump at h
  refine V_aload_n X (i := 0) 0 dX12_setsJump_0 rfl rfl ?_
  refine V_iload_n X (i := 1) 1 dX12_setsJump_1 rfl rfl ?_
  obtain ⟨w1, ew1⟩ : ∃ y : Mem, y = st w 150 51 a1 := ⟨_, rfl⟩
  have h := h w1 ew1
  refine U_12_332 X hZ rfl rfl dX12_setsJump_2 ew1 ?_
  refine V_aload_n X (i := 0) 0 dX12_setsJump_5 rfl rfl ?_
  refine V_iload_n X (i := 3) 3 dX12_setsJump_6 rfl rfl ?_
  obtain ⟨w2, ew2⟩ : ∃ y : Mem, y = st w1 150 52 a3 := ⟨_, rfl⟩
  have h := h w2 ew2
  refine U_12_335 X hZ rfl rfl dX12_setsJump_7 ew2 ?_
  refine V_aload_n X (i := 0) 0 dX12_setsJump_10 rfl rfl ?_
  refine V_iload X (i := 4) 4 dX12_setsJump_11 rfl ?_
  obtain ⟨w3, ew3⟩ : ∃ y : Mem, y = st w2 150 53 a4 := ⟨_, rfl⟩
  have h := h w3 ew3
  refine U_12_338 X hZ rfl rfl dX12_setsJump_13 ew3 ?_
  refine V_aload_n X (i := 0) 0 dX12_setsJump_16 rfl rfl ?_
  refine V_iload X (i := 5) 5 dX12_setsJump_17 rfl ?_
  obtain ⟨w4, ew4⟩ : ∃ y : Mem, y = st w3 150 54 a5 := ⟨_, rfl⟩
  have h := h w4 ew4
  refine U_12_341 X hZ rfl rfl dX12_setsJump_19 ew4 ?_
  refine V_aload_n X (i := 0) 0 dX12_setsJump_22 rfl rfl ?_
  refine V_aload_n X (i := 0) 0 dX12_setsJump_23 rfl rfl ?_
  refine V_iload_n X (i := 2) 2 dX12_setsJump_24 rfl rfl ?_
  refine K_12_trueOf X (Or.inl q_1601) hZ h ⟨Nat.le_of_ble_eq_true rfl, Nat.le_of_ble_eq_true rfl⟩ ⟨Nat.zero_le _, Nat.zero_le _⟩ (st1 := [.ref (ad 150)]) (Nat.le_of_ble_eq_true rfl) dX12_setsJump_25 (fun r6 w5 v7 h => ?_)
  obtain ⟨w8, ew8⟩ : ∃ y : Mem, y = st w5 150 55 r6 := ⟨_, rfl⟩
  have h := h w8 ew8
  refine U_12_347 X hZ rfl rfl dX12_setsJump_28 ew8 ?_
  refine V_aload_n X (i := 0) 0 dX12_setsJump_31 rfl rfl ?_
  refine V_aload_n X (i := 0) 0 dX12_setsJump_32 rfl rfl ?_
  refine V_iload_n X (i := 2) 2 dX12_setsJump_33 rfl rfl ?_
  refine K_12_meanOf X (Or.inl q_1570) hZ h ⟨Nat.le_of_ble_eq_true rfl, Nat.le_of_ble_eq_true rfl⟩ ⟨Nat.zero_le _, Nat.zero_le _⟩ (st1 := [.ref (ad 150)]) (Nat.le_of_ble_eq_true rfl) dX12_setsJump_34 (fun r10 w9 v11 h => ?_)
  obtain ⟨w12, ew12⟩ : ∃ y : Mem, y = st w9 150 56 r10 := ⟨_, rfl⟩
  have h := h w12 ew12
  refine U_12_353 X hZ rfl rfl dX12_setsJump_37 ew12 ?_
  refine V_aload_n X (i := 0) 0 dX12_setsJump_40 rfl rfl ?_
  refine V_iconst X (v := (0 : Int32)) dX12_setsJump_41 (by decide) ?_
  obtain ⟨w13, ew13⟩ : ∃ y : Mem, y = st w12 150 57 (0 : Int32) := ⟨_, rfl⟩
  have h := h w13 ew13
  refine U_12_356 X hZ rfl rfl dX12_setsJump_42 ew13 ?_
  refine V_aload_n X (i := 0) 0 dX12_setsJump_45 rfl rfl ?_
  refine V_iconst X (v := (0 : Int32)) dX12_setsJump_46 (by decide) ?_
  obtain ⟨w14, ew14⟩ : ∃ y : Mem, y = st w13 150 58 (0 : Int32) := ⟨_, rfl⟩
  have h := h w14 ew14
  refine U_12_359 X hZ rfl rfl dX12_setsJump_47 ew14 ?_
  refine V_aload_n X (i := 0) 0 dX12_setsJump_50 rfl rfl ?_
  refine K_12_jumps X (Or.inl q_1668) hZ h ⟨Nat.le_of_ble_eq_true rfl, Nat.le_of_ble_eq_true rfl⟩ ⟨Nat.zero_le _, Nat.zero_le _⟩ (st1 := []) (Nat.le_of_ble_eq_true rfl) dX12_setsJump_51 (fun w15 v16 h => ?_)
  exact V_vret_m X hr dX12_setsJump_54 h
theorem c_12_setsJump {a1 : Int32} {a2 : Int32} {a3 : Int32} {a4 : Int32} {a5 : Int32} (hinj : INJ ad) (hZ : ad 1000 = 189) {w : Mem} {wl : MemL} {Q : Mem → MemL → Prop} (h : wp_12_setsJump a1 a2 a3 a4 a5 w wl Q) : Met l yX12_setsJump (TBq yX12_setsJump cX12_setsJump 6 none) (RM 5) (va_Pc [.ref (ad 150), .int a1, .int a2, .int a3, .int a4, .int a5] (PB ad cy D (cmb wc w) wl)) (va_Qv (fun (u : Mem × MemL) => Q u.1 u.2) (BM ad cy D wc) (AW ad)) 0 0 (AW ad) := M_enter (by decide) (Nat.le_of_ble_eq_true rfl) hinj (fun p e s m args below meth c X hr => v_12_setsJump X hr hZ h)
theorem mf_12_setsJump : MFV yX12_setsJump cX12_setsJump 6 none yX12_setsJump.cls 5 := ⟨q_1667, q_1666, qs_83, q_14, by decide⟩
theorem K_12_setsJump {own : String} {idx : Nat} {a1 : Int32} {a2 : Int32} {a3 : Int32} {a4 : Int32} {a5 : Int32} (X : CXq p s m args meth c cc nL own ad cy D A H0) (hL : LK own idx yX12_setsJump) (hZ : ad 1000 = 189) {w : Mem} {wl : MemL} {Q : Mem → MemL → Prop} (h : wp_12_setsJump a1 a2 a3 a4 a5 w wl Q) (hR : (RM 5).frames + 1 ≤ R.frames ∧ 8 + (6 + 11) + (RM 5).locals ≤ R.locals) (hce : ce ≤ R.cells ∧ sl ≤ R.slots) (hcat : (st1.map fun v => v.category).sum ≤ 8) (hd : decode cc pc = .ok (.invokevirtual idx, 3)) (kk : ∀ (u : Mem) (v : MemL), Q u v → V p l e R s m args below meth c nL ad cy D A H0 ce sl Qs wc u v (pc + 3) ls st1) : V p l e R s m args below meth c nL ad cy D A H0 ce sl Qs wc w wl pc ls (.int a5 :: .int a4 :: .int a3 :: .int a2 :: .int a1 :: .ref (ad 150) :: st1) := V_callVV_m X mf_12_setsJump hL (rfl : vwCl[12]? = some (RX12, TX12, 72)) (by decide) (rfl : SK 150 = 12) (hzk hZ (by decide)).2 (c_12_setsJump X.2.2.2.2.2.2.2.1 hZ h) (As := [.int a1, .int a2, .int a3, .int a4, .int a5]) rfl ⟨rfl, rfl⟩ hR hce st1 rfl hcat hd kk
set_option maxRecDepth 20000 in
theorem v_12_cell {a1 : Int32} {a2 : Int32} {a3 : Int32} (X : CXq p s m args meth c cX12_cell 4 yX12_cell.cls ad cy D (AW ad) s.heap) (hr : meth.sig.returnType = (some .int)) (hZ : ad 1000 = 189) {w : Mem} {wl : MemL} {Q : Int32 → Mem → MemL → Prop} (h : wp_12_cell a1 a2 a3 w wl Q) : V p l e (RM 0) s m args below meth c 4 ad cy D (AW ad) s.heap 0 0 (MQ below (va_Qi (fun r (u : Mem × MemL) => Q r u.1 u.2) (BM ad cy D wc) (AW ad)) args s 0 0 (AW ad)) wc w wl 0 [(0, .ref (ad 150)), (1, .int a1), (2, .int a2), (3, .int a3)] [] := by
  unfold wp_12_cell at h
  refine V_iload_n X (i := 1) 1 dX12_cell_0 rfl rfl ?_
  refine V_bipush X (v := (8 : Int32)) dX12_cell_1 (by decide) ?_
  refine V_iload_n X (i := 2) 2 dX12_cell_3 rfl rfl ?_
  refine V_imul X dX12_cell_4 ?_
  refine V_iadd X dX12_cell_5 ?_
  refine V_iload_n X (i := 3) 3 dX12_cell_6 rfl rfl ?_
  refine V_iadd X dX12_cell_7 ?_
  exact V_iret_m X hr dX12_cell_8 h
theorem c_12_cell {a1 : Int32} {a2 : Int32} {a3 : Int32} (hinj : INJ ad) (hZ : ad 1000 = 189) {w : Mem} {wl : MemL} {Q : Int32 → Mem → MemL → Prop} (h : wp_12_cell a1 a2 a3 w wl Q) : Met l yX12_cell (TBq yX12_cell cX12_cell 4 (some .int)) (RM 0) (va_Pc [.ref (ad 150), .int a1, .int a2, .int a3] (PB ad cy D (cmb wc w) wl)) (va_Qi (fun r (u : Mem × MemL) => Q r u.1 u.2) (BM ad cy D wc) (AW ad)) 0 0 (AW ad) := M_enter (by decide) (Nat.le_of_ble_eq_true rfl) hinj (fun p e s m args below meth c X hr => v_12_cell X hr hZ h)
theorem mf_12_cell : MFV yX12_cell cX12_cell 4 (some .int) yX12_cell.cls 3 := ⟨q_1561, q_1560, qs_67, q_14, by decide⟩
theorem K_12_cell {own : String} {idx : Nat} {a1 : Int32} {a2 : Int32} {a3 : Int32} (X : CXq p s m args meth c cc nL own ad cy D A H0) (hL : LK own idx yX12_cell) (hZ : ad 1000 = 189) {w : Mem} {wl : MemL} {Q : Int32 → Mem → MemL → Prop} (h : wp_12_cell a1 a2 a3 w wl Q) (hR : (RM 0).frames + 1 ≤ R.frames ∧ 8 + (4 + 11) + (RM 0).locals ≤ R.locals) (hce : ce ≤ R.cells ∧ sl ≤ R.slots) (hcat : (st1.map fun v => v.category).sum ≤ 8) (hd : decode cc pc = .ok (.invokevirtual idx, 3)) (kk : ∀ (r : Int32) (u : Mem) (v : MemL), Q r u v → V p l e R s m args below meth c nL ad cy D A H0 ce sl Qs wc u v (pc + 3) ls (.int r :: st1)) : V p l e R s m args below meth c nL ad cy D A H0 ce sl Qs wc w wl pc ls (.int a3 :: .int a2 :: .int a1 :: .ref (ad 150) :: st1) := V_callVI_m X mf_12_cell hL (rfl : vwCl[12]? = some (RX12, TX12, 72)) (by decide) (rfl : SK 150 = 12) (hzk hZ (by decide)).2 (c_12_cell X.2.2.2.2.2.2.2.1 hZ h) (As := [.int a1, .int a2, .int a3]) rfl ⟨rfl, rfl⟩ hR hce st1 rfl hcat hd kk
set_option maxRecDepth 20000 in
theorem v_12_pointsOf {a1 : Int32} (X : CXq p s m args meth c cX12_pointsOf 2 yX12_pointsOf.cls ad cy D (AW ad) s.heap) (hr : meth.sig.returnType = (some .int)) (hZ : ad 1000 = 189) {w : Mem} {wl : MemL} {Q : Int32 → Mem → MemL → Prop} (h : wp_12_pointsOf a1 w wl Q) : V p l e (RM 1) s m args below meth c 2 ad cy D (AW ad) s.heap 0 0 (MQ below (va_Qi (fun r (u : Mem × MemL) => Q r u.1 u.2) (BM ad cy D wc) (AW ad)) args s 0 0 (AW ad)) wc w wl 0 [(0, .ref (ad 150)), (1, .int a1)] [] := by
  unfold wp_12_pointsOf at h
  refine V_aload_n X (i := 0) 0 dX12_pointsOf_0 rfl rfl ?_
  refine G_12_110 X hZ dX12_pointsOf_1 ?_
  refine V_aload_n X (i := 0) 0 dX12_pointsOf_4 rfl rfl ?_
  refine V_bipush X (v := (36 : Int32)) dX12_pointsOf_5 (by decide) ?_
  refine V_iconst X (v := (0 : Int32)) dX12_pointsOf_7 (by decide) ?_
  refine V_iload_n X (i := 1) 1 dX12_pointsOf_8 rfl rfl ?_
  refine K_12_cell X (Or.inl q_1558) hZ h ⟨Nat.le_of_ble_eq_true rfl, Nat.le_of_ble_eq_true rfl⟩ ⟨Nat.zero_le _, Nat.zero_le _⟩ (st1 := [.ref (ad 181)]) (Nat.le_of_ble_eq_true rfl) dX12_pointsOf_9 (fun r2 w1 v3 h => ?_)
  obtain ⟨g4, h⟩ := h
  refine V_iald_m X (rfl : SLq 181 = 260) (hzk hZ (by decide)) (rfl : SK 181 = 14) g4 dX12_pointsOf_12 ?_
  refine V_aload_n X (i := 0) 0 dX12_pointsOf_13 rfl rfl ?_
  refine G_12_110 X hZ dX12_pointsOf_14 ?_
  refine V_aload_n X (i := 0) 0 dX12_pointsOf_17 rfl rfl ?_
  refine V_bipush X (v := (36 : Int32)) dX12_pointsOf_18 (by decide) ?_
  refine V_iconst X (v := (1 : Int32)) dX12_pointsOf_20 (by decide) ?_
  refine V_iload_n X (i := 1) 1 dX12_pointsOf_21 rfl rfl ?_
  refine K_12_cell X (Or.inl q_1558) hZ h ⟨Nat.le_of_ble_eq_true rfl, Nat.le_of_ble_eq_true rfl⟩ ⟨Nat.zero_le _, Nat.zero_le _⟩ (st1 := [.ref (ad 181), .int (w1 181 (ix r2))]) (Nat.le_of_ble_eq_true rfl) dX12_pointsOf_22 (fun r6 w5 v7 h => ?_)
  obtain ⟨g8, h⟩ := h
  refine V_iald_m X (rfl : SLq 181 = 260) (hzk hZ (by decide)) (rfl : SK 181 = 14) g8 dX12_pointsOf_25 ?_
  refine V_iadd X dX12_pointsOf_26 ?_
  exact V_iret_m X hr dX12_pointsOf_27 h
theorem c_12_pointsOf {a1 : Int32} (hinj : INJ ad) (hZ : ad 1000 = 189) {w : Mem} {wl : MemL} {Q : Int32 → Mem → MemL → Prop} (h : wp_12_pointsOf a1 w wl Q) : Met l yX12_pointsOf (TBq yX12_pointsOf cX12_pointsOf 2 (some .int)) (RM 1) (va_Pc [.ref (ad 150), .int a1] (PB ad cy D (cmb wc w) wl)) (va_Qi (fun r (u : Mem × MemL) => Q r u.1 u.2) (BM ad cy D wc) (AW ad)) 0 0 (AW ad) := M_enter (by decide) (Nat.le_of_ble_eq_true rfl) hinj (fun p e s m args below meth c X hr => v_12_pointsOf X hr hZ h)
theorem mf_12_pointsOf : MFV yX12_pointsOf cX12_pointsOf 2 (some .int) yX12_pointsOf.cls 1 := ⟨q_1565, q_1564, qs_68, q_14, by decide⟩
theorem K_12_pointsOf {own : String} {idx : Nat} {a1 : Int32} (X : CXq p s m args meth c cc nL own ad cy D A H0) (hL : LK own idx yX12_pointsOf) (hZ : ad 1000 = 189) {w : Mem} {wl : MemL} {Q : Int32 → Mem → MemL → Prop} (h : wp_12_pointsOf a1 w wl Q) (hR : (RM 1).frames + 1 ≤ R.frames ∧ 8 + (2 + 11) + (RM 1).locals ≤ R.locals) (hce : ce ≤ R.cells ∧ sl ≤ R.slots) (hcat : (st1.map fun v => v.category).sum ≤ 8) (hd : decode cc pc = .ok (.invokevirtual idx, 3)) (kk : ∀ (r : Int32) (u : Mem) (v : MemL), Q r u v → V p l e R s m args below meth c nL ad cy D A H0 ce sl Qs wc u v (pc + 3) ls (.int r :: st1)) : V p l e R s m args below meth c nL ad cy D A H0 ce sl Qs wc w wl pc ls (.int a1 :: .ref (ad 150) :: st1) := V_callVI_m X mf_12_pointsOf hL (rfl : vwCl[12]? = some (RX12, TX12, 72)) (by decide) (rfl : SK 150 = 12) (hzk hZ (by decide)).2 (c_12_pointsOf X.2.2.2.2.2.2.2.1 hZ h) (As := [.int a1]) rfl ⟨rfl, rfl⟩ hR hce st1 rfl hcat hd kk
set_option maxRecDepth 20000 in
theorem v_12_rankBy_b88 (X : CXq p s m args meth c cX12_rankBy 6 yX12_rankBy.cls ad cy D (AW ad) s.heap) (hr : meth.sig.returnType = (some .int)) (hZ : ad 1000 = 189) {Q : Int32 → Mem → MemL → Prop} {L5 : Int32 → Int32 → Int32 → Int32 → Mem → MemL → Prop} (HL5 : ∀ (l1 : Int32) (l2 : Int32) (l3 : Int32) (l4 : Int32) (w : Mem) (wl : MemL), L5 l1 l2 l3 l4 w wl → V p l e (RM 2) s m args below meth c 6 ad cy D (AW ad) s.heap 0 0 (MQ below (va_Qi (fun r (u : Mem × MemL) => Q r u.1 u.2) (BM ad cy D wc) (AW ad)) args s 0 0 (AW ad)) wc w wl 5 [(0, .ref (ad 150)), (1, .int l1), (2, .int l2), (3, .int l3), (4, .int l4)] []) : ∀ (l1 : Int32) (l2 : Int32) (l3 : Int32) (l4 : Int32) (w : Mem) (wl : MemL), wp_12_rankBy_b88 Q L5 l1 l2 l3 l4 w wl → V p l e (RM 2) s m args below meth c 6 ad cy D (AW ad) s.heap 0 0 (MQ below (va_Qi (fun r (u : Mem × MemL) => Q r u.1 u.2) (BM ad cy D wc) (AW ad)) args s 0 0 (AW ad)) wc w wl 88 [(0, .ref (ad 150)), (1, .int l1), (2, .int l2), (3, .int l3), (4, .int l4)] [] := by
  intro l1 l2 l3 l4 w wl h
  unfold wp_12_rankBy_b88 at h
  obtain ⟨x1, ex1⟩ : ∃ y : Int32, y = l4 + (1 : Int32) := ⟨_, rfl⟩
  have h := h x1 ex1
  refine V_iinc X 4 dX12_rankBy_88 rfl (by decide) (by rw [ex1]; rfl) (ls1 := [(4, .int x1), (0, .ref (ad 150)), (1, .int l1), (2, .int l2), (3, .int l3)]) rfl ?_
  refine V_goto X (tgt := 5) dX12_rankBy_91 (by decide) ?_
  refine V_sub X (ls1 := [(0, .ref (ad 150)), (1, .int l1), (2, .int l2), (3, .int l3), (4, .int x1)]) [1, 2, 3, 4, 0] rfl ?_
  exact HL5 _ _ _ _ _ _ h
set_option maxRecDepth 20000 in
theorem v_12_rankBy_b85 (X : CXq p s m args meth c cX12_rankBy 6 yX12_rankBy.cls ad cy D (AW ad) s.heap) (hr : meth.sig.returnType = (some .int)) (hZ : ad 1000 = 189) {Q : Int32 → Mem → MemL → Prop} {L5 : Int32 → Int32 → Int32 → Int32 → Mem → MemL → Prop} (HL5 : ∀ (l1 : Int32) (l2 : Int32) (l3 : Int32) (l4 : Int32) (w : Mem) (wl : MemL), L5 l1 l2 l3 l4 w wl → V p l e (RM 2) s m args below meth c 6 ad cy D (AW ad) s.heap 0 0 (MQ below (va_Qi (fun r (u : Mem × MemL) => Q r u.1 u.2) (BM ad cy D wc) (AW ad)) args s 0 0 (AW ad)) wc w wl 5 [(0, .ref (ad 150)), (1, .int l1), (2, .int l2), (3, .int l3), (4, .int l4)] []) : ∀ (l1 : Int32) (l2 : Int32) (l3 : Int32) (l4 : Int32) (w : Mem) (wl : MemL), wp_12_rankBy_b85 Q L5 l1 l2 l3 l4 w wl → V p l e (RM 2) s m args below meth c 6 ad cy D (AW ad) s.heap 0 0 (MQ below (va_Qi (fun r (u : Mem × MemL) => Q r u.1 u.2) (BM ad cy D wc) (AW ad)) args s 0 0 (AW ad)) wc w wl 85 [(0, .ref (ad 150)), (1, .int l1), (2, .int l2), (3, .int l3), (4, .int l4)] [] := by
  intro l1 l2 l3 l4 w wl h
  unfold wp_12_rankBy_b85 at h
  obtain ⟨x1, ex1⟩ : ∃ y : Int32, y = l3 + (1 : Int32) := ⟨_, rfl⟩
  have h := h x1 ex1
  refine V_iinc X 3 dX12_rankBy_85 rfl (by decide) (by rw [ex1]; rfl) (ls1 := [(3, .int x1), (0, .ref (ad 150)), (1, .int l1), (2, .int l2), (4, .int l4)]) rfl ?_
  refine V_sub X (ls1 := [(0, .ref (ad 150)), (1, .int l1), (2, .int l2), (3, .int x1), (4, .int l4)]) [1, 2, 3, 0, 4] rfl ?_
  exact v_12_rankBy_b88 X hr hZ HL5 _ _ _ _ _ _ h
set_option maxRecDepth 20000 in
theorem v_12_rankBy_b67 (X : CXq p s m args meth c cX12_rankBy 6 yX12_rankBy.cls ad cy D (AW ad) s.heap) (hr : meth.sig.returnType = (some .int)) (hZ : ad 1000 = 189) {Q : Int32 → Mem → MemL → Prop} {L5 : Int32 → Int32 → Int32 → Int32 → Mem → MemL → Prop} (HL5 : ∀ (l1 : Int32) (l2 : Int32) (l3 : Int32) (l4 : Int32) (w : Mem) (wl : MemL), L5 l1 l2 l3 l4 w wl → V p l e (RM 2) s m args below meth c 6 ad cy D (AW ad) s.heap 0 0 (MQ below (va_Qi (fun r (u : Mem × MemL) => Q r u.1 u.2) (BM ad cy D wc) (AW ad)) args s 0 0 (AW ad)) wc w wl 5 [(0, .ref (ad 150)), (1, .int l1), (2, .int l2), (3, .int l3), (4, .int l4)] []) : ∀ (l1 : Int32) (l2 : Int32) (l3 : Int32) (l4 : Int32) (s0 : Int32) (w : Mem) (wl : MemL), wp_12_rankBy_b67 Q L5 l1 l2 l3 l4 s0 w wl → V p l e (RM 2) s m args below meth c 6 ad cy D (AW ad) s.heap 0 0 (MQ below (va_Qi (fun r (u : Mem × MemL) => Q r u.1 u.2) (BM ad cy D wc) (AW ad)) args s 0 0 (AW ad)) wc w wl 67 [(0, .ref (ad 150)), (1, .int l1), (2, .int l2), (3, .int l3), (4, .int l4)] [.int s0] := by
  intro l1 l2 l3 l4 s0 w wl h
  unfold wp_12_rankBy_b67 at h
  refine V_istore X dX12_rankBy_67 (by decide) rfl (ls1 := [(5, .int s0), (0, .ref (ad 150)), (1, .int l1), (2, .int l2), (3, .int l3), (4, .int l4)]) rfl ?_
  refine V_iload X (i := 5) 0 dX12_rankBy_69 rfl ?_
  obtain ⟨ht, hf⟩ := h
  refine V_if_gt X (tgt := 85) dX12_rankBy_71 (by decide) (fun c => ?_) (fun c => ?_)
  · have h := ht c
    refine V_sub X (ls1 := [(0, .ref (ad 150)), (1, .int l1), (2, .int l2), (3, .int l3), (4, .int l4)]) [1, 2, 3, 4, 5] rfl ?_
    exact v_12_rankBy_b85 X hr hZ HL5 _ _ _ _ _ _ h
  · have h := hf c
    refine V_iload X (i := 5) 0 dX12_rankBy_74 rfl ?_
    obtain ⟨ht, hf⟩ := h
    refine V_if_ne X (tgt := 88) dX12_rankBy_76 (by decide) (fun c => ?_) (fun c => ?_)
    · have h := ht c
      refine V_sub X (ls1 := [(0, .ref (ad 150)), (1, .int l1), (2, .int l2), (3, .int l3), (4, .int l4)]) [1, 2, 3, 4, 5] rfl ?_
      exact v_12_rankBy_b88 X hr hZ HL5 _ _ _ _ _ _ h
    · have h := hf c
      refine V_iload X (i := 4) 5 dX12_rankBy_79 rfl ?_
      refine V_iload_n X (i := 1) 2 dX12_rankBy_81 rfl rfl ?_
      obtain ⟨ht, hf⟩ := h
      refine V_icmp_ge X (tgt := 88) dX12_rankBy_82 (by decide) (fun c => ?_) (fun c => ?_)
      · have h := ht c
        refine V_sub X (ls1 := [(0, .ref (ad 150)), (1, .int l1), (2, .int l2), (3, .int l3), (4, .int l4)]) [1, 2, 3, 4, 5] rfl ?_
        exact v_12_rankBy_b88 X hr hZ HL5 _ _ _ _ _ _ h
      · have h := hf c
        refine V_sub X (ls1 := [(0, .ref (ad 150)), (1, .int l1), (2, .int l2), (3, .int l3), (4, .int l4)]) [1, 2, 3, 4, 5] rfl ?_
        exact v_12_rankBy_b85 X hr hZ HL5 _ _ _ _ _ _ h
set_option maxRecDepth 20000 in
theorem v_12_rankBy_b5 (X : CXq p s m args meth c cX12_rankBy 6 yX12_rankBy.cls ad cy D (AW ad) s.heap) (hr : meth.sig.returnType = (some .int)) (hZ : ad 1000 = 189) {Q : Int32 → Mem → MemL → Prop} : ∀ (n : Nat) (l1 : Int32) (l2 : Int32) (l3 : Int32) (l4 : Int32) (w : Mem) (wl : MemL), wp_12_rankBy_b5 Q n l1 l2 l3 l4 w wl → V p l e (RM 2) s m args below meth c 6 ad cy D (AW ad) s.heap 0 0 (MQ below (va_Qi (fun r (u : Mem × MemL) => Q r u.1 u.2) (BM ad cy D wc) (AW ad)) args s 0 0 (AW ad)) wc w wl 5 [(0, .ref (ad 150)), (1, .int l1), (2, .int l2), (3, .int l3), (4, .int l4)] [] := by
  intro n
  induction n with
  | zero =>
    intro l1 l2 l3 l4 w wl h
    exact h.elim
  | succ n ih =>
    intro l1 l2 l3 l4 w wl h
    unfold wp_12_rankBy_b5 at h
    refine V_iload X (i := 4) 4 dX12_rankBy_5 rfl ?_
    refine V_aload_n X (i := 0) 0 dX12_rankBy_7 rfl rfl ?_
    refine G_12_46 X hZ dX12_rankBy_8 ?_
    refine V_aload_n X (i := 0) 0 dX12_rankBy_11 rfl rfl ?_
    refine G_12_218 X hZ dX12_rankBy_12 ?_
    obtain ⟨g1, h⟩ := h
    refine V_iald_m X (rfl : SLq 160 = 2) (hzk hZ (by decide)) (rfl : SK 160 = 14) g1 dX12_rankBy_15 ?_
    obtain ⟨ht, hf⟩ := h
    refine V_icmp_ge X (tgt := 94) dX12_rankBy_16 (by decide) (fun c => ?_) (fun c => ?_)
    · have h := ht c
      refine V_iload_n X (i := 3) 3 dX12_rankBy_94 rfl rfl ?_
      exact V_iret_m X hr dX12_rankBy_95 h
    · have h := hf c
      refine V_iload_n X (i := 2) 2 dX12_rankBy_19 rfl rfl ?_
      refine V_iconst X (v := (1 : Int32)) dX12_rankBy_20 (by decide) ?_
      obtain ⟨ht, hf⟩ := h
      refine V_icmp_ne X (tgt := 55) dX12_rankBy_21 (by decide) (fun c => ?_) (fun c => ?_)
      · have h := ht c
        refine V_aload_n X (i := 0) 0 dX12_rankBy_55 rfl rfl ?_
        refine V_iload X (i := 4) 4 dX12_rankBy_56 rfl ?_
        refine K_12_pointsOf X (Or.inl q_1562) hZ h ⟨Nat.le_of_ble_eq_true rfl, Nat.le_of_ble_eq_true rfl⟩ ⟨Nat.zero_le _, Nat.zero_le _⟩ (st1 := []) (Nat.le_of_ble_eq_true rfl) dX12_rankBy_58 (fun r3 w2 v4 h => ?_)
        refine V_aload_n X (i := 0) 0 dX12_rankBy_61 rfl rfl ?_
        refine V_iload_n X (i := 1) 1 dX12_rankBy_62 rfl rfl ?_
        refine K_12_pointsOf X (Or.inl q_1562) hZ h ⟨Nat.le_of_ble_eq_true rfl, Nat.le_of_ble_eq_true rfl⟩ ⟨Nat.zero_le _, Nat.zero_le _⟩ (st1 := [.int r3]) (Nat.le_of_ble_eq_true rfl) dX12_rankBy_63 (fun r6 w5 v7 h => ?_)
        refine V_isub X dX12_rankBy_66 ?_
        refine V_sub X (ls1 := [(0, .ref (ad 150)), (1, .int l1), (2, .int l2), (3, .int l3), (4, .int l4)]) [0, 1, 2, 3, 4] rfl ?_
        exact v_12_rankBy_b67 X hr hZ ih _ _ _ _ _ _ _ h
      · have h := hf c
        refine V_aload_n X (i := 0) 0 dX12_rankBy_24 rfl rfl ?_
        refine G_12_110 X hZ dX12_rankBy_25 ?_
        refine V_aload_n X (i := 0) 0 dX12_rankBy_28 rfl rfl ?_
        refine V_bipush X (v := (36 : Int32)) dX12_rankBy_29 (by decide) ?_
        refine V_iconst X (v := (0 : Int32)) dX12_rankBy_31 (by decide) ?_
        refine V_iload X (i := 4) 4 dX12_rankBy_32 rfl ?_
        refine K_12_cell X (Or.inl q_1558) hZ h ⟨Nat.le_of_ble_eq_true rfl, Nat.le_of_ble_eq_true rfl⟩ ⟨Nat.zero_le _, Nat.zero_le _⟩ (st1 := [.ref (ad 181)]) (Nat.le_of_ble_eq_true rfl) dX12_rankBy_34 (fun r9 w8 v10 h => ?_)
        obtain ⟨g11, h⟩ := h
        refine V_iald_m X (rfl : SLq 181 = 260) (hzk hZ (by decide)) (rfl : SK 181 = 14) g11 dX12_rankBy_37 ?_
        refine V_aload_n X (i := 0) 0 dX12_rankBy_38 rfl rfl ?_
        refine G_12_110 X hZ dX12_rankBy_39 ?_
        refine V_aload_n X (i := 0) 0 dX12_rankBy_42 rfl rfl ?_
        refine V_bipush X (v := (36 : Int32)) dX12_rankBy_43 (by decide) ?_
        refine V_iconst X (v := (0 : Int32)) dX12_rankBy_45 (by decide) ?_
        refine V_iload_n X (i := 1) 1 dX12_rankBy_46 rfl rfl ?_
        refine K_12_cell X (Or.inl q_1558) hZ h ⟨Nat.le_of_ble_eq_true rfl, Nat.le_of_ble_eq_true rfl⟩ ⟨Nat.zero_le _, Nat.zero_le _⟩ (st1 := [.ref (ad 181), .int (w8 181 (ix r9))]) (Nat.le_of_ble_eq_true rfl) dX12_rankBy_47 (fun r13 w12 v14 h => ?_)
        obtain ⟨g15, h⟩ := h
        refine V_iald_m X (rfl : SLq 181 = 260) (hzk hZ (by decide)) (rfl : SK 181 = 14) g15 dX12_rankBy_50 ?_
        refine V_isub X dX12_rankBy_51 ?_
        refine V_goto X (tgt := 67) dX12_rankBy_52 (by decide) ?_
        refine V_sub X (ls1 := [(0, .ref (ad 150)), (1, .int l1), (2, .int l2), (3, .int l3), (4, .int l4)]) [0, 1, 2, 3, 4] rfl ?_
        exact v_12_rankBy_b67 X hr hZ ih _ _ _ _ _ _ _ h
set_option maxRecDepth 20000 in
theorem v_12_rankBy {a1 : Int32} {a2 : Int32} (X : CXq p s m args meth c cX12_rankBy 6 yX12_rankBy.cls ad cy D (AW ad) s.heap) (hr : meth.sig.returnType = (some .int)) (hZ : ad 1000 = 189) {w : Mem} {wl : MemL} {Q : Int32 → Mem → MemL → Prop} (h : wp_12_rankBy a1 a2 w wl Q) : V p l e (RM 2) s m args below meth c 6 ad cy D (AW ad) s.heap 0 0 (MQ below (va_Qi (fun r (u : Mem × MemL) => Q r u.1 u.2) (BM ad cy D wc) (AW ad)) args s 0 0 (AW ad)) wc w wl 0 [(0, .ref (ad 150)), (1, .int a1), (2, .int a2)] [] := by
  unfold wp_12_rankBy at h
  refine V_iconst X (v := (0 : Int32)) dX12_rankBy_0 (by decide) ?_
  refine V_istore_n X dX12_rankBy_1 rfl (by decide) rfl (ls1 := [(3, .int (0 : Int32)), (0, .ref (ad 150)), (1, .int a1), (2, .int a2)]) rfl ?_
  refine V_iconst X (v := (0 : Int32)) dX12_rankBy_2 (by decide) ?_
  refine V_istore X dX12_rankBy_3 (by decide) rfl (ls1 := [(4, .int (0 : Int32)), (3, .int (0 : Int32)), (0, .ref (ad 150)), (1, .int a1), (2, .int a2)]) rfl ?_
  refine V_sub X (ls1 := [(0, .ref (ad 150)), (1, .int a1), (2, .int a2), (3, .int (0 : Int32)), (4, .int (0 : Int32))]) [2, 3, 4, 1, 0] rfl ?_
  obtain ⟨nn, h⟩ := h
  exact v_12_rankBy_b5 X hr hZ nn _ _ _ _ _ _ h
theorem c_12_rankBy {a1 : Int32} {a2 : Int32} (hinj : INJ ad) (hZ : ad 1000 = 189) {w : Mem} {wl : MemL} {Q : Int32 → Mem → MemL → Prop} (h : wp_12_rankBy a1 a2 w wl Q) : Met l yX12_rankBy (TBq yX12_rankBy cX12_rankBy 6 (some .int)) (RM 2) (va_Pc [.ref (ad 150), .int a1, .int a2] (PB ad cy D (cmb wc w) wl)) (va_Qi (fun r (u : Mem × MemL) => Q r u.1 u.2) (BM ad cy D wc) (AW ad)) 0 0 (AW ad) := M_enter (by decide) (Nat.le_of_ble_eq_true rfl) hinj (fun p e s m args below meth c X hr => v_12_rankBy X hr hZ h)
theorem mf_12_rankBy : MFV yX12_rankBy cX12_rankBy 6 (some .int) yX12_rankBy.cls 2 := ⟨q_1557, q_1556, qs_66, q_14, by decide⟩
theorem K_12_rankBy {own : String} {idx : Nat} {a1 : Int32} {a2 : Int32} (X : CXq p s m args meth c cc nL own ad cy D A H0) (hL : LK own idx yX12_rankBy) (hZ : ad 1000 = 189) {w : Mem} {wl : MemL} {Q : Int32 → Mem → MemL → Prop} (h : wp_12_rankBy a1 a2 w wl Q) (hR : (RM 2).frames + 1 ≤ R.frames ∧ 8 + (6 + 11) + (RM 2).locals ≤ R.locals) (hce : ce ≤ R.cells ∧ sl ≤ R.slots) (hcat : (st1.map fun v => v.category).sum ≤ 8) (hd : decode cc pc = .ok (.invokevirtual idx, 3)) (kk : ∀ (r : Int32) (u : Mem) (v : MemL), Q r u v → V p l e R s m args below meth c nL ad cy D A H0 ce sl Qs wc u v (pc + 3) ls (.int r :: st1)) : V p l e R s m args below meth c nL ad cy D A H0 ce sl Qs wc w wl pc ls (.int a2 :: .int a1 :: .ref (ad 150) :: st1) := V_callVI_m X mf_12_rankBy hL (rfl : vwCl[12]? = some (RX12, TX12, 72)) (by decide) (rfl : SK 150 = 12) (hzk hZ (by decide)).2 (c_12_rankBy X.2.2.2.2.2.2.2.1 hZ h) (As := [.int a1, .int a2]) rfl ⟨rfl, rfl⟩ hR hce st1 rfl hcat hd kk
set_option maxRecDepth 20000 in
theorem v_12_inSecond (X : CXq p s m args meth c cX12_inSecond 1 yX12_inSecond.cls ad cy D (AW ad) s.heap) (hr : meth.sig.returnType = (some .int)) (hZ : ad 1000 = 189) {w : Mem} {wl : MemL} {Q : Int32 → Mem → MemL → Prop} (h : wp_12_inSecond w wl Q) : V p l e (RM 1) s m args below meth c 1 ad cy D (AW ad) s.heap 0 0 (MQ below (va_Qi (fun r (u : Mem × MemL) => Q r u.1 u.2) (BM ad cy D wc) (AW ad)) args s 0 0 (AW ad)) wc w wl 0 [(0, .ref (ad 150))] [] := by
  unfold wp_12_inSecond at h
  refine V_aload_n X (i := 0) 0 dX12_inSecond_0 rfl rfl ?_
  refine V_bipush X (v := (14 : Int32)) dX12_inSecond_1 (by decide) ?_
  refine K_12_tell0 X (Or.inl q_1203) hZ h ⟨Nat.le_of_ble_eq_true rfl, Nat.le_of_ble_eq_true rfl⟩ ⟨Nat.zero_le _, Nat.zero_le _⟩ (st1 := []) (Nat.le_of_ble_eq_true rfl) dX12_inSecond_3 (fun r2 w1 v3 h => ?_)
  refine V_aload_n X (i := 0) 0 dX12_inSecond_6 rfl rfl ?_
  refine G_12_46 X hZ dX12_inSecond_7 ?_
  refine V_aload_n X (i := 0) 0 dX12_inSecond_10 rfl rfl ?_
  refine G_12_218 X hZ dX12_inSecond_11 ?_
  obtain ⟨g4, h⟩ := h
  refine V_iald_m X (rfl : SLq 160 = 2) (hzk hZ (by decide)) (rfl : SK 160 = 14) g4 dX12_inSecond_14 ?_
  obtain ⟨ht, hf⟩ := h
  refine V_icmp_ge X (tgt := 27) dX12_inSecond_15 (by decide) (fun c => ?_) (fun c => ?_)
  · have h := ht c
    refine V_aload_n X (i := 0) 0 dX12_inSecond_27 rfl rfl ?_
    refine G_12_46 X hZ dX12_inSecond_28 ?_
    refine V_aload_n X (i := 0) 0 dX12_inSecond_31 rfl rfl ?_
    refine G_12_218 X hZ dX12_inSecond_32 ?_
    obtain ⟨g5, h⟩ := h
    refine V_iald_m X (rfl : SLq 160 = 2) (hzk hZ (by decide)) (rfl : SK 160 = 14) g5 dX12_inSecond_35 ?_
    exact V_iret_m X hr dX12_inSecond_36 h
  · have h := hf c
    refine V_aload_n X (i := 0) 0 dX12_inSecond_18 rfl rfl ?_
    refine V_bipush X (v := (14 : Int32)) dX12_inSecond_19 (by decide) ?_
    refine K_12_tell0 X (Or.inl q_1203) hZ h ⟨Nat.le_of_ble_eq_true rfl, Nat.le_of_ble_eq_true rfl⟩ ⟨Nat.zero_le _, Nat.zero_le _⟩ (st1 := []) (Nat.le_of_ble_eq_true rfl) dX12_inSecond_21 (fun r7 w6 v8 h => ?_)
    refine V_goto X (tgt := 36) dX12_inSecond_24 (by decide) ?_
    exact V_iret_m X hr dX12_inSecond_36 h
theorem c_12_inSecond (hinj : INJ ad) (hZ : ad 1000 = 189) {w : Mem} {wl : MemL} {Q : Int32 → Mem → MemL → Prop} (h : wp_12_inSecond w wl Q) : Met l yX12_inSecond (TBq yX12_inSecond cX12_inSecond 1 (some .int)) (RM 1) (va_Pc [.ref (ad 150)] (PB ad cy D (cmb wc w) wl)) (va_Qi (fun r (u : Mem × MemL) => Q r u.1 u.2) (BM ad cy D wc) (AW ad)) 0 0 (AW ad) := M_enter (by decide) (Nat.le_of_ble_eq_true rfl) hinj (fun p e s m args below meth c X hr => v_12_inSecond X hr hZ h)
theorem mf_12_inSecond : MFV yX12_inSecond cX12_inSecond 1 (some .int) yX12_inSecond.cls 0 := ⟨q_1569, q_1568, qs_69, q_14, by decide⟩
theorem K_12_inSecond {own : String} {idx : Nat} (X : CXq p s m args meth c cc nL own ad cy D A H0) (hL : LK own idx yX12_inSecond) (hZ : ad 1000 = 189) {w : Mem} {wl : MemL} {Q : Int32 → Mem → MemL → Prop} (h : wp_12_inSecond w wl Q) (hR : (RM 1).frames + 1 ≤ R.frames ∧ 8 + (1 + 11) + (RM 1).locals ≤ R.locals) (hce : ce ≤ R.cells ∧ sl ≤ R.slots) (hcat : (st1.map fun v => v.category).sum ≤ 8) (hd : decode cc pc = .ok (.invokevirtual idx, 3)) (kk : ∀ (r : Int32) (u : Mem) (v : MemL), Q r u v → V p l e R s m args below meth c nL ad cy D A H0 ce sl Qs wc u v (pc + 3) ls (.int r :: st1)) : V p l e R s m args below meth c nL ad cy D A H0 ce sl Qs wc w wl pc ls (.ref (ad 150) :: st1) := V_callVI_m X mf_12_inSecond hL (rfl : vwCl[12]? = some (RX12, TX12, 72)) (by decide) (rfl : SK 150 = 12) (hzk hZ (by decide)).2 (c_12_inSecond X.2.2.2.2.2.2.2.1 hZ h) (As := []) rfl ⟨rfl, rfl⟩ hR hce st1 rfl hcat hd kk
set_option maxRecDepth 20000 in
theorem v_12_nextOne_b72 (X : CXq p s m args meth c cX12_nextOne 2 yX12_nextOne.cls ad cy D (AW ad) s.heap) (hr : meth.sig.returnType = (some .int)) (hZ : ad 1000 = 189) {Q : Int32 → Mem → MemL → Prop} : ∀ (n : Nat) (l1 : Int32) (w : Mem) (wl : MemL), wp_12_nextOne_b72 Q n l1 w wl → V p l e (RM 3) s m args below meth c 2 ad cy D (AW ad) s.heap 0 0 (MQ below (va_Qi (fun r (u : Mem × MemL) => Q r u.1 u.2) (BM ad cy D wc) (AW ad)) args s 0 0 (AW ad)) wc w wl 72 [(0, .ref (ad 150)), (1, .int l1)] [] := by
  intro n
  induction n with
  | zero =>
    intro l1 w wl h
    exact h.elim
  | succ n ih =>
    intro l1 w wl h
    unfold wp_12_nextOne_b72 at h
    refine V_iload_n X (i := 1) 1 dX12_nextOne_72 rfl rfl ?_
    refine V_aload_n X (i := 0) 0 dX12_nextOne_73 rfl rfl ?_
    refine G_12_46 X hZ dX12_nextOne_74 ?_
    refine V_aload_n X (i := 0) 0 dX12_nextOne_77 rfl rfl ?_
    refine G_12_218 X hZ dX12_nextOne_78 ?_
    obtain ⟨g1, h⟩ := h
    refine V_iald_m X (rfl : SLq 160 = 2) (hzk hZ (by decide)) (rfl : SK 160 = 14) g1 dX12_nextOne_81 ?_
    obtain ⟨ht, hf⟩ := h
    refine V_icmp_ge X (tgt := 115) dX12_nextOne_82 (by decide) (fun c => ?_) (fun c => ?_)
    · have h := ht c
      refine V_bipush X (v := (-2 : Int32)) dX12_nextOne_115 (by decide) ?_
      exact V_iret_m X hr dX12_nextOne_117 h
    · have h := hf c
      refine V_aload_n X (i := 0) 0 dX12_nextOne_85 rfl rfl ?_
      refine V_iload_n X (i := 1) 1 dX12_nextOne_86 rfl rfl ?_
      refine V_iconst X (v := (1 : Int32)) dX12_nextOne_87 (by decide) ?_
      refine K_12_rankBy X (Or.inl q_1554) hZ h ⟨Nat.le_of_ble_eq_true rfl, Nat.le_of_ble_eq_true rfl⟩ ⟨Nat.zero_le _, Nat.zero_le _⟩ (st1 := []) (Nat.le_of_ble_eq_true rfl) dX12_nextOne_88 (fun r3 w2 v4 h => ?_)
      refine V_aload_n X (i := 0) 0 dX12_nextOne_91 rfl rfl ?_
      refine K_12_inSecond X (Or.inl q_1566) hZ h ⟨Nat.le_of_ble_eq_true rfl, Nat.le_of_ble_eq_true rfl⟩ ⟨Nat.zero_le _, Nat.zero_le _⟩ (st1 := [.int r3]) (Nat.le_of_ble_eq_true rfl) dX12_nextOne_92 (fun r6 w5 v7 h => ?_)
      refine V_iconst X (v := (1 : Int32)) dX12_nextOne_95 (by decide) ?_
      refine V_isub X dX12_nextOne_96 ?_
      refine V_aload_n X (i := 0) 0 dX12_nextOne_97 rfl rfl ?_
      refine G_12_110 X hZ dX12_nextOne_98 ?_
      refine V_iconst X (v := (3 : Int32)) dX12_nextOne_101 (by decide) ?_
      refine V_iald_m X (rfl : SLq 181 = 260) (hzk hZ (by decide)) (rfl : SK 181 = 14) (vpl (by decide)) dX12_nextOne_102 ?_
      refine V_isub X dX12_nextOne_103 ?_
      obtain ⟨ht, hf⟩ := h
      refine V_icmp_ne X (tgt := 109) dX12_nextOne_104 (by decide) (fun c => ?_) (fun c => ?_)
      · have h := ht c
        obtain ⟨x8, ex8⟩ : ∃ y : Int32, y = l1 + (1 : Int32) := ⟨_, rfl⟩
        have h := h x8 ex8
        refine V_iinc X 1 dX12_nextOne_109 rfl (by decide) (by rw [ex8]; rfl) (ls1 := [(1, .int x8), (0, .ref (ad 150))]) rfl ?_
        refine V_goto X (tgt := 72) dX12_nextOne_112 (by decide) ?_
        refine V_sub X (ls1 := [(0, .ref (ad 150)), (1, .int x8)]) [1, 0] rfl ?_
        exact ih _ _ _ h
      · have h := hf c
        refine V_iload_n X (i := 1) 1 dX12_nextOne_107 rfl rfl ?_
        exact V_iret_m X hr dX12_nextOne_108 h
set_option maxRecDepth 20000 in
theorem v_12_nextOne (X : CXq p s m args meth c cX12_nextOne 2 yX12_nextOne.cls ad cy D (AW ad) s.heap) (hr : meth.sig.returnType = (some .int)) (hZ : ad 1000 = 189) {w : Mem} {wl : MemL} {Q : Int32 → Mem → MemL → Prop} (h : wp_12_nextOne w wl Q) : V p l e (RM 3) s m args below meth c 2 ad cy D (AW ad) s.heap 0 0 (MQ below (va_Qi (fun r (u : Mem × MemL) => Q r u.1 u.2) (BM ad cy D wc) (AW ad)) args s 0 0 (AW ad)) wc w wl 0 [(0, .ref (ad 150))] [] := by
  unfold wp_12_nextOne at h
  refine V_aload_n X (i := 0) 0 dX12_nextOne_0 rfl rfl ?_
  refine G_12_46 X hZ dX12_nextOne_1 ?_
  refine V_aload_n X (i := 0) 0 dX12_nextOne_4 rfl rfl ?_
  refine G_12_218 X hZ dX12_nextOne_5 ?_
  obtain ⟨g1, h⟩ := h
  refine V_iald_m X (rfl : SLq 160 = 2) (hzk hZ (by decide)) (rfl : SK 160 = 14) g1 dX12_nextOne_8 ?_
  obtain ⟨ht, hf⟩ := h
  refine V_if_eq X (tgt := 22) dX12_nextOne_9 (by decide) (fun c => ?_) (fun c => ?_)
  · have h := ht c
    refine V_bipush X (v := (-2 : Int32)) dX12_nextOne_22 (by decide) ?_
    exact V_iret_m X hr dX12_nextOne_24 h
  · have h := hf c
    refine V_aload_n X (i := 0) 0 dX12_nextOne_12 rfl rfl ?_
    refine G_12_110 X hZ dX12_nextOne_13 ?_
    refine V_iconst X (v := (1 : Int32)) dX12_nextOne_16 (by decide) ?_
    refine V_iald_m X (rfl : SLq 181 = 260) (hzk hZ (by decide)) (rfl : SK 181 = 14) (vpl (by decide)) dX12_nextOne_17 ?_
    refine V_iconst X (v := (3 : Int32)) dX12_nextOne_18 (by decide) ?_
    obtain ⟨ht, hf⟩ := h
    refine V_icmp_ne X (tgt := 25) dX12_nextOne_19 (by decide) (fun c => ?_) (fun c => ?_)
    · have h := ht c
      refine V_aload_n X (i := 0) 0 dX12_nextOne_25 rfl rfl ?_
      refine G_12_110 X hZ dX12_nextOne_26 ?_
      refine V_iconst X (v := (1 : Int32)) dX12_nextOne_29 (by decide) ?_
      refine V_iald_m X (rfl : SLq 181 = 260) (hzk hZ (by decide)) (rfl : SK 181 = 14) (vpl (by decide)) dX12_nextOne_30 ?_
      refine V_iconst X (v := (1 : Int32)) dX12_nextOne_31 (by decide) ?_
      obtain ⟨ht, hf⟩ := h
      refine V_icmp_ne X (tgt := 70) dX12_nextOne_32 (by decide) (fun c => ?_) (fun c => ?_)
      · have h := ht c
        refine V_iconst X (v := (0 : Int32)) dX12_nextOne_70 (by decide) ?_
        refine V_istore_n X dX12_nextOne_71 rfl (by decide) rfl (ls1 := [(1, .int (0 : Int32)), (0, .ref (ad 150))]) rfl ?_
        refine V_sub X (ls1 := [(0, .ref (ad 150)), (1, .int (0 : Int32))]) [1, 0] rfl ?_
        obtain ⟨nn, h⟩ := h
        exact v_12_nextOne_b72 X hr hZ nn _ _ _ h
      · have h := hf c
        refine V_aload_n X (i := 0) 0 dX12_nextOne_35 rfl rfl ?_
        refine G_12_306 X hZ dX12_nextOne_36 ?_
        obtain ⟨ht, hf⟩ := h
        refine V_if_eq X (tgt := 63) dX12_nextOne_39 (by decide) (fun c => ?_) (fun c => ?_)
        · have h := ht c
          refine V_aload_n X (i := 0) 0 dX12_nextOne_63 rfl rfl ?_
          refine G_12_110 X hZ dX12_nextOne_64 ?_
          refine V_iconst X (v := (3 : Int32)) dX12_nextOne_67 (by decide) ?_
          refine V_iald_m X (rfl : SLq 181 = 260) (hzk hZ (by decide)) (rfl : SK 181 = 14) (vpl (by decide)) dX12_nextOne_68 ?_
          exact V_iret_m X hr dX12_nextOne_69 h
        · have h := hf c
          refine V_aload_n X (i := 0) 0 dX12_nextOne_42 rfl rfl ?_
          refine G_12_46 X hZ dX12_nextOne_43 ?_
          refine V_aload_n X (i := 0) 0 dX12_nextOne_46 rfl rfl ?_
          refine G_12_218 X hZ dX12_nextOne_47 ?_
          obtain ⟨g2, h⟩ := h
          refine V_iald_m X (rfl : SLq 160 = 2) (hzk hZ (by decide)) (rfl : SK 160 = 14) g2 dX12_nextOne_50 ?_
          refine V_iconst X (v := (1 : Int32)) dX12_nextOne_51 (by decide) ?_
          refine V_isub X dX12_nextOne_52 ?_
          refine V_aload_n X (i := 0) 0 dX12_nextOne_53 rfl rfl ?_
          refine G_12_110 X hZ dX12_nextOne_54 ?_
          refine V_iconst X (v := (3 : Int32)) dX12_nextOne_57 (by decide) ?_
          refine V_iald_m X (rfl : SLq 181 = 260) (hzk hZ (by decide)) (rfl : SK 181 = 14) (vpl (by decide)) dX12_nextOne_58 ?_
          refine V_isub X dX12_nextOne_59 ?_
          refine V_goto X (tgt := 69) dX12_nextOne_60 (by decide) ?_
          exact V_iret_m X hr dX12_nextOne_69 h
    · have h := hf c
      refine V_bipush X (v := (-2 : Int32)) dX12_nextOne_22 (by decide) ?_
      exact V_iret_m X hr dX12_nextOne_24 h
theorem c_12_nextOne (hinj : INJ ad) (hZ : ad 1000 = 189) {w : Mem} {wl : MemL} {Q : Int32 → Mem → MemL → Prop} (h : wp_12_nextOne w wl Q) : Met l yX12_nextOne (TBq yX12_nextOne cX12_nextOne 2 (some .int)) (RM 3) (va_Pc [.ref (ad 150)] (PB ad cy D (cmb wc w) wl)) (va_Qi (fun r (u : Mem × MemL) => Q r u.1 u.2) (BM ad cy D wc) (AW ad)) 0 0 (AW ad) := M_enter (by decide) (Nat.le_of_ble_eq_true rfl) hinj (fun p e s m args below meth c X hr => v_12_nextOne X hr hZ h)
theorem mf_12_nextOne : MFV yX12_nextOne cX12_nextOne 2 (some .int) yX12_nextOne.cls 0 := ⟨q_1553, q_1552, qs_65, q_14, by decide⟩
theorem K_12_nextOne {own : String} {idx : Nat} (X : CXq p s m args meth c cc nL own ad cy D A H0) (hL : LK own idx yX12_nextOne) (hZ : ad 1000 = 189) {w : Mem} {wl : MemL} {Q : Int32 → Mem → MemL → Prop} (h : wp_12_nextOne w wl Q) (hR : (RM 3).frames + 1 ≤ R.frames ∧ 8 + (2 + 11) + (RM 3).locals ≤ R.locals) (hce : ce ≤ R.cells ∧ sl ≤ R.slots) (hcat : (st1.map fun v => v.category).sum ≤ 8) (hd : decode cc pc = .ok (.invokevirtual idx, 3)) (kk : ∀ (r : Int32) (u : Mem) (v : MemL), Q r u v → V p l e R s m args below meth c nL ad cy D A H0 ce sl Qs wc u v (pc + 3) ls (.int r :: st1)) : V p l e R s m args below meth c nL ad cy D A H0 ce sl Qs wc w wl pc ls (.ref (ad 150) :: st1) := V_callVI_m X mf_12_nextOne hL (rfl : vwCl[12]? = some (RX12, TX12, 72)) (by decide) (rfl : SK 150 = 12) (hzk hZ (by decide)).2 (c_12_nextOne X.2.2.2.2.2.2.2.1 hZ h) (As := []) rfl ⟨rfl, rfl⟩ hR hce st1 rfl hcat hd kk
end
