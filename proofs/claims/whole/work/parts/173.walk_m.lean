-- printed by wip/whole/gen6.py out of the decode rows and the tables
section
variable {p : Program} {l : Launch} {e : Env} {R : Room} {s : State} {m : MethodId} {args : Array Value} {below : List Frame} {meth : Method} {c : Code} {cc : ByteArray} {nL : Nat} {ad : Nat → Nat} {cy : Nat → ClassId} {D : va_G} {A : Nat → Prop} {H0 : Heap} {ce sl : Nat} {Qs : State → Prop} {wc wm : Mem} {wl0 : MemL} {pc : Nat} {ls : List (Nat × Value)} {st1 : List Value}
set_option maxRecDepth 20000 in
theorem v_12_letsGo_b318 (X : CXq p s m args meth c cX12_letsGo 6 yX12_letsGo.cls ad cy D (AW ad) s.heap) (hr : meth.sig.returnType = none) (hZ : ad 1000 = 189) {Q : Mem → MemL → Prop} : ∀ (s0 : Int32) (s1 : Int32) (w : Mem) (wl : MemL), wp_12_letsGo_b318 Q s0 s1 w wl → V p l e (RM 6) s m args below meth c 6 ad cy D (AW ad) s.heap 0 0 (MQ below (va_Qv (fun (u : Mem × MemL) => Q u.1 u.2) (BM ad cy D wc) (AW ad)) args s 0 0 (AW ad)) wc w wl 318 [(0, .ref (ad 150))] [.int s1, .int s0] := by
  intro s0 s1 w wl h
  unfold wp_12_letsGo_b318 at h
  obtain ⟨ht, hf⟩ := h
  refine V_icmp_ge X (tgt := 322) dX12_letsGo_318 (by decide) (fun c => ?_) (fun c => ?_)
  · have h := ht c
    refine V_aload_n X (i := 0) 0 dX12_letsGo_322 rfl rfl ?_
    refine G_12_110 X hZ dX12_letsGo_323 ?_
    refine V_iconst X (v := (1 : Int32)) dX12_letsGo_326 (by decide) ?_
    refine V_dup2 X dX12_letsGo_327 rfl rfl ?_
    refine V_iald_m X (rfl : SLq 181 = 260) (hzk hZ (by decide)) (rfl : SK 181 = 14) (vpl (by decide)) dX12_letsGo_328 ?_
    refine V_iconst X (v := (1 : Int32)) dX12_letsGo_329 (by decide) ?_
    refine V_iadd X dX12_letsGo_330 ?_
    obtain ⟨w1, ew1⟩ : ∃ y : Mem, y = st w 181 (ix (1 : Int32)) ((w 181 (ix (1 : Int32))) + (1 : Int32)) := ⟨_, rfl⟩
    have h := h w1 ew1
    refine V_iast_m X (rfl : SLq 181 = 260) (hzk hZ (by decide)) (rfl : SK 181 = 14) (vpl (by decide)) dX12_letsGo_331 ew1 ?_
    refine V_aload_n X (i := 0) 0 dX12_letsGo_332 rfl rfl ?_
    refine G_12_110 X hZ dX12_letsGo_333 ?_
    refine V_iconst X (v := (3 : Int32)) dX12_letsGo_336 (by decide) ?_
    refine V_iconst X (v := (0 : Int32)) dX12_letsGo_337 (by decide) ?_
    obtain ⟨w2, ew2⟩ : ∃ y : Mem, y = st w1 181 (ix (3 : Int32)) (0 : Int32) := ⟨_, rfl⟩
    have h := h w2 ew2
    refine V_iast_m X (rfl : SLq 181 = 260) (hzk hZ (by decide)) (rfl : SK 181 = 14) (vpl (by decide)) dX12_letsGo_338 ew2 ?_
    exact V_vret_m X hr dX12_letsGo_339 h
  · have h := hf c
    exact V_vret_m X hr dX12_letsGo_321 h
set_option maxRecDepth 20000 in
theorem v_12_letsGo_b218 (X : CXq p s m args meth c cX12_letsGo 6 yX12_letsGo.cls ad cy D (AW ad) s.heap) (hr : meth.sig.returnType = none) (hZ : ad 1000 = 189) {Q : Mem → MemL → Prop} : ∀ (n : Nat) (l1 : Int32) (l2 : Int32) (l4 : Int32) (l5 : Int32) (w : Mem) (wl : MemL), wp_12_letsGo_b218 Q n l1 l2 l4 l5 w wl → V p l e (RM 6) s m args below meth c 6 ad cy D (AW ad) s.heap 0 0 (MQ below (va_Qv (fun (u : Mem × MemL) => Q u.1 u.2) (BM ad cy D wc) (AW ad)) args s 0 0 (AW ad)) wc w wl 218 [(0, .ref (ad 150)), (1, .int l1), (2, .int l2), (4, .int l4), (5, .int l5)] [] := by
  intro n
  induction n with
  | zero =>
    intro l1 l2 l4 l5 w wl h
    exact h.elim
  | succ n ih =>
    intro l1 l2 l4 l5 w wl h
    unfold wp_12_letsGo_b218 at h
    refine V_iload X (i := 5) 4 dX12_letsGo_218 rfl ?_
    refine V_aload_n X (i := 0) 0 dX12_letsGo_220 rfl rfl ?_
    refine G_12_61 X hZ dX12_letsGo_221 ?_
    refine V_aload_n X (i := 0) 0 dX12_letsGo_224 rfl rfl ?_
    refine G_12_218 X hZ dX12_letsGo_225 ?_
    obtain ⟨g1, h⟩ := h
    refine V_iald_m X (rfl : SLq 165 = 2) (hzk hZ (by decide)) (rfl : SK 165 = 14) g1 dX12_letsGo_228 ?_
    obtain ⟨ht, hf⟩ := h
    refine V_icmp_ge X (tgt := 267) dX12_letsGo_229 (by decide) (fun c => ?_) (fun c => ?_)
    · have h := ht c
      refine V_aload_n X (i := 0) 0 dX12_letsGo_267 rfl rfl ?_
      refine G_12_110 X hZ dX12_letsGo_268 ?_
      refine V_iconst X (v := (0 : Int32)) dX12_letsGo_271 (by decide) ?_
      refine V_iload_n X (i := 2) 2 dX12_letsGo_272 rfl rfl ?_
      refine V_aload_n X (i := 0) 0 dX12_letsGo_273 rfl rfl ?_
      refine V_bipush X (v := (11 : Int32)) dX12_letsGo_274 (by decide) ?_
      refine K_12_tell0 X (Or.inl q_1203) hZ h ⟨Nat.le_of_ble_eq_true rfl, Nat.le_of_ble_eq_true rfl⟩ ⟨Nat.zero_le _, Nat.zero_le _⟩ (st1 := [.int l2, .int (0 : Int32), .ref (ad 181)]) (Nat.le_of_ble_eq_true rfl) dX12_letsGo_276 (fun r3 w2 v4 h => ?_)
      refine V_iadd X dX12_letsGo_279 ?_
      obtain ⟨w5, ew5⟩ : ∃ y : Mem, y = st w2 181 (ix (0 : Int32)) (l2 + r3) := ⟨_, rfl⟩
      have h := h w5 ew5
      refine V_iast_m X (rfl : SLq 181 = 260) (hzk hZ (by decide)) (rfl : SK 181 = 14) (vpl (by decide)) dX12_letsGo_280 ew5 ?_
      refine V_aload_n X (i := 0) 0 dX12_letsGo_281 rfl rfl ?_
      refine G_12_110 X hZ dX12_letsGo_282 ?_
      refine V_iconst X (v := (3 : Int32)) dX12_letsGo_285 (by decide) ?_
      refine V_dup2 X dX12_letsGo_286 rfl rfl ?_
      refine V_iald_m X (rfl : SLq 181 = 260) (hzk hZ (by decide)) (rfl : SK 181 = 14) (vpl (by decide)) dX12_letsGo_287 ?_
      refine V_iconst X (v := (1 : Int32)) dX12_letsGo_288 (by decide) ?_
      refine V_iadd X dX12_letsGo_289 ?_
      obtain ⟨w6, ew6⟩ : ∃ y : Mem, y = st w5 181 (ix (3 : Int32)) ((w5 181 (ix (3 : Int32))) + (1 : Int32)) := ⟨_, rfl⟩
      have h := h w6 ew6
      refine V_iast_m X (rfl : SLq 181 = 260) (hzk hZ (by decide)) (rfl : SK 181 = 14) (vpl (by decide)) dX12_letsGo_290 ew6 ?_
      refine V_aload_n X (i := 0) 0 dX12_letsGo_291 rfl rfl ?_
      refine G_12_110 X hZ dX12_letsGo_292 ?_
      refine V_iconst X (v := (3 : Int32)) dX12_letsGo_295 (by decide) ?_
      refine V_iald_m X (rfl : SLq 181 = 260) (hzk hZ (by decide)) (rfl : SK 181 = 14) (vpl (by decide)) dX12_letsGo_296 ?_
      refine V_iload X (i := 4) 3 dX12_letsGo_297 rfl ?_
      obtain ⟨ht, hf⟩ := h
      refine V_if_ne X (tgt := 314) dX12_letsGo_299 (by decide) (fun c => ?_) (fun c => ?_)
      · have h := ht c
        refine V_aload_n X (i := 0) 0 dX12_letsGo_314 rfl rfl ?_
        refine K_12_inSecond X (Or.inl q_1566) hZ h ⟨Nat.le_of_ble_eq_true rfl, Nat.le_of_ble_eq_true rfl⟩ ⟨Nat.zero_le _, Nat.zero_le _⟩ (st1 := [.int (w6 181 (ix (3 : Int32)))]) (Nat.le_of_ble_eq_true rfl) dX12_letsGo_315 (fun r8 w7 v9 h => ?_)
        refine V_sub X (ls1 := [(0, .ref (ad 150))]) [0] rfl ?_
        exact v_12_letsGo_b318 X hr hZ _ _ _ _ h
      · have h := hf c
        refine V_aload_n X (i := 0) 0 dX12_letsGo_302 rfl rfl ?_
        refine G_12_46 X hZ dX12_letsGo_303 ?_
        refine V_aload_n X (i := 0) 0 dX12_letsGo_306 rfl rfl ?_
        refine G_12_218 X hZ dX12_letsGo_307 ?_
        obtain ⟨g10, h⟩ := h
        refine V_iald_m X (rfl : SLq 160 = 2) (hzk hZ (by decide)) (rfl : SK 160 = 14) g10 dX12_letsGo_310 ?_
        refine V_goto X (tgt := 318) dX12_letsGo_311 (by decide) ?_
        refine V_sub X (ls1 := [(0, .ref (ad 150))]) [0] rfl ?_
        exact v_12_letsGo_b318 X hr hZ _ _ _ _ h
    · have h := hf c
      refine V_aload_n X (i := 0) 0 dX12_letsGo_232 rfl rfl ?_
      refine G_12_110 X hZ dX12_letsGo_233 ?_
      refine V_sipush X (v := (148 : Int32)) dX12_letsGo_236 (by decide) ?_
      refine V_bipush X (v := (7 : Int32)) dX12_letsGo_239 (by decide) ?_
      refine V_bipush X (v := (8 : Int32)) dX12_letsGo_241 (by decide) ?_
      refine V_iload X (i := 4) 3 dX12_letsGo_243 rfl ?_
      refine V_imul X dX12_letsGo_245 ?_
      refine V_iload_n X (i := 1) 1 dX12_letsGo_246 rfl rfl ?_
      refine V_iadd X dX12_letsGo_247 ?_
      refine V_imul X dX12_letsGo_248 ?_
      refine V_iadd X dX12_letsGo_249 ?_
      refine V_iload X (i := 5) 4 dX12_letsGo_250 rfl ?_
      refine V_iadd X dX12_letsGo_252 ?_
      refine V_aload_n X (i := 0) 0 dX12_letsGo_253 rfl rfl ?_
      refine G_12_113 X hZ dX12_letsGo_254 ?_
      refine V_iload X (i := 5) 4 dX12_letsGo_257 rfl ?_
      obtain ⟨g11, h⟩ := h
      refine V_iald_m X (rfl : SLq 182 = 7) (hzk hZ (by decide)) (rfl : SK 182 = 14) g11 dX12_letsGo_259 ?_
      obtain ⟨g12, h⟩ := h
      obtain ⟨w13, ew13⟩ : ∃ y : Mem, y = st w 181 (ix (((148 : Int32) + ((7 : Int32) * (((8 : Int32) * l4) + l1))) + l5)) (w 182 (ix l5)) := ⟨_, rfl⟩
      have h := h w13 ew13
      refine V_iast_m X (rfl : SLq 181 = 260) (hzk hZ (by decide)) (rfl : SK 181 = 14) g12 dX12_letsGo_260 ew13 ?_
      obtain ⟨x14, ex14⟩ : ∃ y : Int32, y = l5 + (1 : Int32) := ⟨_, rfl⟩
      have h := h x14 ex14
      refine V_iinc X 4 dX12_letsGo_261 rfl (by decide) (by rw [ex14]; rfl) (ls1 := [(5, .int x14), (0, .ref (ad 150)), (1, .int l1), (2, .int l2), (4, .int l4)]) rfl ?_
      refine V_goto X (tgt := 218) dX12_letsGo_264 (by decide) ?_
      refine V_sub X (ls1 := [(0, .ref (ad 150)), (1, .int l1), (2, .int l2), (4, .int l4), (5, .int x14)]) [1, 2, 3, 4, 0] rfl ?_
      exact ih _ _ _ _ _ _ h
set_option maxRecDepth 20000 in
theorem v_12_letsGo {a1 : Int32} {a2 : Int32} (X : CXq p s m args meth c cX12_letsGo 6 yX12_letsGo.cls ad cy D (AW ad) s.heap) (hr : meth.sig.returnType = none) (hZ : ad 1000 = 189) {w : Mem} {wl : MemL} {Q : Mem → MemL → Prop} (h : wp_12_letsGo a1 a2 w wl Q) : V p l e (RM 6) s m args below meth c 6 ad cy D (AW ad) s.heap 0 0 (MQ below (va_Qv (fun (u : Mem × MemL) => Q u.1 u.2) (BM ad cy D wc) (AW ad)) args s 0 0 (AW ad)) wc w wl 0 [(0, .ref (ad 150)), (1, .int a1), (2, .int a2)] [] := by
  unfold wp_12_letsGo at h
  refine V_aload_n X (i := 0) 0 dX12_letsGo_0 rfl rfl ?_
  refine G_12_55 X hZ dX12_letsGo_1 ?_
  refine V_bipush X (v := (8 : Int32)) dX12_letsGo_4 (by decide) ?_
  refine V_aload_n X (i := 0) 0 dX12_letsGo_6 rfl rfl ?_
  refine G_12_218 X hZ dX12_letsGo_7 ?_
  refine V_imul X dX12_letsGo_10 ?_
  refine V_iload_n X (i := 1) 1 dX12_letsGo_11 rfl rfl ?_
  refine V_iadd X dX12_letsGo_12 ?_
  obtain ⟨g1, h⟩ := h
  refine V_iald_m X (rfl : SLq 163 = 16) (hzk hZ (by decide)) (rfl : SK 163 = 14) g1 dX12_letsGo_13 ?_
  obtain ⟨x2, ex2⟩ : ∃ y : Int32, y = (w 163 (ix (((8 : Int32) * (w 150 18)) + a1))) := ⟨_, rfl⟩
  have h := h x2 ex2
  refine V_istore_n X dX12_letsGo_14 rfl (by decide) ex2 (ls1 := [(3, .int x2), (0, .ref (ad 150)), (1, .int a1), (2, .int a2)]) rfl ?_
  refine V_aload_n X (i := 0) 1 dX12_letsGo_15 rfl rfl ?_
  refine G_12_110 X hZ dX12_letsGo_16 ?_
  refine V_iconst X (v := (1 : Int32)) dX12_letsGo_19 (by decide) ?_
  refine V_iald_m X (rfl : SLq 181 = 260) (hzk hZ (by decide)) (rfl : SK 181 = 14) (vpl (by decide)) dX12_letsGo_20 ?_
  refine V_iconst X (v := (1 : Int32)) dX12_letsGo_21 (by decide) ?_
  refine V_isub X dX12_letsGo_22 ?_
  obtain ⟨x3, ex3⟩ : ∃ y : Int32, y = ((w 181 (ix (1 : Int32))) - (1 : Int32)) := ⟨_, rfl⟩
  have h := h x3 ex3
  refine V_istore X dX12_letsGo_23 (by decide) ex3 (ls1 := [(4, .int x3), (3, .int x2), (0, .ref (ad 150)), (1, .int a1), (2, .int a2)]) rfl ?_
  refine V_aload_n X (i := 0) 2 dX12_letsGo_25 rfl rfl ?_
  refine V_iload_n X (i := 1) 3 dX12_letsGo_26 rfl rfl ?_
  refine V_iload_n X (i := 2) 4 dX12_letsGo_27 rfl rfl ?_
  refine V_aload_n X (i := 0) 2 dX12_letsGo_28 rfl rfl ?_
  refine V_ldcw X (v := (100000 : Int32)) dX12_letsGo_29 q_1663 ?_
  refine V_iload_n X (i := 2) 4 dX12_letsGo_32 rfl rfl ?_
  refine V_iadd X dX12_letsGo_33 ?_
  refine V_iconst X (v := (2 : Int32)) dX12_letsGo_34 (by decide) ?_
  refine V_iload_n X (i := 3) 1 dX12_letsGo_35 rfl rfl ?_
  refine V_imul X dX12_letsGo_36 ?_
  refine V_iconst X (v := (1 : Int32)) dX12_letsGo_37 (by decide) ?_
  refine V_iadd X dX12_letsGo_38 ?_
  refine K_12_lotOf X (Or.inl q_1593) hZ h ⟨Nat.le_of_ble_eq_true rfl, Nat.le_of_ble_eq_true rfl⟩ ⟨Nat.zero_le _, Nat.zero_le _⟩ (st1 := [.int a2, .int a1, .ref (ad 150)]) (Nat.le_of_ble_eq_true rfl) dX12_letsGo_39 (fun r5 w4 v6 h => ?_)
  refine V_iload_n X (i := 3) 1 dX12_letsGo_42 rfl rfl ?_
  refine V_isub X dX12_letsGo_43 ?_
  refine V_aload_n X (i := 0) 2 dX12_letsGo_44 rfl rfl ?_
  refine G_12_110 X hZ dX12_letsGo_45 ?_
  refine V_iconst X (v := (2 : Int32)) dX12_letsGo_48 (by decide) ?_
  refine V_iald_m X (rfl : SLq 181 = 260) (hzk hZ (by decide)) (rfl : SK 181 = 14) (vpl (by decide)) dX12_letsGo_49 ?_
  refine V_aload_n X (i := 0) 2 dX12_letsGo_50 rfl rfl ?_
  refine G_12_110 X hZ dX12_letsGo_51 ?_
  refine V_iconst X (v := (3 : Int32)) dX12_letsGo_54 (by decide) ?_
  refine V_iald_m X (rfl : SLq 181 = 260) (hzk hZ (by decide)) (rfl : SK 181 = 14) (vpl (by decide)) dX12_letsGo_55 ?_
  refine K_12_setsJump X (Or.inl q_1664) hZ h ⟨Nat.le_of_ble_eq_true rfl, Nat.le_of_ble_eq_true rfl⟩ ⟨Nat.zero_le _, Nat.zero_le _⟩ (st1 := []) (Nat.le_of_ble_eq_true rfl) dX12_letsGo_56 (fun w7 v8 h => ?_)
  refine V_aload_n X (i := 0) 2 dX12_letsGo_59 rfl rfl ?_
  refine G_12_110 X hZ dX12_letsGo_60 ?_
  refine V_aload_n X (i := 0) 2 dX12_letsGo_63 rfl rfl ?_
  refine V_iconst X (v := (4 : Int32)) dX12_letsGo_64 (by decide) ?_
  refine V_iload X (i := 4) 0 dX12_letsGo_65 rfl ?_
  refine V_iload_n X (i := 1) 3 dX12_letsGo_67 rfl rfl ?_
  refine K_12_cell X (Or.inl q_1558) hZ h ⟨Nat.le_of_ble_eq_true rfl, Nat.le_of_ble_eq_true rfl⟩ ⟨Nat.zero_le _, Nat.zero_le _⟩ (st1 := [.ref (ad 181)]) (Nat.le_of_ble_eq_true rfl) dX12_letsGo_68 (fun r10 w9 v11 h => ?_)
  refine V_iconst X (v := (1 : Int32)) dX12_letsGo_71 (by decide) ?_
  obtain ⟨g12, h⟩ := h
  obtain ⟨w13, ew13⟩ : ∃ y : Mem, y = st w9 181 (ix r10) (1 : Int32) := ⟨_, rfl⟩
  have h := h w13 ew13
  refine V_iast_m X (rfl : SLq 181 = 260) (hzk hZ (by decide)) (rfl : SK 181 = 14) g12 dX12_letsGo_72 ew13 ?_
  refine V_aload_n X (i := 0) 2 dX12_letsGo_73 rfl rfl ?_
  refine G_12_110 X hZ dX12_letsGo_74 ?_
  refine V_aload_n X (i := 0) 2 dX12_letsGo_77 rfl rfl ?_
  refine V_bipush X (v := (20 : Int32)) dX12_letsGo_78 (by decide) ?_
  refine V_iload X (i := 4) 0 dX12_letsGo_80 rfl ?_
  refine V_iload_n X (i := 1) 3 dX12_letsGo_82 rfl rfl ?_
  refine K_12_cell X (Or.inl q_1558) hZ h ⟨Nat.le_of_ble_eq_true rfl, Nat.le_of_ble_eq_true rfl⟩ ⟨Nat.zero_le _, Nat.zero_le _⟩ (st1 := [.ref (ad 181)]) (Nat.le_of_ble_eq_true rfl) dX12_letsGo_83 (fun r15 w14 v16 h => ?_)
  refine V_aload_n X (i := 0) 2 dX12_letsGo_86 rfl rfl ?_
  refine G_12_365 X hZ dX12_letsGo_87 ?_
  obtain ⟨g17, h⟩ := h
  obtain ⟨w18, ew18⟩ : ∃ y : Mem, y = st w14 181 (ix r15) (w14 150 59) := ⟨_, rfl⟩
  have h := h w18 ew18
  refine V_iast_m X (rfl : SLq 181 = 260) (hzk hZ (by decide)) (rfl : SK 181 = 14) g17 dX12_letsGo_90 ew18 ?_
  refine V_aload_n X (i := 0) 2 dX12_letsGo_91 rfl rfl ?_
  refine G_12_110 X hZ dX12_letsGo_92 ?_
  refine V_aload_n X (i := 0) 2 dX12_letsGo_95 rfl rfl ?_
  refine V_bipush X (v := (36 : Int32)) dX12_letsGo_96 (by decide) ?_
  refine V_iload X (i := 4) 0 dX12_letsGo_98 rfl ?_
  refine V_iload_n X (i := 1) 3 dX12_letsGo_100 rfl rfl ?_
  refine K_12_cell X (Or.inl q_1558) hZ h ⟨Nat.le_of_ble_eq_true rfl, Nat.le_of_ble_eq_true rfl⟩ ⟨Nat.zero_le _, Nat.zero_le _⟩ (st1 := [.ref (ad 181)]) (Nat.le_of_ble_eq_true rfl) dX12_letsGo_101 (fun r20 w19 v21 h => ?_)
  refine V_aload_n X (i := 0) 2 dX12_letsGo_104 rfl rfl ?_
  refine G_12_380 X hZ dX12_letsGo_105 ?_
  obtain ⟨g22, h⟩ := h
  obtain ⟨w23, ew23⟩ : ∃ y : Mem, y = st w19 181 (ix r20) (w19 150 63) := ⟨_, rfl⟩
  have h := h w23 ew23
  refine V_iast_m X (rfl : SLq 181 = 260) (hzk hZ (by decide)) (rfl : SK 181 = 14) g22 dX12_letsGo_108 ew23 ?_
  refine V_aload_n X (i := 0) 2 dX12_letsGo_109 rfl rfl ?_
  refine G_12_110 X hZ dX12_letsGo_110 ?_
  refine V_aload_n X (i := 0) 2 dX12_letsGo_113 rfl rfl ?_
  refine V_bipush X (v := (52 : Int32)) dX12_letsGo_114 (by decide) ?_
  refine V_iload X (i := 4) 0 dX12_letsGo_116 rfl ?_
  refine V_iload_n X (i := 1) 3 dX12_letsGo_118 rfl rfl ?_
  refine K_12_cell X (Or.inl q_1558) hZ h ⟨Nat.le_of_ble_eq_true rfl, Nat.le_of_ble_eq_true rfl⟩ ⟨Nat.zero_le _, Nat.zero_le _⟩ (st1 := [.ref (ad 181)]) (Nat.le_of_ble_eq_true rfl) dX12_letsGo_119 (fun r25 w24 v26 h => ?_)
  refine V_aload_n X (i := 0) 2 dX12_letsGo_122 rfl rfl ?_
  refine G_12_377 X hZ dX12_letsGo_123 ?_
  obtain ⟨g27, h⟩ := h
  obtain ⟨w28, ew28⟩ : ∃ y : Mem, y = st w24 181 (ix r25) (w24 150 62) := ⟨_, rfl⟩
  have h := h w28 ew28
  refine V_iast_m X (rfl : SLq 181 = 260) (hzk hZ (by decide)) (rfl : SK 181 = 14) g27 dX12_letsGo_126 ew28 ?_
  refine V_aload_n X (i := 0) 2 dX12_letsGo_127 rfl rfl ?_
  refine G_12_110 X hZ dX12_letsGo_128 ?_
  refine V_aload_n X (i := 0) 2 dX12_letsGo_131 rfl rfl ?_
  refine V_bipush X (v := (68 : Int32)) dX12_letsGo_132 (by decide) ?_
  refine V_iload X (i := 4) 0 dX12_letsGo_134 rfl ?_
  refine V_iload_n X (i := 1) 3 dX12_letsGo_136 rfl rfl ?_
  refine K_12_cell X (Or.inl q_1558) hZ h ⟨Nat.le_of_ble_eq_true rfl, Nat.le_of_ble_eq_true rfl⟩ ⟨Nat.zero_le _, Nat.zero_le _⟩ (st1 := [.ref (ad 181)]) (Nat.le_of_ble_eq_true rfl) dX12_letsGo_137 (fun r30 w29 v31 h => ?_)
  refine V_aload_n X (i := 0) 2 dX12_letsGo_140 rfl rfl ?_
  refine G_12_335 X hZ dX12_letsGo_141 ?_
  obtain ⟨g32, h⟩ := h
  obtain ⟨w33, ew33⟩ : ∃ y : Mem, y = st w29 181 (ix r30) (w29 150 52) := ⟨_, rfl⟩
  have h := h w33 ew33
  refine V_iast_m X (rfl : SLq 181 = 260) (hzk hZ (by decide)) (rfl : SK 181 = 14) g32 dX12_letsGo_144 ew33 ?_
  refine V_aload_n X (i := 0) 2 dX12_letsGo_145 rfl rfl ?_
  refine G_12_110 X hZ dX12_letsGo_146 ?_
  refine V_aload_n X (i := 0) 2 dX12_letsGo_149 rfl rfl ?_
  refine V_bipush X (v := (84 : Int32)) dX12_letsGo_150 (by decide) ?_
  refine V_iload X (i := 4) 0 dX12_letsGo_152 rfl ?_
  refine V_iload_n X (i := 1) 3 dX12_letsGo_154 rfl rfl ?_
  refine K_12_cell X (Or.inl q_1558) hZ h ⟨Nat.le_of_ble_eq_true rfl, Nat.le_of_ble_eq_true rfl⟩ ⟨Nat.zero_le _, Nat.zero_le _⟩ (st1 := [.ref (ad 181)]) (Nat.le_of_ble_eq_true rfl) dX12_letsGo_155 (fun r35 w34 v36 h => ?_)
  refine V_iload_n X (i := 2) 4 dX12_letsGo_158 rfl rfl ?_
  obtain ⟨g37, h⟩ := h
  obtain ⟨w38, ew38⟩ : ∃ y : Mem, y = st w34 181 (ix r35) a2 := ⟨_, rfl⟩
  have h := h w38 ew38
  refine V_iast_m X (rfl : SLq 181 = 260) (hzk hZ (by decide)) (rfl : SK 181 = 14) g37 dX12_letsGo_159 ew38 ?_
  refine V_aload_n X (i := 0) 2 dX12_letsGo_160 rfl rfl ?_
  refine G_12_110 X hZ dX12_letsGo_161 ?_
  refine V_aload_n X (i := 0) 2 dX12_letsGo_164 rfl rfl ?_
  refine V_bipush X (v := (100 : Int32)) dX12_letsGo_165 (by decide) ?_
  refine V_iload X (i := 4) 0 dX12_letsGo_167 rfl ?_
  refine V_iload_n X (i := 1) 3 dX12_letsGo_169 rfl rfl ?_
  refine K_12_cell X (Or.inl q_1558) hZ h ⟨Nat.le_of_ble_eq_true rfl, Nat.le_of_ble_eq_true rfl⟩ ⟨Nat.zero_le _, Nat.zero_le _⟩ (st1 := [.ref (ad 181)]) (Nat.le_of_ble_eq_true rfl) dX12_letsGo_170 (fun r40 w39 v41 h => ?_)
  refine V_aload_n X (i := 0) 2 dX12_letsGo_173 rfl rfl ?_
  refine G_12_338 X hZ dX12_letsGo_174 ?_
  obtain ⟨g42, h⟩ := h
  obtain ⟨w43, ew43⟩ : ∃ y : Mem, y = st w39 181 (ix r40) (w39 150 53) := ⟨_, rfl⟩
  have h := h w43 ew43
  refine V_iast_m X (rfl : SLq 181 = 260) (hzk hZ (by decide)) (rfl : SK 181 = 14) g42 dX12_letsGo_177 ew43 ?_
  refine V_aload_n X (i := 0) 2 dX12_letsGo_178 rfl rfl ?_
  refine G_12_110 X hZ dX12_letsGo_179 ?_
  refine V_aload_n X (i := 0) 2 dX12_letsGo_182 rfl rfl ?_
  refine V_bipush X (v := (116 : Int32)) dX12_letsGo_183 (by decide) ?_
  refine V_iload X (i := 4) 0 dX12_letsGo_185 rfl ?_
  refine V_iload_n X (i := 1) 3 dX12_letsGo_187 rfl rfl ?_
  refine K_12_cell X (Or.inl q_1558) hZ h ⟨Nat.le_of_ble_eq_true rfl, Nat.le_of_ble_eq_true rfl⟩ ⟨Nat.zero_le _, Nat.zero_le _⟩ (st1 := [.ref (ad 181)]) (Nat.le_of_ble_eq_true rfl) dX12_letsGo_188 (fun r45 w44 v46 h => ?_)
  refine V_aload_n X (i := 0) 2 dX12_letsGo_191 rfl rfl ?_
  refine G_12_353 X hZ dX12_letsGo_192 ?_
  obtain ⟨g47, h⟩ := h
  obtain ⟨w48, ew48⟩ : ∃ y : Mem, y = st w44 181 (ix r45) (w44 150 56) := ⟨_, rfl⟩
  have h := h w48 ew48
  refine V_iast_m X (rfl : SLq 181 = 260) (hzk hZ (by decide)) (rfl : SK 181 = 14) g47 dX12_letsGo_195 ew48 ?_
  refine V_aload_n X (i := 0) 2 dX12_letsGo_196 rfl rfl ?_
  refine G_12_110 X hZ dX12_letsGo_197 ?_
  refine V_aload_n X (i := 0) 2 dX12_letsGo_200 rfl rfl ?_
  refine V_sipush X (v := (132 : Int32)) dX12_letsGo_201 (by decide) ?_
  refine V_iload X (i := 4) 0 dX12_letsGo_204 rfl ?_
  refine V_iload_n X (i := 1) 3 dX12_letsGo_206 rfl rfl ?_
  refine K_12_cell X (Or.inl q_1558) hZ h ⟨Nat.le_of_ble_eq_true rfl, Nat.le_of_ble_eq_true rfl⟩ ⟨Nat.zero_le _, Nat.zero_le _⟩ (st1 := [.ref (ad 181)]) (Nat.le_of_ble_eq_true rfl) dX12_letsGo_207 (fun r50 w49 v51 h => ?_)
  refine V_aload_n X (i := 0) 2 dX12_letsGo_210 rfl rfl ?_
  refine G_12_341 X hZ dX12_letsGo_211 ?_
  obtain ⟨g52, h⟩ := h
  obtain ⟨w53, ew53⟩ : ∃ y : Mem, y = st w49 181 (ix r50) (w49 150 54) := ⟨_, rfl⟩
  have h := h w53 ew53
  refine V_iast_m X (rfl : SLq 181 = 260) (hzk hZ (by decide)) (rfl : SK 181 = 14) g52 dX12_letsGo_214 ew53 ?_
  refine V_iconst X (v := (0 : Int32)) dX12_letsGo_215 (by decide) ?_
  refine V_istore X dX12_letsGo_216 (by decide) rfl (ls1 := [(5, .int (0 : Int32)), (4, .int x3), (3, .int x2), (0, .ref (ad 150)), (1, .int a1), (2, .int a2)]) rfl ?_
  refine V_sub X (ls1 := [(0, .ref (ad 150)), (1, .int a1), (2, .int a2), (4, .int x3), (5, .int (0 : Int32))]) [3, 4, 5, 1, 0] rfl ?_
  obtain ⟨nn, h⟩ := h
  exact v_12_letsGo_b218 X hr hZ nn _ _ _ _ _ _ h
theorem c_12_letsGo {a1 : Int32} {a2 : Int32} (hinj : INJ ad) (hZ : ad 1000 = 189) {w : Mem} {wl : MemL} {Q : Mem → MemL → Prop} (h : wp_12_letsGo a1 a2 w wl Q) : Met l yX12_letsGo (TBq yX12_letsGo cX12_letsGo 6 none) (RM 6) (va_Pc [.ref (ad 150), .int a1, .int a2] (PB ad cy D (cmb wc w) wl)) (va_Qv (fun (u : Mem × MemL) => Q u.1 u.2) (BM ad cy D wc) (AW ad)) 0 0 (AW ad) := M_enter (by decide) (Nat.le_of_ble_eq_true rfl) hinj (fun p e s m args below meth c X hr => v_12_letsGo X hr hZ h)
theorem mf_12_letsGo : MFV yX12_letsGo cX12_letsGo 6 none yX12_letsGo.cls 2 := ⟨q_1662, q_1661, qs_82, q_14, by decide⟩
theorem K_12_letsGo {own : String} {idx : Nat} {a1 : Int32} {a2 : Int32} (X : CXq p s m args meth c cc nL own ad cy D A H0) (hL : LK own idx yX12_letsGo) (hZ : ad 1000 = 189) {w : Mem} {wl : MemL} {Q : Mem → MemL → Prop} (h : wp_12_letsGo a1 a2 w wl Q) (hR : (RM 6).frames + 1 ≤ R.frames ∧ 8 + (6 + 11) + (RM 6).locals ≤ R.locals) (hce : ce ≤ R.cells ∧ sl ≤ R.slots) (hcat : (st1.map fun v => v.category).sum ≤ 8) (hd : decode cc pc = .ok (.invokevirtual idx, 3)) (kk : ∀ (u : Mem) (v : MemL), Q u v → V p l e R s m args below meth c nL ad cy D A H0 ce sl Qs wc u v (pc + 3) ls st1) : V p l e R s m args below meth c nL ad cy D A H0 ce sl Qs wc w wl pc ls (.int a2 :: .int a1 :: .ref (ad 150) :: st1) := V_callVV_m X mf_12_letsGo hL (rfl : vwCl[12]? = some (RX12, TX12, 72)) (by decide) (rfl : SK 150 = 12) (hzk hZ (by decide)).2 (c_12_letsGo X.2.2.2.2.2.2.2.1 hZ h) (As := [.int a1, .int a2]) rfl ⟨rfl, rfl⟩ hR hce st1 rfl hcat hd kk
set_option maxRecDepth 20000 in
theorem v_12_isLetGo {a1 : Int32} {a2 : Int32} (X : CXq p s m args meth c cX12_isLetGo 4 yX12_isLetGo.cls ad cy D (AW ad) s.heap) (hr : meth.sig.returnType = (some .boolean)) (hZ : ad 1000 = 189) {w : Mem} {wl : MemL} {Q : Int32 → Mem → MemL → Prop} (h : wp_12_isLetGo a1 a2 w wl Q) : V p l e (RM 4) s m args below meth c 4 ad cy D (AW ad) s.heap 0 0 (MQ below (va_Qi (fun r (u : Mem × MemL) => Q r u.1 u.2) (BM ad cy D wc) (AW ad)) args s 0 0 (AW ad)) wc w wl 0 [(0, .ref (ad 150)), (1, .int a1), (2, .int a2)] [] := by
  unfold wp_12_isLetGo at h
  refine V_aload_n X (i := 0) 0 dX12_isLetGo_0 rfl rfl ?_
  refine V_aload_n X (i := 0) 0 dX12_isLetGo_1 rfl rfl ?_
  refine G_12_110 X hZ dX12_isLetGo_2 ?_
  refine V_iconst X (v := (0 : Int32)) dX12_isLetGo_5 (by decide) ?_
  refine V_iald_m X (rfl : SLq 181 = 260) (hzk hZ (by decide)) (rfl : SK 181 = 14) (vpl (by decide)) dX12_isLetGo_6 ?_
  refine V_iload_n X (i := 2) 2 dX12_isLetGo_7 rfl rfl ?_
  refine V_iadd X dX12_isLetGo_8 ?_
  refine K_12_meanOf X (Or.inl q_1570) hZ h ⟨Nat.le_of_ble_eq_true rfl, Nat.le_of_ble_eq_true rfl⟩ ⟨Nat.zero_le _, Nat.zero_le _⟩ (st1 := []) (Nat.le_of_ble_eq_true rfl) dX12_isLetGo_9 (fun r2 w1 v3 h => ?_)
  refine V_istore_n X dX12_isLetGo_12 rfl (by decide) rfl (ls1 := [(3, .int r2), (0, .ref (ad 150)), (1, .int a1), (2, .int a2)]) rfl ?_
  refine V_aload_n X (i := 0) 1 dX12_isLetGo_13 rfl rfl ?_
  refine K_12_clears X (Or.inl q_1578) hZ h ⟨Nat.le_of_ble_eq_true rfl, Nat.le_of_ble_eq_true rfl⟩ ⟨Nat.zero_le _, Nat.zero_le _⟩ (st1 := []) (Nat.le_of_ble_eq_true rfl) dX12_isLetGo_14 (fun w4 v5 h => ?_)
  refine V_aload_n X (i := 0) 1 dX12_isLetGo_17 rfl rfl ?_
  refine G_12_101 X hZ dX12_isLetGo_18 ?_
  refine V_iconst X (v := (0 : Int32)) dX12_isLetGo_21 (by decide) ?_
  refine V_iload_n X (i := 2) 3 dX12_isLetGo_22 rfl rfl ?_
  obtain ⟨w6, ew6⟩ : ∃ y : Mem, y = st w4 178 (ix (0 : Int32)) a2 := ⟨_, rfl⟩
  have h := h w6 ew6
  refine V_iast_m X (rfl : SLq 178 = 11) (hzk hZ (by decide)) (rfl : SK 178 = 14) (vpl (by decide)) dX12_isLetGo_23 ew6 ?_
  refine V_aload_n X (i := 0) 1 dX12_isLetGo_24 rfl rfl ?_
  refine G_12_101 X hZ dX12_isLetGo_25 ?_
  refine V_iconst X (v := (2 : Int32)) dX12_isLetGo_28 (by decide) ?_
  refine V_iload_n X (i := 3) 0 dX12_isLetGo_29 rfl rfl ?_
  obtain ⟨w7, ew7⟩ : ∃ y : Mem, y = st w6 178 (ix (2 : Int32)) r2 := ⟨_, rfl⟩
  have h := h w7 ew7
  refine V_iast_m X (rfl : SLq 178 = 11) (hzk hZ (by decide)) (rfl : SK 178 = 14) (vpl (by decide)) dX12_isLetGo_30 ew7 ?_
  refine V_aload_n X (i := 0) 1 dX12_isLetGo_31 rfl rfl ?_
  refine G_12_101 X hZ dX12_isLetGo_32 ?_
  refine V_iconst X (v := (3 : Int32)) dX12_isLetGo_35 (by decide) ?_
  refine V_aload_n X (i := 0) 1 dX12_isLetGo_36 rfl rfl ?_
  refine G_12_49 X hZ dX12_isLetGo_37 ?_
  refine V_bipush X (v := (8 : Int32)) dX12_isLetGo_40 (by decide) ?_
  refine V_aload_n X (i := 0) 1 dX12_isLetGo_42 rfl rfl ?_
  refine G_12_218 X hZ dX12_isLetGo_43 ?_
  refine V_imul X dX12_isLetGo_46 ?_
  refine V_iload_n X (i := 1) 2 dX12_isLetGo_47 rfl rfl ?_
  refine V_iadd X dX12_isLetGo_48 ?_
  obtain ⟨g8, h⟩ := h
  refine V_iald_m X (rfl : SLq 161 = 16) (hzk hZ (by decide)) (rfl : SK 161 = 14) g8 dX12_isLetGo_49 ?_
  obtain ⟨w9, ew9⟩ : ∃ y : Mem, y = st w7 178 (ix (3 : Int32)) (w7 161 (ix (((8 : Int32) * (w7 150 18)) + a1))) := ⟨_, rfl⟩
  have h := h w9 ew9
  refine V_iast_m X (rfl : SLq 178 = 11) (hzk hZ (by decide)) (rfl : SK 178 = 14) (vpl (by decide)) dX12_isLetGo_50 ew9 ?_
  refine V_aload_n X (i := 0) 1 dX12_isLetGo_51 rfl rfl ?_
  refine G_12_101 X hZ dX12_isLetGo_52 ?_
  refine V_iconst X (v := (4 : Int32)) dX12_isLetGo_55 (by decide) ?_
  refine V_aload_n X (i := 0) 1 dX12_isLetGo_56 rfl rfl ?_
  refine G_12_52 X hZ dX12_isLetGo_57 ?_
  refine V_bipush X (v := (8 : Int32)) dX12_isLetGo_60 (by decide) ?_
  refine V_aload_n X (i := 0) 1 dX12_isLetGo_62 rfl rfl ?_
  refine G_12_218 X hZ dX12_isLetGo_63 ?_
  refine V_imul X dX12_isLetGo_66 ?_
  refine V_iload_n X (i := 1) 2 dX12_isLetGo_67 rfl rfl ?_
  refine V_iadd X dX12_isLetGo_68 ?_
  obtain ⟨g10, h⟩ := h
  refine V_iald_m X (rfl : SLq 162 = 16) (hzk hZ (by decide)) (rfl : SK 162 = 14) g10 dX12_isLetGo_69 ?_
  obtain ⟨w11, ew11⟩ : ∃ y : Mem, y = st w9 178 (ix (4 : Int32)) (w9 162 (ix (((8 : Int32) * (w9 150 18)) + a1))) := ⟨_, rfl⟩
  have h := h w11 ew11
  refine V_iast_m X (rfl : SLq 178 = 11) (hzk hZ (by decide)) (rfl : SK 178 = 14) (vpl (by decide)) dX12_isLetGo_70 ew11 ?_
  refine V_aload_n X (i := 0) 1 dX12_isLetGo_71 rfl rfl ?_
  refine V_iconst X (v := (4 : Int32)) dX12_isLetGo_72 (by decide) ?_
  refine V_iconst X (v := (1 : Int32)) dX12_isLetGo_73 (by decide) ?_
  refine V_ldcw X (v := (-2147483647 : Int32)) dX12_isLetGo_74 q_1657 ?_
  refine V_ldcw X (v := (2147483647 : Int32)) dX12_isLetGo_77 q_1658 ?_
  refine K_12_tells X (Or.inl q_1582) hZ h ⟨Nat.le_of_ble_eq_true rfl, Nat.le_of_ble_eq_true rfl⟩ ⟨Nat.zero_le _, Nat.zero_le _⟩ (st1 := []) (Nat.le_of_ble_eq_true rfl) dX12_isLetGo_80 (fun r13 w12 v14 h => ?_)
  obtain ⟨ht, hf⟩ := h
  refine V_if_le X (tgt := 90) dX12_isLetGo_83 (by decide) (fun c => ?_) (fun c => ?_)
  · have h := ht c
    refine V_iconst X (v := (0 : Int32)) dX12_isLetGo_90 (by decide) ?_
    exact V_zret_m X hr dX12_isLetGo_91 rfl h
  · have h := hf c
    refine V_iconst X (v := (1 : Int32)) dX12_isLetGo_86 (by decide) ?_
    refine V_goto X (tgt := 91) dX12_isLetGo_87 (by decide) ?_
    exact V_zret_m X hr dX12_isLetGo_91 rfl h
theorem c_12_isLetGo {a1 : Int32} {a2 : Int32} (hinj : INJ ad) (hZ : ad 1000 = 189) {w : Mem} {wl : MemL} {Q : Int32 → Mem → MemL → Prop} (h : wp_12_isLetGo a1 a2 w wl Q) : Met l yX12_isLetGo (TBq yX12_isLetGo cX12_isLetGo 4 (some .boolean)) (RM 4) (va_Pc [.ref (ad 150), .int a1, .int a2] (PB ad cy D (cmb wc w) wl)) (va_Qi (fun r (u : Mem × MemL) => Q r u.1 u.2) (BM ad cy D wc) (AW ad)) 0 0 (AW ad) := M_enter (by decide) (Nat.le_of_ble_eq_true rfl) hinj (fun p e s m args below meth c X hr => v_12_isLetGo X hr hZ h)
theorem mf_12_isLetGo : MFV yX12_isLetGo cX12_isLetGo 4 (some .boolean) yX12_isLetGo.cls 2 := ⟨q_1656, q_1655, qs_81, q_14, by decide⟩
theorem K_12_isLetGo {own : String} {idx : Nat} {a1 : Int32} {a2 : Int32} (X : CXq p s m args meth c cc nL own ad cy D A H0) (hL : LK own idx yX12_isLetGo) (hZ : ad 1000 = 189) {w : Mem} {wl : MemL} {Q : Int32 → Mem → MemL → Prop} (h : wp_12_isLetGo a1 a2 w wl Q) (hR : (RM 4).frames + 1 ≤ R.frames ∧ 8 + (4 + 11) + (RM 4).locals ≤ R.locals) (hce : ce ≤ R.cells ∧ sl ≤ R.slots) (hcat : (st1.map fun v => v.category).sum ≤ 8) (hd : decode cc pc = .ok (.invokevirtual idx, 3)) (kk : ∀ (r : Int32) (u : Mem) (v : MemL), Q r u v → V p l e R s m args below meth c nL ad cy D A H0 ce sl Qs wc u v (pc + 3) ls (.int r :: st1)) : V p l e R s m args below meth c nL ad cy D A H0 ce sl Qs wc w wl pc ls (.int a2 :: .int a1 :: .ref (ad 150) :: st1) := V_callVI_m X mf_12_isLetGo hL (rfl : vwCl[12]? = some (RX12, TX12, 72)) (by decide) (rfl : SK 150 = 12) (hzk hZ (by decide)).2 (c_12_isLetGo X.2.2.2.2.2.2.2.1 hZ h) (As := [.int a1, .int a2]) rfl ⟨rfl, rfl⟩ hR hce st1 rfl hcat hd kk
set_option maxRecDepth 20000 in
theorem v_12_starts_b32 (X : CXq p s m args meth c cX12_starts 3 yX12_starts.cls ad cy D (AW ad) s.heap) (hr : meth.sig.returnType = none) (hZ : ad 1000 = 189) {Q : Mem → MemL → Prop} : ∀ (l1 : Int32) (l2 : Int32) (w : Mem) (wl : MemL), wp_12_starts_b32 Q l1 l2 w wl → V p l e (RM 7) s m args below meth c 3 ad cy D (AW ad) s.heap 0 0 (MQ below (va_Qv (fun (u : Mem × MemL) => Q u.1 u.2) (BM ad cy D wc) (AW ad)) args s 0 0 (AW ad)) wc w wl 32 [(0, .ref (ad 150)), (1, .int l1), (2, .int l2)] [] := by
  intro l1 l2 w wl h
  unfold wp_12_starts_b32 at h
  refine V_aload_n X (i := 0) 0 dX12_starts_32 rfl rfl ?_
  refine V_iload_n X (i := 1) 1 dX12_starts_33 rfl rfl ?_
  refine V_aload_n X (i := 0) 0 dX12_starts_34 rfl rfl ?_
  refine G_12_110 X hZ dX12_starts_35 ?_
  refine V_iconst X (v := (0 : Int32)) dX12_starts_38 (by decide) ?_
  refine V_iald_m X (rfl : SLq 181 = 260) (hzk hZ (by decide)) (rfl : SK 181 = 14) (vpl (by decide)) dX12_starts_39 ?_
  refine V_iload_n X (i := 2) 2 dX12_starts_40 rfl rfl ?_
  refine V_iadd X dX12_starts_41 ?_
  refine K_12_letsGo X (Or.inl q_1659) hZ h ⟨Nat.le_of_ble_eq_true rfl, Nat.le_of_ble_eq_true rfl⟩ ⟨Nat.zero_le _, Nat.zero_le _⟩ (st1 := []) (Nat.le_of_ble_eq_true rfl) dX12_starts_42 (fun w1 v2 h => ?_)
  exact V_vret_m X hr dX12_starts_45 h
set_option maxRecDepth 20000 in
theorem v_12_starts_b7 (X : CXq p s m args meth c cX12_starts 3 yX12_starts.cls ad cy D (AW ad) s.heap) (hr : meth.sig.returnType = none) (hZ : ad 1000 = 189) {Q : Mem → MemL → Prop} : ∀ (n : Nat) (l1 : Int32) (l2 : Int32) (w : Mem) (wl : MemL), wp_12_starts_b7 Q n l1 l2 w wl → V p l e (RM 7) s m args below meth c 3 ad cy D (AW ad) s.heap 0 0 (MQ below (va_Qv (fun (u : Mem × MemL) => Q u.1 u.2) (BM ad cy D wc) (AW ad)) args s 0 0 (AW ad)) wc w wl 7 [(0, .ref (ad 150)), (1, .int l1), (2, .int l2)] [] := by
  intro n
  induction n with
  | zero =>
    intro l1 l2 w wl h
    exact h.elim
  | succ n ih =>
    intro l1 l2 w wl h
    unfold wp_12_starts_b7 at h
    refine V_iload_n X (i := 2) 2 dX12_starts_7 rfl rfl ?_
    refine V_aload_n X (i := 0) 0 dX12_starts_8 rfl rfl ?_
    refine V_bipush X (v := (10 : Int32)) dX12_starts_9 (by decide) ?_
    refine K_12_tell0 X (Or.inl q_1203) hZ h ⟨Nat.le_of_ble_eq_true rfl, Nat.le_of_ble_eq_true rfl⟩ ⟨Nat.zero_le _, Nat.zero_le _⟩ (st1 := [.int l2]) (Nat.le_of_ble_eq_true rfl) dX12_starts_11 (fun r2 w1 v3 h => ?_)
    obtain ⟨ht, hf⟩ := h
    refine V_icmp_ge X (tgt := 32) dX12_starts_14 (by decide) (fun c => ?_) (fun c => ?_)
    · have h := ht c
      refine V_sub X (ls1 := [(0, .ref (ad 150)), (1, .int l1), (2, .int l2)]) [0, 1, 2] rfl ?_
      exact v_12_starts_b32 X hr hZ _ _ _ _ h
    · have h := hf c
      refine V_aload_n X (i := 0) 0 dX12_starts_17 rfl rfl ?_
      refine V_iload_n X (i := 1) 1 dX12_starts_18 rfl rfl ?_
      refine V_iload_n X (i := 2) 2 dX12_starts_19 rfl rfl ?_
      refine K_12_isLetGo X (Or.inl q_1653) hZ h ⟨Nat.le_of_ble_eq_true rfl, Nat.le_of_ble_eq_true rfl⟩ ⟨Nat.zero_le _, Nat.zero_le _⟩ (st1 := []) (Nat.le_of_ble_eq_true rfl) dX12_starts_20 (fun r5 w4 v6 h => ?_)
      obtain ⟨ht, hf⟩ := h
      refine V_if_ne X (tgt := 32) dX12_starts_23 (by decide) (fun c => ?_) (fun c => ?_)
      · have h := ht c
        refine V_sub X (ls1 := [(0, .ref (ad 150)), (1, .int l1), (2, .int l2)]) [0, 1, 2] rfl ?_
        exact v_12_starts_b32 X hr hZ _ _ _ _ h
      · have h := hf c
        obtain ⟨x7, ex7⟩ : ∃ y : Int32, y = l2 + (1 : Int32) := ⟨_, rfl⟩
        have h := h x7 ex7
        refine V_iinc X 2 dX12_starts_26 rfl (by decide) (by rw [ex7]; rfl) (ls1 := [(2, .int x7), (0, .ref (ad 150)), (1, .int l1)]) rfl ?_
        refine V_goto X (tgt := 7) dX12_starts_29 (by decide) ?_
        refine V_sub X (ls1 := [(0, .ref (ad 150)), (1, .int l1), (2, .int x7)]) [1, 2, 0] rfl ?_
        exact ih _ _ _ _ h
set_option maxRecDepth 20000 in
theorem v_12_starts (X : CXq p s m args meth c cX12_starts 3 yX12_starts.cls ad cy D (AW ad) s.heap) (hr : meth.sig.returnType = none) (hZ : ad 1000 = 189) {w : Mem} {wl : MemL} {Q : Mem → MemL → Prop} (h : wp_12_starts w wl Q) : V p l e (RM 7) s m args below meth c 3 ad cy D (AW ad) s.heap 0 0 (MQ below (va_Qv (fun (u : Mem × MemL) => Q u.1 u.2) (BM ad cy D wc) (AW ad)) args s 0 0 (AW ad)) wc w wl 0 [(0, .ref (ad 150))] [] := by
  unfold wp_12_starts at h
  refine V_aload_n X (i := 0) 0 dX12_starts_0 rfl rfl ?_
  refine K_12_nextOne X (Or.inl q_1550) hZ h ⟨Nat.le_of_ble_eq_true rfl, Nat.le_of_ble_eq_true rfl⟩ ⟨Nat.zero_le _, Nat.zero_le _⟩ (st1 := []) (Nat.le_of_ble_eq_true rfl) dX12_starts_1 (fun r2 w1 v3 h => ?_)
  refine V_istore_n X dX12_starts_4 rfl (by decide) rfl (ls1 := [(1, .int r2), (0, .ref (ad 150))]) rfl ?_
  refine V_iconst X (v := (0 : Int32)) dX12_starts_5 (by decide) ?_
  refine V_istore_n X dX12_starts_6 rfl (by decide) rfl (ls1 := [(2, .int (0 : Int32)), (1, .int r2), (0, .ref (ad 150))]) rfl ?_
  refine V_sub X (ls1 := [(0, .ref (ad 150)), (1, .int r2), (2, .int (0 : Int32))]) [2, 1, 0] rfl ?_
  obtain ⟨nn, h⟩ := h
  exact v_12_starts_b7 X hr hZ nn _ _ _ _ h
theorem c_12_starts (hinj : INJ ad) (hZ : ad 1000 = 189) {w : Mem} {wl : MemL} {Q : Mem → MemL → Prop} (h : wp_12_starts w wl Q) : Met l yX12_starts (TBq yX12_starts cX12_starts 3 none) (RM 7) (va_Pc [.ref (ad 150)] (PB ad cy D (cmb wc w) wl)) (va_Qv (fun (u : Mem × MemL) => Q u.1 u.2) (BM ad cy D wc) (AW ad)) 0 0 (AW ad) := M_enter (by decide) (Nat.le_of_ble_eq_true rfl) hinj (fun p e s m args below meth c X hr => v_12_starts X hr hZ h)
theorem mf_12_starts : MFV yX12_starts cX12_starts 3 none yX12_starts.cls 0 := ⟨q_1652, q_1651, qs_80, q_14, by decide⟩
theorem K_12_starts {own : String} {idx : Nat} (X : CXq p s m args meth c cc nL own ad cy D A H0) (hL : LK own idx yX12_starts) (hZ : ad 1000 = 189) {w : Mem} {wl : MemL} {Q : Mem → MemL → Prop} (h : wp_12_starts w wl Q) (hR : (RM 7).frames + 1 ≤ R.frames ∧ 8 + (3 + 11) + (RM 7).locals ≤ R.locals) (hce : ce ≤ R.cells ∧ sl ≤ R.slots) (hcat : (st1.map fun v => v.category).sum ≤ 8) (hd : decode cc pc = .ok (.invokevirtual idx, 3)) (kk : ∀ (u : Mem) (v : MemL), Q u v → V p l e R s m args below meth c nL ad cy D A H0 ce sl Qs wc u v (pc + 3) ls st1) : V p l e R s m args below meth c nL ad cy D A H0 ce sl Qs wc w wl pc ls (.ref (ad 150) :: st1) := V_callVV_m X mf_12_starts hL (rfl : vwCl[12]? = some (RX12, TX12, 72)) (by decide) (rfl : SK 150 = 12) (hzk hZ (by decide)).2 (c_12_starts X.2.2.2.2.2.2.2.1 hZ h) (As := []) rfl ⟨rfl, rfl⟩ hR hce st1 rfl hcat hd kk
set_option maxRecDepth 20000 in
theorem v_12_now {a1 : Int32} (X : CXq p s m args meth c cX12_now 2 yX12_now.cls ad cy D (AW ad) s.heap) (hr : meth.sig.returnType = (some .int)) (hZ : ad 1000 = 189) {w : Mem} {wl : MemL} {Q : Int32 → Mem → MemL → Prop} (h : wp_12_now a1 w wl Q) : V p l e (RM 4) s m args below meth c 2 ad cy D (AW ad) s.heap 0 0 (MQ below (va_Qi (fun r (u : Mem × MemL) => Q r u.1 u.2) (BM ad cy D wc) (AW ad)) args s 0 0 (AW ad)) wc w wl 0 [(0, .ref (ad 150)), (1, .int a1)] [] := by
  unfold wp_12_now at h
  refine V_aload_n X (i := 0) 0 dX12_now_0 rfl rfl ?_
  refine K_12_copies X (Or.inl q_1546) hZ h ⟨Nat.le_of_ble_eq_true rfl, Nat.le_of_ble_eq_true rfl⟩ ⟨Nat.zero_le _, Nat.zero_le _⟩ (st1 := []) (Nat.le_of_ble_eq_true rfl) dX12_now_1 (fun w1 v2 h => ?_)
  refine V_iload_n X (i := 1) 1 dX12_now_4 rfl rfl ?_
  obtain ⟨ht, h⟩ := h
  by_cases c0 : a1 = (0 : Int32)
  · have h := ht c0
    refine V_tableIn X (tgt := 48) dX12_now_5 (by rw [c0]; decide) (by rw [c0]; decide) (off := 43) (by rw [c0]; decide) (by decide) ?_
    refine V_aload_n X (i := 0) 0 dX12_now_48 rfl rfl ?_
    refine G_12_110 X hZ dX12_now_49 ?_
    refine V_iload_n X (i := 1) 1 dX12_now_52 rfl rfl ?_
    obtain ⟨g3, h⟩ := h
    refine V_iald_m X (rfl : SLq 181 = 260) (hzk hZ (by decide)) (rfl : SK 181 = 14) g3 dX12_now_53 ?_
    exact V_iret_m X hr dX12_now_54 h
  have h := h c0
  obtain ⟨ht, h⟩ := h
  by_cases c1 : a1 = (1 : Int32)
  · have h := ht c1
    refine V_tableIn X (tgt := 48) dX12_now_5 (by rw [c1]; decide) (by rw [c1]; decide) (off := 43) (by rw [c1]; decide) (by decide) ?_
    refine V_aload_n X (i := 0) 0 dX12_now_48 rfl rfl ?_
    refine G_12_110 X hZ dX12_now_49 ?_
    refine V_iload_n X (i := 1) 1 dX12_now_52 rfl rfl ?_
    obtain ⟨g4, h⟩ := h
    refine V_iald_m X (rfl : SLq 181 = 260) (hzk hZ (by decide)) (rfl : SK 181 = 14) g4 dX12_now_53 ?_
    exact V_iret_m X hr dX12_now_54 h
  have h := h c1
  obtain ⟨ht, h⟩ := h
  by_cases c2 : a1 = (2 : Int32)
  · have h := ht c2
    refine V_tableIn X (tgt := 48) dX12_now_5 (by rw [c2]; decide) (by rw [c2]; decide) (off := 43) (by rw [c2]; decide) (by decide) ?_
    refine V_aload_n X (i := 0) 0 dX12_now_48 rfl rfl ?_
    refine G_12_110 X hZ dX12_now_49 ?_
    refine V_iload_n X (i := 1) 1 dX12_now_52 rfl rfl ?_
    obtain ⟨g5, h⟩ := h
    refine V_iald_m X (rfl : SLq 181 = 260) (hzk hZ (by decide)) (rfl : SK 181 = 14) g5 dX12_now_53 ?_
    exact V_iret_m X hr dX12_now_54 h
  have h := h c2
  obtain ⟨ht, h⟩ := h
  by_cases c3 : a1 = (3 : Int32)
  · have h := ht c3
    refine V_tableIn X (tgt := 55) dX12_now_5 (by rw [c3]; decide) (by rw [c3]; decide) (off := 50) (by rw [c3]; decide) (by decide) ?_
    refine V_aload_n X (i := 0) 0 dX12_now_55 rfl rfl ?_
    refine K_12_nextOne X (Or.inl q_1550) hZ h ⟨Nat.le_of_ble_eq_true rfl, Nat.le_of_ble_eq_true rfl⟩ ⟨Nat.zero_le _, Nat.zero_le _⟩ (st1 := []) (Nat.le_of_ble_eq_true rfl) dX12_now_56 (fun r7 w6 v8 h => ?_)
    exact V_iret_m X hr dX12_now_59 h
  have h := h c3
  obtain ⟨ht, h⟩ := h
  by_cases c4 : a1 = (4 : Int32)
  · have h := ht c4
    refine V_tableIn X (tgt := 60) dX12_now_5 (by rw [c4]; decide) (by rw [c4]; decide) (off := 55) (by rw [c4]; decide) (by decide) ?_
    refine V_aload_n X (i := 0) 0 dX12_now_60 rfl rfl ?_
    refine G_12_110 X hZ dX12_now_61 ?_
    refine V_iconst X (v := (3 : Int32)) dX12_now_64 (by decide) ?_
    refine V_iald_m X (rfl : SLq 181 = 260) (hzk hZ (by decide)) (rfl : SK 181 = 14) (vpl (by decide)) dX12_now_65 ?_
    exact V_iret_m X hr dX12_now_66 h
  have h := h c4
  obtain ⟨ht, h⟩ := h
  by_cases c5 : a1 = (5 : Int32)
  · have h := ht c5
    refine V_tableIn X (tgt := 67) dX12_now_5 (by rw [c5]; decide) (by rw [c5]; decide) (off := 62) (by rw [c5]; decide) (by decide) ?_
    refine V_aload_n X (i := 0) 0 dX12_now_67 rfl rfl ?_
    refine V_aload_n X (i := 0) 0 dX12_now_68 rfl rfl ?_
    refine G_12_110 X hZ dX12_now_69 ?_
    refine V_iconst X (v := (0 : Int32)) dX12_now_72 (by decide) ?_
    refine V_iald_m X (rfl : SLq 181 = 260) (hzk hZ (by decide)) (rfl : SK 181 = 14) (vpl (by decide)) dX12_now_73 ?_
    refine K_12_meanOf X (Or.inl q_1570) hZ h ⟨Nat.le_of_ble_eq_true rfl, Nat.le_of_ble_eq_true rfl⟩ ⟨Nat.zero_le _, Nat.zero_le _⟩ (st1 := []) (Nat.le_of_ble_eq_true rfl) dX12_now_74 (fun r10 w9 v11 h => ?_)
    exact V_iret_m X hr dX12_now_77 h
  have h := h c5
  obtain ⟨ht, h⟩ := h
  by_cases c6 : a1 = (6 : Int32)
  · have h := ht c6
    refine V_tableIn X (tgt := 78) dX12_now_5 (by rw [c6]; decide) (by rw [c6]; decide) (off := 73) (by rw [c6]; decide) (by decide) ?_
    refine V_aload_n X (i := 0) 0 dX12_now_78 rfl rfl ?_
    refine V_aload_n X (i := 0) 0 dX12_now_79 rfl rfl ?_
    refine G_12_110 X hZ dX12_now_80 ?_
    refine V_iconst X (v := (0 : Int32)) dX12_now_83 (by decide) ?_
    refine V_iald_m X (rfl : SLq 181 = 260) (hzk hZ (by decide)) (rfl : SK 181 = 14) (vpl (by decide)) dX12_now_84 ?_
    refine K_12_trueOf X (Or.inl q_1601) hZ h ⟨Nat.le_of_ble_eq_true rfl, Nat.le_of_ble_eq_true rfl⟩ ⟨Nat.zero_le _, Nat.zero_le _⟩ (st1 := []) (Nat.le_of_ble_eq_true rfl) dX12_now_85 (fun r13 w12 v14 h => ?_)
    exact V_iret_m X hr dX12_now_88 h
  have h := h c6
  have z0 := tne c0 (z := 0) (by decide)
  have z1 := tne c1 (z := 1) (by decide)
  have z2 := tne c2 (z := 2) (by decide)
  have z3 := tne c3 (z := 3) (by decide)
  have z4 := tne c4 (z := 4) (by decide)
  have z5 := tne c5 (z := 5) (by decide)
  have z6 := tne c6 (z := 6) (by decide)
  refine V_tableOut X (tgt := 89) dX12_now_5 (by omega) (by decide) ?_
  refine V_sipush X (v := (-10000 : Int32)) dX12_now_89 (by decide) ?_
  exact V_iret_m X hr dX12_now_92 h
theorem c_12_now {a1 : Int32} (hinj : INJ ad) (hZ : ad 1000 = 189) {w : Mem} {wl : MemL} {Q : Int32 → Mem → MemL → Prop} (h : wp_12_now a1 w wl Q) : Met l yX12_now (TBq yX12_now cX12_now 2 (some .int)) (RM 4) (va_Pc [.ref (ad 150), .int a1] (PB ad cy D (cmb wc w) wl)) (va_Qi (fun r (u : Mem × MemL) => Q r u.1 u.2) (BM ad cy D wc) (AW ad)) 0 0 (AW ad) := M_enter (by decide) (Nat.le_of_ble_eq_true rfl) hinj (fun p e s m args below meth c X hr => v_12_now X hr hZ h)
theorem mf_12_now : MFV yX12_now cX12_now 2 (some .int) yX12_now.cls 1 := ⟨q_1545, q_1543, q_1544, q_14, by decide⟩
theorem K_12_now {own : String} {idx : Nat} {a1 : Int32} (X : CXq p s m args meth c cc nL own ad cy D A H0) (hL : LK own idx yX12_now) (hZ : ad 1000 = 189) {w : Mem} {wl : MemL} {Q : Int32 → Mem → MemL → Prop} (h : wp_12_now a1 w wl Q) (hR : (RM 4).frames + 1 ≤ R.frames ∧ 8 + (2 + 11) + (RM 4).locals ≤ R.locals) (hce : ce ≤ R.cells ∧ sl ≤ R.slots) (hcat : (st1.map fun v => v.category).sum ≤ 8) (hd : decode cc pc = .ok (.invokevirtual idx, 3)) (kk : ∀ (r : Int32) (u : Mem) (v : MemL), Q r u v → V p l e R s m args below meth c nL ad cy D A H0 ce sl Qs wc u v (pc + 3) ls (.int r :: st1)) : V p l e R s m args below meth c nL ad cy D A H0 ce sl Qs wc w wl pc ls (.int a1 :: .ref (ad 150) :: st1) := V_callVI_m X mf_12_now hL (rfl : vwCl[12]? = some (RX12, TX12, 72)) (by decide) (rfl : SK 150 = 12) (hzk hZ (by decide)).2 (c_12_now X.2.2.2.2.2.2.2.1 hZ h) (As := [.int a1]) rfl ⟨rfl, rfl⟩ hR hce st1 rfl hcat hd kk
set_option maxRecDepth 20000 in
theorem v_12_wind {a1 : Int32} {a2 : Int32} (X : CXq p s m args meth c cX12_wind 3 yX12_wind.cls ad cy D (AW ad) s.heap) (hr : meth.sig.returnType = (some .int)) (hZ : ad 1000 = 189) {w : Mem} {wl : MemL} {Q : Int32 → Mem → MemL → Prop} (h : wp_12_wind a1 a2 w wl Q) : V p l e (RM 3) s m args below meth c 3 ad cy D (AW ad) s.heap 0 0 (MQ below (va_Qi (fun r (u : Mem × MemL) => Q r u.1 u.2) (BM ad cy D wc) (AW ad)) args s 0 0 (AW ad)) wc w wl 0 [(0, .ref (ad 150)), (1, .int a1), (2, .int a2)] [] := by
  unfold wp_12_wind at h
  refine V_iload_n X (i := 1) 1 dX12_wind_0 rfl rfl ?_
  refine V_iconst X (v := (0 : Int32)) dX12_wind_1 (by decide) ?_
  refine V_iconst X (v := (4 : Int32)) dX12_wind_2 (by decide) ?_
  refine K_12_in X (Or.inl q_1609) hZ h ⟨Nat.le_of_ble_eq_true rfl, Nat.le_of_ble_eq_true rfl⟩ ⟨Nat.zero_le _, Nat.zero_le _⟩ (st1 := []) (Nat.le_of_ble_eq_true rfl) dX12_wind_3 (fun r2 w1 v3 h => ?_)
  obtain ⟨ht, hf⟩ := h
  refine V_if_eq X (tgt := 20) dX12_wind_6 (by decide) (fun c => ?_) (fun c => ?_)
  · have h := ht c
    refine V_sipush X (v := (-10000 : Int32)) dX12_wind_20 (by decide) ?_
    exact V_iret_m X hr dX12_wind_23 h
  · have h := hf c
    refine V_iload_n X (i := 2) 2 dX12_wind_9 rfl rfl ?_
    refine V_iconst X (v := (0 : Int32)) dX12_wind_10 (by decide) ?_
    refine V_ldcw X (v := (99999 : Int32)) dX12_wind_11 q_1612 ?_
    refine K_12_in X (Or.inl q_1609) hZ h ⟨Nat.le_of_ble_eq_true rfl, Nat.le_of_ble_eq_true rfl⟩ ⟨Nat.zero_le _, Nat.zero_le _⟩ (st1 := []) (Nat.le_of_ble_eq_true rfl) dX12_wind_14 (fun r5 w4 v6 h => ?_)
    obtain ⟨ht, hf⟩ := h
    refine V_if_ne X (tgt := 24) dX12_wind_17 (by decide) (fun c => ?_) (fun c => ?_)
    · have h := ht c
      refine V_aload_n X (i := 0) 0 dX12_wind_24 rfl rfl ?_
      refine K_12_copies X (Or.inl q_1546) hZ h ⟨Nat.le_of_ble_eq_true rfl, Nat.le_of_ble_eq_true rfl⟩ ⟨Nat.zero_le _, Nat.zero_le _⟩ (st1 := []) (Nat.le_of_ble_eq_true rfl) dX12_wind_25 (fun w7 v8 h => ?_)
      refine V_aload_n X (i := 0) 0 dX12_wind_28 rfl rfl ?_
      refine V_iload_n X (i := 1) 1 dX12_wind_29 rfl rfl ?_
      refine V_iload_n X (i := 2) 2 dX12_wind_30 rfl rfl ?_
      refine K_12_windOf X (Or.inl q_1574) hZ h ⟨Nat.le_of_ble_eq_true rfl, Nat.le_of_ble_eq_true rfl⟩ ⟨Nat.zero_le _, Nat.zero_le _⟩ (st1 := []) (Nat.le_of_ble_eq_true rfl) dX12_wind_31 (fun r10 w9 v11 h => ?_)
      exact V_iret_m X hr dX12_wind_34 h
    · have h := hf c
      refine V_sipush X (v := (-10000 : Int32)) dX12_wind_20 (by decide) ?_
      exact V_iret_m X hr dX12_wind_23 h
theorem c_12_wind {a1 : Int32} {a2 : Int32} (hinj : INJ ad) (hZ : ad 1000 = 189) {w : Mem} {wl : MemL} {Q : Int32 → Mem → MemL → Prop} (h : wp_12_wind a1 a2 w wl Q) : Met l yX12_wind (TBq yX12_wind cX12_wind 3 (some .int)) (RM 3) (va_Pc [.ref (ad 150), .int a1, .int a2] (PB ad cy D (cmb wc w) wl)) (va_Qi (fun r (u : Mem × MemL) => Q r u.1 u.2) (BM ad cy D wc) (AW ad)) 0 0 (AW ad) := M_enter (by decide) (Nat.le_of_ble_eq_true rfl) hinj (fun p e s m args below meth c X hr => v_12_wind X hr hZ h)
theorem mf_12_wind : MFV yX12_wind cX12_wind 3 (some .int) yX12_wind.cls 2 := ⟨q_1608, q_1606, q_1607, q_14, by decide⟩
theorem K_12_wind {own : String} {idx : Nat} {a1 : Int32} {a2 : Int32} (X : CXq p s m args meth c cc nL own ad cy D A H0) (hL : LK own idx yX12_wind) (hZ : ad 1000 = 189) {w : Mem} {wl : MemL} {Q : Int32 → Mem → MemL → Prop} (h : wp_12_wind a1 a2 w wl Q) (hR : (RM 3).frames + 1 ≤ R.frames ∧ 8 + (3 + 11) + (RM 3).locals ≤ R.locals) (hce : ce ≤ R.cells ∧ sl ≤ R.slots) (hcat : (st1.map fun v => v.category).sum ≤ 8) (hd : decode cc pc = .ok (.invokevirtual idx, 3)) (kk : ∀ (r : Int32) (u : Mem) (v : MemL), Q r u v → V p l e R s m args below meth c nL ad cy D A H0 ce sl Qs wc u v (pc + 3) ls (.int r :: st1)) : V p l e R s m args below meth c nL ad cy D A H0 ce sl Qs wc w wl pc ls (.int a2 :: .int a1 :: .ref (ad 150) :: st1) := V_callVI_m X mf_12_wind hL (rfl : vwCl[12]? = some (RX12, TX12, 72)) (by decide) (rfl : SK 150 = 12) (hzk hZ (by decide)).2 (c_12_wind X.2.2.2.2.2.2.2.1 hZ h) (As := [.int a1, .int a2]) rfl ⟨rfl, rfl⟩ hR hce st1 rfl hcat hd kk
set_option maxRecDepth 20000 in
theorem v_12_hasJump_b39 (X : CXq p s m args meth c cX12_hasJump 3 yX12_hasJump.cls ad cy D (AW ad) s.heap) (hr : meth.sig.returnType = (some .boolean)) (hZ : ad 1000 = 189) {Q : Int32 → Mem → MemL → Prop} : ∀ (w : Mem) (wl : MemL), wp_12_hasJump_b39 Q w wl → V p l e (RM 2) s m args below meth c 3 ad cy D (AW ad) s.heap 0 0 (MQ below (va_Qi (fun r (u : Mem × MemL) => Q r u.1 u.2) (BM ad cy D wc) (AW ad)) args s 0 0 (AW ad)) wc w wl 39 [] [] := by
  intro w wl h
  unfold wp_12_hasJump_b39 at h
  refine V_iconst X (v := (0 : Int32)) dX12_hasJump_39 (by decide) ?_
  exact V_zret_m X hr dX12_hasJump_40 rfl h
set_option maxRecDepth 20000 in
theorem v_12_hasJump {a1 : Int32} {a2 : Int32} (X : CXq p s m args meth c cX12_hasJump 3 yX12_hasJump.cls ad cy D (AW ad) s.heap) (hr : meth.sig.returnType = (some .boolean)) (hZ : ad 1000 = 189) {w : Mem} {wl : MemL} {Q : Int32 → Mem → MemL → Prop} (h : wp_12_hasJump a1 a2 w wl Q) : V p l e (RM 2) s m args below meth c 3 ad cy D (AW ad) s.heap 0 0 (MQ below (va_Qi (fun r (u : Mem × MemL) => Q r u.1 u.2) (BM ad cy D wc) (AW ad)) args s 0 0 (AW ad)) wc w wl 0 [(0, .ref (ad 150)), (1, .int a1), (2, .int a2)] [] := by
  unfold wp_12_hasJump at h
  refine V_aload_n X (i := 0) 0 dX12_hasJump_0 rfl rfl ?_
  refine V_iload_n X (i := 1) 1 dX12_hasJump_1 rfl rfl ?_
  refine K_12_isMan X (Or.inl q_1621) hZ h ⟨Nat.le_of_ble_eq_true rfl, Nat.le_of_ble_eq_true rfl⟩ ⟨Nat.zero_le _, Nat.zero_le _⟩ (st1 := []) (Nat.le_of_ble_eq_true rfl) dX12_hasJump_2 (fun r2 w1 v3 h => ?_)
  obtain ⟨ht, hf⟩ := h
  refine V_if_eq X (tgt := 39) dX12_hasJump_5 (by decide) (fun c => ?_) (fun c => ?_)
  · have h := ht c
    refine V_sub X (ls1 := []) [] rfl ?_
    exact v_12_hasJump_b39 X hr hZ _ _ h
  · have h := hf c
    refine V_iload_n X (i := 2) 2 dX12_hasJump_8 rfl rfl ?_
    refine V_iconst X (v := (1 : Int32)) dX12_hasJump_9 (by decide) ?_
    refine V_iconst X (v := (2 : Int32)) dX12_hasJump_10 (by decide) ?_
    refine K_12_in X (Or.inl q_1609) hZ h ⟨Nat.le_of_ble_eq_true rfl, Nat.le_of_ble_eq_true rfl⟩ ⟨Nat.zero_le _, Nat.zero_le _⟩ (st1 := []) (Nat.le_of_ble_eq_true rfl) dX12_hasJump_11 (fun r5 w4 v6 h => ?_)
    obtain ⟨ht, hf⟩ := h
    refine V_if_eq X (tgt := 39) dX12_hasJump_14 (by decide) (fun c => ?_) (fun c => ?_)
    · have h := ht c
      refine V_sub X (ls1 := []) [] rfl ?_
      exact v_12_hasJump_b39 X hr hZ _ _ h
    · have h := hf c
      refine V_aload_n X (i := 0) 0 dX12_hasJump_17 rfl rfl ?_
      refine G_12_107 X hZ dX12_hasJump_18 ?_
      refine V_aload_n X (i := 0) 0 dX12_hasJump_21 rfl rfl ?_
      refine V_iconst X (v := (4 : Int32)) dX12_hasJump_22 (by decide) ?_
      refine V_iload_n X (i := 2) 2 dX12_hasJump_23 rfl rfl ?_
      refine V_iconst X (v := (1 : Int32)) dX12_hasJump_24 (by decide) ?_
      refine V_isub X dX12_hasJump_25 ?_
      refine V_iload_n X (i := 1) 1 dX12_hasJump_26 rfl rfl ?_
      refine K_12_cell X (Or.inl q_1558) hZ h ⟨Nat.le_of_ble_eq_true rfl, Nat.le_of_ble_eq_true rfl⟩ ⟨Nat.zero_le _, Nat.zero_le _⟩ (st1 := [.ref (ad 180)]) (Nat.le_of_ble_eq_true rfl) dX12_hasJump_27 (fun r8 w7 v9 h => ?_)
      obtain ⟨g10, h⟩ := h
      refine V_iald_m X (rfl : SLq 180 = 260) (hzk hZ (by decide)) (rfl : SK 180 = 14) g10 dX12_hasJump_30 ?_
      refine V_iconst X (v := (1 : Int32)) dX12_hasJump_31 (by decide) ?_
      obtain ⟨ht, hf⟩ := h
      refine V_icmp_ne X (tgt := 39) dX12_hasJump_32 (by decide) (fun c => ?_) (fun c => ?_)
      · have h := ht c
        refine V_sub X (ls1 := []) [] rfl ?_
        exact v_12_hasJump_b39 X hr hZ _ _ h
      · have h := hf c
        refine V_iconst X (v := (1 : Int32)) dX12_hasJump_35 (by decide) ?_
        refine V_goto X (tgt := 40) dX12_hasJump_36 (by decide) ?_
        exact V_zret_m X hr dX12_hasJump_40 rfl h
theorem c_12_hasJump {a1 : Int32} {a2 : Int32} (hinj : INJ ad) (hZ : ad 1000 = 189) {w : Mem} {wl : MemL} {Q : Int32 → Mem → MemL → Prop} (h : wp_12_hasJump a1 a2 w wl Q) : Met l yX12_hasJump (TBq yX12_hasJump cX12_hasJump 3 (some .boolean)) (RM 2) (va_Pc [.ref (ad 150), .int a1, .int a2] (PB ad cy D (cmb wc w) wl)) (va_Qi (fun r (u : Mem × MemL) => Q r u.1 u.2) (BM ad cy D wc) (AW ad)) 0 0 (AW ad) := M_enter (by decide) (Nat.le_of_ble_eq_true rfl) hinj (fun p e s m args below meth c X hr => v_12_hasJump X hr hZ h)
theorem mf_12_hasJump : MFV yX12_hasJump cX12_hasJump 3 (some .boolean) yX12_hasJump.cls 2 := ⟨q_1620, q_1619, qs_77, q_14, by decide⟩
theorem K_12_hasJump {own : String} {idx : Nat} {a1 : Int32} {a2 : Int32} (X : CXq p s m args meth c cc nL own ad cy D A H0) (hL : LK own idx yX12_hasJump) (hZ : ad 1000 = 189) {w : Mem} {wl : MemL} {Q : Int32 → Mem → MemL → Prop} (h : wp_12_hasJump a1 a2 w wl Q) (hR : (RM 2).frames + 1 ≤ R.frames ∧ 8 + (3 + 11) + (RM 2).locals ≤ R.locals) (hce : ce ≤ R.cells ∧ sl ≤ R.slots) (hcat : (st1.map fun v => v.category).sum ≤ 8) (hd : decode cc pc = .ok (.invokevirtual idx, 3)) (kk : ∀ (r : Int32) (u : Mem) (v : MemL), Q r u v → V p l e R s m args below meth c nL ad cy D A H0 ce sl Qs wc u v (pc + 3) ls (.int r :: st1)) : V p l e R s m args below meth c nL ad cy D A H0 ce sl Qs wc w wl pc ls (.int a2 :: .int a1 :: .ref (ad 150) :: st1) := V_callVI_m X mf_12_hasJump hL (rfl : vwCl[12]? = some (RX12, TX12, 72)) (by decide) (rfl : SK 150 = 12) (hzk hZ (by decide)).2 (c_12_hasJump X.2.2.2.2.2.2.2.1 hZ h) (As := [.int a1, .int a2]) rfl ⟨rfl, rfl⟩ hR hce st1 rfl hcat hd kk
set_option maxRecDepth 20000 in
theorem v_12_jump {a1 : Int32} {a2 : Int32} {a3 : Int32} (X : CXq p s m args meth c cX12_jump 4 yX12_jump.cls ad cy D (AW ad) s.heap) (hr : meth.sig.returnType = (some .int)) (hZ : ad 1000 = 189) {w : Mem} {wl : MemL} {Q : Int32 → Mem → MemL → Prop} (h : wp_12_jump a1 a2 a3 w wl Q) : V p l e (RM 3) s m args below meth c 4 ad cy D (AW ad) s.heap 0 0 (MQ below (va_Qi (fun r (u : Mem × MemL) => Q r u.1 u.2) (BM ad cy D wc) (AW ad)) args s 0 0 (AW ad)) wc w wl 0 [(0, .ref (ad 150)), (1, .int a1), (2, .int a2), (3, .int a3)] [] := by
  unfold wp_12_jump at h
  refine V_aload_n X (i := 0) 0 dX12_jump_0 rfl rfl ?_
  refine V_iload_n X (i := 1) 1 dX12_jump_1 rfl rfl ?_
  refine V_iload_n X (i := 2) 2 dX12_jump_2 rfl rfl ?_
  refine K_12_hasJump X (Or.inl q_1617) hZ h ⟨Nat.le_of_ble_eq_true rfl, Nat.le_of_ble_eq_true rfl⟩ ⟨Nat.zero_le _, Nat.zero_le _⟩ (st1 := []) (Nat.le_of_ble_eq_true rfl) dX12_jump_3 (fun r2 w1 v3 h => ?_)
  obtain ⟨ht, hf⟩ := h
  refine V_if_eq X (tgt := 19) dX12_jump_6 (by decide) (fun c => ?_) (fun c => ?_)
  · have h := ht c
    refine V_sipush X (v := (-10000 : Int32)) dX12_jump_19 (by decide) ?_
    exact V_iret_m X hr dX12_jump_22 h
  · have h := hf c
    refine V_iload_n X (i := 3) 3 dX12_jump_9 rfl rfl ?_
    refine V_iconst X (v := (0 : Int32)) dX12_jump_10 (by decide) ?_
    refine V_bipush X (v := (7 : Int32)) dX12_jump_11 (by decide) ?_
    refine K_12_in X (Or.inl q_1609) hZ h ⟨Nat.le_of_ble_eq_true rfl, Nat.le_of_ble_eq_true rfl⟩ ⟨Nat.zero_le _, Nat.zero_le _⟩ (st1 := []) (Nat.le_of_ble_eq_true rfl) dX12_jump_13 (fun r5 w4 v6 h => ?_)
    obtain ⟨ht, hf⟩ := h
    refine V_if_ne X (tgt := 23) dX12_jump_16 (by decide) (fun c => ?_) (fun c => ?_)
    · have h := ht c
      refine V_aload_n X (i := 0) 0 dX12_jump_23 rfl rfl ?_
      refine G_12_107 X hZ dX12_jump_24 ?_
      refine V_aload_n X (i := 0) 0 dX12_jump_27 rfl rfl ?_
      refine V_bipush X (v := (20 : Int32)) dX12_jump_28 (by decide) ?_
      refine V_bipush X (v := (16 : Int32)) dX12_jump_30 (by decide) ?_
      refine V_iload_n X (i := 3) 3 dX12_jump_32 rfl rfl ?_
      refine V_imul X dX12_jump_33 ?_
      refine V_iadd X dX12_jump_34 ?_
      refine V_iload_n X (i := 2) 2 dX12_jump_35 rfl rfl ?_
      refine V_iconst X (v := (1 : Int32)) dX12_jump_36 (by decide) ?_
      refine V_isub X dX12_jump_37 ?_
      refine V_iload_n X (i := 1) 1 dX12_jump_38 rfl rfl ?_
      refine K_12_cell X (Or.inl q_1558) hZ h ⟨Nat.le_of_ble_eq_true rfl, Nat.le_of_ble_eq_true rfl⟩ ⟨Nat.zero_le _, Nat.zero_le _⟩ (st1 := [.ref (ad 180)]) (Nat.le_of_ble_eq_true rfl) dX12_jump_39 (fun r8 w7 v9 h => ?_)
      obtain ⟨g10, h⟩ := h
      refine V_iald_m X (rfl : SLq 180 = 260) (hzk hZ (by decide)) (rfl : SK 180 = 14) g10 dX12_jump_42 ?_
      exact V_iret_m X hr dX12_jump_43 h
    · have h := hf c
      refine V_sipush X (v := (-10000 : Int32)) dX12_jump_19 (by decide) ?_
      exact V_iret_m X hr dX12_jump_22 h
theorem c_12_jump {a1 : Int32} {a2 : Int32} {a3 : Int32} (hinj : INJ ad) (hZ : ad 1000 = 189) {w : Mem} {wl : MemL} {Q : Int32 → Mem → MemL → Prop} (h : wp_12_jump a1 a2 a3 w wl Q) : Met l yX12_jump (TBq yX12_jump cX12_jump 4 (some .int)) (RM 3) (va_Pc [.ref (ad 150), .int a1, .int a2, .int a3] (PB ad cy D (cmb wc w) wl)) (va_Qi (fun r (u : Mem × MemL) => Q r u.1 u.2) (BM ad cy D wc) (AW ad)) 0 0 (AW ad) := M_enter (by decide) (Nat.le_of_ble_eq_true rfl) hinj (fun p e s m args below meth c X hr => v_12_jump X hr hZ h)
theorem mf_12_jump : MFV yX12_jump cX12_jump 4 (some .int) yX12_jump.cls 3 := ⟨q_1616, q_1614, q_1615, q_14, by decide⟩
theorem K_12_jump {own : String} {idx : Nat} {a1 : Int32} {a2 : Int32} {a3 : Int32} (X : CXq p s m args meth c cc nL own ad cy D A H0) (hL : LK own idx yX12_jump) (hZ : ad 1000 = 189) {w : Mem} {wl : MemL} {Q : Int32 → Mem → MemL → Prop} (h : wp_12_jump a1 a2 a3 w wl Q) (hR : (RM 3).frames + 1 ≤ R.frames ∧ 8 + (4 + 11) + (RM 3).locals ≤ R.locals) (hce : ce ≤ R.cells ∧ sl ≤ R.slots) (hcat : (st1.map fun v => v.category).sum ≤ 8) (hd : decode cc pc = .ok (.invokevirtual idx, 3)) (kk : ∀ (r : Int32) (u : Mem) (v : MemL), Q r u v → V p l e R s m args below meth c nL ad cy D A H0 ce sl Qs wc u v (pc + 3) ls (.int r :: st1)) : V p l e R s m args below meth c nL ad cy D A H0 ce sl Qs wc w wl pc ls (.int a3 :: .int a2 :: .int a1 :: .ref (ad 150) :: st1) := V_callVI_m X mf_12_jump hL (rfl : vwCl[12]? = some (RX12, TX12, 72)) (by decide) (rfl : SK 150 = 12) (hzk hZ (by decide)).2 (c_12_jump X.2.2.2.2.2.2.2.1 hZ h) (As := [.int a1, .int a2, .int a3]) rfl ⟨rfl, rfl⟩ hR hce st1 rfl hcat hd kk
set_option maxRecDepth 20000 in
theorem v_12_mark_b42 (X : CXq p s m args meth c cX12_mark 4 yX12_mark.cls ad cy D (AW ad) s.heap) (hr : meth.sig.returnType = (some .int)) (hZ : ad 1000 = 189) {Q : Int32 → Mem → MemL → Prop} : ∀ (w : Mem) (wl : MemL), wp_12_mark_b42 Q w wl → V p l e (RM 3) s m args below meth c 4 ad cy D (AW ad) s.heap 0 0 (MQ below (va_Qi (fun r (u : Mem × MemL) => Q r u.1 u.2) (BM ad cy D wc) (AW ad)) args s 0 0 (AW ad)) wc w wl 42 [] [] := by
  intro w wl h
  unfold wp_12_mark_b42 at h
  refine V_sipush X (v := (-10000 : Int32)) dX12_mark_42 (by decide) ?_
  exact V_iret_m X hr dX12_mark_45 h
set_option maxRecDepth 20000 in
theorem v_12_mark {a1 : Int32} {a2 : Int32} {a3 : Int32} (X : CXq p s m args meth c cX12_mark 4 yX12_mark.cls ad cy D (AW ad) s.heap) (hr : meth.sig.returnType = (some .int)) (hZ : ad 1000 = 189) {w : Mem} {wl : MemL} {Q : Int32 → Mem → MemL → Prop} (h : wp_12_mark a1 a2 a3 w wl Q) : V p l e (RM 3) s m args below meth c 4 ad cy D (AW ad) s.heap 0 0 (MQ below (va_Qi (fun r (u : Mem × MemL) => Q r u.1 u.2) (BM ad cy D wc) (AW ad)) args s 0 0 (AW ad)) wc w wl 0 [(0, .ref (ad 150)), (1, .int a1), (2, .int a2), (3, .int a3)] [] := by
  unfold wp_12_mark at h
  refine V_aload_n X (i := 0) 0 dX12_mark_0 rfl rfl ?_
  refine V_iload_n X (i := 1) 1 dX12_mark_1 rfl rfl ?_
  refine V_iload_n X (i := 2) 2 dX12_mark_2 rfl rfl ?_
  refine K_12_hasJump X (Or.inl q_1617) hZ h ⟨Nat.le_of_ble_eq_true rfl, Nat.le_of_ble_eq_true rfl⟩ ⟨Nat.zero_le _, Nat.zero_le _⟩ (st1 := []) (Nat.le_of_ble_eq_true rfl) dX12_mark_3 (fun r2 w1 v3 h => ?_)
  obtain ⟨ht, hf⟩ := h
  refine V_if_eq X (tgt := 42) dX12_mark_6 (by decide) (fun c => ?_) (fun c => ?_)
  · have h := ht c
    refine V_sub X (ls1 := []) [] rfl ?_
    exact v_12_mark_b42 X hr hZ _ _ h
  · have h := hf c
    refine V_aload_n X (i := 0) 0 dX12_mark_9 rfl rfl ?_
    refine V_iload_n X (i := 3) 3 dX12_mark_10 rfl rfl ?_
    refine K_12_isJudge X (Or.inl q_1629) hZ h ⟨Nat.le_of_ble_eq_true rfl, Nat.le_of_ble_eq_true rfl⟩ ⟨Nat.zero_le _, Nat.zero_le _⟩ (st1 := []) (Nat.le_of_ble_eq_true rfl) dX12_mark_11 (fun r5 w4 v6 h => ?_)
    obtain ⟨ht, hf⟩ := h
    refine V_if_eq X (tgt := 42) dX12_mark_14 (by decide) (fun c => ?_) (fun c => ?_)
    · have h := ht c
      refine V_sub X (ls1 := []) [] rfl ?_
      exact v_12_mark_b42 X hr hZ _ _ h
    · have h := hf c
      refine V_aload_n X (i := 0) 0 dX12_mark_17 rfl rfl ?_
      refine G_12_107 X hZ dX12_mark_18 ?_
      refine V_sipush X (v := (148 : Int32)) dX12_mark_21 (by decide) ?_
      refine V_bipush X (v := (7 : Int32)) dX12_mark_24 (by decide) ?_
      refine V_bipush X (v := (8 : Int32)) dX12_mark_26 (by decide) ?_
      refine V_iload_n X (i := 2) 2 dX12_mark_28 rfl rfl ?_
      refine V_iconst X (v := (1 : Int32)) dX12_mark_29 (by decide) ?_
      refine V_isub X dX12_mark_30 ?_
      refine V_imul X dX12_mark_31 ?_
      refine V_iload_n X (i := 1) 1 dX12_mark_32 rfl rfl ?_
      refine V_iadd X dX12_mark_33 ?_
      refine V_imul X dX12_mark_34 ?_
      refine V_iadd X dX12_mark_35 ?_
      refine V_iload_n X (i := 3) 3 dX12_mark_36 rfl rfl ?_
      refine V_iadd X dX12_mark_37 ?_
      obtain ⟨g7, h⟩ := h
      refine V_iald_m X (rfl : SLq 180 = 260) (hzk hZ (by decide)) (rfl : SK 180 = 14) g7 dX12_mark_38 ?_
      refine V_goto X (tgt := 45) dX12_mark_39 (by decide) ?_
      exact V_iret_m X hr dX12_mark_45 h
theorem c_12_mark {a1 : Int32} {a2 : Int32} {a3 : Int32} (hinj : INJ ad) (hZ : ad 1000 = 189) {w : Mem} {wl : MemL} {Q : Int32 → Mem → MemL → Prop} (h : wp_12_mark a1 a2 a3 w wl Q) : Met l yX12_mark (TBq yX12_mark cX12_mark 4 (some .int)) (RM 3) (va_Pc [.ref (ad 150), .int a1, .int a2, .int a3] (PB ad cy D (cmb wc w) wl)) (va_Qi (fun r (u : Mem × MemL) => Q r u.1 u.2) (BM ad cy D wc) (AW ad)) 0 0 (AW ad) := M_enter (by decide) (Nat.le_of_ble_eq_true rfl) hinj (fun p e s m args below meth c X hr => v_12_mark X hr hZ h)
theorem mf_12_mark : MFV yX12_mark cX12_mark 4 (some .int) yX12_mark.cls 3 := ⟨q_1628, q_1626, q_1627, q_14, by decide⟩
theorem K_12_mark {own : String} {idx : Nat} {a1 : Int32} {a2 : Int32} {a3 : Int32} (X : CXq p s m args meth c cc nL own ad cy D A H0) (hL : LK own idx yX12_mark) (hZ : ad 1000 = 189) {w : Mem} {wl : MemL} {Q : Int32 → Mem → MemL → Prop} (h : wp_12_mark a1 a2 a3 w wl Q) (hR : (RM 3).frames + 1 ≤ R.frames ∧ 8 + (4 + 11) + (RM 3).locals ≤ R.locals) (hce : ce ≤ R.cells ∧ sl ≤ R.slots) (hcat : (st1.map fun v => v.category).sum ≤ 8) (hd : decode cc pc = .ok (.invokevirtual idx, 3)) (kk : ∀ (r : Int32) (u : Mem) (v : MemL), Q r u v → V p l e R s m args below meth c nL ad cy D A H0 ce sl Qs wc u v (pc + 3) ls (.int r :: st1)) : V p l e R s m args below meth c nL ad cy D A H0 ce sl Qs wc w wl pc ls (.int a3 :: .int a2 :: .int a1 :: .ref (ad 150) :: st1) := V_callVI_m X mf_12_mark hL (rfl : vwCl[12]? = some (RX12, TX12, 72)) (by decide) (rfl : SK 150 = 12) (hzk hZ (by decide)).2 (c_12_mark X.2.2.2.2.2.2.2.1 hZ h) (As := [.int a1, .int a2, .int a3]) rfl ⟨rfl, rfl⟩ hR hce st1 rfl hcat hd kk
set_option maxRecDepth 20000 in
theorem v_12_points {a1 : Int32} (X : CXq p s m args meth c cX12_points 2 yX12_points.cls ad cy D (AW ad) s.heap) (hr : meth.sig.returnType = (some .int)) (hZ : ad 1000 = 189) {w : Mem} {wl : MemL} {Q : Int32 → Mem → MemL → Prop} (h : wp_12_points a1 w wl Q) : V p l e (RM 3) s m args below meth c 2 ad cy D (AW ad) s.heap 0 0 (MQ below (va_Qi (fun r (u : Mem × MemL) => Q r u.1 u.2) (BM ad cy D wc) (AW ad)) args s 0 0 (AW ad)) wc w wl 0 [(0, .ref (ad 150)), (1, .int a1)] [] := by
  unfold wp_12_points at h
  refine V_aload_n X (i := 0) 0 dX12_points_0 rfl rfl ?_
  refine V_iload_n X (i := 1) 1 dX12_points_1 rfl rfl ?_
  refine K_12_isMan X (Or.inl q_1621) hZ h ⟨Nat.le_of_ble_eq_true rfl, Nat.le_of_ble_eq_true rfl⟩ ⟨Nat.zero_le _, Nat.zero_le _⟩ (st1 := []) (Nat.le_of_ble_eq_true rfl) dX12_points_2 (fun r2 w1 v3 h => ?_)
  obtain ⟨ht, hf⟩ := h
  refine V_if_ne X (tgt := 10) dX12_points_5 (by decide) (fun c => ?_) (fun c => ?_)
  · have h := ht c
    refine V_aload_n X (i := 0) 0 dX12_points_10 rfl rfl ?_
    refine K_12_copies X (Or.inl q_1546) hZ h ⟨Nat.le_of_ble_eq_true rfl, Nat.le_of_ble_eq_true rfl⟩ ⟨Nat.zero_le _, Nat.zero_le _⟩ (st1 := []) (Nat.le_of_ble_eq_true rfl) dX12_points_11 (fun w4 v5 h => ?_)
    refine V_aload_n X (i := 0) 0 dX12_points_14 rfl rfl ?_
    refine V_iload_n X (i := 1) 1 dX12_points_15 rfl rfl ?_
    refine K_12_pointsOf X (Or.inl q_1562) hZ h ⟨Nat.le_of_ble_eq_true rfl, Nat.le_of_ble_eq_true rfl⟩ ⟨Nat.zero_le _, Nat.zero_le _⟩ (st1 := []) (Nat.le_of_ble_eq_true rfl) dX12_points_16 (fun r7 w6 v8 h => ?_)
    exact V_iret_m X hr dX12_points_19 h
  · have h := hf c
    refine V_iconst X (v := (-1 : Int32)) dX12_points_8 (by decide) ?_
    exact V_iret_m X hr dX12_points_9 h
theorem c_12_points {a1 : Int32} (hinj : INJ ad) (hZ : ad 1000 = 189) {w : Mem} {wl : MemL} {Q : Int32 → Mem → MemL → Prop} (h : wp_12_points a1 w wl Q) : Met l yX12_points (TBq yX12_points cX12_points 2 (some .int)) (RM 3) (va_Pc [.ref (ad 150), .int a1] (PB ad cy D (cmb wc w) wl)) (va_Qi (fun r (u : Mem × MemL) => Q r u.1 u.2) (BM ad cy D wc) (AW ad)) 0 0 (AW ad) := M_enter (by decide) (Nat.le_of_ble_eq_true rfl) hinj (fun p e s m args below meth c X hr => v_12_points X hr hZ h)
theorem mf_12_points : MFV yX12_points cX12_points 2 (some .int) yX12_points.cls 1 := ⟨q_1636, q_1634, q_1635, q_14, by decide⟩
theorem K_12_points {own : String} {idx : Nat} {a1 : Int32} (X : CXq p s m args meth c cc nL own ad cy D A H0) (hL : LK own idx yX12_points) (hZ : ad 1000 = 189) {w : Mem} {wl : MemL} {Q : Int32 → Mem → MemL → Prop} (h : wp_12_points a1 w wl Q) (hR : (RM 3).frames + 1 ≤ R.frames ∧ 8 + (2 + 11) + (RM 3).locals ≤ R.locals) (hce : ce ≤ R.cells ∧ sl ≤ R.slots) (hcat : (st1.map fun v => v.category).sum ≤ 8) (hd : decode cc pc = .ok (.invokevirtual idx, 3)) (kk : ∀ (r : Int32) (u : Mem) (v : MemL), Q r u v → V p l e R s m args below meth c nL ad cy D A H0 ce sl Qs wc u v (pc + 3) ls (.int r :: st1)) : V p l e R s m args below meth c nL ad cy D A H0 ce sl Qs wc w wl pc ls (.int a1 :: .ref (ad 150) :: st1) := V_callVI_m X mf_12_points hL (rfl : vwCl[12]? = some (RX12, TX12, 72)) (by decide) (rfl : SK 150 = 12) (hzk hZ (by decide)).2 (c_12_points X.2.2.2.2.2.2.2.1 hZ h) (As := [.int a1]) rfl ⟨rfl, rfl⟩ hR hce st1 rfl hcat hd kk
set_option maxRecDepth 20000 in
theorem v_12_rank {a1 : Int32} (X : CXq p s m args meth c cX12_rank 2 yX12_rank.cls ad cy D (AW ad) s.heap) (hr : meth.sig.returnType = (some .int)) (hZ : ad 1000 = 189) {w : Mem} {wl : MemL} {Q : Int32 → Mem → MemL → Prop} (h : wp_12_rank a1 w wl Q) : V p l e (RM 3) s m args below meth c 2 ad cy D (AW ad) s.heap 0 0 (MQ below (va_Qi (fun r (u : Mem × MemL) => Q r u.1 u.2) (BM ad cy D wc) (AW ad)) args s 0 0 (AW ad)) wc w wl 0 [(0, .ref (ad 150)), (1, .int a1)] [] := by
  unfold wp_12_rank at h
  refine V_aload_n X (i := 0) 0 dX12_rank_0 rfl rfl ?_
  refine V_iload_n X (i := 1) 1 dX12_rank_1 rfl rfl ?_
  refine K_12_isMan X (Or.inl q_1621) hZ h ⟨Nat.le_of_ble_eq_true rfl, Nat.le_of_ble_eq_true rfl⟩ ⟨Nat.zero_le _, Nat.zero_le _⟩ (st1 := []) (Nat.le_of_ble_eq_true rfl) dX12_rank_2 (fun r2 w1 v3 h => ?_)
  obtain ⟨ht, hf⟩ := h
  refine V_if_ne X (tgt := 10) dX12_rank_5 (by decide) (fun c => ?_) (fun c => ?_)
  · have h := ht c
    refine V_aload_n X (i := 0) 0 dX12_rank_10 rfl rfl ?_
    refine K_12_copies X (Or.inl q_1546) hZ h ⟨Nat.le_of_ble_eq_true rfl, Nat.le_of_ble_eq_true rfl⟩ ⟨Nat.zero_le _, Nat.zero_le _⟩ (st1 := []) (Nat.le_of_ble_eq_true rfl) dX12_rank_11 (fun w4 v5 h => ?_)
    refine V_aload_n X (i := 0) 0 dX12_rank_14 rfl rfl ?_
    refine V_iload_n X (i := 1) 1 dX12_rank_15 rfl rfl ?_
    refine V_iconst X (v := (2 : Int32)) dX12_rank_16 (by decide) ?_
    refine K_12_rankBy X (Or.inl q_1554) hZ h ⟨Nat.le_of_ble_eq_true rfl, Nat.le_of_ble_eq_true rfl⟩ ⟨Nat.zero_le _, Nat.zero_le _⟩ (st1 := []) (Nat.le_of_ble_eq_true rfl) dX12_rank_17 (fun r7 w6 v8 h => ?_)
    exact V_iret_m X hr dX12_rank_20 h
  · have h := hf c
    refine V_iconst X (v := (-1 : Int32)) dX12_rank_8 (by decide) ?_
    exact V_iret_m X hr dX12_rank_9 h
theorem c_12_rank {a1 : Int32} (hinj : INJ ad) (hZ : ad 1000 = 189) {w : Mem} {wl : MemL} {Q : Int32 → Mem → MemL → Prop} (h : wp_12_rank a1 w wl Q) : Met l yX12_rank (TBq yX12_rank cX12_rank 2 (some .int)) (RM 3) (va_Pc [.ref (ad 150), .int a1] (PB ad cy D (cmb wc w) wl)) (va_Qi (fun r (u : Mem × MemL) => Q r u.1 u.2) (BM ad cy D wc) (AW ad)) 0 0 (AW ad) := M_enter (by decide) (Nat.le_of_ble_eq_true rfl) hinj (fun p e s m args below meth c X hr => v_12_rank X hr hZ h)
theorem mf_12_rank : MFV yX12_rank cX12_rank 2 (some .int) yX12_rank.cls 1 := ⟨q_1640, q_1638, q_1639, q_14, by decide⟩
theorem K_12_rank {own : String} {idx : Nat} {a1 : Int32} (X : CXq p s m args meth c cc nL own ad cy D A H0) (hL : LK own idx yX12_rank) (hZ : ad 1000 = 189) {w : Mem} {wl : MemL} {Q : Int32 → Mem → MemL → Prop} (h : wp_12_rank a1 w wl Q) (hR : (RM 3).frames + 1 ≤ R.frames ∧ 8 + (2 + 11) + (RM 3).locals ≤ R.locals) (hce : ce ≤ R.cells ∧ sl ≤ R.slots) (hcat : (st1.map fun v => v.category).sum ≤ 8) (hd : decode cc pc = .ok (.invokevirtual idx, 3)) (kk : ∀ (r : Int32) (u : Mem) (v : MemL), Q r u v → V p l e R s m args below meth c nL ad cy D A H0 ce sl Qs wc u v (pc + 3) ls (.int r :: st1)) : V p l e R s m args below meth c nL ad cy D A H0 ce sl Qs wc w wl pc ls (.int a1 :: .ref (ad 150) :: st1) := V_callVI_m X mf_12_rank hL (rfl : vwCl[12]? = some (RX12, TX12, 72)) (by decide) (rfl : SK 150 = 12) (hzk hZ (by decide)).2 (c_12_rank X.2.2.2.2.2.2.2.1 hZ h) (As := [.int a1]) rfl ⟨rfl, rfl⟩ hR hce st1 rfl hcat hd kk
set_option maxRecDepth 20000 in
theorem v_12_ranked_b16 (X : CXq p s m args meth c cX12_ranked 3 yX12_ranked.cls ad cy D (AW ad) s.heap) (hr : meth.sig.returnType = (some .int)) (hZ : ad 1000 = 189) {Q : Int32 → Mem → MemL → Prop} : ∀ (n : Nat) (l1 : Int32) (l2 : Int32) (w : Mem) (wl : MemL), wp_12_ranked_b16 Q n l1 l2 w wl → V p l e (RM 3) s m args below meth c 3 ad cy D (AW ad) s.heap 0 0 (MQ below (va_Qi (fun r (u : Mem × MemL) => Q r u.1 u.2) (BM ad cy D wc) (AW ad)) args s 0 0 (AW ad)) wc w wl 16 [(0, .ref (ad 150)), (1, .int l1), (2, .int l2)] [] := by
  intro n
  induction n with
  | zero =>
    intro l1 l2 w wl h
    exact h.elim
  | succ n ih =>
    intro l1 l2 w wl h
    unfold wp_12_ranked_b16 at h
    refine V_iload_n X (i := 2) 2 dX12_ranked_16 rfl rfl ?_
    refine V_aload_n X (i := 0) 0 dX12_ranked_17 rfl rfl ?_
    refine G_12_46 X hZ dX12_ranked_18 ?_
    refine V_aload_n X (i := 0) 0 dX12_ranked_21 rfl rfl ?_
    refine G_12_218 X hZ dX12_ranked_22 ?_
    obtain ⟨g1, h⟩ := h
    refine V_iald_m X (rfl : SLq 160 = 2) (hzk hZ (by decide)) (rfl : SK 160 = 14) g1 dX12_ranked_25 ?_
    obtain ⟨ht, hf⟩ := h
    refine V_icmp_ge X (tgt := 47) dX12_ranked_26 (by decide) (fun c => ?_) (fun c => ?_)
    · have h := ht c
      refine V_iconst X (v := (-1 : Int32)) dX12_ranked_47 (by decide) ?_
      exact V_iret_m X hr dX12_ranked_48 h
    · have h := hf c
      refine V_aload_n X (i := 0) 0 dX12_ranked_29 rfl rfl ?_
      refine V_iload_n X (i := 2) 2 dX12_ranked_30 rfl rfl ?_
      refine V_iconst X (v := (2 : Int32)) dX12_ranked_31 (by decide) ?_
      refine K_12_rankBy X (Or.inl q_1554) hZ h ⟨Nat.le_of_ble_eq_true rfl, Nat.le_of_ble_eq_true rfl⟩ ⟨Nat.zero_le _, Nat.zero_le _⟩ (st1 := []) (Nat.le_of_ble_eq_true rfl) dX12_ranked_32 (fun r3 w2 v4 h => ?_)
      refine V_iload_n X (i := 1) 1 dX12_ranked_35 rfl rfl ?_
      obtain ⟨ht, hf⟩ := h
      refine V_icmp_ne X (tgt := 41) dX12_ranked_36 (by decide) (fun c => ?_) (fun c => ?_)
      · have h := ht c
        obtain ⟨x5, ex5⟩ : ∃ y : Int32, y = l2 + (1 : Int32) := ⟨_, rfl⟩
        have h := h x5 ex5
        refine V_iinc X 2 dX12_ranked_41 rfl (by decide) (by rw [ex5]; rfl) (ls1 := [(2, .int x5), (0, .ref (ad 150)), (1, .int l1)]) rfl ?_
        refine V_goto X (tgt := 16) dX12_ranked_44 (by decide) ?_
        refine V_sub X (ls1 := [(0, .ref (ad 150)), (1, .int l1), (2, .int x5)]) [1, 2, 0] rfl ?_
        exact ih _ _ _ _ h
      · have h := hf c
        refine V_iload_n X (i := 2) 2 dX12_ranked_39 rfl rfl ?_
        exact V_iret_m X hr dX12_ranked_40 h
set_option maxRecDepth 20000 in
theorem v_12_ranked {a1 : Int32} (X : CXq p s m args meth c cX12_ranked 3 yX12_ranked.cls ad cy D (AW ad) s.heap) (hr : meth.sig.returnType = (some .int)) (hZ : ad 1000 = 189) {w : Mem} {wl : MemL} {Q : Int32 → Mem → MemL → Prop} (h : wp_12_ranked a1 w wl Q) : V p l e (RM 3) s m args below meth c 3 ad cy D (AW ad) s.heap 0 0 (MQ below (va_Qi (fun r (u : Mem × MemL) => Q r u.1 u.2) (BM ad cy D wc) (AW ad)) args s 0 0 (AW ad)) wc w wl 0 [(0, .ref (ad 150)), (1, .int a1)] [] := by
  unfold wp_12_ranked at h
  refine V_aload_n X (i := 0) 0 dX12_ranked_0 rfl rfl ?_
  refine V_iload_n X (i := 1) 1 dX12_ranked_1 rfl rfl ?_
  refine K_12_isMan X (Or.inl q_1621) hZ h ⟨Nat.le_of_ble_eq_true rfl, Nat.le_of_ble_eq_true rfl⟩ ⟨Nat.zero_le _, Nat.zero_le _⟩ (st1 := []) (Nat.le_of_ble_eq_true rfl) dX12_ranked_2 (fun r2 w1 v3 h => ?_)
  obtain ⟨ht, hf⟩ := h
  refine V_if_ne X (tgt := 10) dX12_ranked_5 (by decide) (fun c => ?_) (fun c => ?_)
  · have h := ht c
    refine V_aload_n X (i := 0) 0 dX12_ranked_10 rfl rfl ?_
    refine K_12_copies X (Or.inl q_1546) hZ h ⟨Nat.le_of_ble_eq_true rfl, Nat.le_of_ble_eq_true rfl⟩ ⟨Nat.zero_le _, Nat.zero_le _⟩ (st1 := []) (Nat.le_of_ble_eq_true rfl) dX12_ranked_11 (fun w4 v5 h => ?_)
    refine V_iconst X (v := (0 : Int32)) dX12_ranked_14 (by decide) ?_
    refine V_istore_n X dX12_ranked_15 rfl (by decide) rfl (ls1 := [(2, .int (0 : Int32)), (0, .ref (ad 150)), (1, .int a1)]) rfl ?_
    refine V_sub X (ls1 := [(0, .ref (ad 150)), (1, .int a1), (2, .int (0 : Int32))]) [1, 2, 0] rfl ?_
    obtain ⟨nn, h⟩ := h
    exact v_12_ranked_b16 X hr hZ nn _ _ _ _ h
  · have h := hf c
    refine V_iconst X (v := (-1 : Int32)) dX12_ranked_8 (by decide) ?_
    exact V_iret_m X hr dX12_ranked_9 h
theorem c_12_ranked {a1 : Int32} (hinj : INJ ad) (hZ : ad 1000 = 189) {w : Mem} {wl : MemL} {Q : Int32 → Mem → MemL → Prop} (h : wp_12_ranked a1 w wl Q) : Met l yX12_ranked (TBq yX12_ranked cX12_ranked 3 (some .int)) (RM 3) (va_Pc [.ref (ad 150), .int a1] (PB ad cy D (cmb wc w) wl)) (va_Qi (fun r (u : Mem × MemL) => Q r u.1 u.2) (BM ad cy D wc) (AW ad)) 0 0 (AW ad) := M_enter (by decide) (Nat.le_of_ble_eq_true rfl) hinj (fun p e s m args below meth c X hr => v_12_ranked X hr hZ h)
theorem mf_12_ranked : MFV yX12_ranked cX12_ranked 3 (some .int) yX12_ranked.cls 1 := ⟨q_1644, q_1642, q_1643, q_14, by decide⟩
theorem K_12_ranked {own : String} {idx : Nat} {a1 : Int32} (X : CXq p s m args meth c cc nL own ad cy D A H0) (hL : LK own idx yX12_ranked) (hZ : ad 1000 = 189) {w : Mem} {wl : MemL} {Q : Int32 → Mem → MemL → Prop} (h : wp_12_ranked a1 w wl Q) (hR : (RM 3).frames + 1 ≤ R.frames ∧ 8 + (3 + 11) + (RM 3).locals ≤ R.locals) (hce : ce ≤ R.cells ∧ sl ≤ R.slots) (hcat : (st1.map fun v => v.category).sum ≤ 8) (hd : decode cc pc = .ok (.invokevirtual idx, 3)) (kk : ∀ (r : Int32) (u : Mem) (v : MemL), Q r u v → V p l e R s m args below meth c nL ad cy D A H0 ce sl Qs wc u v (pc + 3) ls (.int r :: st1)) : V p l e R s m args below meth c nL ad cy D A H0 ce sl Qs wc w wl pc ls (.int a1 :: .ref (ad 150) :: st1) := V_callVI_m X mf_12_ranked hL (rfl : vwCl[12]? = some (RX12, TX12, 72)) (by decide) (rfl : SK 150 = 12) (hzk hZ (by decide)).2 (c_12_ranked X.2.2.2.2.2.2.2.1 hZ h) (As := [.int a1]) rfl ⟨rfl, rfl⟩ hR hce st1 rfl hcat hd kk
set_option maxRecDepth 20000 in
theorem v_12_keeps_b52 (X : CXq p s m args meth c cX12_keeps 2 yX12_keeps.cls ad cy D (AW ad) s.heap) (hr : meth.sig.returnType = none) (hZ : ad 1000 = 189) {Q : Mem → MemL → Prop} : ∀ (n : Nat) (l1 : Int32) (w : Mem) (wl : MemL), wp_12_keeps_b52 Q n l1 w wl → V p l e (RM 1) s m args below meth c 2 ad cy D (AW ad) s.heap 0 0 (MQ below (va_Qv (fun (u : Mem × MemL) => Q u.1 u.2) (BM ad cy D wc) (AW ad)) args s 0 0 (AW ad)) wc w wl 52 [(0, .ref (ad 150)), (1, .int l1)] [] := by
  intro n
  induction n with
  | zero =>
    intro l1 w wl h
    exact h.elim
  | succ n ih =>
    intro l1 w wl h
    unfold wp_12_keeps_b52 at h
    refine V_iload_n X (i := 1) 1 dX12_keeps_52 rfl rfl ?_
    refine V_sipush X (v := (260 : Int32)) dX12_keeps_53 (by decide) ?_
    obtain ⟨ht, hf⟩ := h
    refine V_icmp_ge X (tgt := 86) dX12_keeps_56 (by decide) (fun c => ?_) (fun c => ?_)
    · have h := ht c
      refine V_aload_n X (i := 0) 0 dX12_keeps_86 rfl rfl ?_
      refine V_dup X dX12_keeps_87 rfl ?_
      refine G_12_236 X hZ dX12_keeps_88 ?_
      refine V_iconst X (v := (1 : Int32)) dX12_keeps_91 (by decide) ?_
      refine V_iadd X dX12_keeps_92 ?_
      obtain ⟨w1, ew1⟩ : ∃ y : Mem, y = st w 150 64 ((w 150 64) + (1 : Int32)) := ⟨_, rfl⟩
      have h := h w1 ew1
      refine U_12_236 X hZ rfl rfl dX12_keeps_93 ew1 ?_
      refine V_aload_n X (i := 0) 0 dX12_keeps_96 rfl rfl ?_
      refine K_12_keepsRow X (Or.inl q_1211) hZ h ⟨Nat.le_of_ble_eq_true rfl, Nat.le_of_ble_eq_true rfl⟩ ⟨Nat.zero_le _, Nat.zero_le _⟩ (st1 := []) (Nat.le_of_ble_eq_true rfl) dX12_keeps_97 (fun w2 v3 h => ?_)
      exact V_vret_m X hr dX12_keeps_100 h
    · have h := hf c
      refine V_aload_n X (i := 0) 0 dX12_keeps_59 rfl rfl ?_
      refine G_12_119 X hZ dX12_keeps_60 ?_
      refine V_sipush X (v := (260 : Int32)) dX12_keeps_63 (by decide) ?_
      refine V_aload_n X (i := 0) 0 dX12_keeps_66 rfl rfl ?_
      refine G_12_236 X hZ dX12_keeps_67 ?_
      refine V_imul X dX12_keeps_70 ?_
      refine V_iload_n X (i := 1) 1 dX12_keeps_71 rfl rfl ?_
      refine V_iadd X dX12_keeps_72 ?_
      refine V_aload_n X (i := 0) 0 dX12_keeps_73 rfl rfl ?_
      refine G_12_107 X hZ dX12_keeps_74 ?_
      refine V_iload_n X (i := 1) 1 dX12_keeps_77 rfl rfl ?_
      obtain ⟨g4, h⟩ := h
      refine V_iald_m X (rfl : SLq 180 = 260) (hzk hZ (by decide)) (rfl : SK 180 = 14) g4 dX12_keeps_78 ?_
      obtain ⟨g5, h⟩ := h
      obtain ⟨w6, ew6⟩ : ∃ y : Mem, y = st w 183 (ix (((260 : Int32) * (w 150 64)) + l1)) (w 180 (ix l1)) := ⟨_, rfl⟩
      have h := h w6 ew6
      refine V_iast_m X (rfl : SLq 183 = 10400) (hzk hZ (by decide)) (rfl : SK 183 = 14) g5 dX12_keeps_79 ew6 ?_
      obtain ⟨x7, ex7⟩ : ∃ y : Int32, y = l1 + (1 : Int32) := ⟨_, rfl⟩
      have h := h x7 ex7
      refine V_iinc X 1 dX12_keeps_80 rfl (by decide) (by rw [ex7]; rfl) (ls1 := [(1, .int x7), (0, .ref (ad 150))]) rfl ?_
      refine V_goto X (tgt := 52) dX12_keeps_83 (by decide) ?_
      refine V_sub X (ls1 := [(0, .ref (ad 150)), (1, .int x7)]) [1, 0] rfl ?_
      exact ih _ _ _ h
set_option maxRecDepth 20000 in
theorem v_12_keeps_b50 (X : CXq p s m args meth c cX12_keeps 2 yX12_keeps.cls ad cy D (AW ad) s.heap) (hr : meth.sig.returnType = none) (hZ : ad 1000 = 189) {Q : Mem → MemL → Prop} : ∀ (w : Mem) (wl : MemL), wp_12_keeps_b50 Q w wl → V p l e (RM 1) s m args below meth c 2 ad cy D (AW ad) s.heap 0 0 (MQ below (va_Qv (fun (u : Mem × MemL) => Q u.1 u.2) (BM ad cy D wc) (AW ad)) args s 0 0 (AW ad)) wc w wl 50 [(0, .ref (ad 150))] [] := by
  intro w wl h
  unfold wp_12_keeps_b50 at h
  refine V_iconst X (v := (0 : Int32)) dX12_keeps_50 (by decide) ?_
  refine V_istore_n X dX12_keeps_51 rfl (by decide) rfl (ls1 := [(1, .int (0 : Int32)), (0, .ref (ad 150))]) rfl ?_
  refine V_sub X (ls1 := [(0, .ref (ad 150)), (1, .int (0 : Int32))]) [1, 0] rfl ?_
  obtain ⟨nn, h⟩ := h
  exact v_12_keeps_b52 X hr hZ nn _ _ _ h
set_option maxRecDepth 20000 in
theorem v_12_keeps_b11 (X : CXq p s m args meth c cX12_keeps 2 yX12_keeps.cls ad cy D (AW ad) s.heap) (hr : meth.sig.returnType = none) (hZ : ad 1000 = 189) {Q : Mem → MemL → Prop} : ∀ (n : Nat) (l1 : Int32) (w : Mem) (wl : MemL), wp_12_keeps_b11 Q n l1 w wl → V p l e (RM 1) s m args below meth c 2 ad cy D (AW ad) s.heap 0 0 (MQ below (va_Qv (fun (u : Mem × MemL) => Q u.1 u.2) (BM ad cy D wc) (AW ad)) args s 0 0 (AW ad)) wc w wl 11 [(0, .ref (ad 150)), (1, .int l1)] [] := by
  intro n
  induction n with
  | zero =>
    intro l1 w wl h
    exact h.elim
  | succ n ih =>
    intro l1 w wl h
    unfold wp_12_keeps_b11 at h
    refine V_iload_n X (i := 1) 1 dX12_keeps_11 rfl rfl ?_
    refine V_sipush X (v := (10140 : Int32)) dX12_keeps_12 (by decide) ?_
    obtain ⟨ht, hf⟩ := h
    refine V_icmp_ge X (tgt := 40) dX12_keeps_15 (by decide) (fun c => ?_) (fun c => ?_)
    · have h := ht c
      refine V_aload_n X (i := 0) 0 dX12_keeps_40 rfl rfl ?_
      refine V_dup X dX12_keeps_41 rfl ?_
      refine G_12_236 X hZ dX12_keeps_42 ?_
      refine V_iconst X (v := (1 : Int32)) dX12_keeps_45 (by decide) ?_
      refine V_isub X dX12_keeps_46 ?_
      obtain ⟨w1, ew1⟩ : ∃ y : Mem, y = st w 150 64 ((w 150 64) - (1 : Int32)) := ⟨_, rfl⟩
      have h := h w1 ew1
      refine U_12_236 X hZ rfl rfl dX12_keeps_47 ew1 ?_
      refine V_sub X (ls1 := [(0, .ref (ad 150))]) [0] rfl ?_
      exact v_12_keeps_b50 X hr hZ _ _ h
    · have h := hf c
      refine V_aload_n X (i := 0) 0 dX12_keeps_18 rfl rfl ?_
      refine G_12_119 X hZ dX12_keeps_19 ?_
      refine V_iload_n X (i := 1) 1 dX12_keeps_22 rfl rfl ?_
      refine V_aload_n X (i := 0) 0 dX12_keeps_23 rfl rfl ?_
      refine G_12_119 X hZ dX12_keeps_24 ?_
      refine V_iload_n X (i := 1) 1 dX12_keeps_27 rfl rfl ?_
      refine V_sipush X (v := (260 : Int32)) dX12_keeps_28 (by decide) ?_
      refine V_iadd X dX12_keeps_31 ?_
      obtain ⟨g2, h⟩ := h
      refine V_iald_m X (rfl : SLq 183 = 10400) (hzk hZ (by decide)) (rfl : SK 183 = 14) g2 dX12_keeps_32 ?_
      obtain ⟨g3, h⟩ := h
      obtain ⟨w4, ew4⟩ : ∃ y : Mem, y = st w 183 (ix l1) (w 183 (ix (l1 + (260 : Int32)))) := ⟨_, rfl⟩
      have h := h w4 ew4
      refine V_iast_m X (rfl : SLq 183 = 10400) (hzk hZ (by decide)) (rfl : SK 183 = 14) g3 dX12_keeps_33 ew4 ?_
      obtain ⟨x5, ex5⟩ : ∃ y : Int32, y = l1 + (1 : Int32) := ⟨_, rfl⟩
      have h := h x5 ex5
      refine V_iinc X 1 dX12_keeps_34 rfl (by decide) (by rw [ex5]; rfl) (ls1 := [(1, .int x5), (0, .ref (ad 150))]) rfl ?_
      refine V_goto X (tgt := 11) dX12_keeps_37 (by decide) ?_
      refine V_sub X (ls1 := [(0, .ref (ad 150)), (1, .int x5)]) [1, 0] rfl ?_
      exact ih _ _ _ h
set_option maxRecDepth 20000 in
theorem v_12_keeps (X : CXq p s m args meth c cX12_keeps 2 yX12_keeps.cls ad cy D (AW ad) s.heap) (hr : meth.sig.returnType = none) (hZ : ad 1000 = 189) {w : Mem} {wl : MemL} {Q : Mem → MemL → Prop} (h : wp_12_keeps w wl Q) : V p l e (RM 1) s m args below meth c 2 ad cy D (AW ad) s.heap 0 0 (MQ below (va_Qv (fun (u : Mem × MemL) => Q u.1 u.2) (BM ad cy D wc) (AW ad)) args s 0 0 (AW ad)) wc w wl 0 [(0, .ref (ad 150))] [] := by
  unfold wp_12_keeps at h
  refine V_aload_n X (i := 0) 0 dX12_keeps_0 rfl rfl ?_
  refine G_12_236 X hZ dX12_keeps_1 ?_
  refine V_bipush X (v := (40 : Int32)) dX12_keeps_4 (by decide) ?_
  obtain ⟨ht, hf⟩ := h
  refine V_icmp_ne X (tgt := 50) dX12_keeps_6 (by decide) (fun c => ?_) (fun c => ?_)
  · have h := ht c
    refine V_sub X (ls1 := [(0, .ref (ad 150))]) [0] rfl ?_
    exact v_12_keeps_b50 X hr hZ _ _ h
  · have h := hf c
    refine V_iconst X (v := (0 : Int32)) dX12_keeps_9 (by decide) ?_
    refine V_istore_n X dX12_keeps_10 rfl (by decide) rfl (ls1 := [(1, .int (0 : Int32)), (0, .ref (ad 150))]) rfl ?_
    refine V_sub X (ls1 := [(0, .ref (ad 150)), (1, .int (0 : Int32))]) [1, 0] rfl ?_
    obtain ⟨nn, h⟩ := h
    exact v_12_keeps_b11 X hr hZ nn _ _ _ h
theorem c_12_keeps (hinj : INJ ad) (hZ : ad 1000 = 189) {w : Mem} {wl : MemL} {Q : Mem → MemL → Prop} (h : wp_12_keeps w wl Q) : Met l yX12_keeps (TBq yX12_keeps cX12_keeps 2 none) (RM 1) (va_Pc [.ref (ad 150)] (PB ad cy D (cmb wc w) wl)) (va_Qv (fun (u : Mem × MemL) => Q u.1 u.2) (BM ad cy D wc) (AW ad)) 0 0 (AW ad) := M_enter (by decide) (Nat.le_of_ble_eq_true rfl) hinj (fun p e s m args below meth c X hr => v_12_keeps X hr hZ h)
theorem mf_12_keeps : MFV yX12_keeps cX12_keeps 2 none yX12_keeps.cls 0 := ⟨q_1687, q_1686, qs_88, q_14, by decide⟩
theorem K_12_keeps {own : String} {idx : Nat} (X : CXq p s m args meth c cc nL own ad cy D A H0) (hL : LK own idx yX12_keeps) (hZ : ad 1000 = 189) {w : Mem} {wl : MemL} {Q : Mem → MemL → Prop} (h : wp_12_keeps w wl Q) (hR : (RM 1).frames + 1 ≤ R.frames ∧ 8 + (2 + 11) + (RM 1).locals ≤ R.locals) (hce : ce ≤ R.cells ∧ sl ≤ R.slots) (hcat : (st1.map fun v => v.category).sum ≤ 8) (hd : decode cc pc = .ok (.invokevirtual idx, 3)) (kk : ∀ (u : Mem) (v : MemL), Q u v → V p l e R s m args below meth c nL ad cy D A H0 ce sl Qs wc u v (pc + 3) ls st1) : V p l e R s m args below meth c nL ad cy D A H0 ce sl Qs wc w wl pc ls (.ref (ad 150) :: st1) := V_callVV_m X mf_12_keeps hL (rfl : vwCl[12]? = some (RX12, TX12, 72)) (by decide) (rfl : SK 150 = 12) (hzk hZ (by decide)).2 (c_12_keeps X.2.2.2.2.2.2.2.1 hZ h) (As := []) rfl ⟨rfl, rfl⟩ hR hce st1 rfl hcat hd kk
set_option maxRecDepth 20000 in
theorem v_12_start_b40 (X : CXq p s m args meth c cX12_start 3 yX12_start.cls ad cy D (AW ad) s.heap) (hr : meth.sig.returnType = (some .int)) (hZ : ad 1000 = 189) {Q : Int32 → Mem → MemL → Prop} : ∀ (l2 : Int32) (w : Mem) (wl : MemL), wp_12_start_b40 Q l2 w wl → V p l e (RM 8) s m args below meth c 3 ad cy D (AW ad) s.heap 0 0 (MQ below (va_Qi (fun r (u : Mem × MemL) => Q r u.1 u.2) (BM ad cy D wc) (AW ad)) args s 0 0 (AW ad)) wc w wl 40 [(0, .ref (ad 150)), (2, .int l2)] [] := by
  intro l2 w wl h
  unfold wp_12_start_b40 at h
  refine V_iload_n X (i := 2) 1 dX12_start_40 rfl rfl ?_
  obtain ⟨ht, hf⟩ := h
  refine V_if_ne X (tgt := 46) dX12_start_41 (by decide) (fun c => ?_) (fun c => ?_)
  · have h := ht c
    refine V_aload_n X (i := 0) 0 dX12_start_46 rfl rfl ?_
    refine K_12_keeps X (Or.inl q_1684) hZ h ⟨Nat.le_of_ble_eq_true rfl, Nat.le_of_ble_eq_true rfl⟩ ⟨Nat.zero_le _, Nat.zero_le _⟩ (st1 := []) (Nat.le_of_ble_eq_true rfl) dX12_start_47 (fun w1 v2 h => ?_)
    refine V_iload_n X (i := 2) 1 dX12_start_50 rfl rfl ?_
    exact V_iret_m X hr dX12_start_51 h
  · have h := hf c
    refine V_iconst X (v := (-1 : Int32)) dX12_start_44 (by decide) ?_
    exact V_iret_m X hr dX12_start_45 h
set_option maxRecDepth 20000 in
theorem v_12_start_b18 (X : CXq p s m args meth c cX12_start 3 yX12_start.cls ad cy D (AW ad) s.heap) (hr : meth.sig.returnType = (some .int)) (hZ : ad 1000 = 189) {Q : Int32 → Mem → MemL → Prop} : ∀ (n : Nat) (l1 : Int32) (l2 : Int32) (w : Mem) (wl : MemL), wp_12_start_b18 Q n l1 l2 w wl → V p l e (RM 8) s m args below meth c 3 ad cy D (AW ad) s.heap 0 0 (MQ below (va_Qi (fun r (u : Mem × MemL) => Q r u.1 u.2) (BM ad cy D wc) (AW ad)) args s 0 0 (AW ad)) wc w wl 18 [(0, .ref (ad 150)), (1, .int l1), (2, .int l2)] [] := by
  intro n
  induction n with
  | zero =>
    intro l1 l2 w wl h
    exact h.elim
  | succ n ih =>
    intro l1 l2 w wl h
    unfold wp_12_start_b18 at h
    refine V_iload_n X (i := 2) 2 dX12_start_18 rfl rfl ?_
    refine V_iload_n X (i := 1) 1 dX12_start_19 rfl rfl ?_
    obtain ⟨ht, hf⟩ := h
    refine V_icmp_ge X (tgt := 40) dX12_start_20 (by decide) (fun c => ?_) (fun c => ?_)
    · have h := ht c
      refine V_sub X (ls1 := [(0, .ref (ad 150)), (2, .int l2)]) [0, 2] rfl ?_
      exact v_12_start_b40 X hr hZ _ _ _ h
    · have h := hf c
      refine V_aload_n X (i := 0) 0 dX12_start_23 rfl rfl ?_
      refine K_12_nextOne X (Or.inl q_1550) hZ h ⟨Nat.le_of_ble_eq_true rfl, Nat.le_of_ble_eq_true rfl⟩ ⟨Nat.zero_le _, Nat.zero_le _⟩ (st1 := []) (Nat.le_of_ble_eq_true rfl) dX12_start_24 (fun r2 w1 v3 h => ?_)
      obtain ⟨ht, hf⟩ := h
      refine V_if_lt X (tgt := 40) dX12_start_27 (by decide) (fun c => ?_) (fun c => ?_)
      · have h := ht c
        refine V_sub X (ls1 := [(0, .ref (ad 150)), (2, .int l2)]) [0, 2] rfl ?_
        exact v_12_start_b40 X hr hZ _ _ _ h
      · have h := hf c
        refine V_aload_n X (i := 0) 0 dX12_start_30 rfl rfl ?_
        refine K_12_starts X (Or.inl q_1649) hZ h ⟨Nat.le_of_ble_eq_true rfl, Nat.le_of_ble_eq_true rfl⟩ ⟨Nat.zero_le _, Nat.zero_le _⟩ (st1 := []) (Nat.le_of_ble_eq_true rfl) dX12_start_31 (fun w4 v5 h => ?_)
        obtain ⟨x6, ex6⟩ : ∃ y : Int32, y = l2 + (1 : Int32) := ⟨_, rfl⟩
        have h := h x6 ex6
        refine V_iinc X 2 dX12_start_34 rfl (by decide) (by rw [ex6]; rfl) (ls1 := [(2, .int x6), (0, .ref (ad 150)), (1, .int l1)]) rfl ?_
        refine V_goto X (tgt := 18) dX12_start_37 (by decide) ?_
        refine V_sub X (ls1 := [(0, .ref (ad 150)), (1, .int l1), (2, .int x6)]) [1, 2, 0] rfl ?_
        exact ih _ _ _ _ h
set_option maxRecDepth 20000 in
theorem v_12_start {a1 : Int32} (X : CXq p s m args meth c cX12_start 3 yX12_start.cls ad cy D (AW ad) s.heap) (hr : meth.sig.returnType = (some .int)) (hZ : ad 1000 = 189) {w : Mem} {wl : MemL} {Q : Int32 → Mem → MemL → Prop} (h : wp_12_start a1 w wl Q) : V p l e (RM 8) s m args below meth c 3 ad cy D (AW ad) s.heap 0 0 (MQ below (va_Qi (fun r (u : Mem × MemL) => Q r u.1 u.2) (BM ad cy D wc) (AW ad)) args s 0 0 (AW ad)) wc w wl 0 [(0, .ref (ad 150)), (1, .int a1)] [] := by
  unfold wp_12_start at h
  refine V_iload_n X (i := 1) 1 dX12_start_0 rfl rfl ?_
  refine V_iconst X (v := (1 : Int32)) dX12_start_1 (by decide) ?_
  refine V_bipush X (v := (16 : Int32)) dX12_start_2 (by decide) ?_
  refine K_12_in X (Or.inl q_1609) hZ h ⟨Nat.le_of_ble_eq_true rfl, Nat.le_of_ble_eq_true rfl⟩ ⟨Nat.zero_le _, Nat.zero_le _⟩ (st1 := []) (Nat.le_of_ble_eq_true rfl) dX12_start_4 (fun r2 w1 v3 h => ?_)
  obtain ⟨ht, hf⟩ := h
  refine V_if_ne X (tgt := 12) dX12_start_7 (by decide) (fun c => ?_) (fun c => ?_)
  · have h := ht c
    refine V_aload_n X (i := 0) 0 dX12_start_12 rfl rfl ?_
    refine K_12_copies X (Or.inl q_1546) hZ h ⟨Nat.le_of_ble_eq_true rfl, Nat.le_of_ble_eq_true rfl⟩ ⟨Nat.zero_le _, Nat.zero_le _⟩ (st1 := []) (Nat.le_of_ble_eq_true rfl) dX12_start_13 (fun w4 v5 h => ?_)
    refine V_iconst X (v := (0 : Int32)) dX12_start_16 (by decide) ?_
    refine V_istore_n X dX12_start_17 rfl (by decide) rfl (ls1 := [(2, .int (0 : Int32)), (0, .ref (ad 150)), (1, .int a1)]) rfl ?_
    refine V_sub X (ls1 := [(0, .ref (ad 150)), (1, .int a1), (2, .int (0 : Int32))]) [1, 2, 0] rfl ?_
    obtain ⟨nn, h⟩ := h
    exact v_12_start_b18 X hr hZ nn _ _ _ _ h
  · have h := hf c
    refine V_iconst X (v := (-1 : Int32)) dX12_start_10 (by decide) ?_
    exact V_iret_m X hr dX12_start_11 h
theorem c_12_start {a1 : Int32} (hinj : INJ ad) (hZ : ad 1000 = 189) {w : Mem} {wl : MemL} {Q : Int32 → Mem → MemL → Prop} (h : wp_12_start a1 w wl Q) : Met l yX12_start (TBq yX12_start cX12_start 3 (some .int)) (RM 8) (va_Pc [.ref (ad 150), .int a1] (PB ad cy D (cmb wc w) wl)) (va_Qi (fun r (u : Mem × MemL) => Q r u.1 u.2) (BM ad cy D wc) (AW ad)) 0 0 (AW ad) := M_enter (by decide) (Nat.le_of_ble_eq_true rfl) hinj (fun p e s m args below meth c X hr => v_12_start X hr hZ h)
theorem mf_12_start : MFV yX12_start cX12_start 3 (some .int) yX12_start.cls 1 := ⟨q_1648, q_1646, q_1647, q_14, by decide⟩
theorem K_12_start {own : String} {idx : Nat} {a1 : Int32} (X : CXq p s m args meth c cc nL own ad cy D A H0) (hL : LK own idx yX12_start) (hZ : ad 1000 = 189) {w : Mem} {wl : MemL} {Q : Int32 → Mem → MemL → Prop} (h : wp_12_start a1 w wl Q) (hR : (RM 8).frames + 1 ≤ R.frames ∧ 8 + (3 + 11) + (RM 8).locals ≤ R.locals) (hce : ce ≤ R.cells ∧ sl ≤ R.slots) (hcat : (st1.map fun v => v.category).sum ≤ 8) (hd : decode cc pc = .ok (.invokevirtual idx, 3)) (kk : ∀ (r : Int32) (u : Mem) (v : MemL), Q r u v → V p l e R s m args below meth c nL ad cy D A H0 ce sl Qs wc u v (pc + 3) ls (.int r :: st1)) : V p l e R s m args below meth c nL ad cy D A H0 ce sl Qs wc w wl pc ls (.int a1 :: .ref (ad 150) :: st1) := V_callVI_m X mf_12_start hL (rfl : vwCl[12]? = some (RX12, TX12, 72)) (by decide) (rfl : SK 150 = 12) (hzk hZ (by decide)).2 (c_12_start X.2.2.2.2.2.2.2.1 hZ h) (As := [.int a1]) rfl ⟨rfl, rfl⟩ hR hce st1 rfl hcat hd kk
set_option maxRecDepth 20000 in
theorem v_12_letGo {a1 : Int32} (X : CXq p s m args meth c cX12_letGo 3 yX12_letGo.cls ad cy D (AW ad) s.heap) (hr : meth.sig.returnType = (some .int)) (hZ : ad 1000 = 189) {w : Mem} {wl : MemL} {Q : Int32 → Mem → MemL → Prop} (h : wp_12_letGo a1 w wl Q) : V p l e (RM 7) s m args below meth c 3 ad cy D (AW ad) s.heap 0 0 (MQ below (va_Qi (fun r (u : Mem × MemL) => Q r u.1 u.2) (BM ad cy D wc) (AW ad)) args s 0 0 (AW ad)) wc w wl 0 [(0, .ref (ad 150)), (1, .int a1)] [] := by
  unfold wp_12_letGo at h
  refine V_iload_n X (i := 1) 1 dX12_letGo_0 rfl rfl ?_
  refine V_iconst X (v := (0 : Int32)) dX12_letGo_1 (by decide) ?_
  refine V_aload_n X (i := 0) 0 dX12_letGo_2 rfl rfl ?_
  refine V_bipush X (v := (10 : Int32)) dX12_letGo_3 (by decide) ?_
  refine K_12_tell0 X (Or.inl q_1203) hZ h ⟨Nat.le_of_ble_eq_true rfl, Nat.le_of_ble_eq_true rfl⟩ ⟨Nat.zero_le _, Nat.zero_le _⟩ (st1 := [.int (0 : Int32), .int a1]) (Nat.le_of_ble_eq_true rfl) dX12_letGo_5 (fun r2 w1 v3 h => ?_)
  refine K_12_in X (Or.inl q_1609) hZ h ⟨Nat.le_of_ble_eq_true rfl, Nat.le_of_ble_eq_true rfl⟩ ⟨Nat.zero_le _, Nat.zero_le _⟩ (st1 := []) (Nat.le_of_ble_eq_true rfl) dX12_letGo_8 (fun r5 w4 v6 h => ?_)
  obtain ⟨ht, hf⟩ := h
  refine V_if_ne X (tgt := 16) dX12_letGo_11 (by decide) (fun c => ?_) (fun c => ?_)
  · have h := ht c
    refine V_aload_n X (i := 0) 0 dX12_letGo_16 rfl rfl ?_
    refine K_12_copies X (Or.inl q_1546) hZ h ⟨Nat.le_of_ble_eq_true rfl, Nat.le_of_ble_eq_true rfl⟩ ⟨Nat.zero_le _, Nat.zero_le _⟩ (st1 := []) (Nat.le_of_ble_eq_true rfl) dX12_letGo_17 (fun w7 v8 h => ?_)
    refine V_aload_n X (i := 0) 0 dX12_letGo_20 rfl rfl ?_
    refine K_12_nextOne X (Or.inl q_1550) hZ h ⟨Nat.le_of_ble_eq_true rfl, Nat.le_of_ble_eq_true rfl⟩ ⟨Nat.zero_le _, Nat.zero_le _⟩ (st1 := []) (Nat.le_of_ble_eq_true rfl) dX12_letGo_21 (fun r10 w9 v11 h => ?_)
    refine V_istore_n X dX12_letGo_24 rfl (by decide) rfl (ls1 := [(2, .int r10), (0, .ref (ad 150)), (1, .int a1)]) rfl ?_
    refine V_iload_n X (i := 2) 0 dX12_letGo_25 rfl rfl ?_
    obtain ⟨ht, hf⟩ := h
    refine V_if_ge X (tgt := 31) dX12_letGo_26 (by decide) (fun c => ?_) (fun c => ?_)
    · have h := ht c
      refine V_aload_n X (i := 0) 1 dX12_letGo_31 rfl rfl ?_
      refine V_iload_n X (i := 2) 0 dX12_letGo_32 rfl rfl ?_
      refine V_aload_n X (i := 0) 1 dX12_letGo_33 rfl rfl ?_
      refine G_12_110 X hZ dX12_letGo_34 ?_
      refine V_iconst X (v := (0 : Int32)) dX12_letGo_37 (by decide) ?_
      refine V_iald_m X (rfl : SLq 181 = 260) (hzk hZ (by decide)) (rfl : SK 181 = 14) (vpl (by decide)) dX12_letGo_38 ?_
      refine V_iload_n X (i := 1) 2 dX12_letGo_39 rfl rfl ?_
      refine V_iadd X dX12_letGo_40 ?_
      refine K_12_letsGo X (Or.inl q_1659) hZ h ⟨Nat.le_of_ble_eq_true rfl, Nat.le_of_ble_eq_true rfl⟩ ⟨Nat.zero_le _, Nat.zero_le _⟩ (st1 := []) (Nat.le_of_ble_eq_true rfl) dX12_letGo_41 (fun w12 v13 h => ?_)
      refine V_aload_n X (i := 0) 1 dX12_letGo_44 rfl rfl ?_
      refine K_12_keeps X (Or.inl q_1684) hZ h ⟨Nat.le_of_ble_eq_true rfl, Nat.le_of_ble_eq_true rfl⟩ ⟨Nat.zero_le _, Nat.zero_le _⟩ (st1 := []) (Nat.le_of_ble_eq_true rfl) dX12_letGo_45 (fun w14 v15 h => ?_)
      refine V_aload_n X (i := 0) 1 dX12_letGo_48 rfl rfl ?_
      refine G_12_365 X hZ dX12_letGo_49 ?_
      exact V_iret_m X hr dX12_letGo_52 h
    · have h := hf c
      refine V_iconst X (v := (-1 : Int32)) dX12_letGo_29 (by decide) ?_
      exact V_iret_m X hr dX12_letGo_30 h
  · have h := hf c
    refine V_iconst X (v := (-1 : Int32)) dX12_letGo_14 (by decide) ?_
    exact V_iret_m X hr dX12_letGo_15 h
theorem c_12_letGo {a1 : Int32} (hinj : INJ ad) (hZ : ad 1000 = 189) {w : Mem} {wl : MemL} {Q : Int32 → Mem → MemL → Prop} (h : wp_12_letGo a1 w wl Q) : Met l yX12_letGo (TBq yX12_letGo cX12_letGo 3 (some .int)) (RM 7) (va_Pc [.ref (ad 150), .int a1] (PB ad cy D (cmb wc w) wl)) (va_Qi (fun r (u : Mem × MemL) => Q r u.1 u.2) (BM ad cy D wc) (AW ad)) 0 0 (AW ad) := M_enter (by decide) (Nat.le_of_ble_eq_true rfl) hinj (fun p e s m args below meth c X hr => v_12_letGo X hr hZ h)
theorem mf_12_letGo : MFV yX12_letGo cX12_letGo 3 (some .int) yX12_letGo.cls 1 := ⟨q_1691, q_1689, q_1690, q_14, by decide⟩
theorem K_12_letGo {own : String} {idx : Nat} {a1 : Int32} (X : CXq p s m args meth c cc nL own ad cy D A H0) (hL : LK own idx yX12_letGo) (hZ : ad 1000 = 189) {w : Mem} {wl : MemL} {Q : Int32 → Mem → MemL → Prop} (h : wp_12_letGo a1 w wl Q) (hR : (RM 7).frames + 1 ≤ R.frames ∧ 8 + (3 + 11) + (RM 7).locals ≤ R.locals) (hce : ce ≤ R.cells ∧ sl ≤ R.slots) (hcat : (st1.map fun v => v.category).sum ≤ 8) (hd : decode cc pc = .ok (.invokevirtual idx, 3)) (kk : ∀ (r : Int32) (u : Mem) (v : MemL), Q r u v → V p l e R s m args below meth c nL ad cy D A H0 ce sl Qs wc u v (pc + 3) ls (.int r :: st1)) : V p l e R s m args below meth c nL ad cy D A H0 ce sl Qs wc w wl pc ls (.int a1 :: .ref (ad 150) :: st1) := V_callVI_m X mf_12_letGo hL (rfl : vwCl[12]? = some (RX12, TX12, 72)) (by decide) (rfl : SK 150 = 12) (hzk hZ (by decide)).2 (c_12_letGo X.2.2.2.2.2.2.2.1 hZ h) (As := [.int a1]) rfl ⟨rfl, rfl⟩ hR hce st1 rfl hcat hd kk
set_option maxRecDepth 20000 in
theorem v_12_gate {a1 : Int32} (X : CXq p s m args meth c cX12_gate 2 yX12_gate.cls ad cy D (AW ad) s.heap) (hr : meth.sig.returnType = (some .boolean)) (hZ : ad 1000 = 189) {w : Mem} {wl : MemL} {Q : Int32 → Mem → MemL → Prop} (h : wp_12_gate a1 w wl Q) : V p l e (RM 3) s m args below meth c 2 ad cy D (AW ad) s.heap 0 0 (MQ below (va_Qi (fun r (u : Mem × MemL) => Q r u.1 u.2) (BM ad cy D wc) (AW ad)) args s 0 0 (AW ad)) wc w wl 0 [(0, .ref (ad 150)), (1, .int a1)] [] := by
  unfold wp_12_gate at h
  refine V_iload_n X (i := 1) 1 dX12_gate_0 rfl rfl ?_
  refine V_iconst X (v := (0 : Int32)) dX12_gate_1 (by decide) ?_
  refine V_bipush X (v := (40 : Int32)) dX12_gate_2 (by decide) ?_
  refine K_12_in X (Or.inl q_1609) hZ h ⟨Nat.le_of_ble_eq_true rfl, Nat.le_of_ble_eq_true rfl⟩ ⟨Nat.zero_le _, Nat.zero_le _⟩ (st1 := []) (Nat.le_of_ble_eq_true rfl) dX12_gate_4 (fun r2 w1 v3 h => ?_)
  obtain ⟨ht, hf⟩ := h
  refine V_if_eq X (tgt := 20) dX12_gate_7 (by decide) (fun c => ?_) (fun c => ?_)
  · have h := ht c
    refine V_iconst X (v := (0 : Int32)) dX12_gate_20 (by decide) ?_
    exact V_zret_m X hr dX12_gate_21 rfl h
  · have h := hf c
    refine V_aload_n X (i := 0) 0 dX12_gate_10 rfl rfl ?_
    refine G_12_107 X hZ dX12_gate_11 ?_
    refine V_iconst X (v := (2 : Int32)) dX12_gate_14 (by decide) ?_
    refine V_iald_m X (rfl : SLq 180 = 260) (hzk hZ (by decide)) (rfl : SK 180 = 14) (vpl (by decide)) dX12_gate_15 ?_
    refine V_iload_n X (i := 1) 1 dX12_gate_16 rfl rfl ?_
    obtain ⟨ht, hf⟩ := h
    refine V_icmp_ne X (tgt := 22) dX12_gate_17 (by decide) (fun c => ?_) (fun c => ?_)
    · have h := ht c
      refine V_aload_n X (i := 0) 0 dX12_gate_22 rfl rfl ?_
      refine K_12_copies X (Or.inl q_1546) hZ h ⟨Nat.le_of_ble_eq_true rfl, Nat.le_of_ble_eq_true rfl⟩ ⟨Nat.zero_le _, Nat.zero_le _⟩ (st1 := []) (Nat.le_of_ble_eq_true rfl) dX12_gate_23 (fun w4 v5 h => ?_)
      refine V_aload_n X (i := 0) 0 dX12_gate_26 rfl rfl ?_
      refine G_12_110 X hZ dX12_gate_27 ?_
      refine V_iconst X (v := (2 : Int32)) dX12_gate_30 (by decide) ?_
      refine V_iload_n X (i := 1) 1 dX12_gate_31 rfl rfl ?_
      obtain ⟨w6, ew6⟩ : ∃ y : Mem, y = st w4 181 (ix (2 : Int32)) a1 := ⟨_, rfl⟩
      have h := h w6 ew6
      refine V_iast_m X (rfl : SLq 181 = 260) (hzk hZ (by decide)) (rfl : SK 181 = 14) (vpl (by decide)) dX12_gate_32 ew6 ?_
      refine V_aload_n X (i := 0) 0 dX12_gate_33 rfl rfl ?_
      refine K_12_keeps X (Or.inl q_1684) hZ h ⟨Nat.le_of_ble_eq_true rfl, Nat.le_of_ble_eq_true rfl⟩ ⟨Nat.zero_le _, Nat.zero_le _⟩ (st1 := []) (Nat.le_of_ble_eq_true rfl) dX12_gate_34 (fun w7 v8 h => ?_)
      refine V_iconst X (v := (1 : Int32)) dX12_gate_37 (by decide) ?_
      exact V_zret_m X hr dX12_gate_38 rfl h
    · have h := hf c
      refine V_iconst X (v := (0 : Int32)) dX12_gate_20 (by decide) ?_
      exact V_zret_m X hr dX12_gate_21 rfl h
theorem c_12_gate {a1 : Int32} (hinj : INJ ad) (hZ : ad 1000 = 189) {w : Mem} {wl : MemL} {Q : Int32 → Mem → MemL → Prop} (h : wp_12_gate a1 w wl Q) : Met l yX12_gate (TBq yX12_gate cX12_gate 2 (some .boolean)) (RM 3) (va_Pc [.ref (ad 150), .int a1] (PB ad cy D (cmb wc w) wl)) (va_Qi (fun r (u : Mem × MemL) => Q r u.1 u.2) (BM ad cy D wc) (AW ad)) 0 0 (AW ad) := M_enter (by decide) (Nat.le_of_ble_eq_true rfl) hinj (fun p e s m args below meth c X hr => v_12_gate X hr hZ h)
theorem mf_12_gate : MFV yX12_gate cX12_gate 2 (some .boolean) yX12_gate.cls 1 := ⟨q_1695, q_1693, q_1694, q_14, by decide⟩
theorem K_12_gate {own : String} {idx : Nat} {a1 : Int32} (X : CXq p s m args meth c cc nL own ad cy D A H0) (hL : LK own idx yX12_gate) (hZ : ad 1000 = 189) {w : Mem} {wl : MemL} {Q : Int32 → Mem → MemL → Prop} (h : wp_12_gate a1 w wl Q) (hR : (RM 3).frames + 1 ≤ R.frames ∧ 8 + (2 + 11) + (RM 3).locals ≤ R.locals) (hce : ce ≤ R.cells ∧ sl ≤ R.slots) (hcat : (st1.map fun v => v.category).sum ≤ 8) (hd : decode cc pc = .ok (.invokevirtual idx, 3)) (kk : ∀ (r : Int32) (u : Mem) (v : MemL), Q r u v → V p l e R s m args below meth c nL ad cy D A H0 ce sl Qs wc u v (pc + 3) ls (.int r :: st1)) : V p l e R s m args below meth c nL ad cy D A H0 ce sl Qs wc w wl pc ls (.int a1 :: .ref (ad 150) :: st1) := V_callVI_m X mf_12_gate hL (rfl : vwCl[12]? = some (RX12, TX12, 72)) (by decide) (rfl : SK 150 = 12) (hzk hZ (by decide)).2 (c_12_gate X.2.2.2.2.2.2.2.1 hZ h) (As := [.int a1]) rfl ⟨rfl, rfl⟩ hR hce st1 rfl hcat hd kk
set_option maxRecDepth 20000 in
theorem v_12_pause {a1 : Int32} (X : CXq p s m args meth c cX12_pause 2 yX12_pause.cls ad cy D (AW ad) s.heap) (hr : meth.sig.returnType = (some .int)) (hZ : ad 1000 = 189) {w : Mem} {wl : MemL} {Q : Int32 → Mem → MemL → Prop} (h : wp_12_pause a1 w wl Q) : V p l e (RM 3) s m args below meth c 2 ad cy D (AW ad) s.heap 0 0 (MQ below (va_Qi (fun r (u : Mem × MemL) => Q r u.1 u.2) (BM ad cy D wc) (AW ad)) args s 0 0 (AW ad)) wc w wl 0 [(0, .ref (ad 150)), (1, .int a1)] [] := by
  unfold wp_12_pause at h
  refine V_iload_n X (i := 1) 1 dX12_pause_0 rfl rfl ?_
  refine V_iconst X (v := (1 : Int32)) dX12_pause_1 (by decide) ?_
  refine V_sipush X (v := (999 : Int32)) dX12_pause_2 (by decide) ?_
  refine K_12_in X (Or.inl q_1609) hZ h ⟨Nat.le_of_ble_eq_true rfl, Nat.le_of_ble_eq_true rfl⟩ ⟨Nat.zero_le _, Nat.zero_le _⟩ (st1 := []) (Nat.le_of_ble_eq_true rfl) dX12_pause_5 (fun r2 w1 v3 h => ?_)
  obtain ⟨ht, hf⟩ := h
  refine V_if_ne X (tgt := 13) dX12_pause_8 (by decide) (fun c => ?_) (fun c => ?_)
  · have h := ht c
    refine V_aload_n X (i := 0) 0 dX12_pause_13 rfl rfl ?_
    refine K_12_copies X (Or.inl q_1546) hZ h ⟨Nat.le_of_ble_eq_true rfl, Nat.le_of_ble_eq_true rfl⟩ ⟨Nat.zero_le _, Nat.zero_le _⟩ (st1 := []) (Nat.le_of_ble_eq_true rfl) dX12_pause_14 (fun w4 v5 h => ?_)
    refine V_aload_n X (i := 0) 0 dX12_pause_17 rfl rfl ?_
    refine G_12_110 X hZ dX12_pause_18 ?_
    refine V_iconst X (v := (0 : Int32)) dX12_pause_21 (by decide) ?_
    refine V_dup2 X dX12_pause_22 rfl rfl ?_
    refine V_iald_m X (rfl : SLq 181 = 260) (hzk hZ (by decide)) (rfl : SK 181 = 14) (vpl (by decide)) dX12_pause_23 ?_
    refine V_iload_n X (i := 1) 1 dX12_pause_24 rfl rfl ?_
    refine V_iadd X dX12_pause_25 ?_
    obtain ⟨w6, ew6⟩ : ∃ y : Mem, y = st w4 181 (ix (0 : Int32)) ((w4 181 (ix (0 : Int32))) + a1) := ⟨_, rfl⟩
    have h := h w6 ew6
    refine V_iast_m X (rfl : SLq 181 = 260) (hzk hZ (by decide)) (rfl : SK 181 = 14) (vpl (by decide)) dX12_pause_26 ew6 ?_
    refine V_aload_n X (i := 0) 0 dX12_pause_27 rfl rfl ?_
    refine K_12_keeps X (Or.inl q_1684) hZ h ⟨Nat.le_of_ble_eq_true rfl, Nat.le_of_ble_eq_true rfl⟩ ⟨Nat.zero_le _, Nat.zero_le _⟩ (st1 := []) (Nat.le_of_ble_eq_true rfl) dX12_pause_28 (fun w7 v8 h => ?_)
    refine V_aload_n X (i := 0) 0 dX12_pause_31 rfl rfl ?_
    refine G_12_107 X hZ dX12_pause_32 ?_
    refine V_iconst X (v := (0 : Int32)) dX12_pause_35 (by decide) ?_
    refine V_iald_m X (rfl : SLq 180 = 260) (hzk hZ (by decide)) (rfl : SK 180 = 14) (vpl (by decide)) dX12_pause_36 ?_
    exact V_iret_m X hr dX12_pause_37 h
  · have h := hf c
    refine V_iconst X (v := (-1 : Int32)) dX12_pause_11 (by decide) ?_
    exact V_iret_m X hr dX12_pause_12 h
theorem c_12_pause {a1 : Int32} (hinj : INJ ad) (hZ : ad 1000 = 189) {w : Mem} {wl : MemL} {Q : Int32 → Mem → MemL → Prop} (h : wp_12_pause a1 w wl Q) : Met l yX12_pause (TBq yX12_pause cX12_pause 2 (some .int)) (RM 3) (va_Pc [.ref (ad 150), .int a1] (PB ad cy D (cmb wc w) wl)) (va_Qi (fun r (u : Mem × MemL) => Q r u.1 u.2) (BM ad cy D wc) (AW ad)) 0 0 (AW ad) := M_enter (by decide) (Nat.le_of_ble_eq_true rfl) hinj (fun p e s m args below meth c X hr => v_12_pause X hr hZ h)
theorem mf_12_pause : MFV yX12_pause cX12_pause 2 (some .int) yX12_pause.cls 1 := ⟨q_1699, q_1697, q_1698, q_14, by decide⟩
theorem K_12_pause {own : String} {idx : Nat} {a1 : Int32} (X : CXq p s m args meth c cc nL own ad cy D A H0) (hL : LK own idx yX12_pause) (hZ : ad 1000 = 189) {w : Mem} {wl : MemL} {Q : Int32 → Mem → MemL → Prop} (h : wp_12_pause a1 w wl Q) (hR : (RM 3).frames + 1 ≤ R.frames ∧ 8 + (2 + 11) + (RM 3).locals ≤ R.locals) (hce : ce ≤ R.cells ∧ sl ≤ R.slots) (hcat : (st1.map fun v => v.category).sum ≤ 8) (hd : decode cc pc = .ok (.invokevirtual idx, 3)) (kk : ∀ (r : Int32) (u : Mem) (v : MemL), Q r u v → V p l e R s m args below meth c nL ad cy D A H0 ce sl Qs wc u v (pc + 3) ls (.int r :: st1)) : V p l e R s m args below meth c nL ad cy D A H0 ce sl Qs wc w wl pc ls (.int a1 :: .ref (ad 150) :: st1) := V_callVI_m X mf_12_pause hL (rfl : vwCl[12]? = some (RX12, TX12, 72)) (by decide) (rfl : SK 150 = 12) (hzk hZ (by decide)).2 (c_12_pause X.2.2.2.2.2.2.2.1 hZ h) (As := [.int a1]) rfl ⟨rfl, rfl⟩ hR hce st1 rfl hcat hd kk
set_option maxRecDepth 20000 in
theorem v_12_undo_b21 (X : CXq p s m args meth c cX12_undo 2 yX12_undo.cls ad cy D (AW ad) s.heap) (hr : meth.sig.returnType = (some .boolean)) (hZ : ad 1000 = 189) {Q : Int32 → Mem → MemL → Prop} : ∀ (n : Nat) (l1 : Int32) (w : Mem) (wl : MemL), wp_12_undo_b21 Q n l1 w wl → V p l e (RM 0) s m args below meth c 2 ad cy D (AW ad) s.heap 0 0 (MQ below (va_Qi (fun r (u : Mem × MemL) => Q r u.1 u.2) (BM ad cy D wc) (AW ad)) args s 0 0 (AW ad)) wc w wl 21 [(0, .ref (ad 150)), (1, .int l1)] [] := by
  intro n
  induction n with
  | zero =>
    intro l1 w wl h
    exact h.elim
  | succ n ih =>
    intro l1 w wl h
    unfold wp_12_undo_b21 at h
    refine V_iload_n X (i := 1) 1 dX12_undo_21 rfl rfl ?_
    refine V_sipush X (v := (260 : Int32)) dX12_undo_22 (by decide) ?_
    obtain ⟨ht, hf⟩ := h
    refine V_icmp_ge X (tgt := 55) dX12_undo_25 (by decide) (fun c => ?_) (fun c => ?_)
    · have h := ht c
      refine V_iconst X (v := (1 : Int32)) dX12_undo_55 (by decide) ?_
      exact V_zret_m X hr dX12_undo_56 rfl h
    · have h := hf c
      refine V_aload_n X (i := 0) 0 dX12_undo_28 rfl rfl ?_
      refine G_12_107 X hZ dX12_undo_29 ?_
      refine V_iload_n X (i := 1) 1 dX12_undo_32 rfl rfl ?_
      refine V_aload_n X (i := 0) 0 dX12_undo_33 rfl rfl ?_
      refine G_12_119 X hZ dX12_undo_34 ?_
      refine V_sipush X (v := (260 : Int32)) dX12_undo_37 (by decide) ?_
      refine V_aload_n X (i := 0) 0 dX12_undo_40 rfl rfl ?_
      refine G_12_236 X hZ dX12_undo_41 ?_
      refine V_imul X dX12_undo_44 ?_
      refine V_iload_n X (i := 1) 1 dX12_undo_45 rfl rfl ?_
      refine V_iadd X dX12_undo_46 ?_
      obtain ⟨g1, h⟩ := h
      refine V_iald_m X (rfl : SLq 183 = 10400) (hzk hZ (by decide)) (rfl : SK 183 = 14) g1 dX12_undo_47 ?_
      obtain ⟨g2, h⟩ := h
      obtain ⟨w3, ew3⟩ : ∃ y : Mem, y = st w 180 (ix l1) (w 183 (ix (((260 : Int32) * (w 150 64)) + l1))) := ⟨_, rfl⟩
      have h := h w3 ew3
      refine V_iast_m X (rfl : SLq 180 = 260) (hzk hZ (by decide)) (rfl : SK 180 = 14) g2 dX12_undo_48 ew3 ?_
      obtain ⟨x4, ex4⟩ : ∃ y : Int32, y = l1 + (1 : Int32) := ⟨_, rfl⟩
      have h := h x4 ex4
      refine V_iinc X 1 dX12_undo_49 rfl (by decide) (by rw [ex4]; rfl) (ls1 := [(1, .int x4), (0, .ref (ad 150))]) rfl ?_
      refine V_goto X (tgt := 21) dX12_undo_52 (by decide) ?_
      refine V_sub X (ls1 := [(0, .ref (ad 150)), (1, .int x4)]) [1, 0] rfl ?_
      exact ih _ _ _ h
set_option maxRecDepth 20000 in
theorem v_12_undo (X : CXq p s m args meth c cX12_undo 2 yX12_undo.cls ad cy D (AW ad) s.heap) (hr : meth.sig.returnType = (some .boolean)) (hZ : ad 1000 = 189) {w : Mem} {wl : MemL} {Q : Int32 → Mem → MemL → Prop} (h : wp_12_undo w wl Q) : V p l e (RM 0) s m args below meth c 2 ad cy D (AW ad) s.heap 0 0 (MQ below (va_Qi (fun r (u : Mem × MemL) => Q r u.1 u.2) (BM ad cy D wc) (AW ad)) args s 0 0 (AW ad)) wc w wl 0 [(0, .ref (ad 150))] [] := by
  unfold wp_12_undo at h
  refine V_aload_n X (i := 0) 0 dX12_undo_0 rfl rfl ?_
  refine G_12_236 X hZ dX12_undo_1 ?_
  obtain ⟨ht, hf⟩ := h
  refine V_if_ne X (tgt := 9) dX12_undo_4 (by decide) (fun c => ?_) (fun c => ?_)
  · have h := ht c
    refine V_aload_n X (i := 0) 0 dX12_undo_9 rfl rfl ?_
    refine V_dup X dX12_undo_10 rfl ?_
    refine G_12_236 X hZ dX12_undo_11 ?_
    refine V_iconst X (v := (1 : Int32)) dX12_undo_14 (by decide) ?_
    refine V_isub X dX12_undo_15 ?_
    obtain ⟨w1, ew1⟩ : ∃ y : Mem, y = st w 150 64 ((w 150 64) - (1 : Int32)) := ⟨_, rfl⟩
    have h := h w1 ew1
    refine U_12_236 X hZ rfl rfl dX12_undo_16 ew1 ?_
    refine V_iconst X (v := (0 : Int32)) dX12_undo_19 (by decide) ?_
    refine V_istore_n X dX12_undo_20 rfl (by decide) rfl (ls1 := [(1, .int (0 : Int32)), (0, .ref (ad 150))]) rfl ?_
    refine V_sub X (ls1 := [(0, .ref (ad 150)), (1, .int (0 : Int32))]) [1, 0] rfl ?_
    obtain ⟨nn, h⟩ := h
    exact v_12_undo_b21 X hr hZ nn _ _ _ h
  · have h := hf c
    refine V_iconst X (v := (0 : Int32)) dX12_undo_7 (by decide) ?_
    exact V_zret_m X hr dX12_undo_8 rfl h
theorem c_12_undo (hinj : INJ ad) (hZ : ad 1000 = 189) {w : Mem} {wl : MemL} {Q : Int32 → Mem → MemL → Prop} (h : wp_12_undo w wl Q) : Met l yX12_undo (TBq yX12_undo cX12_undo 2 (some .boolean)) (RM 0) (va_Pc [.ref (ad 150)] (PB ad cy D (cmb wc w) wl)) (va_Qi (fun r (u : Mem × MemL) => Q r u.1 u.2) (BM ad cy D wc) (AW ad)) 0 0 (AW ad) := M_enter (by decide) (Nat.le_of_ble_eq_true rfl) hinj (fun p e s m args below meth c X hr => v_12_undo X hr hZ h)
theorem mf_12_undo : MFV yX12_undo cX12_undo 2 (some .boolean) yX12_undo.cls 0 := ⟨q_1703, q_1701, q_1702, q_14, by decide⟩
theorem K_12_undo {own : String} {idx : Nat} (X : CXq p s m args meth c cc nL own ad cy D A H0) (hL : LK own idx yX12_undo) (hZ : ad 1000 = 189) {w : Mem} {wl : MemL} {Q : Int32 → Mem → MemL → Prop} (h : wp_12_undo w wl Q) (hR : (RM 0).frames + 1 ≤ R.frames ∧ 8 + (2 + 11) + (RM 0).locals ≤ R.locals) (hce : ce ≤ R.cells ∧ sl ≤ R.slots) (hcat : (st1.map fun v => v.category).sum ≤ 8) (hd : decode cc pc = .ok (.invokevirtual idx, 3)) (kk : ∀ (r : Int32) (u : Mem) (v : MemL), Q r u v → V p l e R s m args below meth c nL ad cy D A H0 ce sl Qs wc u v (pc + 3) ls (.int r :: st1)) : V p l e R s m args below meth c nL ad cy D A H0 ce sl Qs wc w wl pc ls (.ref (ad 150) :: st1) := V_callVI_m X mf_12_undo hL (rfl : vwCl[12]? = some (RX12, TX12, 72)) (by decide) (rfl : SK 150 = 12) (hzk hZ (by decide)).2 (c_12_undo X.2.2.2.2.2.2.2.1 hZ h) (As := []) rfl ⟨rfl, rfl⟩ hR hce st1 rfl hcat hd kk
set_option maxRecDepth 20000 in
theorem v_12_tries {a1 : Int32} {a2 : Int32} {a3 : Int32} (X : CXq p s m args meth c cX12_tries 4 yX12_tries.cls ad cy D (AW ad) s.heap) (hr : meth.sig.returnType = none) (hZ : ad 1000 = 189) {w : Mem} {wl : MemL} {Q : Mem → MemL → Prop} (h : wp_12_tries a1 a2 a3 w wl Q) : V p l e (RM 6) s m args below meth c 4 ad cy D (AW ad) s.heap 0 0 (MQ below (va_Qv (fun (u : Mem × MemL) => Q u.1 u.2) (BM ad cy D wc) (AW ad)) args s 0 0 (AW ad)) wc w wl 0 [(0, .ref (ad 150)), (1, .int a1), (2, .int a2), (3, .int a3)] [] := by
  unfold wp_12_tries at h
  refine V_aload_n X (i := 0) 0 dX12_tries_0 rfl rfl ?_
  refine K_12_copies X (Or.inl q_1546) hZ h ⟨Nat.le_of_ble_eq_true rfl, Nat.le_of_ble_eq_true rfl⟩ ⟨Nat.zero_le _, Nat.zero_le _⟩ (st1 := []) (Nat.le_of_ble_eq_true rfl) dX12_tries_1 (fun w1 v2 h => ?_)
  refine V_aload_n X (i := 0) 0 dX12_tries_4 rfl rfl ?_
  refine V_iload_n X (i := 1) 1 dX12_tries_5 rfl rfl ?_
  refine V_aload_n X (i := 0) 0 dX12_tries_6 rfl rfl ?_
  refine G_12_110 X hZ dX12_tries_7 ?_
  refine V_iconst X (v := (0 : Int32)) dX12_tries_10 (by decide) ?_
  refine V_iald_m X (rfl : SLq 181 = 260) (hzk hZ (by decide)) (rfl : SK 181 = 14) (vpl (by decide)) dX12_tries_11 ?_
  refine V_iload_n X (i := 2) 2 dX12_tries_12 rfl rfl ?_
  refine V_iadd X dX12_tries_13 ?_
  refine V_iload_n X (i := 3) 3 dX12_tries_14 rfl rfl ?_
  refine V_aload_n X (i := 0) 0 dX12_tries_15 rfl rfl ?_
  refine G_12_110 X hZ dX12_tries_16 ?_
  refine V_iconst X (v := (2 : Int32)) dX12_tries_19 (by decide) ?_
  refine V_iald_m X (rfl : SLq 181 = 260) (hzk hZ (by decide)) (rfl : SK 181 = 14) (vpl (by decide)) dX12_tries_20 ?_
  refine V_aload_n X (i := 0) 0 dX12_tries_21 rfl rfl ?_
  refine G_12_110 X hZ dX12_tries_22 ?_
  refine V_iconst X (v := (3 : Int32)) dX12_tries_25 (by decide) ?_
  refine V_iald_m X (rfl : SLq 181 = 260) (hzk hZ (by decide)) (rfl : SK 181 = 14) (vpl (by decide)) dX12_tries_26 ?_
  refine K_12_setsJump X (Or.inl q_1664) hZ h ⟨Nat.le_of_ble_eq_true rfl, Nat.le_of_ble_eq_true rfl⟩ ⟨Nat.zero_le _, Nat.zero_le _⟩ (st1 := []) (Nat.le_of_ble_eq_true rfl) dX12_tries_27 (fun w3 v4 h => ?_)
  exact V_vret_m X hr dX12_tries_30 h
theorem c_12_tries {a1 : Int32} {a2 : Int32} {a3 : Int32} (hinj : INJ ad) (hZ : ad 1000 = 189) {w : Mem} {wl : MemL} {Q : Mem → MemL → Prop} (h : wp_12_tries a1 a2 a3 w wl Q) : Met l yX12_tries (TBq yX12_tries cX12_tries 4 none) (RM 6) (va_Pc [.ref (ad 150), .int a1, .int a2, .int a3] (PB ad cy D (cmb wc w) wl)) (va_Qv (fun (u : Mem × MemL) => Q u.1 u.2) (BM ad cy D wc) (AW ad)) 0 0 (AW ad) := M_enter (by decide) (Nat.le_of_ble_eq_true rfl) hinj (fun p e s m args below meth c X hr => v_12_tries X hr hZ h)
theorem mf_12_tries : MFV yX12_tries cX12_tries 4 none yX12_tries.cls 3 := ⟨q_1711, q_1710, qs_89, q_14, by decide⟩
theorem K_12_tries {own : String} {idx : Nat} {a1 : Int32} {a2 : Int32} {a3 : Int32} (X : CXq p s m args meth c cc nL own ad cy D A H0) (hL : LK own idx yX12_tries) (hZ : ad 1000 = 189) {w : Mem} {wl : MemL} {Q : Mem → MemL → Prop} (h : wp_12_tries a1 a2 a3 w wl Q) (hR : (RM 6).frames + 1 ≤ R.frames ∧ 8 + (4 + 11) + (RM 6).locals ≤ R.locals) (hce : ce ≤ R.cells ∧ sl ≤ R.slots) (hcat : (st1.map fun v => v.category).sum ≤ 8) (hd : decode cc pc = .ok (.invokevirtual idx, 3)) (kk : ∀ (u : Mem) (v : MemL), Q u v → V p l e R s m args below meth c nL ad cy D A H0 ce sl Qs wc u v (pc + 3) ls st1) : V p l e R s m args below meth c nL ad cy D A H0 ce sl Qs wc w wl pc ls (.int a3 :: .int a2 :: .int a1 :: .ref (ad 150) :: st1) := V_callVV_m X mf_12_tries hL (rfl : vwCl[12]? = some (RX12, TX12, 72)) (by decide) (rfl : SK 150 = 12) (hzk hZ (by decide)).2 (c_12_tries X.2.2.2.2.2.2.2.1 hZ h) (As := [.int a1, .int a2, .int a3]) rfl ⟨rfl, rfl⟩ hR hce st1 rfl hcat hd kk
set_option maxRecDepth 20000 in
theorem v_12_attempt {a1 : Int32} {a2 : Int32} {a3 : Int32} {a4 : Int32} (X : CXq p s m args meth c cX12_attempt 5 yX12_attempt.cls ad cy D (AW ad) s.heap) (hr : meth.sig.returnType = (some .int)) (hZ : ad 1000 = 189) {w : Mem} {wl : MemL} {Q : Int32 → Mem → MemL → Prop} (h : wp_12_attempt a1 a2 a3 a4 w wl Q) : V p l e (RM 7) s m args below meth c 5 ad cy D (AW ad) s.heap 0 0 (MQ below (va_Qi (fun r (u : Mem × MemL) => Q r u.1 u.2) (BM ad cy D wc) (AW ad)) args s 0 0 (AW ad)) wc w wl 0 [(0, .ref (ad 150)), (1, .int a1), (2, .int a2), (3, .int a3), (4, .int a4)] [] := by
  unfold wp_12_attempt at h
  refine V_aload_n X (i := 0) 0 dX12_attempt_0 rfl rfl ?_
  refine V_iload_n X (i := 1) 1 dX12_attempt_1 rfl rfl ?_
  refine K_12_isMan X (Or.inl q_1621) hZ h ⟨Nat.le_of_ble_eq_true rfl, Nat.le_of_ble_eq_true rfl⟩ ⟨Nat.zero_le _, Nat.zero_le _⟩ (st1 := []) (Nat.le_of_ble_eq_true rfl) dX12_attempt_2 (fun r2 w1 v3 h => ?_)
  obtain ⟨ht, hf⟩ := h
  refine V_if_eq X (tgt := 40) dX12_attempt_5 (by decide) (fun c => ?_) (fun c => ?_)
  · have h := ht c
    refine V_sipush X (v := (-10000 : Int32)) dX12_attempt_40 (by decide) ?_
    exact V_iret_m X hr dX12_attempt_43 h
  · have h := hf c
    refine V_iload_n X (i := 2) 2 dX12_attempt_8 rfl rfl ?_
    refine V_iconst X (v := (0 : Int32)) dX12_attempt_9 (by decide) ?_
    refine V_sipush X (v := (999 : Int32)) dX12_attempt_10 (by decide) ?_
    refine K_12_in X (Or.inl q_1609) hZ h ⟨Nat.le_of_ble_eq_true rfl, Nat.le_of_ble_eq_true rfl⟩ ⟨Nat.zero_le _, Nat.zero_le _⟩ (st1 := []) (Nat.le_of_ble_eq_true rfl) dX12_attempt_13 (fun r5 w4 v6 h => ?_)
    obtain ⟨ht, hf⟩ := h
    refine V_if_eq X (tgt := 40) dX12_attempt_16 (by decide) (fun c => ?_) (fun c => ?_)
    · have h := ht c
      refine V_sipush X (v := (-10000 : Int32)) dX12_attempt_40 (by decide) ?_
      exact V_iret_m X hr dX12_attempt_43 h
    · have h := hf c
      refine V_iload_n X (i := 3) 3 dX12_attempt_19 rfl rfl ?_
      refine V_bipush X (v := (-9 : Int32)) dX12_attempt_20 (by decide) ?_
      refine V_bipush X (v := (9 : Int32)) dX12_attempt_22 (by decide) ?_
      refine K_12_in X (Or.inl q_1609) hZ h ⟨Nat.le_of_ble_eq_true rfl, Nat.le_of_ble_eq_true rfl⟩ ⟨Nat.zero_le _, Nat.zero_le _⟩ (st1 := []) (Nat.le_of_ble_eq_true rfl) dX12_attempt_24 (fun r8 w7 v9 h => ?_)
      obtain ⟨ht, hf⟩ := h
      refine V_if_eq X (tgt := 40) dX12_attempt_27 (by decide) (fun c => ?_) (fun c => ?_)
      · have h := ht c
        refine V_sipush X (v := (-10000 : Int32)) dX12_attempt_40 (by decide) ?_
        exact V_iret_m X hr dX12_attempt_43 h
      · have h := hf c
        refine V_iload X (i := 4) 4 dX12_attempt_30 rfl ?_
        refine V_iconst X (v := (0 : Int32)) dX12_attempt_32 (by decide) ?_
        refine V_iconst X (v := (2 : Int32)) dX12_attempt_33 (by decide) ?_
        refine K_12_in X (Or.inl q_1609) hZ h ⟨Nat.le_of_ble_eq_true rfl, Nat.le_of_ble_eq_true rfl⟩ ⟨Nat.zero_le _, Nat.zero_le _⟩ (st1 := []) (Nat.le_of_ble_eq_true rfl) dX12_attempt_34 (fun r11 w10 v12 h => ?_)
        obtain ⟨ht, hf⟩ := h
        refine V_if_ne X (tgt := 44) dX12_attempt_37 (by decide) (fun c => ?_) (fun c => ?_)
        · have h := ht c
          refine V_aload_n X (i := 0) 0 dX12_attempt_44 rfl rfl ?_
          refine V_iload_n X (i := 1) 1 dX12_attempt_45 rfl rfl ?_
          refine V_iload_n X (i := 2) 2 dX12_attempt_46 rfl rfl ?_
          refine V_iload_n X (i := 3) 3 dX12_attempt_47 rfl rfl ?_
          refine K_12_tries X (Or.inl q_1708) hZ h ⟨Nat.le_of_ble_eq_true rfl, Nat.le_of_ble_eq_true rfl⟩ ⟨Nat.zero_le _, Nat.zero_le _⟩ (st1 := []) (Nat.le_of_ble_eq_true rfl) dX12_attempt_48 (fun w13 v14 h => ?_)
          refine V_iload X (i := 4) 4 dX12_attempt_51 rfl ?_
          obtain ⟨ht, hf⟩ := h
          refine V_if_ne X (tgt := 63) dX12_attempt_53 (by decide) (fun c => ?_) (fun c => ?_)
          · have h := ht c
            refine V_iload X (i := 4) 4 dX12_attempt_63 rfl ?_
            refine V_iconst X (v := (1 : Int32)) dX12_attempt_65 (by decide) ?_
            obtain ⟨ht, hf⟩ := h
            refine V_icmp_ne X (tgt := 76) dX12_attempt_66 (by decide) (fun c => ?_) (fun c => ?_)
            · have h := ht c
              refine V_aload_n X (i := 0) 0 dX12_attempt_76 rfl rfl ?_
              refine G_12_377 X hZ dX12_attempt_77 ?_
              exact V_iret_m X hr dX12_attempt_80 h
            · have h := hf c
              refine V_aload_n X (i := 0) 0 dX12_attempt_69 rfl rfl ?_
              refine G_12_380 X hZ dX12_attempt_70 ?_
              refine V_goto X (tgt := 80) dX12_attempt_73 (by decide) ?_
              exact V_iret_m X hr dX12_attempt_80 h
          · have h := hf c
            refine V_aload_n X (i := 0) 0 dX12_attempt_56 rfl rfl ?_
            refine G_12_365 X hZ dX12_attempt_57 ?_
            refine V_goto X (tgt := 80) dX12_attempt_60 (by decide) ?_
            exact V_iret_m X hr dX12_attempt_80 h
        · have h := hf c
          refine V_sipush X (v := (-10000 : Int32)) dX12_attempt_40 (by decide) ?_
          exact V_iret_m X hr dX12_attempt_43 h
theorem c_12_attempt {a1 : Int32} {a2 : Int32} {a3 : Int32} {a4 : Int32} (hinj : INJ ad) (hZ : ad 1000 = 189) {w : Mem} {wl : MemL} {Q : Int32 → Mem → MemL → Prop} (h : wp_12_attempt a1 a2 a3 a4 w wl Q) : Met l yX12_attempt (TBq yX12_attempt cX12_attempt 5 (some .int)) (RM 7) (va_Pc [.ref (ad 150), .int a1, .int a2, .int a3, .int a4] (PB ad cy D (cmb wc w) wl)) (va_Qi (fun r (u : Mem × MemL) => Q r u.1 u.2) (BM ad cy D wc) (AW ad)) 0 0 (AW ad) := M_enter (by decide) (Nat.le_of_ble_eq_true rfl) hinj (fun p e s m args below meth c X hr => v_12_attempt X hr hZ h)
theorem mf_12_attempt : MFV yX12_attempt cX12_attempt 5 (some .int) yX12_attempt.cls 4 := ⟨q_1707, q_1705, q_1706, q_14, by decide⟩
theorem K_12_attempt {own : String} {idx : Nat} {a1 : Int32} {a2 : Int32} {a3 : Int32} {a4 : Int32} (X : CXq p s m args meth c cc nL own ad cy D A H0) (hL : LK own idx yX12_attempt) (hZ : ad 1000 = 189) {w : Mem} {wl : MemL} {Q : Int32 → Mem → MemL → Prop} (h : wp_12_attempt a1 a2 a3 a4 w wl Q) (hR : (RM 7).frames + 1 ≤ R.frames ∧ 8 + (5 + 11) + (RM 7).locals ≤ R.locals) (hce : ce ≤ R.cells ∧ sl ≤ R.slots) (hcat : (st1.map fun v => v.category).sum ≤ 8) (hd : decode cc pc = .ok (.invokevirtual idx, 3)) (kk : ∀ (r : Int32) (u : Mem) (v : MemL), Q r u v → V p l e R s m args below meth c nL ad cy D A H0 ce sl Qs wc u v (pc + 3) ls (.int r :: st1)) : V p l e R s m args below meth c nL ad cy D A H0 ce sl Qs wc w wl pc ls (.int a4 :: .int a3 :: .int a2 :: .int a1 :: .ref (ad 150) :: st1) := V_callVI_m X mf_12_attempt hL (rfl : vwCl[12]? = some (RX12, TX12, 72)) (by decide) (rfl : SK 150 = 12) (hzk hZ (by decide)).2 (c_12_attempt X.2.2.2.2.2.2.2.1 hZ h) (As := [.int a1, .int a2, .int a3, .int a4]) rfl ⟨rfl, rfl⟩ hR hce st1 rfl hcat hd kk
set_option maxRecDepth 20000 in
theorem v_12_wait_b89 (X : CXq p s m args meth c cX12_wait 8 yX12_wait.cls ad cy D (AW ad) s.heap) (hr : meth.sig.returnType = (some .int)) (hZ : ad 1000 = 189) {Q : Int32 → Mem → MemL → Prop} {L33 : Int32 → Int32 → Int32 → Int32 → Int32 → Int32 → Int32 → Mem → MemL → Prop} (HL33 : ∀ (l1 : Int32) (l2 : Int32) (l3 : Int32) (l4 : Int32) (l5 : Int32) (l6 : Int32) (l7 : Int32) (w : Mem) (wl : MemL), L33 l1 l2 l3 l4 l5 l6 l7 w wl → V p l e (RM 7) s m args below meth c 8 ad cy D (AW ad) s.heap 0 0 (MQ below (va_Qi (fun r (u : Mem × MemL) => Q r u.1 u.2) (BM ad cy D wc) (AW ad)) args s 0 0 (AW ad)) wc w wl 33 [(0, .ref (ad 150)), (1, .int l1), (2, .int l2), (3, .int l3), (4, .int l4), (5, .int l5), (6, .int l6), (7, .int l7)] []) : ∀ (l1 : Int32) (l2 : Int32) (l3 : Int32) (l4 : Int32) (l5 : Int32) (l6 : Int32) (l7 : Int32) (w : Mem) (wl : MemL), wp_12_wait_b89 Q L33 l1 l2 l3 l4 l5 l6 l7 w wl → V p l e (RM 7) s m args below meth c 8 ad cy D (AW ad) s.heap 0 0 (MQ below (va_Qi (fun r (u : Mem × MemL) => Q r u.1 u.2) (BM ad cy D wc) (AW ad)) args s 0 0 (AW ad)) wc w wl 89 [(0, .ref (ad 150)), (1, .int l1), (2, .int l2), (3, .int l3), (4, .int l4), (5, .int l5), (6, .int l6), (7, .int l7)] [] := by
  intro l1 l2 l3 l4 l5 l6 l7 w wl h
  unfold wp_12_wait_b89 at h
  obtain ⟨x1, ex1⟩ : ∃ y : Int32, y = l7 + (1 : Int32) := ⟨_, rfl⟩
  have h := h x1 ex1
  refine V_iinc X 7 dX12_wait_89 rfl (by decide) (by rw [ex1]; rfl) (ls1 := [(7, .int x1), (0, .ref (ad 150)), (1, .int l1), (2, .int l2), (3, .int l3), (4, .int l4), (5, .int l5), (6, .int l6)]) rfl ?_
  refine V_goto X (tgt := 33) dX12_wait_92 (by decide) ?_
  refine V_sub X (ls1 := [(0, .ref (ad 150)), (1, .int l1), (2, .int l2), (3, .int l3), (4, .int l4), (5, .int l5), (6, .int l6), (7, .int x1)]) [1, 2, 3, 4, 5, 6, 7, 0] rfl ?_
  exact HL33 _ _ _ _ _ _ _ _ _ h
set_option maxRecDepth 20000 in
theorem v_12_wait_b70 (X : CXq p s m args meth c cX12_wait 8 yX12_wait.cls ad cy D (AW ad) s.heap) (hr : meth.sig.returnType = (some .int)) (hZ : ad 1000 = 189) {Q : Int32 → Mem → MemL → Prop} {L33 : Int32 → Int32 → Int32 → Int32 → Int32 → Int32 → Int32 → Mem → MemL → Prop} (HL33 : ∀ (l1 : Int32) (l2 : Int32) (l3 : Int32) (l4 : Int32) (l5 : Int32) (l6 : Int32) (l7 : Int32) (w : Mem) (wl : MemL), L33 l1 l2 l3 l4 l5 l6 l7 w wl → V p l e (RM 7) s m args below meth c 8 ad cy D (AW ad) s.heap 0 0 (MQ below (va_Qi (fun r (u : Mem × MemL) => Q r u.1 u.2) (BM ad cy D wc) (AW ad)) args s 0 0 (AW ad)) wc w wl 33 [(0, .ref (ad 150)), (1, .int l1), (2, .int l2), (3, .int l3), (4, .int l4), (5, .int l5), (6, .int l6), (7, .int l7)] []) : ∀ (l1 : Int32) (l2 : Int32) (l3 : Int32) (l4 : Int32) (l5 : Int32) (l6 : Int32) (l7 : Int32) (w : Mem) (wl : MemL), wp_12_wait_b70 Q L33 l1 l2 l3 l4 l5 l6 l7 w wl → V p l e (RM 7) s m args below meth c 8 ad cy D (AW ad) s.heap 0 0 (MQ below (va_Qi (fun r (u : Mem × MemL) => Q r u.1 u.2) (BM ad cy D wc) (AW ad)) args s 0 0 (AW ad)) wc w wl 70 [(0, .ref (ad 150)), (1, .int l1), (2, .int l2), (3, .int l3), (4, .int l4), (5, .int l5), (6, .int l6), (7, .int l7)] [] := by
  intro l1 l2 l3 l4 l5 l6 l7 w wl h
  unfold wp_12_wait_b70 at h
  refine V_aload_n X (i := 0) 0 dX12_wait_70 rfl rfl ?_
  refine G_12_380 X hZ dX12_wait_71 ?_
  refine V_iload X (i := 6) 6 dX12_wait_74 rfl ?_
  obtain ⟨ht, hf⟩ := h
  refine V_icmp_le X (tgt := 89) dX12_wait_76 (by decide) (fun c => ?_) (fun c => ?_)
  · have h := ht c
    refine V_sub X (ls1 := [(0, .ref (ad 150)), (1, .int l1), (2, .int l2), (3, .int l3), (4, .int l4), (5, .int l5), (6, .int l6), (7, .int l7)]) [0, 1, 2, 3, 4, 5, 6, 7] rfl ?_
    exact v_12_wait_b89 X hr hZ HL33 _ _ _ _ _ _ _ _ _ h
  · have h := hf c
    refine V_aload_n X (i := 0) 0 dX12_wait_79 rfl rfl ?_
    refine G_12_380 X hZ dX12_wait_80 ?_
    obtain ⟨x1, ex1⟩ : ∃ y : Int32, y = (w 150 63) := ⟨_, rfl⟩
    have h := h x1 ex1
    refine V_istore X dX12_wait_83 (by decide) ex1 (ls1 := [(6, .int x1), (0, .ref (ad 150)), (1, .int l1), (2, .int l2), (3, .int l3), (4, .int l4), (5, .int l5), (7, .int l7)]) rfl ?_
    refine V_iload X (i := 7) 7 dX12_wait_85 rfl ?_
    refine V_istore X dX12_wait_87 (by decide) rfl (ls1 := [(5, .int l7), (6, .int x1), (0, .ref (ad 150)), (1, .int l1), (2, .int l2), (3, .int l3), (4, .int l4), (7, .int l7)]) rfl ?_
    refine V_sub X (ls1 := [(0, .ref (ad 150)), (1, .int l1), (2, .int l2), (3, .int l3), (4, .int l4), (5, .int l7), (6, .int x1), (7, .int l7)]) [2, 3, 4, 5, 6, 0, 1, 7] rfl ?_
    exact v_12_wait_b89 X hr hZ HL33 _ _ _ _ _ _ _ _ _ h
set_option maxRecDepth 20000 in
theorem v_12_wait_b33 (X : CXq p s m args meth c cX12_wait 8 yX12_wait.cls ad cy D (AW ad) s.heap) (hr : meth.sig.returnType = (some .int)) (hZ : ad 1000 = 189) {Q : Int32 → Mem → MemL → Prop} : ∀ (n : Nat) (l1 : Int32) (l2 : Int32) (l3 : Int32) (l4 : Int32) (l5 : Int32) (l6 : Int32) (l7 : Int32) (w : Mem) (wl : MemL), wp_12_wait_b33 Q n l1 l2 l3 l4 l5 l6 l7 w wl → V p l e (RM 7) s m args below meth c 8 ad cy D (AW ad) s.heap 0 0 (MQ below (va_Qi (fun r (u : Mem × MemL) => Q r u.1 u.2) (BM ad cy D wc) (AW ad)) args s 0 0 (AW ad)) wc w wl 33 [(0, .ref (ad 150)), (1, .int l1), (2, .int l2), (3, .int l3), (4, .int l4), (5, .int l5), (6, .int l6), (7, .int l7)] [] := by
  intro n
  induction n with
  | zero =>
    intro l1 l2 l3 l4 l5 l6 l7 w wl h
    exact h.elim
  | succ n ih =>
    intro l1 l2 l3 l4 l5 l6 l7 w wl h
    unfold wp_12_wait_b33 at h
    refine V_iload X (i := 7) 7 dX12_wait_33 rfl ?_
    refine V_aload_n X (i := 0) 0 dX12_wait_35 rfl rfl ?_
    refine V_bipush X (v := (10 : Int32)) dX12_wait_36 (by decide) ?_
    refine K_12_tell0 X (Or.inl q_1203) hZ h ⟨Nat.le_of_ble_eq_true rfl, Nat.le_of_ble_eq_true rfl⟩ ⟨Nat.zero_le _, Nat.zero_le _⟩ (st1 := [.int l7]) (Nat.le_of_ble_eq_true rfl) dX12_wait_38 (fun r2 w1 v3 h => ?_)
    obtain ⟨ht, hf⟩ := h
    refine V_icmp_gt X (tgt := 95) dX12_wait_41 (by decide) (fun c => ?_) (fun c => ?_)
    · have h := ht c
      refine V_iload_n X (i := 2) 2 dX12_wait_95 rfl rfl ?_
      obtain ⟨ht, hf⟩ := h
      refine V_if_ne X (tgt := 103) dX12_wait_96 (by decide) (fun c => ?_) (fun c => ?_)
      · have h := ht c
        refine V_iload_n X (i := 2) 2 dX12_wait_103 rfl rfl ?_
        refine V_iconst X (v := (1 : Int32)) dX12_wait_104 (by decide) ?_
        obtain ⟨ht, hf⟩ := h
        refine V_icmp_ne X (tgt := 113) dX12_wait_105 (by decide) (fun c => ?_) (fun c => ?_)
        · have h := ht c
          refine V_iload_n X (i := 2) 2 dX12_wait_113 rfl rfl ?_
          refine V_iconst X (v := (2 : Int32)) dX12_wait_114 (by decide) ?_
          obtain ⟨ht, hf⟩ := h
          refine V_icmp_ne X (tgt := 123) dX12_wait_115 (by decide) (fun c => ?_) (fun c => ?_)
          · have h := ht c
            refine V_iload X (i := 6) 6 dX12_wait_123 rfl ?_
            exact V_iret_m X hr dX12_wait_125 h
          · have h := hf c
            refine V_iload X (i := 5) 5 dX12_wait_118 rfl ?_
            refine V_goto X (tgt := 125) dX12_wait_120 (by decide) ?_
            exact V_iret_m X hr dX12_wait_125 h
        · have h := hf c
          refine V_iload X (i := 4) 4 dX12_wait_108 rfl ?_
          refine V_goto X (tgt := 125) dX12_wait_110 (by decide) ?_
          exact V_iret_m X hr dX12_wait_125 h
      · have h := hf c
        refine V_iload_n X (i := 3) 3 dX12_wait_99 rfl rfl ?_
        refine V_goto X (tgt := 125) dX12_wait_100 (by decide) ?_
        exact V_iret_m X hr dX12_wait_125 h
    · have h := hf c
      refine V_aload_n X (i := 0) 0 dX12_wait_44 rfl rfl ?_
      refine V_iload_n X (i := 1) 1 dX12_wait_45 rfl rfl ?_
      refine V_iload X (i := 7) 7 dX12_wait_46 rfl ?_
      refine V_iconst X (v := (0 : Int32)) dX12_wait_48 (by decide) ?_
      refine K_12_tries X (Or.inl q_1708) hZ h ⟨Nat.le_of_ble_eq_true rfl, Nat.le_of_ble_eq_true rfl⟩ ⟨Nat.zero_le _, Nat.zero_le _⟩ (st1 := []) (Nat.le_of_ble_eq_true rfl) dX12_wait_49 (fun w4 v5 h => ?_)
      refine V_aload_n X (i := 0) 0 dX12_wait_52 rfl rfl ?_
      refine G_12_365 X hZ dX12_wait_53 ?_
      refine V_iload X (i := 4) 4 dX12_wait_56 rfl ?_
      obtain ⟨ht, hf⟩ := h
      refine V_icmp_le X (tgt := 70) dX12_wait_58 (by decide) (fun c => ?_) (fun c => ?_)
      · have h := ht c
        refine V_sub X (ls1 := [(0, .ref (ad 150)), (1, .int l1), (2, .int l2), (3, .int l3), (4, .int l4), (5, .int l5), (6, .int l6), (7, .int l7)]) [0, 1, 2, 3, 4, 5, 6, 7] rfl ?_
        exact v_12_wait_b70 X hr hZ ih _ _ _ _ _ _ _ _ _ h
      · have h := hf c
        refine V_aload_n X (i := 0) 0 dX12_wait_61 rfl rfl ?_
        refine G_12_365 X hZ dX12_wait_62 ?_
        obtain ⟨x6, ex6⟩ : ∃ y : Int32, y = (w4 150 59) := ⟨_, rfl⟩
        have h := h x6 ex6
        refine V_istore X dX12_wait_65 (by decide) ex6 (ls1 := [(4, .int x6), (0, .ref (ad 150)), (1, .int l1), (2, .int l2), (3, .int l3), (5, .int l5), (6, .int l6), (7, .int l7)]) rfl ?_
        refine V_iload X (i := 7) 7 dX12_wait_67 rfl ?_
        refine V_istore_n X dX12_wait_69 rfl (by decide) rfl (ls1 := [(3, .int l7), (4, .int x6), (0, .ref (ad 150)), (1, .int l1), (2, .int l2), (5, .int l5), (6, .int l6), (7, .int l7)]) rfl ?_
        refine V_sub X (ls1 := [(0, .ref (ad 150)), (1, .int l1), (2, .int l2), (3, .int l7), (4, .int x6), (5, .int l5), (6, .int l6), (7, .int l7)]) [2, 3, 4, 0, 1, 5, 6, 7] rfl ?_
        exact v_12_wait_b70 X hr hZ ih _ _ _ _ _ _ _ _ _ h
set_option maxRecDepth 20000 in
theorem v_12_wait {a1 : Int32} {a2 : Int32} (X : CXq p s m args meth c cX12_wait 8 yX12_wait.cls ad cy D (AW ad) s.heap) (hr : meth.sig.returnType = (some .int)) (hZ : ad 1000 = 189) {w : Mem} {wl : MemL} {Q : Int32 → Mem → MemL → Prop} (h : wp_12_wait a1 a2 w wl Q) : V p l e (RM 7) s m args below meth c 8 ad cy D (AW ad) s.heap 0 0 (MQ below (va_Qi (fun r (u : Mem × MemL) => Q r u.1 u.2) (BM ad cy D wc) (AW ad)) args s 0 0 (AW ad)) wc w wl 0 [(0, .ref (ad 150)), (1, .int a1), (2, .int a2)] [] := by
  unfold wp_12_wait at h
  refine V_aload_n X (i := 0) 0 dX12_wait_0 rfl rfl ?_
  refine V_iload_n X (i := 1) 1 dX12_wait_1 rfl rfl ?_
  refine K_12_isMan X (Or.inl q_1621) hZ h ⟨Nat.le_of_ble_eq_true rfl, Nat.le_of_ble_eq_true rfl⟩ ⟨Nat.zero_le _, Nat.zero_le _⟩ (st1 := []) (Nat.le_of_ble_eq_true rfl) dX12_wait_2 (fun r2 w1 v3 h => ?_)
  obtain ⟨ht, hf⟩ := h
  refine V_if_eq X (tgt := 17) dX12_wait_5 (by decide) (fun c => ?_) (fun c => ?_)
  · have h := ht c
    refine V_iconst X (v := (-1 : Int32)) dX12_wait_17 (by decide) ?_
    exact V_iret_m X hr dX12_wait_18 h
  · have h := hf c
    refine V_iload_n X (i := 2) 2 dX12_wait_8 rfl rfl ?_
    refine V_iconst X (v := (0 : Int32)) dX12_wait_9 (by decide) ?_
    refine V_iconst X (v := (3 : Int32)) dX12_wait_10 (by decide) ?_
    refine K_12_in X (Or.inl q_1609) hZ h ⟨Nat.le_of_ble_eq_true rfl, Nat.le_of_ble_eq_true rfl⟩ ⟨Nat.zero_le _, Nat.zero_le _⟩ (st1 := []) (Nat.le_of_ble_eq_true rfl) dX12_wait_11 (fun r5 w4 v6 h => ?_)
    obtain ⟨ht, hf⟩ := h
    refine V_if_ne X (tgt := 19) dX12_wait_14 (by decide) (fun c => ?_) (fun c => ?_)
    · have h := ht c
      refine V_iconst X (v := (0 : Int32)) dX12_wait_19 (by decide) ?_
      refine V_istore_n X dX12_wait_20 rfl (by decide) rfl (ls1 := [(3, .int (0 : Int32)), (0, .ref (ad 150)), (1, .int a1), (2, .int a2)]) rfl ?_
      refine V_iconst X (v := (-1 : Int32)) dX12_wait_21 (by decide) ?_
      refine V_istore X dX12_wait_22 (by decide) rfl (ls1 := [(4, .int (-1 : Int32)), (3, .int (0 : Int32)), (0, .ref (ad 150)), (1, .int a1), (2, .int a2)]) rfl ?_
      refine V_iconst X (v := (0 : Int32)) dX12_wait_24 (by decide) ?_
      refine V_istore X dX12_wait_25 (by decide) rfl (ls1 := [(5, .int (0 : Int32)), (4, .int (-1 : Int32)), (3, .int (0 : Int32)), (0, .ref (ad 150)), (1, .int a1), (2, .int a2)]) rfl ?_
      refine V_iconst X (v := (-1 : Int32)) dX12_wait_27 (by decide) ?_
      refine V_istore X dX12_wait_28 (by decide) rfl (ls1 := [(6, .int (-1 : Int32)), (5, .int (0 : Int32)), (4, .int (-1 : Int32)), (3, .int (0 : Int32)), (0, .ref (ad 150)), (1, .int a1), (2, .int a2)]) rfl ?_
      refine V_iconst X (v := (0 : Int32)) dX12_wait_30 (by decide) ?_
      refine V_istore X dX12_wait_31 (by decide) rfl (ls1 := [(7, .int (0 : Int32)), (6, .int (-1 : Int32)), (5, .int (0 : Int32)), (4, .int (-1 : Int32)), (3, .int (0 : Int32)), (0, .ref (ad 150)), (1, .int a1), (2, .int a2)]) rfl ?_
      refine V_sub X (ls1 := [(0, .ref (ad 150)), (1, .int a1), (2, .int a2), (3, .int (0 : Int32)), (4, .int (-1 : Int32)), (5, .int (0 : Int32)), (6, .int (-1 : Int32)), (7, .int (0 : Int32))]) [5, 6, 7, 4, 3, 2, 1, 0] rfl ?_
      obtain ⟨nn, h⟩ := h
      exact v_12_wait_b33 X hr hZ nn _ _ _ _ _ _ _ _ _ h
    · have h := hf c
      refine V_iconst X (v := (-1 : Int32)) dX12_wait_17 (by decide) ?_
      exact V_iret_m X hr dX12_wait_18 h
theorem c_12_wait {a1 : Int32} {a2 : Int32} (hinj : INJ ad) (hZ : ad 1000 = 189) {w : Mem} {wl : MemL} {Q : Int32 → Mem → MemL → Prop} (h : wp_12_wait a1 a2 w wl Q) : Met l yX12_wait (TBq yX12_wait cX12_wait 8 (some .int)) (RM 7) (va_Pc [.ref (ad 150), .int a1, .int a2] (PB ad cy D (cmb wc w) wl)) (va_Qi (fun r (u : Mem × MemL) => Q r u.1 u.2) (BM ad cy D wc) (AW ad)) 0 0 (AW ad) := M_enter (by decide) (Nat.le_of_ble_eq_true rfl) hinj (fun p e s m args below meth c X hr => v_12_wait X hr hZ h)
theorem mf_12_wait : MFV yX12_wait cX12_wait 8 (some .int) yX12_wait.cls 2 := ⟨q_1715, q_1713, q_1714, q_14, by decide⟩
theorem K_12_wait {own : String} {idx : Nat} {a1 : Int32} {a2 : Int32} (X : CXq p s m args meth c cc nL own ad cy D A H0) (hL : LK own idx yX12_wait) (hZ : ad 1000 = 189) {w : Mem} {wl : MemL} {Q : Int32 → Mem → MemL → Prop} (h : wp_12_wait a1 a2 w wl Q) (hR : (RM 7).frames + 1 ≤ R.frames ∧ 8 + (8 + 11) + (RM 7).locals ≤ R.locals) (hce : ce ≤ R.cells ∧ sl ≤ R.slots) (hcat : (st1.map fun v => v.category).sum ≤ 8) (hd : decode cc pc = .ok (.invokevirtual idx, 3)) (kk : ∀ (r : Int32) (u : Mem) (v : MemL), Q r u v → V p l e R s m args below meth c nL ad cy D A H0 ce sl Qs wc u v (pc + 3) ls (.int r :: st1)) : V p l e R s m args below meth c nL ad cy D A H0 ce sl Qs wc w wl pc ls (.int a2 :: .int a1 :: .ref (ad 150) :: st1) := V_callVI_m X mf_12_wait hL (rfl : vwCl[12]? = some (RX12, TX12, 72)) (by decide) (rfl : SK 150 = 12) (hzk hZ (by decide)).2 (c_12_wait X.2.2.2.2.2.2.2.1 hZ h) (As := [.int a1, .int a2]) rfl ⟨rfl, rfl⟩ hR hce st1 rfl hcat hd kk
set_option maxRecDepth 20000 in
theorem v_12_cost_b45 (X : CXq p s m args meth c cX12_cost 5 yX12_cost.cls ad cy D (AW ad) s.heap) (hr : meth.sig.returnType = (some .int)) (hZ : ad 1000 = 189) {Q : Int32 → Mem → MemL → Prop} : ∀ (l1 : Int32) (l2 : Int32) (l3 : Int32) (s0 : Int32) (w : Mem) (wl : MemL), wp_12_cost_b45 Q l1 l2 l3 s0 w wl → V p l e (RM 7) s m args below meth c 5 ad cy D (AW ad) s.heap 0 0 (MQ below (va_Qi (fun r (u : Mem × MemL) => Q r u.1 u.2) (BM ad cy D wc) (AW ad)) args s 0 0 (AW ad)) wc w wl 45 [(0, .ref (ad 150)), (1, .int l1), (2, .int l2), (3, .int l3)] [.int s0] := by
  intro l1 l2 l3 s0 w wl h
  unfold wp_12_cost_b45 at h
  refine V_istore X dX12_cost_45 (by decide) rfl (ls1 := [(4, .int s0), (0, .ref (ad 150)), (1, .int l1), (2, .int l2), (3, .int l3)]) rfl ?_
  refine V_aload_n X (i := 0) 1 dX12_cost_47 rfl rfl ?_
  refine V_iload_n X (i := 1) 2 dX12_cost_48 rfl rfl ?_
  refine V_iconst X (v := (0 : Int32)) dX12_cost_49 (by decide) ?_
  refine V_iload_n X (i := 2) 3 dX12_cost_50 rfl rfl ?_
  refine K_12_tries X (Or.inl q_1708) hZ h ⟨Nat.le_of_ble_eq_true rfl, Nat.le_of_ble_eq_true rfl⟩ ⟨Nat.zero_le _, Nat.zero_le _⟩ (st1 := []) (Nat.le_of_ble_eq_true rfl) dX12_cost_51 (fun w1 v2 h => ?_)
  refine V_iload X (i := 4) 0 dX12_cost_54 rfl ?_
  refine V_iload_n X (i := 3) 4 dX12_cost_56 rfl rfl ?_
  obtain ⟨ht, hf⟩ := h
  refine V_if_eq X (tgt := 67) dX12_cost_57 (by decide) (fun c => ?_) (fun c => ?_)
  · have h := ht c
    refine V_aload_n X (i := 0) 1 dX12_cost_67 rfl rfl ?_
    refine G_12_365 X hZ dX12_cost_68 ?_
    refine V_isub X dX12_cost_71 ?_
    exact V_iret_m X hr dX12_cost_72 h
  · have h := hf c
    refine V_aload_n X (i := 0) 1 dX12_cost_60 rfl rfl ?_
    refine G_12_380 X hZ dX12_cost_61 ?_
    refine V_goto X (tgt := 71) dX12_cost_64 (by decide) ?_
    refine V_isub X dX12_cost_71 ?_
    exact V_iret_m X hr dX12_cost_72 h
set_option maxRecDepth 20000 in
theorem v_12_cost {a1 : Int32} {a2 : Int32} {a3 : Int32} (X : CXq p s m args meth c cX12_cost 5 yX12_cost.cls ad cy D (AW ad) s.heap) (hr : meth.sig.returnType = (some .int)) (hZ : ad 1000 = 189) {w : Mem} {wl : MemL} {Q : Int32 → Mem → MemL → Prop} (h : wp_12_cost a1 a2 a3 w wl Q) : V p l e (RM 7) s m args below meth c 5 ad cy D (AW ad) s.heap 0 0 (MQ below (va_Qi (fun r (u : Mem × MemL) => Q r u.1 u.2) (BM ad cy D wc) (AW ad)) args s 0 0 (AW ad)) wc w wl 0 [(0, .ref (ad 150)), (1, .int a1), (2, .int a2), (3, .int a3)] [] := by
  unfold wp_12_cost at h
  refine V_aload_n X (i := 0) 0 dX12_cost_0 rfl rfl ?_
  refine V_iload_n X (i := 1) 1 dX12_cost_1 rfl rfl ?_
  refine K_12_isMan X (Or.inl q_1621) hZ h ⟨Nat.le_of_ble_eq_true rfl, Nat.le_of_ble_eq_true rfl⟩ ⟨Nat.zero_le _, Nat.zero_le _⟩ (st1 := []) (Nat.le_of_ble_eq_true rfl) dX12_cost_2 (fun r2 w1 v3 h => ?_)
  obtain ⟨ht, hf⟩ := h
  refine V_if_eq X (tgt := 19) dX12_cost_5 (by decide) (fun c => ?_) (fun c => ?_)
  · have h := ht c
    refine V_sipush X (v := (-10000 : Int32)) dX12_cost_19 (by decide) ?_
    exact V_iret_m X hr dX12_cost_22 h
  · have h := hf c
    refine V_iload_n X (i := 2) 2 dX12_cost_8 rfl rfl ?_
    refine V_bipush X (v := (-9 : Int32)) dX12_cost_9 (by decide) ?_
    refine V_bipush X (v := (9 : Int32)) dX12_cost_11 (by decide) ?_
    refine K_12_in X (Or.inl q_1609) hZ h ⟨Nat.le_of_ble_eq_true rfl, Nat.le_of_ble_eq_true rfl⟩ ⟨Nat.zero_le _, Nat.zero_le _⟩ (st1 := []) (Nat.le_of_ble_eq_true rfl) dX12_cost_13 (fun r5 w4 v6 h => ?_)
    obtain ⟨ht, hf⟩ := h
    refine V_if_ne X (tgt := 23) dX12_cost_16 (by decide) (fun c => ?_) (fun c => ?_)
    · have h := ht c
      refine V_aload_n X (i := 0) 0 dX12_cost_23 rfl rfl ?_
      refine V_iload_n X (i := 1) 1 dX12_cost_24 rfl rfl ?_
      refine V_iconst X (v := (0 : Int32)) dX12_cost_25 (by decide) ?_
      refine V_iconst X (v := (0 : Int32)) dX12_cost_26 (by decide) ?_
      refine K_12_tries X (Or.inl q_1708) hZ h ⟨Nat.le_of_ble_eq_true rfl, Nat.le_of_ble_eq_true rfl⟩ ⟨Nat.zero_le _, Nat.zero_le _⟩ (st1 := []) (Nat.le_of_ble_eq_true rfl) dX12_cost_27 (fun w7 v8 h => ?_)
      refine V_iload_n X (i := 3) 3 dX12_cost_30 rfl rfl ?_
      obtain ⟨ht, hf⟩ := h
      refine V_if_eq X (tgt := 41) dX12_cost_31 (by decide) (fun c => ?_) (fun c => ?_)
      · have h := ht c
        refine V_aload_n X (i := 0) 0 dX12_cost_41 rfl rfl ?_
        refine G_12_365 X hZ dX12_cost_42 ?_
        refine V_sub X (ls1 := [(0, .ref (ad 150)), (1, .int a1), (2, .int a2), (3, .int a3)]) [0, 1, 2, 3] rfl ?_
        exact v_12_cost_b45 X hr hZ _ _ _ _ _ _ h
      · have h := hf c
        refine V_aload_n X (i := 0) 0 dX12_cost_34 rfl rfl ?_
        refine G_12_380 X hZ dX12_cost_35 ?_
        refine V_goto X (tgt := 45) dX12_cost_38 (by decide) ?_
        refine V_sub X (ls1 := [(0, .ref (ad 150)), (1, .int a1), (2, .int a2), (3, .int a3)]) [0, 1, 2, 3] rfl ?_
        exact v_12_cost_b45 X hr hZ _ _ _ _ _ _ h
    · have h := hf c
      refine V_sipush X (v := (-10000 : Int32)) dX12_cost_19 (by decide) ?_
      exact V_iret_m X hr dX12_cost_22 h
theorem c_12_cost {a1 : Int32} {a2 : Int32} {a3 : Int32} (hinj : INJ ad) (hZ : ad 1000 = 189) {w : Mem} {wl : MemL} {Q : Int32 → Mem → MemL → Prop} (h : wp_12_cost a1 a2 a3 w wl Q) : Met l yX12_cost (TBq yX12_cost cX12_cost 5 (some .int)) (RM 7) (va_Pc [.ref (ad 150), .int a1, .int a2, .int a3] (PB ad cy D (cmb wc w) wl)) (va_Qi (fun r (u : Mem × MemL) => Q r u.1 u.2) (BM ad cy D wc) (AW ad)) 0 0 (AW ad) := M_enter (by decide) (Nat.le_of_ble_eq_true rfl) hinj (fun p e s m args below meth c X hr => v_12_cost X hr hZ h)
theorem mf_12_cost : MFV yX12_cost cX12_cost 5 (some .int) yX12_cost.cls 3 := ⟨q_1719, q_1717, q_1718, q_14, by decide⟩
theorem K_12_cost {own : String} {idx : Nat} {a1 : Int32} {a2 : Int32} {a3 : Int32} (X : CXq p s m args meth c cc nL own ad cy D A H0) (hL : LK own idx yX12_cost) (hZ : ad 1000 = 189) {w : Mem} {wl : MemL} {Q : Int32 → Mem → MemL → Prop} (h : wp_12_cost a1 a2 a3 w wl Q) (hR : (RM 7).frames + 1 ≤ R.frames ∧ 8 + (5 + 11) + (RM 7).locals ≤ R.locals) (hce : ce ≤ R.cells ∧ sl ≤ R.slots) (hcat : (st1.map fun v => v.category).sum ≤ 8) (hd : decode cc pc = .ok (.invokevirtual idx, 3)) (kk : ∀ (r : Int32) (u : Mem) (v : MemL), Q r u v → V p l e R s m args below meth c nL ad cy D A H0 ce sl Qs wc u v (pc + 3) ls (.int r :: st1)) : V p l e R s m args below meth c nL ad cy D A H0 ce sl Qs wc w wl pc ls (.int a3 :: .int a2 :: .int a1 :: .ref (ad 150) :: st1) := V_callVI_m X mf_12_cost hL (rfl : vwCl[12]? = some (RX12, TX12, 72)) (by decide) (rfl : SK 150 = 12) (hzk hZ (by decide)).2 (c_12_cost X.2.2.2.2.2.2.2.1 hZ h) (As := [.int a1, .int a2, .int a3]) rfl ⟨rfl, rfl⟩ hR hce st1 rfl hcat hd kk
set_option maxRecDepth 20000 in
theorem v_12_pound {a1 : Int32} {a2 : Int32} {a3 : Int32} (X : CXq p s m args meth c cX12_pound 5 yX12_pound.cls ad cy D (AW ad) s.heap) (hr : meth.sig.returnType = (some .int)) (hZ : ad 1000 = 189) {w : Mem} {wl : MemL} {Q : Int32 → Mem → MemL → Prop} (h : wp_12_pound a1 a2 a3 w wl Q) : V p l e (RM 7) s m args below meth c 5 ad cy D (AW ad) s.heap 0 0 (MQ below (va_Qi (fun r (u : Mem × MemL) => Q r u.1 u.2) (BM ad cy D wc) (AW ad)) args s 0 0 (AW ad)) wc w wl 0 [(0, .ref (ad 150)), (1, .int a1), (2, .int a2), (3, .int a3)] [] := by
  unfold wp_12_pound at h
  refine V_aload_n X (i := 0) 0 dX12_pound_0 rfl rfl ?_
  refine V_iload_n X (i := 1) 1 dX12_pound_1 rfl rfl ?_
  refine K_12_isMan X (Or.inl q_1621) hZ h ⟨Nat.le_of_ble_eq_true rfl, Nat.le_of_ble_eq_true rfl⟩ ⟨Nat.zero_le _, Nat.zero_le _⟩ (st1 := []) (Nat.le_of_ble_eq_true rfl) dX12_pound_2 (fun r2 w1 v3 h => ?_)
  obtain ⟨ht, hf⟩ := h
  refine V_if_eq X (tgt := 28) dX12_pound_5 (by decide) (fun c => ?_) (fun c => ?_)
  · have h := ht c
    refine V_sipush X (v := (-10000 : Int32)) dX12_pound_28 (by decide) ?_
    exact V_iret_m X hr dX12_pound_31 h
  · have h := hf c
    refine V_iload_n X (i := 2) 2 dX12_pound_8 rfl rfl ?_
    refine V_iconst X (v := (0 : Int32)) dX12_pound_9 (by decide) ?_
    refine V_bipush X (v := (30 : Int32)) dX12_pound_10 (by decide) ?_
    refine K_12_in X (Or.inl q_1609) hZ h ⟨Nat.le_of_ble_eq_true rfl, Nat.le_of_ble_eq_true rfl⟩ ⟨Nat.zero_le _, Nat.zero_le _⟩ (st1 := []) (Nat.le_of_ble_eq_true rfl) dX12_pound_12 (fun r5 w4 v6 h => ?_)
    obtain ⟨ht, hf⟩ := h
    refine V_if_eq X (tgt := 28) dX12_pound_15 (by decide) (fun c => ?_) (fun c => ?_)
    · have h := ht c
      refine V_sipush X (v := (-10000 : Int32)) dX12_pound_28 (by decide) ?_
      exact V_iret_m X hr dX12_pound_31 h
    · have h := hf c
      refine V_iload_n X (i := 3) 3 dX12_pound_18 rfl rfl ?_
      refine V_iconst X (v := (0 : Int32)) dX12_pound_19 (by decide) ?_
      refine V_bipush X (v := (60 : Int32)) dX12_pound_20 (by decide) ?_
      refine K_12_in X (Or.inl q_1609) hZ h ⟨Nat.le_of_ble_eq_true rfl, Nat.le_of_ble_eq_true rfl⟩ ⟨Nat.zero_le _, Nat.zero_le _⟩ (st1 := []) (Nat.le_of_ble_eq_true rfl) dX12_pound_22 (fun r8 w7 v9 h => ?_)
      obtain ⟨ht, hf⟩ := h
      refine V_if_ne X (tgt := 32) dX12_pound_25 (by decide) (fun c => ?_) (fun c => ?_)
      · have h := ht c
        refine V_aload_n X (i := 0) 0 dX12_pound_32 rfl rfl ?_
        refine V_iload_n X (i := 1) 1 dX12_pound_33 rfl rfl ?_
        refine V_iconst X (v := (0 : Int32)) dX12_pound_34 (by decide) ?_
        refine V_iconst X (v := (0 : Int32)) dX12_pound_35 (by decide) ?_
        refine K_12_tries X (Or.inl q_1708) hZ h ⟨Nat.le_of_ble_eq_true rfl, Nat.le_of_ble_eq_true rfl⟩ ⟨Nat.zero_le _, Nat.zero_le _⟩ (st1 := []) (Nat.le_of_ble_eq_true rfl) dX12_pound_36 (fun w10 v11 h => ?_)
        refine V_aload_n X (i := 0) 0 dX12_pound_39 rfl rfl ?_
        refine G_12_365 X hZ dX12_pound_40 ?_
        obtain ⟨x12, ex12⟩ : ∃ y : Int32, y = (w10 150 59) := ⟨_, rfl⟩
        have h := h x12 ex12
        refine V_istore X dX12_pound_43 (by decide) ex12 (ls1 := [(4, .int x12), (0, .ref (ad 150)), (1, .int a1), (2, .int a2), (3, .int a3)]) rfl ?_
        refine V_aload_n X (i := 0) 1 dX12_pound_45 rfl rfl ?_
        refine V_iload_n X (i := 2) 3 dX12_pound_46 rfl rfl ?_
        obtain ⟨w13, ew13⟩ : ∃ y : Mem, y = st w10 150 57 a2 := ⟨_, rfl⟩
        have h := h w13 ew13
        refine U_12_356 X hZ rfl rfl dX12_pound_47 ew13 ?_
        refine V_aload_n X (i := 0) 1 dX12_pound_50 rfl rfl ?_
        refine V_iload_n X (i := 3) 4 dX12_pound_51 rfl rfl ?_
        obtain ⟨w14, ew14⟩ : ∃ y : Mem, y = st w13 150 58 a3 := ⟨_, rfl⟩
        have h := h w14 ew14
        refine U_12_359 X hZ rfl rfl dX12_pound_52 ew14 ?_
        refine V_aload_n X (i := 0) 1 dX12_pound_55 rfl rfl ?_
        refine K_12_jumps X (Or.inl q_1668) hZ h ⟨Nat.le_of_ble_eq_true rfl, Nat.le_of_ble_eq_true rfl⟩ ⟨Nat.zero_le _, Nat.zero_le _⟩ (st1 := []) (Nat.le_of_ble_eq_true rfl) dX12_pound_56 (fun w15 v16 h => ?_)
        refine V_aload_n X (i := 0) 1 dX12_pound_59 rfl rfl ?_
        refine G_12_365 X hZ dX12_pound_60 ?_
        refine V_iload X (i := 4) 0 dX12_pound_63 rfl ?_
        refine V_isub X dX12_pound_65 ?_
        exact V_iret_m X hr dX12_pound_66 h
      · have h := hf c
        refine V_sipush X (v := (-10000 : Int32)) dX12_pound_28 (by decide) ?_
        exact V_iret_m X hr dX12_pound_31 h
theorem c_12_pound {a1 : Int32} {a2 : Int32} {a3 : Int32} (hinj : INJ ad) (hZ : ad 1000 = 189) {w : Mem} {wl : MemL} {Q : Int32 → Mem → MemL → Prop} (h : wp_12_pound a1 a2 a3 w wl Q) : Met l yX12_pound (TBq yX12_pound cX12_pound 5 (some .int)) (RM 7) (va_Pc [.ref (ad 150), .int a1, .int a2, .int a3] (PB ad cy D (cmb wc w) wl)) (va_Qi (fun r (u : Mem × MemL) => Q r u.1 u.2) (BM ad cy D wc) (AW ad)) 0 0 (AW ad) := M_enter (by decide) (Nat.le_of_ble_eq_true rfl) hinj (fun p e s m args below meth c X hr => v_12_pound X hr hZ h)
theorem mf_12_pound : MFV yX12_pound cX12_pound 5 (some .int) yX12_pound.cls 3 := ⟨q_1723, q_1721, q_1722, q_14, by decide⟩
theorem K_12_pound {own : String} {idx : Nat} {a1 : Int32} {a2 : Int32} {a3 : Int32} (X : CXq p s m args meth c cc nL own ad cy D A H0) (hL : LK own idx yX12_pound) (hZ : ad 1000 = 189) {w : Mem} {wl : MemL} {Q : Int32 → Mem → MemL → Prop} (h : wp_12_pound a1 a2 a3 w wl Q) (hR : (RM 7).frames + 1 ≤ R.frames ∧ 8 + (5 + 11) + (RM 7).locals ≤ R.locals) (hce : ce ≤ R.cells ∧ sl ≤ R.slots) (hcat : (st1.map fun v => v.category).sum ≤ 8) (hd : decode cc pc = .ok (.invokevirtual idx, 3)) (kk : ∀ (r : Int32) (u : Mem) (v : MemL), Q r u v → V p l e R s m args below meth c nL ad cy D A H0 ce sl Qs wc u v (pc + 3) ls (.int r :: st1)) : V p l e R s m args below meth c nL ad cy D A H0 ce sl Qs wc w wl pc ls (.int a3 :: .int a2 :: .int a1 :: .ref (ad 150) :: st1) := V_callVI_m X mf_12_pound hL (rfl : vwCl[12]? = some (RX12, TX12, 72)) (by decide) (rfl : SK 150 = 12) (hzk hZ (by decide)).2 (c_12_pound X.2.2.2.2.2.2.2.1 hZ h) (As := [.int a1, .int a2, .int a3]) rfl ⟨rfl, rfl⟩ hR hce st1 rfl hcat hd kk
set_option maxRecDepth 20000 in
theorem v_12_gain {a1 : Int32} (X : CXq p s m args meth c cX12_gain 3 yX12_gain.cls ad cy D (AW ad) s.heap) (hr : meth.sig.returnType = (some .int)) (hZ : ad 1000 = 189) {w : Mem} {wl : MemL} {Q : Int32 → Mem → MemL → Prop} (h : wp_12_gain a1 w wl Q) : V p l e (RM 7) s m args below meth c 3 ad cy D (AW ad) s.heap 0 0 (MQ below (va_Qi (fun r (u : Mem × MemL) => Q r u.1 u.2) (BM ad cy D wc) (AW ad)) args s 0 0 (AW ad)) wc w wl 0 [(0, .ref (ad 150)), (1, .int a1)] [] := by
  unfold wp_12_gain at h
  refine V_aload_n X (i := 0) 0 dX12_gain_0 rfl rfl ?_
  refine V_iload_n X (i := 1) 1 dX12_gain_1 rfl rfl ?_
  refine K_12_isMan X (Or.inl q_1621) hZ h ⟨Nat.le_of_ble_eq_true rfl, Nat.le_of_ble_eq_true rfl⟩ ⟨Nat.zero_le _, Nat.zero_le _⟩ (st1 := []) (Nat.le_of_ble_eq_true rfl) dX12_gain_2 (fun r2 w1 v3 h => ?_)
  obtain ⟨ht, hf⟩ := h
  refine V_if_ne X (tgt := 12) dX12_gain_5 (by decide) (fun c => ?_) (fun c => ?_)
  · have h := ht c
    refine V_aload_n X (i := 0) 0 dX12_gain_12 rfl rfl ?_
    refine V_iload_n X (i := 1) 1 dX12_gain_13 rfl rfl ?_
    refine V_iconst X (v := (0 : Int32)) dX12_gain_14 (by decide) ?_
    refine V_iconst X (v := (0 : Int32)) dX12_gain_15 (by decide) ?_
    refine K_12_tries X (Or.inl q_1708) hZ h ⟨Nat.le_of_ble_eq_true rfl, Nat.le_of_ble_eq_true rfl⟩ ⟨Nat.zero_le _, Nat.zero_le _⟩ (st1 := []) (Nat.le_of_ble_eq_true rfl) dX12_gain_16 (fun w4 v5 h => ?_)
    refine V_aload_n X (i := 0) 0 dX12_gain_19 rfl rfl ?_
    refine G_12_380 X hZ dX12_gain_20 ?_
    obtain ⟨x6, ex6⟩ : ∃ y : Int32, y = (w4 150 63) := ⟨_, rfl⟩
    have h := h x6 ex6
    refine V_istore_n X dX12_gain_23 rfl (by decide) ex6 (ls1 := [(2, .int x6), (0, .ref (ad 150)), (1, .int a1)]) rfl ?_
    refine V_aload_n X (i := 0) 1 dX12_gain_24 rfl rfl ?_
    refine V_iconst X (v := (0 : Int32)) dX12_gain_25 (by decide) ?_
    obtain ⟨w7, ew7⟩ : ∃ y : Mem, y = st w4 150 55 (0 : Int32) := ⟨_, rfl⟩
    have h := h w7 ew7
    refine U_12_347 X hZ rfl rfl dX12_gain_26 ew7 ?_
    refine V_aload_n X (i := 0) 1 dX12_gain_29 rfl rfl ?_
    refine V_iconst X (v := (0 : Int32)) dX12_gain_30 (by decide) ?_
    obtain ⟨w8, ew8⟩ : ∃ y : Mem, y = st w7 150 56 (0 : Int32) := ⟨_, rfl⟩
    have h := h w8 ew8
    refine U_12_353 X hZ rfl rfl dX12_gain_31 ew8 ?_
    refine V_aload_n X (i := 0) 1 dX12_gain_34 rfl rfl ?_
    refine K_12_jumps X (Or.inl q_1668) hZ h ⟨Nat.le_of_ble_eq_true rfl, Nat.le_of_ble_eq_true rfl⟩ ⟨Nat.zero_le _, Nat.zero_le _⟩ (st1 := []) (Nat.le_of_ble_eq_true rfl) dX12_gain_35 (fun w9 v10 h => ?_)
    refine V_iload_n X (i := 2) 0 dX12_gain_38 rfl rfl ?_
    refine V_aload_n X (i := 0) 1 dX12_gain_39 rfl rfl ?_
    refine G_12_380 X hZ dX12_gain_40 ?_
    refine V_isub X dX12_gain_43 ?_
    exact V_iret_m X hr dX12_gain_44 h
  · have h := hf c
    refine V_sipush X (v := (-10000 : Int32)) dX12_gain_8 (by decide) ?_
    exact V_iret_m X hr dX12_gain_11 h
theorem c_12_gain {a1 : Int32} (hinj : INJ ad) (hZ : ad 1000 = 189) {w : Mem} {wl : MemL} {Q : Int32 → Mem → MemL → Prop} (h : wp_12_gain a1 w wl Q) : Met l yX12_gain (TBq yX12_gain cX12_gain 3 (some .int)) (RM 7) (va_Pc [.ref (ad 150), .int a1] (PB ad cy D (cmb wc w) wl)) (va_Qi (fun r (u : Mem × MemL) => Q r u.1 u.2) (BM ad cy D wc) (AW ad)) 0 0 (AW ad) := M_enter (by decide) (Nat.le_of_ble_eq_true rfl) hinj (fun p e s m args below meth c X hr => v_12_gain X hr hZ h)
theorem mf_12_gain : MFV yX12_gain cX12_gain 3 (some .int) yX12_gain.cls 1 := ⟨q_1727, q_1725, q_1726, q_14, by decide⟩
theorem K_12_gain {own : String} {idx : Nat} {a1 : Int32} (X : CXq p s m args meth c cc nL own ad cy D A H0) (hL : LK own idx yX12_gain) (hZ : ad 1000 = 189) {w : Mem} {wl : MemL} {Q : Int32 → Mem → MemL → Prop} (h : wp_12_gain a1 w wl Q) (hR : (RM 7).frames + 1 ≤ R.frames ∧ 8 + (3 + 11) + (RM 7).locals ≤ R.locals) (hce : ce ≤ R.cells ∧ sl ≤ R.slots) (hcat : (st1.map fun v => v.category).sum ≤ 8) (hd : decode cc pc = .ok (.invokevirtual idx, 3)) (kk : ∀ (r : Int32) (u : Mem) (v : MemL), Q r u v → V p l e R s m args below meth c nL ad cy D A H0 ce sl Qs wc u v (pc + 3) ls (.int r :: st1)) : V p l e R s m args below meth c nL ad cy D A H0 ce sl Qs wc w wl pc ls (.int a1 :: .ref (ad 150) :: st1) := V_callVI_m X mf_12_gain hL (rfl : vwCl[12]? = some (RX12, TX12, 72)) (by decide) (rfl : SK 150 = 12) (hzk hZ (by decide)).2 (c_12_gain X.2.2.2.2.2.2.2.1 hZ h) (As := [.int a1]) rfl ⟨rfl, rfl⟩ hR hce st1 rfl hcat hd kk
set_option maxRecDepth 20000 in
theorem v_12_number {a1 : Int32} (X : CXq p s m args meth c cX12_number 3 yX12_number.cls ad cy D (AW ad) s.heap) (hr : meth.sig.returnType = (some .int)) (hZ : ad 1000 = 189) {w : Mem} {wl : MemL} {Q : Int32 → Mem → MemL → Prop} (h : wp_12_number a1 w wl Q) : V p l e (RM 7) s m args below meth c 3 ad cy D (AW ad) s.heap 0 0 (MQ below (va_Qi (fun r (u : Mem × MemL) => Q r u.1 u.2) (BM ad cy D wc) (AW ad)) args s 0 0 (AW ad)) wc w wl 0 [(0, .ref (ad 150)), (1, .int a1)] [] := by
  unfold wp_12_number at h
  refine V_aload_n X (i := 0) 0 dX12_number_0 rfl rfl ?_
  refine V_iload_n X (i := 1) 1 dX12_number_1 rfl rfl ?_
  refine K_12_isMan X (Or.inl q_1621) hZ h ⟨Nat.le_of_ble_eq_true rfl, Nat.le_of_ble_eq_true rfl⟩ ⟨Nat.zero_le _, Nat.zero_le _⟩ (st1 := []) (Nat.le_of_ble_eq_true rfl) dX12_number_2 (fun r2 w1 v3 h => ?_)
  obtain ⟨ht, hf⟩ := h
  refine V_if_ne X (tgt := 12) dX12_number_5 (by decide) (fun c => ?_) (fun c => ?_)
  · have h := ht c
    refine V_aload_n X (i := 0) 0 dX12_number_12 rfl rfl ?_
    refine V_iload_n X (i := 1) 1 dX12_number_13 rfl rfl ?_
    refine V_iconst X (v := (0 : Int32)) dX12_number_14 (by decide) ?_
    refine V_iconst X (v := (0 : Int32)) dX12_number_15 (by decide) ?_
    refine K_12_tries X (Or.inl q_1708) hZ h ⟨Nat.le_of_ble_eq_true rfl, Nat.le_of_ble_eq_true rfl⟩ ⟨Nat.zero_le _, Nat.zero_le _⟩ (st1 := []) (Nat.le_of_ble_eq_true rfl) dX12_number_16 (fun w4 v5 h => ?_)
    refine V_aload_n X (i := 0) 0 dX12_number_19 rfl rfl ?_
    refine V_iconst X (v := (0 : Int32)) dX12_number_20 (by decide) ?_
    obtain ⟨w6, ew6⟩ : ∃ y : Mem, y = st w4 150 54 (0 : Int32) := ⟨_, rfl⟩
    have h := h w6 ew6
    refine U_12_341 X hZ rfl rfl dX12_number_21 ew6 ?_
    refine V_aload_n X (i := 0) 0 dX12_number_24 rfl rfl ?_
    refine K_12_jumps X (Or.inl q_1668) hZ h ⟨Nat.le_of_ble_eq_true rfl, Nat.le_of_ble_eq_true rfl⟩ ⟨Nat.zero_le _, Nat.zero_le _⟩ (st1 := []) (Nat.le_of_ble_eq_true rfl) dX12_number_25 (fun w7 v8 h => ?_)
    refine V_aload_n X (i := 0) 0 dX12_number_28 rfl rfl ?_
    refine G_12_380 X hZ dX12_number_29 ?_
    obtain ⟨x9, ex9⟩ : ∃ y : Int32, y = (w7 150 63) := ⟨_, rfl⟩
    have h := h x9 ex9
    refine V_istore_n X dX12_number_32 rfl (by decide) ex9 (ls1 := [(2, .int x9), (0, .ref (ad 150)), (1, .int a1)]) rfl ?_
    refine V_aload_n X (i := 0) 1 dX12_number_33 rfl rfl ?_
    refine V_aload_n X (i := 0) 1 dX12_number_34 rfl rfl ?_
    refine G_12_46 X hZ dX12_number_35 ?_
    refine V_aload_n X (i := 0) 1 dX12_number_38 rfl rfl ?_
    refine G_12_218 X hZ dX12_number_39 ?_
    obtain ⟨g10, h⟩ := h
    refine V_iald_m X (rfl : SLq 160 = 2) (hzk hZ (by decide)) (rfl : SK 160 = 14) g10 dX12_number_42 ?_
    refine V_iconst X (v := (1 : Int32)) dX12_number_43 (by decide) ?_
    refine V_isub X dX12_number_44 ?_
    obtain ⟨w11, ew11⟩ : ∃ y : Mem, y = st w7 150 54 ((w7 160 (ix (w7 150 18))) - (1 : Int32)) := ⟨_, rfl⟩
    have h := h w11 ew11
    refine U_12_341 X hZ rfl rfl dX12_number_45 ew11 ?_
    refine V_aload_n X (i := 0) 1 dX12_number_48 rfl rfl ?_
    refine K_12_jumps X (Or.inl q_1668) hZ h ⟨Nat.le_of_ble_eq_true rfl, Nat.le_of_ble_eq_true rfl⟩ ⟨Nat.zero_le _, Nat.zero_le _⟩ (st1 := []) (Nat.le_of_ble_eq_true rfl) dX12_number_49 (fun w12 v13 h => ?_)
    refine V_iload_n X (i := 2) 0 dX12_number_52 rfl rfl ?_
    refine V_aload_n X (i := 0) 1 dX12_number_53 rfl rfl ?_
    refine G_12_380 X hZ dX12_number_54 ?_
    refine V_isub X dX12_number_57 ?_
    exact V_iret_m X hr dX12_number_58 h
  · have h := hf c
    refine V_sipush X (v := (-10000 : Int32)) dX12_number_8 (by decide) ?_
    exact V_iret_m X hr dX12_number_11 h
theorem c_12_number {a1 : Int32} (hinj : INJ ad) (hZ : ad 1000 = 189) {w : Mem} {wl : MemL} {Q : Int32 → Mem → MemL → Prop} (h : wp_12_number a1 w wl Q) : Met l yX12_number (TBq yX12_number cX12_number 3 (some .int)) (RM 7) (va_Pc [.ref (ad 150), .int a1] (PB ad cy D (cmb wc w) wl)) (va_Qi (fun r (u : Mem × MemL) => Q r u.1 u.2) (BM ad cy D wc) (AW ad)) 0 0 (AW ad) := M_enter (by decide) (Nat.le_of_ble_eq_true rfl) hinj (fun p e s m args below meth c X hr => v_12_number X hr hZ h)
theorem mf_12_number : MFV yX12_number cX12_number 3 (some .int) yX12_number.cls 1 := ⟨q_1731, q_1729, q_1730, q_14, by decide⟩
theorem K_12_number {own : String} {idx : Nat} {a1 : Int32} (X : CXq p s m args meth c cc nL own ad cy D A H0) (hL : LK own idx yX12_number) (hZ : ad 1000 = 189) {w : Mem} {wl : MemL} {Q : Int32 → Mem → MemL → Prop} (h : wp_12_number a1 w wl Q) (hR : (RM 7).frames + 1 ≤ R.frames ∧ 8 + (3 + 11) + (RM 7).locals ≤ R.locals) (hce : ce ≤ R.cells ∧ sl ≤ R.slots) (hcat : (st1.map fun v => v.category).sum ≤ 8) (hd : decode cc pc = .ok (.invokevirtual idx, 3)) (kk : ∀ (r : Int32) (u : Mem) (v : MemL), Q r u v → V p l e R s m args below meth c nL ad cy D A H0 ce sl Qs wc u v (pc + 3) ls (.int r :: st1)) : V p l e R s m args below meth c nL ad cy D A H0 ce sl Qs wc w wl pc ls (.int a1 :: .ref (ad 150) :: st1) := V_callVI_m X mf_12_number hL (rfl : vwCl[12]? = some (RX12, TX12, 72)) (by decide) (rfl : SK 150 = 12) (hzk hZ (by decide)).2 (c_12_number X.2.2.2.2.2.2.2.1 hZ h) (As := [.int a1]) rfl ⟨rfl, rfl⟩ hR hce st1 rfl hcat hd kk
end
