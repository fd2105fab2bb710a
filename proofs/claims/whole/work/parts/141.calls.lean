/-! contracts over the world: entering, ending, calling -/
def RM (d : Nat) : Room := { frames := d, cells := 0, slots := 0, locals := 60 * d }
theorem nest_on {z : Cond} (h : z ∈ NWL) : z.onTables = true := by
  have h1 := (List.mem_filter.mp h).2
  cases z <;> first | rfl | exact absurd h1 (by simp [isNest])
/-- a start: the world as W, wl say, the classes known, the nest mates' links -/
def PB (ad : Nat → Nat) (cy : Nat → ClassId) (D : va_G) (W : Mem) (wl : MemL) : State → Prop := fun U => va_P D vwCl (WS ad cy W wl) U.heap ∧ va_K D vwCl (tysW cy) U ∧ (∀ z ∈ NWL, va_Nw z U) ∧ STR ad (AW ad) U U.heap
def BC (ad : Nat → Nat) (cy : Nat → ClassId) (D : va_G) (wm : Mem) (wl : MemL) : Mem → State → Prop := fun u t => va_P D vwCl (WS ad cy (cmb u wm) wl) t.heap
def BM (ad : Nat → Nat) (cy : Nat → ClassId) (D : va_G) (w : Mem) : Mem × MemL → State → Prop := fun u t => va_P D vwCl (WS ad cy (cmb w u.1) u.2) t.heap
theorem hzk {ad : Nat → Nat} (hZ : ad 1000 = 189) {k : Nat} (h : 150 ≤ k ∧ k < 189) : 150 ≤ k ∧ k < ad 1000 := ⟨h.1, by rw [hZ]; exact h.2⟩
theorem M_enter {l : Launch} {y : MethodName} {cc : ByteArray} {n : Nat} {ret : Option FieldType} {rm : Room} {As : List Value} {ad : Nat → Nat} {cy : Nat → ClassId} {D : va_G} {w wm : Mem} {wl : MemL} {Qc : Array Value → State → Outcome → State → Prop} (hp : plainName y.cls = true) (hn : (lg_sl As).length ≤ n) (hinj : INJ ad)
    (body : ∀ (p : Program) (e : Env) (s : State) (m : MethodId) (args : Array Value) (below : List Frame) (meth : Method) (c : Code), CXq p s m args meth c cc n y.cls ad cy D (AW ad) s.heap → meth.sig.returnType = ret → V p l e rm s m args below meth c n ad cy D (AW ad) s.heap 0 0 (MQ below Qc args s 0 0 (AW ad)) w wm wl 0 (lv_args 0 As) []) : Met l y (TBq y cc n ret) rm (va_Pc As (PB ad cy D (cmb w wm) wl)) Qc 0 0 (AW ad) := by
  refine Met.ofW (cc := cc) (maxL := n) (ret := ret) hp rfl ?_
  intro p e s m args below meth c s₁ B hml hv
  obtain ⟨rfl, hP, hK, hN, hst⟩ := hv
  have hts := atoms_spec (ws := TBq y cc n ret) B.pre
  have hown : s.vm.findClass y.cls = some m.cls := findClass_of_methodNamed B.named
  rw [lg_entry_eq]
  exact body p e s m _ below meth c ⟨B.exec, B.bytes, hml, hown, fun z hz => hts z (List.mem_cons_of_mem _ hz), hN, hK, hinj, fun k hk => ⟨k, hk, rfl⟩, B.notSynchronized, hst⟩ B.returns s.heap [] _ hP va_S.rf (lv_entry As hn)
theorem CX_nn {p : Program} {s : State} {m : MethodId} {args : Array Value} {meth : Method} {c : Code} {cc : ByteArray} {nL : Nat} {own : String} {ad : Nat → Nat} {cy : Nat → ClassId} {D : va_G} {A : Nat → Prop} {H0 : Heap} (X : CXq p s m args meth c cc nL own ad cy D A H0) : 150 ≤ ad 1000 := X.2.2.2.2.2.2.2.1.1
section VE
variable {p : Program} {l : Launch} {e : Env} {R : Room} {s : State} {m : MethodId} {args : Array Value} {below : List Frame} {meth : Method} {c : Code} {cc : ByteArray} {nL : Nat} {own : String} {ad : Nat → Nat} {cy : Nat → ClassId} {D : va_G} {w wm : Mem} {wl : MemL} {pc : Nat} {ls : List (Nat × Value)} {ce sl : Nat}
theorem bo_z {v : Int32} (h : v = 0 ∨ v = 1) : narrow .boolean (.int v) = .int v := by
  rcases h with rfl | rfl <;> rfl
theorem V_iret_c (X : CXq p s m args meth c cc nL own ad cy D (AW ad) s.heap) (hr : meth.sig.returnType = some .int) {v : Int32} {Qr : Int32 → Mem → Prop} (hd : decode cc pc = .ok (.ireturn, 1)) (h : Qr v w) : V p l e R s m args below meth c nL ad cy D (AW ad) s.heap ce sl (MQ below (va_Qi Qr (BC ad cy D wm wl) (AW ad)) args s ce sl (AW ad)) w wm wl pc ls [.int v] := by
  intro H locs la hP hS hl
  obtain ⟨hx, hb, hml, hown, hts, hnw, hK, ⟨hNN, hinj⟩, hA, hlk, hst⟩ := X
  exact W.iret hx hb hr (fun t ht hW => ⟨⟨v, w, rfl, h, by rw [BC, ht]; exact hP⟩, hS.F ht⟩) hS.2.2 hd
theorem V_zret_c (X : CXq p s m args meth c cc nL own ad cy D (AW ad) s.heap) {ty : FieldType} (hr : meth.sig.returnType = some ty) {v : Int32} {Qr : Int32 → Mem → Prop} (hd : decode cc pc = .ok (.ireturn, 1)) (hv : narrow ty (.int v) = .int v) (h : Qr v w) : V p l e R s m args below meth c nL ad cy D (AW ad) s.heap ce sl (MQ below (va_Qi Qr (BC ad cy D wm wl) (AW ad)) args s ce sl (AW ad)) w wm wl pc ls [.int v] := by
  intro H locs la hP hS hl
  obtain ⟨hx, hb, hml, hown, hts, hnw, hK, ⟨hNN, hinj⟩, hA, hlk, hst⟩ := X
  exact W.zret hx hb hr hv (fun t ht hW => ⟨⟨v, w, rfl, h, by rw [BC, ht]; exact hP⟩, hS.F ht⟩) hS.2.2 hd
theorem V_vret_c (X : CXq p s m args meth c cc nL own ad cy D (AW ad) s.heap) (hr : meth.sig.returnType = none) {Qr : Mem → Prop} (hd : decode cc pc = .ok (.return_, 1)) (h : Qr w) : V p l e R s m args below meth c nL ad cy D (AW ad) s.heap ce sl (MQ below (va_Qv Qr (BC ad cy D wm wl) (AW ad)) args s ce sl (AW ad)) w wm wl pc ls [] := by
  intro H locs la hP hS hl
  obtain ⟨hx, hb, hml, hown, hts, hnw, hK, ⟨hNN, hinj⟩, hA, hlk, hst⟩ := X
  exact W.vret hx hb hr (fun t ht hW => ⟨⟨w, rfl, h, by rw [BC, ht]; exact hP⟩, hS.F ht⟩) hS.2.2 hd
theorem V_iret_m (X : CXq p s m args meth c cc nL own ad cy D (AW ad) s.heap) (hr : meth.sig.returnType = some .int) {v : Int32} {Qr : Int32 → Mem → MemL → Prop} (hd : decode cc pc = .ok (.ireturn, 1)) (h : Qr v wm wl) : V p l e R s m args below meth c nL ad cy D (AW ad) s.heap ce sl (MQ below (va_Qi (fun r (u : Mem × MemL) => Qr r u.1 u.2) (BM ad cy D w) (AW ad)) args s ce sl (AW ad)) w wm wl pc ls [.int v] := by
  intro H locs la hP hS hl
  obtain ⟨hx, hb, hml, hown, hts, hnw, hK, ⟨hNN, hinj⟩, hA, hlk, hst⟩ := X
  exact W.iret hx hb hr (fun t ht hW => ⟨⟨v, (wm, wl), rfl, h, by rw [BM, ht]; exact hP⟩, hS.F ht⟩) hS.2.2 hd
theorem V_zret_m (X : CXq p s m args meth c cc nL own ad cy D (AW ad) s.heap) {ty : FieldType} (hr : meth.sig.returnType = some ty) {v : Int32} {Qr : Int32 → Mem → MemL → Prop} (hd : decode cc pc = .ok (.ireturn, 1)) (hv : narrow ty (.int v) = .int v) (h : Qr v wm wl) : V p l e R s m args below meth c nL ad cy D (AW ad) s.heap ce sl (MQ below (va_Qi (fun r (u : Mem × MemL) => Qr r u.1 u.2) (BM ad cy D w) (AW ad)) args s ce sl (AW ad)) w wm wl pc ls [.int v] := by
  intro H locs la hP hS hl
  obtain ⟨hx, hb, hml, hown, hts, hnw, hK, ⟨hNN, hinj⟩, hA, hlk, hst⟩ := X
  exact W.zret hx hb hr hv (fun t ht hW => ⟨⟨v, (wm, wl), rfl, h, by rw [BM, ht]; exact hP⟩, hS.F ht⟩) hS.2.2 hd
theorem V_lret_m (X : CXq p s m args meth c cc nL own ad cy D (AW ad) s.heap) (hr : meth.sig.returnType = some .long) {v : Int64} {Qr : Int64 → Mem → MemL → Prop} (hd : decode cc pc = .ok (.lreturn, 1)) (h : Qr v wm wl) : V p l e R s m args below meth c nL ad cy D (AW ad) s.heap ce sl (MQ below (va_Ql (fun r (u : Mem × MemL) => Qr r u.1 u.2) (BM ad cy D w) (AW ad)) args s ce sl (AW ad)) w wm wl pc ls [.long v] := by
  intro H locs la hP hS hl
  obtain ⟨hx, hb, hml, hown, hts, hnw, hK, ⟨hNN, hinj⟩, hA, hlk, hst⟩ := X
  exact W.lret hx hb hr (fun t ht hW => ⟨⟨v, (wm, wl), rfl, h, by rw [BM, ht]; exact hP⟩, hS.F ht⟩) hS.2.2 hd
theorem V_vret_m (X : CXq p s m args meth c cc nL own ad cy D (AW ad) s.heap) (hr : meth.sig.returnType = none) {Qr : Mem → MemL → Prop} (hd : decode cc pc = .ok (.return_, 1)) (h : Qr wm wl) : V p l e R s m args below meth c nL ad cy D (AW ad) s.heap ce sl (MQ below (va_Qv (fun (u : Mem × MemL) => Qr u.1 u.2) (BM ad cy D w) (AW ad)) args s ce sl (AW ad)) w wm wl pc ls [] := by
  intro H locs la hP hS hl
  obtain ⟨hx, hb, hml, hown, hts, hnw, hK, ⟨hNN, hinj⟩, hA, hlk, hst⟩ := X
  exact W.vret hx hb hr (fun t ht hW => ⟨⟨(wm, wl), rfl, h, by rw [BM, ht]; exact hP⟩, hS.F ht⟩) hS.2.2 hd
/-- a method's own words: a virtual one's, a static one's -/
def MFV (y : MethodName) (b : ByteArray) (n : Nat) (ret : Option FieldType) (C : String) (nn : Nat) : Prop := Cond.code y b n ret ∈ TBG ∧ Cond.instanceMethod y ∈ TBG ∧ Cond.selects C y y ∈ TBG ∧ Cond.initialized C ∈ TBG ∧ (y.cls = C ∧ y.cls ≠ "java/lang/invoke/MethodHandle" ∧ y.cls ≠ "java/lang/invoke/VarHandle" ∧ (parseMethodDescriptor y.desc).map (fun d => d.parameters.length) = some nn)
def MFS (y : MethodName) (b : ByteArray) (n : Nat) (ret : Option FieldType) (nn : Nat) : Prop := Cond.code y b n ret ∈ TBG ∧ Cond.static y ∈ TBG ∧ Cond.initialized y.cls ∈ TBG ∧ (y.cls ≠ "java/lang/invoke/MethodHandle" ∧ y.cls ≠ "java/lang/invoke/VarHandle" ∧ (parseMethodDescriptor y.desc).map (fun d => d.parameters.length) = some nn)
/-- the link of a call: a plain one, or a nest mate's -/
def LK (own : String) (idx : Nat) (y : MethodName) : Prop := Cond.methodLink own idx y ∈ TBG ∨ ∃ host, Cond.methodLinkNest own idx y host ∈ NWL
theorem PB_blind {W : Mem} {As : List Value} : FrameBlind (va_Pc As (PB ad cy D W wl)) := fun a U g mk q => by
  obtain ⟨q0, qP, qK, qN, q1, q2, q3, q4, q5⟩ := q
  exact ⟨q0, qP, va_K.moved (u := U) (U := U.calling g mk a) (Vm.Alike.refl U.vm) qK, fun z hz => va_Nw.same (u := U) (U := U.calling g mk a) (nest_on hz) rfl (qN z hz), vk_S.moved (u := U) (U := U.calling g mk a) (Vm.Alike.refl U.vm) q1, vk_R.same (u := U) (U := U.calling g mk a) rfl q2, vk_R.same (u := U) (U := U.calling g mk a) rfl q3, va_Z.moved (u := U) (U := U.calling g mk a) (Vm.Alike.refl U.vm) q4, va_Z.moved (u := U) (U := U.calling g mk a) (Vm.Alike.refl U.vm) q5⟩
end VE
section VCALL
variable {p : Program} {l : Launch} {e : Env} {R : Room} {s : State} {m : MethodId} {args : Array Value} {below : List Frame} {meth : Method} {c : Code} {cc : ByteArray} {nL : Nat} {own : String} {ad : Nat → Nat} {cy : Nat → ClassId} {D : va_G} {A : Nat → Prop} {H0 : Heap} {ce sl : Nat} {Q : State → Prop} {w wm : Mem} {wl : MemL} {pc : Nat} {ls : List (Nat × Value)}
theorem V_callVI_c (X : CXq p s m args meth c cc nL own ad cy D A H0) {y : MethodName} {b : ByteArray} {n : Nat} {ret : Option FieldType} {rm : Room} {k ci idx nn N : Nat} {C : String} {T : u_T} {As : List Value} {Qr : Int32 → Mem → Prop} (mf : MFV y b n ret C nn) (hL : LK own idx y) (hv : vwCl[ci]? = some (C, T, N)) (hci : ci < 13) (hs : SK k = ci) (hk : k < ad 1000) (hM : Met l y (TBq y b n ret) rm (va_Pc (.ref (ad k) :: As) (PB ad cy D (cmb w wm) wl)) (va_Qi Qr (BC ad cy D wm wl) (AW ad)) 0 0 (AW ad)) (hn : As.length = nn) (hrc : rm.cells = 0 ∧ rm.slots = 0) (hR : rm.frames + 1 ≤ R.frames ∧ 8 + (n + 11) + rm.locals ≤ R.locals) (hce : ce ≤ R.cells ∧ sl ≤ R.slots) (st1 : List Value) {stk : List Value} (hsk : stk = As.reverse ++ .ref (ad k) :: st1) (hcat : (st1.map fun v => v.category).sum ≤ 8) (hd : decode cc pc = .ok (.invokevirtual idx, 3)) (kk : ∀ (r : Int32) (u : Mem), Qr r u → V p l e R s m args below meth c nL ad cy D A H0 ce sl Q u wm wl (pc + 3) ls (.int r :: st1)) : V p l e R s m args below meth c nL ad cy D A H0 ce sl Q w wm wl pc ls stk := by
  intro H locs la hP hS hl
  obtain ⟨hx, hb, hml, hown, hts, hnw, hK, ⟨hNN, hinj⟩, hA, hlk, hst⟩ := X
  have hAW : ∀ q, AW ad q → A q := fun q h => by
    obtain ⟨k, hk, rfl⟩ := h
    exact hA k hk
  subst hsk
  have fix : CallFix p m c cc nL s args TBG own := ⟨hx, hb, hml, hown, hts⟩
  have pre : PreV s H C (ad k) (va_Pc (.ref (ad k) :: As) (PB ad cy D (cmb w wm) wl)) As := ⟨PB_blind, va_recv hK hP (ci := ci) (q0 := k) hv (WS_at hk |>.trans (by rw [CE_obj hs hci])), fun U hU hW => ⟨rfl, by rw [hU]; exact hP, va_K.moved hW.alike hK, nest_warm hW hnw, by rw [hU]; exact STR_at hst hS hW hAW⟩⟩
  obtain ⟨m1, m2, m3, m4, m5, m6⟩ := mf
  have hini : (Cond.initialized y.cls).before args s = true := by rw [m5]; exact hts _ m4
  have run : va_Run p l e R s m args below meth c H locs ce sl 0 0 (F0 m pc la (As.reverse ++ .ref (ad k) :: st1)) st1 (va_Qi Qr (BC ad cy D wm wl) (AW ad) (Value.ref (ad k) :: As).toArray) (AW ad) := by
    rcases hL with hL | ⟨host, hL⟩
    · exact va_runV fix hM ⟨callB_of nn hts (goodTB m1) rfl hrc.1 hrc.2 hini (hts _ hL) m6 hR, hts _ m2, hts _ m3⟩ pre rfl hn hl.1 rfl (lv_room hcat) hd ⟨hce.1, hce.2⟩
    · exact va_runVN fix hM ⟨va_cnB nn hts (goodTB m1) rfl hrc.1 hrc.2 (hnw _ hL) hini m6 hR, hts _ m2, hts _ m3⟩ pre rfl hn hl.1 rfl (lv_room hcat) hd ⟨hce.1, hce.2⟩
  exact va_calli run hS (fun q _ h => hAW q h) hAW (fun r u t H1 locs1 ht hvm hw hB hz1 hk1 hS1 => by
    have hP1 := hB
    rw [BC, ht] at hP1
    exact kk r u hw H1 locs1 la hP1 hS1 hl)
theorem V_callSI_c (X : CXq p s m args meth c cc nL own ad cy D A H0) {y : MethodName} {b : ByteArray} {n : Nat} {ret : Option FieldType} {rm : Room} {idx nn : Nat} {As : List Value} {Qr : Int32 → Mem → Prop} (mf : MFS y b n ret nn) (hL : LK own idx y) (hM : Met l y (TBq y b n ret) rm (va_Pc As (PB ad cy D (cmb w wm) wl)) (va_Qi Qr (BC ad cy D wm wl) (AW ad)) 0 0 (AW ad)) (hn : As.length = nn) (hrc : rm.cells = 0 ∧ rm.slots = 0) (hR : rm.frames + 1 ≤ R.frames ∧ 8 + (n + 11) + rm.locals ≤ R.locals) (hce : ce ≤ R.cells ∧ sl ≤ R.slots) (st1 : List Value) {stk : List Value} (hsk : stk = As.reverse ++ st1) (hcat : (st1.map fun v => v.category).sum ≤ 8) (hd : decode cc pc = .ok (.invokestatic idx, 3)) (kk : ∀ (r : Int32) (u : Mem), Qr r u → V p l e R s m args below meth c nL ad cy D A H0 ce sl Q u wm wl (pc + 3) ls (.int r :: st1)) : V p l e R s m args below meth c nL ad cy D A H0 ce sl Q w wm wl pc ls stk := by
  intro H locs la hP hS hl
  obtain ⟨hx, hb, hml, hown, hts, hnw, hK, ⟨hNN, hinj⟩, hA, hlk, hst⟩ := X
  have hAW : ∀ q, AW ad q → A q := fun q h => by
    obtain ⟨k, hk, rfl⟩ := h
    exact hA k hk
  subst hsk
  have fix : CallFix p m c cc nL s args TBG own := ⟨hx, hb, hml, hown, hts⟩
  have pre : PreS s H (va_Pc As (PB ad cy D (cmb w wm) wl)) As := ⟨PB_blind, fun U hU hW => ⟨rfl, by rw [hU]; exact hP, va_K.moved hW.alike hK, nest_warm hW hnw, by rw [hU]; exact STR_at hst hS hW hAW⟩⟩
  obtain ⟨m1, m2, m3, m4⟩ := mf
  have run : va_Run p l e R s m args below meth c H locs ce sl 0 0 (F0 m pc la (As.reverse ++ st1)) st1 (va_Qi Qr (BC ad cy D wm wl) (AW ad) As.toArray) (AW ad) := by
    rcases hL with hL | ⟨host, hL⟩
    · exact va_runS fix hM ⟨callB_of nn hts (goodTB m1) rfl hrc.1 hrc.2 (hts _ m3) (hts _ hL) m4 hR, hts _ m2⟩ pre rfl hn hl.1 rfl (lv_room hcat) hd ⟨hce.1, hce.2⟩
    · exact va_runSN fix hM ⟨va_cnB nn hts (goodTB m1) rfl hrc.1 hrc.2 (hnw _ hL) (hts _ m3) m4 hR, hts _ m2, trivial⟩ pre rfl hn hl.1 rfl (lv_room hcat) hd ⟨hce.1, hce.2⟩
  exact va_calli run hS (fun q _ h => hAW q h) hAW (fun r u t H1 locs1 ht hvm hw hB hz1 hk1 hS1 => by
    have hP1 := hB
    rw [BC, ht] at hP1
    exact kk r u hw H1 locs1 la hP1 hS1 hl)
theorem V_callVL_c (X : CXq p s m args meth c cc nL own ad cy D A H0) {y : MethodName} {b : ByteArray} {n : Nat} {ret : Option FieldType} {rm : Room} {k ci idx nn N : Nat} {C : String} {T : u_T} {As : List Value} {Qr : Int64 → Mem → Prop} (mf : MFV y b n ret C nn) (hL : LK own idx y) (hv : vwCl[ci]? = some (C, T, N)) (hci : ci < 13) (hs : SK k = ci) (hk : k < ad 1000) (hM : Met l y (TBq y b n ret) rm (va_Pc (.ref (ad k) :: As) (PB ad cy D (cmb w wm) wl)) (va_Ql Qr (BC ad cy D wm wl) (AW ad)) 0 0 (AW ad)) (hn : As.length = nn) (hrc : rm.cells = 0 ∧ rm.slots = 0) (hR : rm.frames + 1 ≤ R.frames ∧ 8 + (n + 11) + rm.locals ≤ R.locals) (hce : ce ≤ R.cells ∧ sl ≤ R.slots) (st1 : List Value) {stk : List Value} (hsk : stk = As.reverse ++ .ref (ad k) :: st1) (hcat : (st1.map fun v => v.category).sum ≤ 8) (hd : decode cc pc = .ok (.invokevirtual idx, 3)) (kk : ∀ (r : Int64) (u : Mem), Qr r u → V p l e R s m args below meth c nL ad cy D A H0 ce sl Q u wm wl (pc + 3) ls (.long r :: st1)) : V p l e R s m args below meth c nL ad cy D A H0 ce sl Q w wm wl pc ls stk := by
  intro H locs la hP hS hl
  obtain ⟨hx, hb, hml, hown, hts, hnw, hK, ⟨hNN, hinj⟩, hA, hlk, hst⟩ := X
  have hAW : ∀ q, AW ad q → A q := fun q h => by
    obtain ⟨k, hk, rfl⟩ := h
    exact hA k hk
  subst hsk
  have fix : CallFix p m c cc nL s args TBG own := ⟨hx, hb, hml, hown, hts⟩
  have pre : PreV s H C (ad k) (va_Pc (.ref (ad k) :: As) (PB ad cy D (cmb w wm) wl)) As := ⟨PB_blind, va_recv hK hP (ci := ci) (q0 := k) hv (WS_at hk |>.trans (by rw [CE_obj hs hci])), fun U hU hW => ⟨rfl, by rw [hU]; exact hP, va_K.moved hW.alike hK, nest_warm hW hnw, by rw [hU]; exact STR_at hst hS hW hAW⟩⟩
  obtain ⟨m1, m2, m3, m4, m5, m6⟩ := mf
  have hini : (Cond.initialized y.cls).before args s = true := by rw [m5]; exact hts _ m4
  have run : va_Run p l e R s m args below meth c H locs ce sl 0 0 (F0 m pc la (As.reverse ++ .ref (ad k) :: st1)) st1 (va_Ql Qr (BC ad cy D wm wl) (AW ad) (Value.ref (ad k) :: As).toArray) (AW ad) := by
    rcases hL with hL | ⟨host, hL⟩
    · exact va_runV fix hM ⟨callB_of nn hts (goodTB m1) rfl hrc.1 hrc.2 hini (hts _ hL) m6 hR, hts _ m2, hts _ m3⟩ pre rfl hn hl.1 rfl (lv_room hcat) hd ⟨hce.1, hce.2⟩
    · exact va_runVN fix hM ⟨va_cnB nn hts (goodTB m1) rfl hrc.1 hrc.2 (hnw _ hL) hini m6 hR, hts _ m2, hts _ m3⟩ pre rfl hn hl.1 rfl (lv_room hcat) hd ⟨hce.1, hce.2⟩
  exact va_calll run hS (fun q _ h => hAW q h) hAW (fun r u t H1 locs1 ht hvm hw hB hz1 hk1 hS1 => by
    have hP1 := hB
    rw [BC, ht] at hP1
    exact kk r u hw H1 locs1 la hP1 hS1 hl)
theorem V_callSL_c (X : CXq p s m args meth c cc nL own ad cy D A H0) {y : MethodName} {b : ByteArray} {n : Nat} {ret : Option FieldType} {rm : Room} {idx nn : Nat} {As : List Value} {Qr : Int64 → Mem → Prop} (mf : MFS y b n ret nn) (hL : LK own idx y) (hM : Met l y (TBq y b n ret) rm (va_Pc As (PB ad cy D (cmb w wm) wl)) (va_Ql Qr (BC ad cy D wm wl) (AW ad)) 0 0 (AW ad)) (hn : As.length = nn) (hrc : rm.cells = 0 ∧ rm.slots = 0) (hR : rm.frames + 1 ≤ R.frames ∧ 8 + (n + 11) + rm.locals ≤ R.locals) (hce : ce ≤ R.cells ∧ sl ≤ R.slots) (st1 : List Value) {stk : List Value} (hsk : stk = As.reverse ++ st1) (hcat : (st1.map fun v => v.category).sum ≤ 8) (hd : decode cc pc = .ok (.invokestatic idx, 3)) (kk : ∀ (r : Int64) (u : Mem), Qr r u → V p l e R s m args below meth c nL ad cy D A H0 ce sl Q u wm wl (pc + 3) ls (.long r :: st1)) : V p l e R s m args below meth c nL ad cy D A H0 ce sl Q w wm wl pc ls stk := by
  intro H locs la hP hS hl
  obtain ⟨hx, hb, hml, hown, hts, hnw, hK, ⟨hNN, hinj⟩, hA, hlk, hst⟩ := X
  have hAW : ∀ q, AW ad q → A q := fun q h => by
    obtain ⟨k, hk, rfl⟩ := h
    exact hA k hk
  subst hsk
  have fix : CallFix p m c cc nL s args TBG own := ⟨hx, hb, hml, hown, hts⟩
  have pre : PreS s H (va_Pc As (PB ad cy D (cmb w wm) wl)) As := ⟨PB_blind, fun U hU hW => ⟨rfl, by rw [hU]; exact hP, va_K.moved hW.alike hK, nest_warm hW hnw, by rw [hU]; exact STR_at hst hS hW hAW⟩⟩
  obtain ⟨m1, m2, m3, m4⟩ := mf
  have run : va_Run p l e R s m args below meth c H locs ce sl 0 0 (F0 m pc la (As.reverse ++ st1)) st1 (va_Ql Qr (BC ad cy D wm wl) (AW ad) As.toArray) (AW ad) := by
    rcases hL with hL | ⟨host, hL⟩
    · exact va_runS fix hM ⟨callB_of nn hts (goodTB m1) rfl hrc.1 hrc.2 (hts _ m3) (hts _ hL) m4 hR, hts _ m2⟩ pre rfl hn hl.1 rfl (lv_room hcat) hd ⟨hce.1, hce.2⟩
    · exact va_runSN fix hM ⟨va_cnB nn hts (goodTB m1) rfl hrc.1 hrc.2 (hnw _ hL) (hts _ m3) m4 hR, hts _ m2, trivial⟩ pre rfl hn hl.1 rfl (lv_room hcat) hd ⟨hce.1, hce.2⟩
  exact va_calll run hS (fun q _ h => hAW q h) hAW (fun r u t H1 locs1 ht hvm hw hB hz1 hk1 hS1 => by
    have hP1 := hB
    rw [BC, ht] at hP1
    exact kk r u hw H1 locs1 la hP1 hS1 hl)
theorem V_callVV_c (X : CXq p s m args meth c cc nL own ad cy D A H0) {y : MethodName} {b : ByteArray} {n : Nat} {ret : Option FieldType} {rm : Room} {k ci idx nn N : Nat} {C : String} {T : u_T} {As : List Value} {Qr : Mem → Prop} (mf : MFV y b n ret C nn) (hL : LK own idx y) (hv : vwCl[ci]? = some (C, T, N)) (hci : ci < 13) (hs : SK k = ci) (hk : k < ad 1000) (hM : Met l y (TBq y b n ret) rm (va_Pc (.ref (ad k) :: As) (PB ad cy D (cmb w wm) wl)) (va_Qv Qr (BC ad cy D wm wl) (AW ad)) 0 0 (AW ad)) (hn : As.length = nn) (hrc : rm.cells = 0 ∧ rm.slots = 0) (hR : rm.frames + 1 ≤ R.frames ∧ 8 + (n + 11) + rm.locals ≤ R.locals) (hce : ce ≤ R.cells ∧ sl ≤ R.slots) (st1 : List Value) {stk : List Value} (hsk : stk = As.reverse ++ .ref (ad k) :: st1) (hcat : (st1.map fun v => v.category).sum ≤ 8) (hd : decode cc pc = .ok (.invokevirtual idx, 3)) (kk : ∀ (u : Mem), Qr u → V p l e R s m args below meth c nL ad cy D A H0 ce sl Q u wm wl (pc + 3) ls (st1)) : V p l e R s m args below meth c nL ad cy D A H0 ce sl Q w wm wl pc ls stk := by
  intro H locs la hP hS hl
  obtain ⟨hx, hb, hml, hown, hts, hnw, hK, ⟨hNN, hinj⟩, hA, hlk, hst⟩ := X
  have hAW : ∀ q, AW ad q → A q := fun q h => by
    obtain ⟨k, hk, rfl⟩ := h
    exact hA k hk
  subst hsk
  have fix : CallFix p m c cc nL s args TBG own := ⟨hx, hb, hml, hown, hts⟩
  have pre : PreV s H C (ad k) (va_Pc (.ref (ad k) :: As) (PB ad cy D (cmb w wm) wl)) As := ⟨PB_blind, va_recv hK hP (ci := ci) (q0 := k) hv (WS_at hk |>.trans (by rw [CE_obj hs hci])), fun U hU hW => ⟨rfl, by rw [hU]; exact hP, va_K.moved hW.alike hK, nest_warm hW hnw, by rw [hU]; exact STR_at hst hS hW hAW⟩⟩
  obtain ⟨m1, m2, m3, m4, m5, m6⟩ := mf
  have hini : (Cond.initialized y.cls).before args s = true := by rw [m5]; exact hts _ m4
  have run : va_Run p l e R s m args below meth c H locs ce sl 0 0 (F0 m pc la (As.reverse ++ .ref (ad k) :: st1)) st1 (va_Qv Qr (BC ad cy D wm wl) (AW ad) (Value.ref (ad k) :: As).toArray) (AW ad) := by
    rcases hL with hL | ⟨host, hL⟩
    · exact va_runV fix hM ⟨callB_of nn hts (goodTB m1) rfl hrc.1 hrc.2 hini (hts _ hL) m6 hR, hts _ m2, hts _ m3⟩ pre rfl hn hl.1 rfl (lv_room hcat) hd ⟨hce.1, hce.2⟩
    · exact va_runVN fix hM ⟨va_cnB nn hts (goodTB m1) rfl hrc.1 hrc.2 (hnw _ hL) hini m6 hR, hts _ m2, hts _ m3⟩ pre rfl hn hl.1 rfl (lv_room hcat) hd ⟨hce.1, hce.2⟩
  exact va_callv run hS (fun q _ h => hAW q h) hAW (fun u t H1 locs1 ht hvm hw hB hz1 hk1 hS1 => by
    have hP1 := hB
    rw [BC, ht] at hP1
    exact kk u hw H1 locs1 la hP1 hS1 hl)
theorem V_callSV_c (X : CXq p s m args meth c cc nL own ad cy D A H0) {y : MethodName} {b : ByteArray} {n : Nat} {ret : Option FieldType} {rm : Room} {idx nn : Nat} {As : List Value} {Qr : Mem → Prop} (mf : MFS y b n ret nn) (hL : LK own idx y) (hM : Met l y (TBq y b n ret) rm (va_Pc As (PB ad cy D (cmb w wm) wl)) (va_Qv Qr (BC ad cy D wm wl) (AW ad)) 0 0 (AW ad)) (hn : As.length = nn) (hrc : rm.cells = 0 ∧ rm.slots = 0) (hR : rm.frames + 1 ≤ R.frames ∧ 8 + (n + 11) + rm.locals ≤ R.locals) (hce : ce ≤ R.cells ∧ sl ≤ R.slots) (st1 : List Value) {stk : List Value} (hsk : stk = As.reverse ++ st1) (hcat : (st1.map fun v => v.category).sum ≤ 8) (hd : decode cc pc = .ok (.invokestatic idx, 3)) (kk : ∀ (u : Mem), Qr u → V p l e R s m args below meth c nL ad cy D A H0 ce sl Q u wm wl (pc + 3) ls (st1)) : V p l e R s m args below meth c nL ad cy D A H0 ce sl Q w wm wl pc ls stk := by
  intro H locs la hP hS hl
  obtain ⟨hx, hb, hml, hown, hts, hnw, hK, ⟨hNN, hinj⟩, hA, hlk, hst⟩ := X
  have hAW : ∀ q, AW ad q → A q := fun q h => by
    obtain ⟨k, hk, rfl⟩ := h
    exact hA k hk
  subst hsk
  have fix : CallFix p m c cc nL s args TBG own := ⟨hx, hb, hml, hown, hts⟩
  have pre : PreS s H (va_Pc As (PB ad cy D (cmb w wm) wl)) As := ⟨PB_blind, fun U hU hW => ⟨rfl, by rw [hU]; exact hP, va_K.moved hW.alike hK, nest_warm hW hnw, by rw [hU]; exact STR_at hst hS hW hAW⟩⟩
  obtain ⟨m1, m2, m3, m4⟩ := mf
  have run : va_Run p l e R s m args below meth c H locs ce sl 0 0 (F0 m pc la (As.reverse ++ st1)) st1 (va_Qv Qr (BC ad cy D wm wl) (AW ad) As.toArray) (AW ad) := by
    rcases hL with hL | ⟨host, hL⟩
    · exact va_runS fix hM ⟨callB_of nn hts (goodTB m1) rfl hrc.1 hrc.2 (hts _ m3) (hts _ hL) m4 hR, hts _ m2⟩ pre rfl hn hl.1 rfl (lv_room hcat) hd ⟨hce.1, hce.2⟩
    · exact va_runSN fix hM ⟨va_cnB nn hts (goodTB m1) rfl hrc.1 hrc.2 (hnw _ hL) (hts _ m3) m4 hR, hts _ m2, trivial⟩ pre rfl hn hl.1 rfl (lv_room hcat) hd ⟨hce.1, hce.2⟩
  exact va_callv run hS (fun q _ h => hAW q h) hAW (fun u t H1 locs1 ht hvm hw hB hz1 hk1 hS1 => by
    have hP1 := hB
    rw [BC, ht] at hP1
    exact kk u hw H1 locs1 la hP1 hS1 hl)
theorem V_callVI_m (X : CXq p s m args meth c cc nL own ad cy D A H0) {y : MethodName} {b : ByteArray} {n : Nat} {ret : Option FieldType} {rm : Room} {k ci idx nn N : Nat} {C : String} {T : u_T} {As : List Value} {Qr : Int32 → Mem → MemL → Prop} (mf : MFV y b n ret C nn) (hL : LK own idx y) (hv : vwCl[ci]? = some (C, T, N)) (hci : ci < 13) (hs : SK k = ci) (hk : k < ad 1000) (hM : Met l y (TBq y b n ret) rm (va_Pc (.ref (ad k) :: As) (PB ad cy D (cmb w wm) wl)) (va_Qi (fun r (u : Mem × MemL) => Qr r u.1 u.2) (BM ad cy D w) (AW ad)) 0 0 (AW ad)) (hn : As.length = nn) (hrc : rm.cells = 0 ∧ rm.slots = 0) (hR : rm.frames + 1 ≤ R.frames ∧ 8 + (n + 11) + rm.locals ≤ R.locals) (hce : ce ≤ R.cells ∧ sl ≤ R.slots) (st1 : List Value) {stk : List Value} (hsk : stk = As.reverse ++ .ref (ad k) :: st1) (hcat : (st1.map fun v => v.category).sum ≤ 8) (hd : decode cc pc = .ok (.invokevirtual idx, 3)) (kk : ∀ (r : Int32) (u : Mem) (v : MemL), Qr r u v → V p l e R s m args below meth c nL ad cy D A H0 ce sl Q w u v (pc + 3) ls (.int r :: st1)) : V p l e R s m args below meth c nL ad cy D A H0 ce sl Q w wm wl pc ls stk := by
  intro H locs la hP hS hl
  obtain ⟨hx, hb, hml, hown, hts, hnw, hK, ⟨hNN, hinj⟩, hA, hlk, hst⟩ := X
  have hAW : ∀ q, AW ad q → A q := fun q h => by
    obtain ⟨k, hk, rfl⟩ := h
    exact hA k hk
  subst hsk
  have fix : CallFix p m c cc nL s args TBG own := ⟨hx, hb, hml, hown, hts⟩
  have pre : PreV s H C (ad k) (va_Pc (.ref (ad k) :: As) (PB ad cy D (cmb w wm) wl)) As := ⟨PB_blind, va_recv hK hP (ci := ci) (q0 := k) hv (WS_at hk |>.trans (by rw [CE_obj hs hci])), fun U hU hW => ⟨rfl, by rw [hU]; exact hP, va_K.moved hW.alike hK, nest_warm hW hnw, by rw [hU]; exact STR_at hst hS hW hAW⟩⟩
  obtain ⟨m1, m2, m3, m4, m5, m6⟩ := mf
  have hini : (Cond.initialized y.cls).before args s = true := by rw [m5]; exact hts _ m4
  have run : va_Run p l e R s m args below meth c H locs ce sl 0 0 (F0 m pc la (As.reverse ++ .ref (ad k) :: st1)) st1 (va_Qi (fun r (u : Mem × MemL) => Qr r u.1 u.2) (BM ad cy D w) (AW ad) (Value.ref (ad k) :: As).toArray) (AW ad) := by
    rcases hL with hL | ⟨host, hL⟩
    · exact va_runV fix hM ⟨callB_of nn hts (goodTB m1) rfl hrc.1 hrc.2 hini (hts _ hL) m6 hR, hts _ m2, hts _ m3⟩ pre rfl hn hl.1 rfl (lv_room hcat) hd ⟨hce.1, hce.2⟩
    · exact va_runVN fix hM ⟨va_cnB nn hts (goodTB m1) rfl hrc.1 hrc.2 (hnw _ hL) hini m6 hR, hts _ m2, hts _ m3⟩ pre rfl hn hl.1 rfl (lv_room hcat) hd ⟨hce.1, hce.2⟩
  exact va_calli run hS (fun q _ h => hAW q h) hAW (fun r u t H1 locs1 ht hvm hw hB hz1 hk1 hS1 => by
    have hP1 := hB
    rw [BM, ht] at hP1
    exact kk r u.1 u.2 hw H1 locs1 la hP1 hS1 hl)
theorem V_callSI_m (X : CXq p s m args meth c cc nL own ad cy D A H0) {y : MethodName} {b : ByteArray} {n : Nat} {ret : Option FieldType} {rm : Room} {idx nn : Nat} {As : List Value} {Qr : Int32 → Mem → MemL → Prop} (mf : MFS y b n ret nn) (hL : LK own idx y) (hM : Met l y (TBq y b n ret) rm (va_Pc As (PB ad cy D (cmb w wm) wl)) (va_Qi (fun r (u : Mem × MemL) => Qr r u.1 u.2) (BM ad cy D w) (AW ad)) 0 0 (AW ad)) (hn : As.length = nn) (hrc : rm.cells = 0 ∧ rm.slots = 0) (hR : rm.frames + 1 ≤ R.frames ∧ 8 + (n + 11) + rm.locals ≤ R.locals) (hce : ce ≤ R.cells ∧ sl ≤ R.slots) (st1 : List Value) {stk : List Value} (hsk : stk = As.reverse ++ st1) (hcat : (st1.map fun v => v.category).sum ≤ 8) (hd : decode cc pc = .ok (.invokestatic idx, 3)) (kk : ∀ (r : Int32) (u : Mem) (v : MemL), Qr r u v → V p l e R s m args below meth c nL ad cy D A H0 ce sl Q w u v (pc + 3) ls (.int r :: st1)) : V p l e R s m args below meth c nL ad cy D A H0 ce sl Q w wm wl pc ls stk := by
  intro H locs la hP hS hl
  obtain ⟨hx, hb, hml, hown, hts, hnw, hK, ⟨hNN, hinj⟩, hA, hlk, hst⟩ := X
  have hAW : ∀ q, AW ad q → A q := fun q h => by
    obtain ⟨k, hk, rfl⟩ := h
    exact hA k hk
  subst hsk
  have fix : CallFix p m c cc nL s args TBG own := ⟨hx, hb, hml, hown, hts⟩
  have pre : PreS s H (va_Pc As (PB ad cy D (cmb w wm) wl)) As := ⟨PB_blind, fun U hU hW => ⟨rfl, by rw [hU]; exact hP, va_K.moved hW.alike hK, nest_warm hW hnw, by rw [hU]; exact STR_at hst hS hW hAW⟩⟩
  obtain ⟨m1, m2, m3, m4⟩ := mf
  have run : va_Run p l e R s m args below meth c H locs ce sl 0 0 (F0 m pc la (As.reverse ++ st1)) st1 (va_Qi (fun r (u : Mem × MemL) => Qr r u.1 u.2) (BM ad cy D w) (AW ad) As.toArray) (AW ad) := by
    rcases hL with hL | ⟨host, hL⟩
    · exact va_runS fix hM ⟨callB_of nn hts (goodTB m1) rfl hrc.1 hrc.2 (hts _ m3) (hts _ hL) m4 hR, hts _ m2⟩ pre rfl hn hl.1 rfl (lv_room hcat) hd ⟨hce.1, hce.2⟩
    · exact va_runSN fix hM ⟨va_cnB nn hts (goodTB m1) rfl hrc.1 hrc.2 (hnw _ hL) (hts _ m3) m4 hR, hts _ m2, trivial⟩ pre rfl hn hl.1 rfl (lv_room hcat) hd ⟨hce.1, hce.2⟩
  exact va_calli run hS (fun q _ h => hAW q h) hAW (fun r u t H1 locs1 ht hvm hw hB hz1 hk1 hS1 => by
    have hP1 := hB
    rw [BM, ht] at hP1
    exact kk r u.1 u.2 hw H1 locs1 la hP1 hS1 hl)
theorem V_callVL_m (X : CXq p s m args meth c cc nL own ad cy D A H0) {y : MethodName} {b : ByteArray} {n : Nat} {ret : Option FieldType} {rm : Room} {k ci idx nn N : Nat} {C : String} {T : u_T} {As : List Value} {Qr : Int64 → Mem → MemL → Prop} (mf : MFV y b n ret C nn) (hL : LK own idx y) (hv : vwCl[ci]? = some (C, T, N)) (hci : ci < 13) (hs : SK k = ci) (hk : k < ad 1000) (hM : Met l y (TBq y b n ret) rm (va_Pc (.ref (ad k) :: As) (PB ad cy D (cmb w wm) wl)) (va_Ql (fun r (u : Mem × MemL) => Qr r u.1 u.2) (BM ad cy D w) (AW ad)) 0 0 (AW ad)) (hn : As.length = nn) (hrc : rm.cells = 0 ∧ rm.slots = 0) (hR : rm.frames + 1 ≤ R.frames ∧ 8 + (n + 11) + rm.locals ≤ R.locals) (hce : ce ≤ R.cells ∧ sl ≤ R.slots) (st1 : List Value) {stk : List Value} (hsk : stk = As.reverse ++ .ref (ad k) :: st1) (hcat : (st1.map fun v => v.category).sum ≤ 8) (hd : decode cc pc = .ok (.invokevirtual idx, 3)) (kk : ∀ (r : Int64) (u : Mem) (v : MemL), Qr r u v → V p l e R s m args below meth c nL ad cy D A H0 ce sl Q w u v (pc + 3) ls (.long r :: st1)) : V p l e R s m args below meth c nL ad cy D A H0 ce sl Q w wm wl pc ls stk := by
  intro H locs la hP hS hl
  obtain ⟨hx, hb, hml, hown, hts, hnw, hK, ⟨hNN, hinj⟩, hA, hlk, hst⟩ := X
  have hAW : ∀ q, AW ad q → A q := fun q h => by
    obtain ⟨k, hk, rfl⟩ := h
    exact hA k hk
  subst hsk
  have fix : CallFix p m c cc nL s args TBG own := ⟨hx, hb, hml, hown, hts⟩
  have pre : PreV s H C (ad k) (va_Pc (.ref (ad k) :: As) (PB ad cy D (cmb w wm) wl)) As := ⟨PB_blind, va_recv hK hP (ci := ci) (q0 := k) hv (WS_at hk |>.trans (by rw [CE_obj hs hci])), fun U hU hW => ⟨rfl, by rw [hU]; exact hP, va_K.moved hW.alike hK, nest_warm hW hnw, by rw [hU]; exact STR_at hst hS hW hAW⟩⟩
  obtain ⟨m1, m2, m3, m4, m5, m6⟩ := mf
  have hini : (Cond.initialized y.cls).before args s = true := by rw [m5]; exact hts _ m4
  have run : va_Run p l e R s m args below meth c H locs ce sl 0 0 (F0 m pc la (As.reverse ++ .ref (ad k) :: st1)) st1 (va_Ql (fun r (u : Mem × MemL) => Qr r u.1 u.2) (BM ad cy D w) (AW ad) (Value.ref (ad k) :: As).toArray) (AW ad) := by
    rcases hL with hL | ⟨host, hL⟩
    · exact va_runV fix hM ⟨callB_of nn hts (goodTB m1) rfl hrc.1 hrc.2 hini (hts _ hL) m6 hR, hts _ m2, hts _ m3⟩ pre rfl hn hl.1 rfl (lv_room hcat) hd ⟨hce.1, hce.2⟩
    · exact va_runVN fix hM ⟨va_cnB nn hts (goodTB m1) rfl hrc.1 hrc.2 (hnw _ hL) hini m6 hR, hts _ m2, hts _ m3⟩ pre rfl hn hl.1 rfl (lv_room hcat) hd ⟨hce.1, hce.2⟩
  exact va_calll run hS (fun q _ h => hAW q h) hAW (fun r u t H1 locs1 ht hvm hw hB hz1 hk1 hS1 => by
    have hP1 := hB
    rw [BM, ht] at hP1
    exact kk r u.1 u.2 hw H1 locs1 la hP1 hS1 hl)
theorem V_callSL_m (X : CXq p s m args meth c cc nL own ad cy D A H0) {y : MethodName} {b : ByteArray} {n : Nat} {ret : Option FieldType} {rm : Room} {idx nn : Nat} {As : List Value} {Qr : Int64 → Mem → MemL → Prop} (mf : MFS y b n ret nn) (hL : LK own idx y) (hM : Met l y (TBq y b n ret) rm (va_Pc As (PB ad cy D (cmb w wm) wl)) (va_Ql (fun r (u : Mem × MemL) => Qr r u.1 u.2) (BM ad cy D w) (AW ad)) 0 0 (AW ad)) (hn : As.length = nn) (hrc : rm.cells = 0 ∧ rm.slots = 0) (hR : rm.frames + 1 ≤ R.frames ∧ 8 + (n + 11) + rm.locals ≤ R.locals) (hce : ce ≤ R.cells ∧ sl ≤ R.slots) (st1 : List Value) {stk : List Value} (hsk : stk = As.reverse ++ st1) (hcat : (st1.map fun v => v.category).sum ≤ 8) (hd : decode cc pc = .ok (.invokestatic idx, 3)) (kk : ∀ (r : Int64) (u : Mem) (v : MemL), Qr r u v → V p l e R s m args below meth c nL ad cy D A H0 ce sl Q w u v (pc + 3) ls (.long r :: st1)) : V p l e R s m args below meth c nL ad cy D A H0 ce sl Q w wm wl pc ls stk := by
  intro H locs la hP hS hl
  obtain ⟨hx, hb, hml, hown, hts, hnw, hK, ⟨hNN, hinj⟩, hA, hlk, hst⟩ := X
  have hAW : ∀ q, AW ad q → A q := fun q h => by
    obtain ⟨k, hk, rfl⟩ := h
    exact hA k hk
  subst hsk
  have fix : CallFix p m c cc nL s args TBG own := ⟨hx, hb, hml, hown, hts⟩
  have pre : PreS s H (va_Pc As (PB ad cy D (cmb w wm) wl)) As := ⟨PB_blind, fun U hU hW => ⟨rfl, by rw [hU]; exact hP, va_K.moved hW.alike hK, nest_warm hW hnw, by rw [hU]; exact STR_at hst hS hW hAW⟩⟩
  obtain ⟨m1, m2, m3, m4⟩ := mf
  have run : va_Run p l e R s m args below meth c H locs ce sl 0 0 (F0 m pc la (As.reverse ++ st1)) st1 (va_Ql (fun r (u : Mem × MemL) => Qr r u.1 u.2) (BM ad cy D w) (AW ad) As.toArray) (AW ad) := by
    rcases hL with hL | ⟨host, hL⟩
    · exact va_runS fix hM ⟨callB_of nn hts (goodTB m1) rfl hrc.1 hrc.2 (hts _ m3) (hts _ hL) m4 hR, hts _ m2⟩ pre rfl hn hl.1 rfl (lv_room hcat) hd ⟨hce.1, hce.2⟩
    · exact va_runSN fix hM ⟨va_cnB nn hts (goodTB m1) rfl hrc.1 hrc.2 (hnw _ hL) (hts _ m3) m4 hR, hts _ m2, trivial⟩ pre rfl hn hl.1 rfl (lv_room hcat) hd ⟨hce.1, hce.2⟩
  exact va_calll run hS (fun q _ h => hAW q h) hAW (fun r u t H1 locs1 ht hvm hw hB hz1 hk1 hS1 => by
    have hP1 := hB
    rw [BM, ht] at hP1
    exact kk r u.1 u.2 hw H1 locs1 la hP1 hS1 hl)
theorem V_callVV_m (X : CXq p s m args meth c cc nL own ad cy D A H0) {y : MethodName} {b : ByteArray} {n : Nat} {ret : Option FieldType} {rm : Room} {k ci idx nn N : Nat} {C : String} {T : u_T} {As : List Value} {Qr : Mem → MemL → Prop} (mf : MFV y b n ret C nn) (hL : LK own idx y) (hv : vwCl[ci]? = some (C, T, N)) (hci : ci < 13) (hs : SK k = ci) (hk : k < ad 1000) (hM : Met l y (TBq y b n ret) rm (va_Pc (.ref (ad k) :: As) (PB ad cy D (cmb w wm) wl)) (va_Qv (fun (u : Mem × MemL) => Qr u.1 u.2) (BM ad cy D w) (AW ad)) 0 0 (AW ad)) (hn : As.length = nn) (hrc : rm.cells = 0 ∧ rm.slots = 0) (hR : rm.frames + 1 ≤ R.frames ∧ 8 + (n + 11) + rm.locals ≤ R.locals) (hce : ce ≤ R.cells ∧ sl ≤ R.slots) (st1 : List Value) {stk : List Value} (hsk : stk = As.reverse ++ .ref (ad k) :: st1) (hcat : (st1.map fun v => v.category).sum ≤ 8) (hd : decode cc pc = .ok (.invokevirtual idx, 3)) (kk : ∀ (u : Mem) (v : MemL), Qr u v → V p l e R s m args below meth c nL ad cy D A H0 ce sl Q w u v (pc + 3) ls (st1)) : V p l e R s m args below meth c nL ad cy D A H0 ce sl Q w wm wl pc ls stk := by
  intro H locs la hP hS hl
  obtain ⟨hx, hb, hml, hown, hts, hnw, hK, ⟨hNN, hinj⟩, hA, hlk, hst⟩ := X
  have hAW : ∀ q, AW ad q → A q := fun q h => by
    obtain ⟨k, hk, rfl⟩ := h
    exact hA k hk
  subst hsk
  have fix : CallFix p m c cc nL s args TBG own := ⟨hx, hb, hml, hown, hts⟩
  have pre : PreV s H C (ad k) (va_Pc (.ref (ad k) :: As) (PB ad cy D (cmb w wm) wl)) As := ⟨PB_blind, va_recv hK hP (ci := ci) (q0 := k) hv (WS_at hk |>.trans (by rw [CE_obj hs hci])), fun U hU hW => ⟨rfl, by rw [hU]; exact hP, va_K.moved hW.alike hK, nest_warm hW hnw, by rw [hU]; exact STR_at hst hS hW hAW⟩⟩
  obtain ⟨m1, m2, m3, m4, m5, m6⟩ := mf
  have hini : (Cond.initialized y.cls).before args s = true := by rw [m5]; exact hts _ m4
  have run : va_Run p l e R s m args below meth c H locs ce sl 0 0 (F0 m pc la (As.reverse ++ .ref (ad k) :: st1)) st1 (va_Qv (fun (u : Mem × MemL) => Qr u.1 u.2) (BM ad cy D w) (AW ad) (Value.ref (ad k) :: As).toArray) (AW ad) := by
    rcases hL with hL | ⟨host, hL⟩
    · exact va_runV fix hM ⟨callB_of nn hts (goodTB m1) rfl hrc.1 hrc.2 hini (hts _ hL) m6 hR, hts _ m2, hts _ m3⟩ pre rfl hn hl.1 rfl (lv_room hcat) hd ⟨hce.1, hce.2⟩
    · exact va_runVN fix hM ⟨va_cnB nn hts (goodTB m1) rfl hrc.1 hrc.2 (hnw _ hL) hini m6 hR, hts _ m2, hts _ m3⟩ pre rfl hn hl.1 rfl (lv_room hcat) hd ⟨hce.1, hce.2⟩
  exact va_callv run hS (fun q _ h => hAW q h) hAW (fun u t H1 locs1 ht hvm hw hB hz1 hk1 hS1 => by
    have hP1 := hB
    rw [BM, ht] at hP1
    exact kk u.1 u.2 hw H1 locs1 la hP1 hS1 hl)
theorem V_callSV_m (X : CXq p s m args meth c cc nL own ad cy D A H0) {y : MethodName} {b : ByteArray} {n : Nat} {ret : Option FieldType} {rm : Room} {idx nn : Nat} {As : List Value} {Qr : Mem → MemL → Prop} (mf : MFS y b n ret nn) (hL : LK own idx y) (hM : Met l y (TBq y b n ret) rm (va_Pc As (PB ad cy D (cmb w wm) wl)) (va_Qv (fun (u : Mem × MemL) => Qr u.1 u.2) (BM ad cy D w) (AW ad)) 0 0 (AW ad)) (hn : As.length = nn) (hrc : rm.cells = 0 ∧ rm.slots = 0) (hR : rm.frames + 1 ≤ R.frames ∧ 8 + (n + 11) + rm.locals ≤ R.locals) (hce : ce ≤ R.cells ∧ sl ≤ R.slots) (st1 : List Value) {stk : List Value} (hsk : stk = As.reverse ++ st1) (hcat : (st1.map fun v => v.category).sum ≤ 8) (hd : decode cc pc = .ok (.invokestatic idx, 3)) (kk : ∀ (u : Mem) (v : MemL), Qr u v → V p l e R s m args below meth c nL ad cy D A H0 ce sl Q w u v (pc + 3) ls (st1)) : V p l e R s m args below meth c nL ad cy D A H0 ce sl Q w wm wl pc ls stk := by
  intro H locs la hP hS hl
  obtain ⟨hx, hb, hml, hown, hts, hnw, hK, ⟨hNN, hinj⟩, hA, hlk, hst⟩ := X
  have hAW : ∀ q, AW ad q → A q := fun q h => by
    obtain ⟨k, hk, rfl⟩ := h
    exact hA k hk
  subst hsk
  have fix : CallFix p m c cc nL s args TBG own := ⟨hx, hb, hml, hown, hts⟩
  have pre : PreS s H (va_Pc As (PB ad cy D (cmb w wm) wl)) As := ⟨PB_blind, fun U hU hW => ⟨rfl, by rw [hU]; exact hP, va_K.moved hW.alike hK, nest_warm hW hnw, by rw [hU]; exact STR_at hst hS hW hAW⟩⟩
  obtain ⟨m1, m2, m3, m4⟩ := mf
  have run : va_Run p l e R s m args below meth c H locs ce sl 0 0 (F0 m pc la (As.reverse ++ st1)) st1 (va_Qv (fun (u : Mem × MemL) => Qr u.1 u.2) (BM ad cy D w) (AW ad) As.toArray) (AW ad) := by
    rcases hL with hL | ⟨host, hL⟩
    · exact va_runS fix hM ⟨callB_of nn hts (goodTB m1) rfl hrc.1 hrc.2 (hts _ m3) (hts _ hL) m4 hR, hts _ m2⟩ pre rfl hn hl.1 rfl (lv_room hcat) hd ⟨hce.1, hce.2⟩
    · exact va_runSN fix hM ⟨va_cnB nn hts (goodTB m1) rfl hrc.1 hrc.2 (hnw _ hL) (hts _ m3) m4 hR, hts _ m2, trivial⟩ pre rfl hn hl.1 rfl (lv_room hcat) hd ⟨hce.1, hce.2⟩
  exact va_callv run hS (fun q _ h => hAW q h) hAW (fun u t H1 locs1 ht hvm hw hB hz1 hk1 hS1 => by
    have hP1 := hB
    rw [BM, ht] at hP1
    exact kk u.1 u.2 hw H1 locs1 la hP1 hS1 hl)
end VCALL
section VX2
variable {p : Program} {l : Launch} {e : Env} {R : Room} {s : State} {m : MethodId} {args : Array Value} {below : List Frame} {meth : Method} {c : Code} {cc : ByteArray} {nL : Nat} {own : String} {ad : Nat → Nat} {cy : Nat → ClassId} {D : va_G} {A : Nat → Prop} {H0 : Heap} {ce sl : Nat} {Q : State → Prop} {w wm : Mem} {wl : MemL} {pc : Nat} {ls : List (Nat × Value)} {st1 : List Value}
theorem bo_f {v : Int32} (h : v = 0 ∨ v = 1) : fits .boolean (.int v) = true := by
  rcases h with rfl | rfl <;> rfl
theorem V_alenL_c (X : CXq p s m args meth c cc nL own ad cy D A H0) {k n : Nat} {v : Int32} (hn : SLq k = n) (hk : k < 150) (hv : Int32.ofNat n = v) {t : Nat} (hs : SK k = t) (ht : t = 13 ∨ t = 14 ∨ t = 16) (hd : decode cc pc = .ok (.arraylength, 1)) (kk : V p l e R s m args below meth c nL ad cy D A H0 ce sl Q w wm wl (pc + 1) ls (.int v :: st1)) : V p l e R s m args below meth c nL ad cy D A H0 ce sl Q w wm wl pc ls (.ref (ad k) :: st1) := by
  subst hv
  exact V_alen_c X hn hk hs ht hd kk
theorem V_ldcw (X : CXq p s m args meth c cc nL own ad cy D A H0) {i : Nat} {v : Int32} (hd : decode cc pc = .ok (.ldc_w i, 3)) (hc : Cond.constant own i v ∈ TBG) (k : V p l e R s m args below meth c nL ad cy D A H0 ce sl Q w wm wl (pc + 3) ls (.int v :: st1)) : V p l e R s m args below meth c nL ad cy D A H0 ce sl Q w wm wl pc ls st1 := by
  intro H locs la hP hS hl
  obtain ⟨hx, hb, hml, hown, hts, hnw, hK, ⟨hNN, hinj⟩, hA, hlk, hst⟩ := X
  exact lv_ldcw hx hb hown (hts _ hc) hd (k H locs la hP hS hl)
end VX2
section VSTR2
variable {p : Program} {l : Launch} {e : Env} {R : Room} {s : State} {m : MethodId} {args : Array Value} {below : List Frame} {meth : Method} {c : Code} {cc : ByteArray} {nL : Nat} {own : String} {ad : Nat → Nat} {cy : Nat → ClassId} {D : va_G} {ce sl : Nat} {Q : State → Prop} {w wm : Mem} {wl : MemL} {pc : Nat} {ls : List (Nat × Value)} {st1 : List Value}
theorem V_ldcS0 (X : CXq p s m args meth c cc nL own ad cy D (AW ad) s.heap) (ho : own = "WindJump$Tokens") (hd : decode cc pc = .ok (.ldc 72, 2)) (k : V p l e R s m args below meth c nL ad cy D (AW ad) s.heap ce sl Q w wm wl (pc + 2) ls (.ref (ad 200) :: st1)) : V p l e R s m args below meth c nL ad cy D (AW ad) s.heap ce sl Q w wm wl pc ls st1 := by
  intro H locs la hP hS hl
  obtain ⟨hx, hb, hml, hown, hts, hnw, hK, ⟨hNN, hinj⟩, hA, hlk, hst⟩ := X
  subst ho
  exact va_ldcS hx hb hown hst.2.1 hd (k H locs la hP hS hl)
theorem V_ldcS1 (X : CXq p s m args meth c cc nL own ad cy D (AW ad) s.heap) (ho : own = "WindJump$Tokens") (hd : decode cc pc = .ok (.ldc 61, 2)) (k : V p l e R s m args below meth c nL ad cy D (AW ad) s.heap ce sl Q w wm wl (pc + 2) ls (.ref (ad 201) :: st1)) : V p l e R s m args below meth c nL ad cy D (AW ad) s.heap ce sl Q w wm wl pc ls st1 := by
  intro H locs la hP hS hl
  obtain ⟨hx, hb, hml, hown, hts, hnw, hK, ⟨hNN, hinj⟩, hA, hlk, hst⟩ := X
  subst ho
  exact va_ldcS hx hb hown hst.2.2.1 hd (k H locs la hP hS hl)
theorem V_gcs (X : CXq p s m args meth c cc nL own ad cy D (AW ad) s.heap) {i : Nat} (hL : Cond.fieldLink own i "java/lang/String" "COMPACT_STRINGS" "Z" ∈ TBG) (hd : decode cc pc = .ok (.getstatic i, 3)) (k : V p l e R s m args below meth c nL ad cy D (AW ad) s.heap ce sl Q w wm wl (pc + 3) ls (.int 1 :: st1)) : V p l e R s m args below meth c nL ad cy D (AW ad) s.heap ce sl Q w wm wl pc ls st1 := by
  intro H locs la hP hS hl
  obtain ⟨hx, hb, hml, hown, hts, hnw, hK, ⟨hNN, hinj⟩, hA, hlk, hst⟩ := X
  exact va_gets hx hb hst.2.2.2.1 hS hown (hts _ hL) (fun _ h => h) hd (k H locs la hP hS hl)
theorem V_gfm (X : CXq p s m args meth c cc nL own ad cy D (AW ad) s.heap) {i : Nat} (hL : Cond.fieldLink own i "jdk/internal/util/Preconditions" "SIOOBE_FORMATTER" "Ljava/util/function/BiFunction;" ∈ TBG) (hd : decode cc pc = .ok (.getstatic i, 3)) (k : V p l e R s m args below meth c nL ad cy D (AW ad) s.heap ce sl Q w wm wl (pc + 3) ls (FM ad :: st1)) : V p l e R s m args below meth c nL ad cy D (AW ad) s.heap ce sl Q w wm wl pc ls st1 := by
  intro H locs la hP hS hl
  obtain ⟨hx, hb, hml, hown, hts, hnw, hK, ⟨hNN, hinj⟩, hA, hlk, hst⟩ := X
  exact va_gets hx hb hst.2.2.2.2 hS hown (hts _ hL) (fun _ h => h) hd (k H locs la hP hS hl)
theorem V_sval (X : CXq p s m args meth c cc nL own ad cy D (AW ad) s.heap) {i j : Nat} (hj : j < 2) (hL : Cond.fieldLink own i "java/lang/String" "value" "[B" ∈ TBG) (hd : decode cc pc = .ok (.getfield i, 3)) (k : V p l e R s m args below meth c nL ad cy D (AW ad) s.heap ce sl Q w wm wl (pc + 3) ls (.ref (ad (210 + j)) :: st1)) : V p l e R s m args below meth c nL ad cy D (AW ad) s.heap ce sl Q w wm wl pc ls (.ref (ad (200 + j)) :: st1) := by
  intro H locs la hP hS hl
  obtain ⟨hx, hb, hml, hown, hts, hnw, hK, ⟨hNN, hinj⟩, hA, hlk, hst⟩ := X
  exact vk_getf hx hb (hst.1.1 j hj).2.2.1 hS hown (hts _ hL) (fun _ h => h) hd (k H locs la hP hS hl)
theorem V_scod (X : CXq p s m args meth c cc nL own ad cy D (AW ad) s.heap) {i j : Nat} (hj : j < 2) (hL : Cond.fieldLink own i "java/lang/String" "coder" "B" ∈ TBG) (hd : decode cc pc = .ok (.getfield i, 3)) (k : V p l e R s m args below meth c nL ad cy D (AW ad) s.heap ce sl Q w wm wl (pc + 3) ls (.int 0 :: st1)) : V p l e R s m args below meth c nL ad cy D (AW ad) s.heap ce sl Q w wm wl pc ls (.ref (ad (200 + j)) :: st1) := by
  intro H locs la hP hS hl
  obtain ⟨hx, hb, hml, hown, hts, hnw, hK, ⟨hNN, hinj⟩, hA, hlk, hst⟩ := X
  exact vk_getf hx hb (hst.1.1 j hj).2.1 hS hown (hts _ hL) (fun _ h => h) hd (k H locs la hP hS hl)
theorem V_slen (X : CXq p s m args meth c cc nL own ad cy D (AW ad) s.heap) {j : Nat} (hj : j < 2) (hd : decode cc pc = .ok (.arraylength, 1)) (k : V p l e R s m args below meth c nL ad cy D (AW ad) s.heap ce sl Q w wm wl (pc + 1) ls (.int (Int32.ofNat (lenS.getD j 0)) :: st1)) : V p l e R s m args below meth c nL ad cy D (AW ad) s.heap ce sl Q w wm wl pc ls (.ref (ad (210 + j)) :: st1) := by
  intro H locs la hP hS hl
  obtain ⟨hx, hb, hml, hown, hts, hnw, hK, ⟨hNN, hinj⟩, hA, hlk, hst⟩ := X
  exact va_tlen hx hb (hst.1.1 j hj).2.2.2 hS rfl hd (k H locs la hP hS hl)
theorem V_sbyt (X : CXq p s m args meth c cc nL own ad cy D (AW ad) s.heap) {j : Nat} (hj : j < 2) {i : Int32} (hin : vp_in i (lenS.getD j 0)) (hd : decode cc pc = .ok (.baload, 1)) (k : V p l e R s m args below meth c nL ad cy D (AW ad) s.heap ce sl Q w wm wl (pc + 1) ls (.int ((bytS.getD j []).getD (ix i) 0) :: st1)) : V p l e R s m args below meth c nL ad cy D (AW ad) s.heap ce sl Q w wm wl pc ls (.int i :: .ref (ad (210 + j)) :: st1) := by
  intro H locs la hP hS hl
  obtain ⟨hx, hb, hml, hown, hts, hnw, hK, ⟨hNN, hinj⟩, hA, hlk, hst⟩ := X
  exact va_tb hx hb (hst.1.1 j hj).2.2.2 hS hin rfl hd (k H locs la hP hS hl)
theorem V_callStr_c (X : CXq p s m args meth c cc nL own ad cy D (AW ad) s.heap) {y : MethodName} {b : ByteArray} {n : Nat} {ret : Option FieldType} {rm : Room} {k idx nn : Nat} {As : List Value} {Qr : Int32 → Mem → Prop} (mf : MFV y b n ret "java/lang/String" nn) (hL : LK own idx y) (hj : k < 2) (hM : Met l y (TBq y b n ret) rm (va_Pc (.ref (ad (200 + k)) :: As) (PB ad cy D (cmb w wm) wl)) (va_Qi Qr (BC ad cy D wm wl) (AW ad)) 0 0 (AW ad)) (hn : As.length = nn) (hrc : rm.cells = 0 ∧ rm.slots = 0) (hR : rm.frames + 1 ≤ R.frames ∧ 8 + (n + 11) + rm.locals ≤ R.locals) (hce : ce ≤ R.cells ∧ sl ≤ R.slots) (st1 : List Value) {stk : List Value} (hsk : stk = As.reverse ++ .ref (ad (200 + k)) :: st1) (hcat : (st1.map fun v => v.category).sum ≤ 8) (hd : decode cc pc = .ok (.invokevirtual idx, 3)) (kk : ∀ (r : Int32) (u : Mem), Qr r u → V p l e R s m args below meth c nL ad cy D (AW ad) s.heap ce sl Q u wm wl (pc + 3) ls (.int r :: st1)) : V p l e R s m args below meth c nL ad cy D (AW ad) s.heap ce sl Q w wm wl pc ls stk := by
  intro H locs la hP hS hl
  obtain ⟨hx, hb, hml, hown, hts, hnw, hK, ⟨hNN, hinj⟩, hA, hlk, hst⟩ := X
  have hAW : ∀ q, AW ad q → AW ad q := fun q h => by
    obtain ⟨k, hk, rfl⟩ := h
    exact hA k hk
  subst hsk
  have fix : CallFix p m c cc nL s args TBG own := ⟨hx, hb, hml, hown, hts⟩
  have pre : PreV s H "java/lang/String" (ad (200 + k)) (va_Pc (.ref (ad (200 + k)) :: As) (PB ad cy D (cmb w wm) wl)) As := ⟨PB_blind, vk_recv (adK := fun i => ad (200 + i)) (i := k) hst.1 hj hS, fun U hU hW => ⟨rfl, by rw [hU]; exact hP, va_K.moved hW.alike hK, nest_warm hW hnw, by rw [hU]; exact STR_at hst hS hW hAW⟩⟩
  obtain ⟨m1, m2, m3, m4, m5, m6⟩ := mf
  have hini : (Cond.initialized y.cls).before args s = true := by rw [m5]; exact hts _ m4
  have run : va_Run p l e R s m args below meth c H locs ce sl 0 0 (F0 m pc la (As.reverse ++ .ref (ad (200 + k)) :: st1)) st1 (va_Qi Qr (BC ad cy D wm wl) (AW ad) (Value.ref (ad (200 + k)) :: As).toArray) (AW ad) := by
    rcases hL with hL | ⟨host, hL⟩
    · exact va_runV fix hM ⟨callB_of nn hts (goodTB m1) rfl hrc.1 hrc.2 hini (hts _ hL) m6 hR, hts _ m2, hts _ m3⟩ pre rfl hn hl.1 rfl (lv_room hcat) hd ⟨hce.1, hce.2⟩
    · exact va_runVN fix hM ⟨va_cnB nn hts (goodTB m1) rfl hrc.1 hrc.2 (hnw _ hL) hini m6 hR, hts _ m2, hts _ m3⟩ pre rfl hn hl.1 rfl (lv_room hcat) hd ⟨hce.1, hce.2⟩
  exact va_calli run hS (fun q _ h => hAW q h) hAW (fun r u t H1 locs1 ht hvm hw hB hz1 hk1 hS1 => by
    have hP1 := hB
    rw [BC, ht] at hP1
    exact kk r u hw H1 locs1 la hP1 hS1 hl)
end VSTR2
