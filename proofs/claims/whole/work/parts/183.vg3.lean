/-! from a world being made to a made one, and the two constructors' frames -/
def VGn (p : Program) (l : Launch) (e : Env) (R : Room) (s : State) (m : MethodId) (args : Array Value) (below : List Frame) (meth : Method) (c : Code) (nL : Nat) (ad : Nat → Nat) (cy : Nat → ClassId) (D : va_G) (A : Nat → Prop) (H0 : Heap) (ce sl : Nat) (Q : State → Prop) (rf : RFq) (N : Nat) (w : Mem) (wl : MemL) (pc : Nat) (ls : List (Nat × Value)) (st1 : List Value) : Prop :=
  ∀ (H : Heap) (locs : List Loc) (la : Array Slot), va_P D vwCl (WG ad cy rf N w wl) H → va_D A (WG ad cy rf N w wl) → va_S A H0 H locs → lv_has la nL ls → W p l e R s m args below meth c H locs ce sl Q (F0 m pc la st1)
def BGn (cy : Nat → ClassId) (D : va_G) (A : Nat → Prop) (N : Nat) : UG → State → Prop := fun u t => va_P D vwCl (WG u.1 cy u.2.1 N u.2.2.1 u.2.2.2) t.heap ∧ va_D A (WG u.1 cy u.2.1 N u.2.2.1 u.2.2.2)
theorem SRlen : ∀ k, k < 189 → (SRL.getD k []).length ≤ 72 := by decide +kernel
theorem SR_hi {k i : Nat} (hk : k < 189) (hi : 72 ≤ i) : SRq k i = none := by
  unfold SRq
  rw [List.getD_eq_getElem?_getD (l := SRL.getD k []), List.getElem?_eq_none (by have := SRlen k hk; omega)]
  rfl
theorem SRb_150 : ∀ k, k < 150 → ∀ i, i < 72 → ((SRq k i).all fun r => decide (r < 150)) = true := by decide +kernel
theorem SRb_189 : ∀ k, k < 189 → ∀ i, i < 72 → ((SRq k i).all fun r => decide (r < 189)) = true := by decide +kernel
theorem SR_lt {k i r : Nat} (hk : k < 189) (h : SRq k i = some r) : r < 189 := by
  rcases Nat.lt_or_ge i 72 with hi | hi
  · have h1 := SRb_189 k hk i hi
    rw [h] at h1
    simpa using h1
  · rw [SR_hi hk hi] at h
    cases h
theorem SR_lt150 {k i r : Nat} (hk : k < 150) (h : SRq k i = some r) : r < 150 := by
  rcases Nat.lt_or_ge i 72 with hi | hi
  · have h1 := SRb_150 k hk i hi
    rw [h] at h1
    simpa using h1
  · rw [SR_hi (by omega) hi] at h
    cases h
theorem SRN_ok {N : Nat} (h : N = 150 ∨ N = 189) {w : Mem} {wl : MemL} (hw : ∀ k, N ≤ k → ∀ i, w k i = 0 ∧ wl k i = 0) : OKR N (SRN N) w wl := by
  refine ⟨fun k i r hr => ?_, fun k hk i => ⟨(hw k hk i).1, if_neg (by omega), (hw k hk i).2⟩⟩
  unfold SRN at hr
  split at hr
  · rcases h with rfl | rfl
    · exact SR_lt150 (by omega) hr
    · exact SR_lt (by omega) hr
  · cases hr
theorem mkad_lt {ad ads : Nat → Nat} {N k : Nat} (h : k < 189) : mkad ad ads N k = ad k := by
  unfold mkad
  rw [if_neg (by omega), if_pos h]
theorem MG_enterS {l : Launch} {y : MethodName} {cc : ByteArray} {n : Nat} {rm : Room} {As : List Value} {ad ads : Nat → Nat} {cy : Nat → ClassId} {D : va_G} {rf : RFq} {N N1 : Nat} {w : Mem} {wl : MemL} {Qu : UG → Prop} {mc ms sz : Nat} (hp : plainName y.cls = true) (hn : (lg_sl As).length ≤ n) (hok : OKR N rf w wl) (hgk : GOK N)
    (body : ∀ (p : Program) (e : Env) (s : State) (m : MethodId) (args : Array Value) (below : List Frame) (meth : Method) (c : Code), CXG p s m args meth c cc n y.cls cy D (AGc ad N s.heap.size) s.heap → STR ads (AGc ad N s.heap.size) s s.heap → meth.sig.returnType = none → meth.name = y.name → VG p l e rm s m args below meth c n ad cy D (AGc ad N s.heap.size) s.heap 0 0 (MQ below (va_Qv Qu (BGn cy D (AGc ad N s.heap.size) N1) (AGc ad N s.heap.size)) args s mc ms (AGc ad N s.heap.size)) rf N w wl 0 (lv_args 0 As) []) : Met l y (TBq y cc n none) rm (va_Pc As (fun U => U.heap.size = sz ∧ PG ad cy D rf N w wl U ∧ STR ads (AGc ad N sz) U U.heap)) (va_Qv Qu (BGn cy D (AGc ad N sz) N1) (AGc ad N sz)) mc ms (AGc ad N sz) := by
  refine Met.ofW (cc := cc) (maxL := n) (ret := none) hp rfl ?_
  intro p e s m args below meth c s₁ B hml hv
  obtain ⟨rfl, hsz, ⟨hP, hK, hD, hC, hO, hN⟩, hst⟩ := hv
  subst hsz
  have hts := atoms_spec (ws := TBq y cc n none) B.pre
  have hown : s.vm.findClass y.cls = some m.cls := findClass_of_methodNamed B.named
  have hin : meth.name = y.name := (name_of_methodNamed B.named B.method).1
  rw [lg_entry_eq]
  refine body p e s m _ below meth c ⟨B.exec, B.bytes, hml, hown, fun z hz => hts z (List.mem_cons_of_mem _ hz), hN, hK, hC, hO, fun q hq => Or.inr hq, B.notSynchronized⟩ hst B.returns hin hok hgk s.heap [] _ hP ⟨hD.1, fun k q hq => ?_⟩ va_S.rf (lv_entry As hn)
  have h1 : k < N := by
    have h2 := (List.getElem?_eq_some_iff.mp hq).1
    rw [WG_len] at h2
    exact h2
  rw [WG_at h1] at hq
  exact Or.inl ⟨k, h1, by rw [← Option.some.inj hq]⟩
section VG3
variable {p : Program} {l : Launch} {e : Env} {R : Room} {s : State} {m : MethodId} {args : Array Value} {below : List Frame} {meth : Method} {c : Code} {cc : ByteArray} {nL : Nat} {own : String} {ad ads : Nat → Nat} {cy : Nat → ClassId} {D : va_G} {A : Nat → Prop} {H0 : Heap} {ce sl : Nat} {Q : State → Prop} {rf : RFq} {N : Nat} {w wm W1 : Mem} {wl : MemL} {pc : Nat} {ls : List (Nat × Value)} {st1 : List Value}
theorem VGn_toV (h150 : 150 ≤ N) (hN : N ≤ 189) (hr : ∀ k, k < N → SK k < 13 → ∀ i r, SRq k i = some r → rf k i = some r) (hW : W1 = cmb w wm) (h : INJ (mkad ad ads N) → (∀ k, k < mkad ad ads N 1000 → A (mkad ad ads N k)) → V p l e R s m args below meth c nL (mkad ad ads N) cy D A H0 ce sl Q w wm wl pc ls st1) : VGn p l e R s m args below meth c nL ad cy D A H0 ce sl Q rf N W1 wl pc ls st1 := by
  intro H locs la hP hD hS hl
  have e1 : WG ad cy rf N W1 wl = WS (mkad ad ads N) cy (cmb w wm) wl := by
    rw [hW]
    exact WG_WS hN hr (fun k hk i r hh => SR_lt (by omega) hh)
  have e2 : mkad ad ads N 1000 = N := rfl
  refine h ⟨by rw [e2]; exact h150, fun i j hi hj hij => ?_⟩ (fun k hk => ?_) H locs la (by rw [← e1]; exact hP) hS hl
  · rw [e2] at hi hj
    rw [mkad_lt (by omega), mkad_lt (by omega)] at hij
    exact hD.1 i j _ _ (WG_at hi) (WG_at hj) hij
  · rw [e2] at hk
    rw [mkad_lt (by omega)]
    exact hD.2 k _ (WG_at hk)
theorem STR_mk (hst : STR ads A s H0) : STR (mkad ad ads N) A s H0 := by
  have e1 : ∀ j, 189 ≤ j → j < 1000 → mkad ad ads N j = ads j := fun j h1 h2 => by
    unfold mkad
    rw [if_neg (by omega), if_neg (by omega)]
  unfold STR vk_S at hst ⊢
  obtain ⟨⟨h1, h1'⟩, h2, h3, h4, h5⟩ := hst
  refine ⟨⟨fun i hi => ?_, fun i j hi hj hij => ?_⟩, ?_, ?_, h4, ?_⟩
  · dsimp only
    rw [e1 (200 + i) (by omega) (by omega), e1 (210 + i) (by omega) (by omega)]
    exact h1 i hi
  · dsimp only at hij
    rw [e1 (200 + i) (by omega) (by omega), e1 (200 + j) (by omega) (by omega)] at hij
    exact h1' i j hi hj hij
  · rw [e1 200 (by omega) (by omega)]
    exact h2
  · rw [e1 201 (by omega) (by omega)]
    exact h3
  · rw [show FM (mkad ad ads N) = FM ads from by unfold FM; rw [e1 220 (by omega) (by omega), e1 221 (by omega) (by omega)]]
    exact h5
theorem CX_of (X : CXG p s m args meth c cc nL own cy D A H0) (hst : STR ads A s H0) (hi : INJ (mkad ad ads N)) (hA : ∀ k, k < mkad ad ads N 1000 → A (mkad ad ads N k)) : CXq p s m args meth c cc nL own (mkad ad ads N) cy D A H0 := by
  obtain ⟨hx, hb, hml, hown, hts, hnw, hK, hCY, hAO, hA2, hlk⟩ := X
  exact ⟨hx, hb, hml, hown, hts, hnw, hK, hi, hA, hlk, STR_mk hst⟩
theorem V_gret (X : CXq p s m args meth c cc nL own (mkad ad ads N) cy D A s.heap) (hr : meth.sig.returnType = none) {Qu : UG → Prop} (hN : N ≤ 189) (hd : decode cc pc = .ok (.return_, 1)) (h : Qu (ad, SRN N, cmb w wm, wl)) : V p l e R s m args below meth c nL (mkad ad ads N) cy D A s.heap ce sl (MQ below (va_Qv Qu (BGn cy D A N) A) args s ce sl A) w wm wl pc ls [] := by
  intro H locs la hP hS hl
  obtain ⟨hx, hb, hml, hown, hts, hnw, hK, ⟨hNN, hinj⟩, hA, hlk, hst⟩ := X
  have e1 : WG ad cy (SRN N) N (cmb w wm) wl = WS (mkad ad ads N) cy (cmb w wm) wl := WG_WS hN (fun k hk _ i r hh => by unfold SRN; rw [if_pos hk]; exact hh) (fun k hk i r hh => SR_lt (by omega) hh)
  exact W.vret hx hb hr (fun t ht hW => ⟨⟨(ad, SRN N, cmb w wm, wl), rfl, h, by show va_P D vwCl (WG ad cy (SRN N) N (cmb w wm) wl) t.heap; rw [ht, e1]; exact hP, by show va_D A (WG ad cy (SRN N) N (cmb w wm) wl); rw [e1]; exact WS_D hinj hA⟩, hS.F ht⟩) hS.2.2 hd
theorem VG_callS (X : CXG p s m args meth c cc nL own cy D A H0) (hst : STR ads A s H0) {y : MethodName} {b : ByteArray} {n nn idx k N1 mc ms : Nat} {rm : Room} {As : List Value} {Qu : UG → Prop} (mf : MFI y b n nn) (hL : LK own idx y) (hM : OKR N rf w wl → GOK N → ∀ sz, Met l y (TBq y b n none) rm (va_Pc (.ref (ad k) :: As) (fun U => U.heap.size = sz ∧ PG ad cy D rf N w wl U ∧ STR ads (AGc ad N sz) U U.heap)) (va_Qv Qu (BGn cy D (AGc ad N sz) N1) (AGc ad N sz)) mc ms (AGc ad N sz)) (hn : As.length = nn) (hrc : rm.cells = mc ∧ rm.slots = ms) (hR : rm.frames + 1 ≤ R.frames ∧ 8 + (n + 11) + rm.locals ≤ R.locals) (hce : ce + mc ≤ R.cells ∧ sl + ms ≤ R.slots) {stk : List Value} (hsk : stk = As.reverse ++ .ref (ad k) :: st1) (hcat : (st1.map fun v => v.category).sum ≤ 8) (hd : decode cc pc = .ok (.invokespecial idx, 3))
    (kk : ∀ u : UG, Qu u → VGn p l e R s m args below meth c nL u.1 cy D A H0 (ce + mc) (sl + ms) Q u.2.1 N1 u.2.2.1 u.2.2.2 (pc + 3) ls st1) : VG p l e R s m args below meth c nL ad cy D A H0 ce sl Q rf N w wl pc ls stk := by
  intro hok hgk H locs la hP hD hS hl
  obtain ⟨hx, hb, hml, hown, hts, hnw, hK, hCY, hAO, hA, hlk⟩ := X
  subst hsk
  have fix : CallFix p m c cc nL s args TBG own := ⟨hx, hb, hml, hown, hts⟩
  have hM := hM hok hgk H.size
  have hAW : ∀ q, AGc ad N H.size q → A q := fun q h => by
    rcases h with ⟨k, hk, rfl⟩ | h
    · exact hD.2 k _ (WG_at hk)
    · exact hA q (Nat.le_trans hS.1 h)
  have pre : PreS s H (va_Pc (.ref (ad k) :: As) (fun U => U.heap.size = H.size ∧ PG ad cy D rf N w wl U ∧ STR ads (AGc ad N H.size) U U.heap)) (.ref (ad k) :: As) := ⟨fun a U g mk q => by
    obtain ⟨q0, q9, ⟨qP, qK, qD, qC, qO, qN⟩, q1, q2, q3, q4, q5⟩ := q
    exact ⟨q0, q9, ⟨qP, va_K.moved (u := U) (U := U.calling g mk a) (Vm.Alike.refl U.vm) qK, qD, CY_moved (u := U) (U := U.calling g mk a) (Vm.Alike.refl U.vm) qC, AOI_moved (u := U) (U := U.calling g mk a) (Vm.Alike.refl U.vm) qO, fun z hz => va_Nw.same (u := U) (U := U.calling g mk a) (nest_on hz) rfl (qN z hz)⟩, vk_S.moved (u := U) (U := U.calling g mk a) (Vm.Alike.refl U.vm) q1, vk_R.same (u := U) (U := U.calling g mk a) rfl q2, vk_R.same (u := U) (U := U.calling g mk a) rfl q3, va_Z.moved (u := U) (U := U.calling g mk a) (Vm.Alike.refl U.vm) q4, va_Z.moved (u := U) (U := U.calling g mk a) (Vm.Alike.refl U.vm) q5⟩, fun U hU hW => ⟨rfl, by rw [hU], ⟨by rw [hU]; exact hP, va_K.moved hW.alike hK, hD.weaken (fun _ _ _ _ => trivial), CY_moved hW.alike hCY, AOI_moved hW.alike hAO, nest_warm hW hnw⟩, by rw [hU]; exact STR_at hst hS hW hAW⟩⟩
  obtain ⟨m1, m2, m3, m4, m5⟩ := mf
  have run : va_Run p l e R s m args below meth c H locs ce sl mc ms (F0 m pc la (As.reverse ++ .ref (ad k) :: st1)) st1 (va_Qv Qu (BGn cy D (AGc ad N H.size) N1) (AGc ad N H.size) (Value.ref (ad k) :: As).toArray) (AGc ad N H.size) := by
    rcases hL with hL | ⟨host, hL⟩
    · exact va_runI fix hM ⟨callB_of nn hts (goodTB m1) rfl hrc.1 hrc.2 (hts _ m3) (hts _ hL) m5 hR, m4, hts _ m2⟩ pre rfl hn hl.1 rfl (lv_room hcat) hd hce
    · exact va_runIN fix hM ⟨va_cnB nn hts (goodTB m1) rfl hrc.1 hrc.2 (hnw _ hL) (hts _ m3) m5 hR, m4, hts _ m2⟩ pre rfl hn hl.1 rfl (lv_room hcat) hd hce
  exact va_callv run hS (fun q _ h => hAW q h) hAW (fun u t H1 locs1 ht hvm hw hB hz1 hk1 hS1 => by
    obtain ⟨q2, q3⟩ := hB
    rw [ht] at q2
    exact kk u hw H1 locs1 la q2 (q3.weaken (fun _ _ _ h => hAW _ h)) hS1 hl)
end VG3
