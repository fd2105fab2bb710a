/-! making: rows of rows, contracts of constructors, the way from a world being made to a made one -/
def PG (ad : Nat → Nat) (cy : Nat → ClassId) (D : va_G) (rf : RFq) (N : Nat) (w : Mem) (wl : MemL) : State → Prop := fun U => va_P D vwCl (WG ad cy rf N w wl) U.heap ∧ va_K D vwCl (tysW cy) U ∧ va_D (fun _ => True) (WG ad cy rf N w wl) ∧ CY cy U ∧ AOI U ∧ ∀ z ∈ NWL, va_Nw z U
def AGc (ad : Nat → Nat) (N sz : Nat) : Nat → Prop := fun q => (∃ k, k < N ∧ q = ad k) ∨ sz ≤ q
abbrev UG : Type := (Nat → Nat) × RFq × Mem × MemL
def BG (cy : Nat → ClassId) (D : va_G) (A : Nat → Prop) (N : Nat) : UG → State → Prop := fun u t => OKR N u.2.1 u.2.2.1 u.2.2.2 ∧ va_P D vwCl (WG u.1 cy u.2.1 N u.2.2.1 u.2.2.2) t.heap ∧ va_D A (WG u.1 cy u.2.1 N u.2.2.1 u.2.2.2)
def QG (ad : Nat → Nat) (N : Nat) (Qr : RFq → Mem → MemL → Prop) : UG → Prop := fun u => (∀ k, k < N → u.1 k = ad k) ∧ Qr u.2.1 u.2.2.1 u.2.2.2
def RG (d mc ms : Nat) : Room := { frames := d, cells := mc, slots := ms, locals := 60 * d }
theorem CY_moved {cy : Nat → ClassId} {u U : State} (hvm : u.vm.Alike U.vm) (h : CY cy u) : CY cy U := by
  unfold CY at h ⊢
  rw [hvm.findClass, hvm.findClass, hvm.findClass, hvm.findClass, hvm.findClass]
  exact h
theorem AOI_moved {u U : State} (hvm : u.vm.Alike U.vm) (h : AOI u) : AOI U := Jvm.Stand.arrayOver_alikeB hvm h
theorem MG_enter {l : Launch} {y : MethodName} {cc : ByteArray} {n : Nat} {rm : Room} {As : List Value} {ad : Nat → Nat} {cy : Nat → ClassId} {D : va_G} {rf : RFq} {N N1 : Nat} {w : Mem} {wl : MemL} {Qr : RFq → Mem → MemL → Prop} {mc ms sz : Nat} (hp : plainName y.cls = true) (hn : (lg_sl As).length ≤ n) (hok : OKR N rf w wl) (hgk : GOK N)
    (body : ∀ (p : Program) (e : Env) (s : State) (m : MethodId) (args : Array Value) (below : List Frame) (meth : Method) (c : Code), CXG p s m args meth c cc n y.cls cy D (AGc ad N s.heap.size) s.heap → meth.sig.returnType = none → meth.name = y.name → VG p l e rm s m args below meth c n ad cy D (AGc ad N s.heap.size) s.heap 0 0 (MQ below (va_Qv (QG ad N Qr) (BG cy D (AGc ad N s.heap.size) N1) (AGc ad N s.heap.size)) args s mc ms (AGc ad N s.heap.size)) rf N w wl 0 (lv_args 0 As) []) : Met l y (TBq y cc n none) rm (va_Pc As (fun U => U.heap.size = sz ∧ PG ad cy D rf N w wl U)) (va_Qv (QG ad N Qr) (BG cy D (AGc ad N sz) N1) (AGc ad N sz)) mc ms (AGc ad N sz) := by
  refine Met.ofW (cc := cc) (maxL := n) (ret := none) hp rfl ?_
  intro p e s m args below meth c s₁ B hml hv
  obtain ⟨rfl, hsz, hP, hK, hD, hC, hO, hN⟩ := hv
  subst hsz
  have hts := atoms_spec (ws := TBq y cc n none) B.pre
  have hown : s.vm.findClass y.cls = some m.cls := findClass_of_methodNamed B.named
  have hin : meth.name = y.name := (name_of_methodNamed B.named B.method).1
  rw [lg_entry_eq]
  refine body p e s m _ below meth c ⟨B.exec, B.bytes, hml, hown, fun z hz => hts z (List.mem_cons_of_mem _ hz), hN, hK, hC, hO, fun q hq => Or.inr hq, B.notSynchronized⟩ B.returns hin hok hgk s.heap [] _ hP ⟨hD.1, fun k q hq => ?_⟩ va_S.rf (lv_entry As hn)
  have h1 : k < N := by
    have h2 := (List.getElem?_eq_some_iff.mp hq).1
    rw [WG_len] at h2
    exact h2
  rw [WG_at h1] at hq
  exact Or.inl ⟨k, h1, by rw [← Option.some.inj hq]⟩
section VG2
variable {p : Program} {l : Launch} {e : Env} {R : Room} {s : State} {m : MethodId} {args : Array Value} {below : List Frame} {meth : Method} {c : Code} {cc : ByteArray} {nL : Nat} {own : String} {ad : Nat → Nat} {cy : Nat → ClassId} {D : va_G} {A : Nat → Prop} {H0 : Heap} {ce sl : Nat} {Q : State → Prop} {rf : RFq} {N : Nat} {w : Mem} {wl : MemL} {pc : Nat} {ls : List (Nat × Value)} {st1 : List Value}
theorem VG_ret (X : CXG p s m args meth c cc nL own cy D A s.heap) (hr : meth.sig.returnType = none) {ad0 : Nat → Nat} {N0 : Nat} {Qr : RFq → Mem → MemL → Prop} (hag : ∀ k, k < N0 → ad k = ad0 k) (hd : decode cc pc = .ok (.return_, 1)) (h : Qr rf w wl) : VG p l e R s m args below meth c nL ad cy D A s.heap ce sl (MQ below (va_Qv (QG ad0 N0 Qr) (BG cy D A N) A) args s ce sl A) rf N w wl pc ls [] := by
  intro hok hgk H locs la hP hD hS hl
  obtain ⟨hx, hb, hml, hown, hts, hnw, hK, hCY, hAO, hA, hlk⟩ := X
  exact W.vret hx hb hr (fun t ht hW => ⟨⟨(ad, rf, w, wl), rfl, ⟨hag, h⟩, hok, by rw [ht]; exact hP, hD⟩, hS.F ht⟩) hS.2.2 hd
theorem VG_mna (X : CXG p s m args meth c cc nL own cy D A H0) {idx n K : Nat} {vn vk : Int32} (g1 : ¬ vn < 0) (g2 : ¬ vk < 0) (hvn : vn.toNatClampNeg = n) (hvk : vk.toNatClampNeg = K) (hs : SK N = 17) (hl1 : SLq N = n) (hr : ∀ j, SRq N j = if j < n then some (N + 1 + j) else none) (hrow : ∀ j, j < n → SK (N + 1 + j) = 14 ∧ SLq (N + 1 + j) = K) (b1 : n * 4 ≤ 536870912) (b2 : K * 4 ≤ 536870912) (b3 : K ≤ 536870912) (h1 : Cond.classLink own idx "[[I" ∈ TBG) (h2 : Cond.arrayClass .int ∈ TBG) (hc : ce + (1 + n) ≤ R.cells) (hsl : sl + (n + n * K) ≤ R.slots) (hd : decode cc pc = .ok (.multianewarray idx 2, 4)) (kk : ∀ ad1 : Nat → Nat, (∀ k, k < N → ad1 k = ad k) → VG p l e R s m args below meth c nL ad1 cy D A H0 (ce + 1 + n) (sl + n + n * K) Q rf (N + 1 + n) w wl (pc + 4) ls (.ref (ad1 N) :: st1)) : VG p l e R s m args below meth c nL ad cy D A H0 ce sl Q rf N w wl pc ls (.int vk :: .int vn :: st1) := by
  intro hok hgk H locs la hP hD hS hl
  obtain ⟨hx, hb, hml, hown, hts, hnw, hK, hCY, hAO, hA, hlk⟩ := X
  refine W_mna hx hb hown (hts _ h1) hAO (hts _ h2) hCY.2.1 g1 g2 hvn hvk b1 b2 b3 hc hsl hd (fun cA H1 hcA hsz hold hout hinn => ?_)
  have ecA : cA = cy 17 := Option.some.inj (hcA.symm.trans hCY.2.2.2.2)
  subst ecA
  have hlt : ∀ k, k < N → ad k < H.size := fun k hk => (hP k _ (WG_at hk)).lt
  have hag : ∀ k, k < N → (fun k => if k < N then ad k else H.size + (k - N)) k = ad k := fun k hk => if_pos hk
  have hgt : ∀ k, N ≤ k → (fun k => if k < N then ad k else H.size + (k - N)) k = H.size + (k - N) := fun k hk => if_neg (by omega)
  have h9 := kk (fun k => if k < N then ad k else H.size + (k - N)) hag
  generalize hadn : (fun k => if k < N then ad k else H.size + (k - N)) = ad1 at hag hgt h9
  have e0 : ad1 N = H.size := by rw [hgt N (Nat.le_refl N)]; omega
  have e7 : (if N < N then ad N else H.size + (N - N)) = H.size := by simp
  rw [show (Value.ref (if N < N then ad N else H.size + (N - N))) = Value.ref H.size from congrArg Value.ref e7] at h9
  have hg1 : GOK (N + 1 + n) := fun k hk => by
    by_cases h : k < N
    · rcases hgk k h with h8 | h8
      · exact Or.inl h8
      · exact Or.inr (fun i r hr9 => Nat.lt_of_lt_of_le (h8 i r hr9) (by omega))
    · by_cases h8 : k = N
      · subst h8
        exact Or.inr (fun i r hr9 => by
          rw [hr i] at hr9
          split at hr9
          · cases hr9
            omega
          · cases hr9)
      · have h7 := (hrow (k - N - 1) (by omega)).1
        rw [show N + 1 + (k - N - 1) = k by omega] at h7
        exact Or.inl (by omega)
  refine h9 (OKR_mono hok (by omega)) hg1 H1 locs la ?_ ?_ ⟨Nat.le_trans hS.1 hsz, fun q q1 q2 => (hold q (Nat.lt_of_lt_of_le q1 hS.1)).trans (hS.2.1 q q1 q2), hS.2.2⟩ hl
  · intro k q hq
    have hk : k < N + 1 + n := by
      have h8 := (List.getElem?_eq_some_iff.mp hq).1
      rw [WG_len] at h8
      exact h8
    rw [WG_at hk] at hq
    cases hq
    by_cases h : k < N
    · rw [hag k h, CG_ad hag hok (hgk k h)]
      exact (hP k _ (WG_at h)).kept (hold _ (hlt k h))
    · by_cases h8 : k = N
      · subst h8
        rw [CG_arr (by omega), CE_rows hs, hl1, e0]
        show H1[H.size]? = some (vp_cell _ _)
        rw [hout, vp_cell_q]
        refine congrArg (fun f => some (arrV (cy 17) n f)) (funext fun j => ?_)
        rw [hr j]
        by_cases h7 : j < n
        · rw [if_pos h7, if_pos h7]
          show _ = va_rf (some (ad1 (k + 1 + j)))
          rw [hgt _ (by omega), show H.size + (k + 1 + j - k) = H.size + 1 + j by omega]
        · rw [if_neg h7, if_neg h7]
          rfl
      · obtain ⟨r1, r2⟩ := hrow (k - N - 1) (by omega)
        rw [show N + 1 + (k - N - 1) = k by omega] at r1 r2
        rw [CG_arr (by omega), CE_arr r1 (by decide), r2, hgt k (by omega)]
        show H1[H.size + (k - N)]? = some (vp_cell _ _)
        have h7 := hinn (k - N - 1) (by omega)
        rw [show H.size + 1 + (k - N - 1) = H.size + (k - N) by omega] at h7
        rw [h7, vp_cell_i]
        refine congrArg (fun f => some (arrV (cy 14) K f)) (funext fun j => ?_)
        rw [(hok.2 k (by omega) j).1]
  · have hk : ∀ (k : Nat) (q : Nat × va_E), (WG ad1 cy rf (N + 1 + n) w wl)[k]? = some q → k < N + 1 + n ∧ q.1 = ad1 k := by
      intro k q hq
      have h7 : k < N + 1 + n := by
        have h8 := (List.getElem?_eq_some_iff.mp hq).1
        rw [WG_len] at h8
        exact h8
      rw [WG_at h7] at hq
      cases hq
      exact ⟨h7, rfl⟩
    refine ⟨fun i j x y hx9 hy9 hxy => ?_, fun k q hq => ?_⟩
    · obtain ⟨a1, a2⟩ := hk i x hx9
      obtain ⟨b1, b2⟩ := hk j y hy9
      rw [a2, b2] at hxy
      by_cases hi : i < N <;> by_cases hj : j < N
      · rw [hag i hi, hag j hj] at hxy
        exact hD.1 i j _ _ (WG_at hi) (WG_at hj) hxy
      · rw [hag i hi, hgt j (by omega)] at hxy
        have := hlt i hi
        omega
      · rw [hgt i (by omega), hag j hj] at hxy
        have := hlt j hj
        omega
      · rw [hgt i (by omega), hgt j (by omega)] at hxy
        omega
    · obtain ⟨a1, a2⟩ := hk k q hq
      rw [a2]
      by_cases hi : k < N
      · rw [hag k hi]
        exact hD.2 k _ (WG_at hi)
      · rw [hgt k (by omega)]
        exact hA _ (Nat.le_trans hS.1 (by omega))
/-- a constructor's own words -/
def MFI (y : MethodName) (b : ByteArray) (n nn : Nat) : Prop := Cond.code y b n none ∈ TBG ∧ Cond.instanceMethod y ∈ TBG ∧ Cond.initialized y.cls ∈ TBG ∧ y.name = "<init>" ∧ (y.cls ≠ "java/lang/invoke/MethodHandle" ∧ y.cls ≠ "java/lang/invoke/VarHandle" ∧ (parseMethodDescriptor y.desc).map (fun d => d.parameters.length) = some nn)
theorem PG_blind {W : Mem} {sz : Nat} {As : List Value} : FrameBlind (va_Pc As (fun U => U.heap.size = sz ∧ PG ad cy D rf N W wl U)) := fun a U g mk q => by
  obtain ⟨q0, q9, qP, qK, qD, qC, qO, qN⟩ := q
  exact ⟨q0, q9, qP, va_K.moved (u := U) (U := U.calling g mk a) (Vm.Alike.refl U.vm) qK, qD, CY_moved (u := U) (U := U.calling g mk a) (Vm.Alike.refl U.vm) qC, AOI_moved (u := U) (U := U.calling g mk a) (Vm.Alike.refl U.vm) qO, fun z hz => va_Nw.same (u := U) (U := U.calling g mk a) (nest_on hz) rfl (qN z hz)⟩
theorem VG_call (X : CXG p s m args meth c cc nL own cy D A H0) {y : MethodName} {b : ByteArray} {n nn idx k N1 mc ms : Nat} {rm : Room} {As : List Value} {Qr : RFq → Mem → MemL → Prop} (mf : MFI y b n nn) (hL : LK own idx y) (hM : OKR N rf w wl → GOK N → ∀ sz, Met l y (TBq y b n none) rm (va_Pc (.ref (ad k) :: As) (fun U => U.heap.size = sz ∧ PG ad cy D rf N w wl U)) (va_Qv (QG ad N Qr) (BG cy D (AGc ad N sz) N1) (AGc ad N sz)) mc ms (AGc ad N sz)) (hg1 : GOK N1) (hn : As.length = nn) (hrc : rm.cells = mc ∧ rm.slots = ms) (hR : rm.frames + 1 ≤ R.frames ∧ 8 + (n + 11) + rm.locals ≤ R.locals) (hce : ce + mc ≤ R.cells ∧ sl + ms ≤ R.slots) {stk : List Value} (hsk : stk = As.reverse ++ .ref (ad k) :: st1) (hcat : (st1.map fun v => v.category).sum ≤ 8) (hd : decode cc pc = .ok (.invokespecial idx, 3))
    (kk : ∀ (ad1 : Nat → Nat) (rf1 : RFq) (w1 : Mem) (wl1 : MemL), (∀ j, j < N → ad1 j = ad j) → Qr rf1 w1 wl1 → VG p l e R s m args below meth c nL ad1 cy D A H0 (ce + mc) (sl + ms) Q rf1 N1 w1 wl1 (pc + 3) ls st1) : VG p l e R s m args below meth c nL ad cy D A H0 ce sl Q rf N w wl pc ls stk := by
  intro hok hgk H locs la hP hD hS hl
  obtain ⟨hx, hb, hml, hown, hts, hnw, hK, hCY, hAO, hA, hlk⟩ := X
  subst hsk
  have fix : CallFix p m c cc nL s args TBG own := ⟨hx, hb, hml, hown, hts⟩
  have hM := hM hok hgk H.size
  have hAW : ∀ q, AGc ad N H.size q → A q := fun q h => by
    rcases h with ⟨k, hk, rfl⟩ | h
    · exact hD.2 k _ (WG_at hk)
    · exact hA q (Nat.le_trans hS.1 h)
  have pre : PreS s H (va_Pc (.ref (ad k) :: As) (fun U => U.heap.size = H.size ∧ PG ad cy D rf N w wl U)) (.ref (ad k) :: As) := ⟨PG_blind, fun U hU hW => ⟨rfl, by rw [hU], by rw [hU]; exact hP, va_K.moved hW.alike hK, hD.weaken (fun _ _ _ _ => trivial), CY_moved hW.alike hCY, AOI_moved hW.alike hAO, nest_warm hW hnw⟩⟩
  obtain ⟨m1, m2, m3, m4, m5⟩ := mf
  have run : va_Run p l e R s m args below meth c H locs ce sl mc ms (F0 m pc la (As.reverse ++ .ref (ad k) :: st1)) st1 (va_Qv (QG ad N Qr) (BG cy D (AGc ad N H.size) N1) (AGc ad N H.size) (Value.ref (ad k) :: As).toArray) (AGc ad N H.size) := by
    rcases hL with hL | ⟨host, hL⟩
    · exact va_runI fix hM ⟨callB_of nn hts (goodTB m1) rfl hrc.1 hrc.2 (hts _ m3) (hts _ hL) m5 hR, m4, hts _ m2⟩ pre rfl hn hl.1 rfl (lv_room hcat) hd hce
    · exact va_runIN fix hM ⟨va_cnB nn hts (goodTB m1) rfl hrc.1 hrc.2 (hnw _ hL) (hts _ m3) m5 hR, m4, hts _ m2⟩ pre rfl hn hl.1 rfl (lv_room hcat) hd hce
  exact va_callv run hS (fun q _ h => hAW q h) hAW (fun u t H1 locs1 ht hvm hw hB hz1 hk1 hS1 => by
    obtain ⟨q1, q2, q3⟩ := hB
    rw [ht] at q2
    exact kk u.1 u.2.1 u.2.2.1 u.2.2.2 hw.1 hw.2 q1 hg1 H1 locs1 la q2 (q3.weaken (fun _ _ _ h => hAW _ h)) hS1 hl)
end VG2
/-- the addresses of a made world, and how many cells it has, and those of the texts -/
def mkad (ad ads : Nat → Nat) (N : Nat) : Nat → Nat := fun k => if k = 1000 then N else if k < 189 then ad k else ads k
/-- the references of the first N cells as they stand fast -/
def SRN (N : Nat) : RFq := fun k i => if k < N then SRq k i else none
theorem WG_WS {ad ads : Nat → Nat} {cy : Nat → ClassId} {rf : RFq} {N : Nat} {w : Mem} {wl : MemL} (hN : N ≤ 189) (hr : ∀ k, k < N → SK k < 13 → ∀ i r, SRq k i = some r → rf k i = some r) (hlt : ∀ k, k < N → ∀ i r, SRq k i = some r → r < 189) : WG ad cy rf N w wl = WS (mkad ad ads N) cy w wl := by
  unfold WG WS
  rw [show mkad ad ads N 1000 = N from rfl]
  apply List.map_congr_left
  intro k hk
  have hk := List.mem_range.mp hk
  have e1 : ∀ j, j < 189 → mkad ad ads N j = ad j := fun j hj => by
    unfold mkad
    rw [if_neg (by omega), if_pos hj]
  rw [e1 k (by omega)]
  refine congrArg (fun z => (ad k, z)) ?_
  unfold CG CE
  by_cases h1 : SK k < 13
  · rw [if_pos h1, if_pos h1]
    refine congrArg (fun z => Sum.inr (SK k, z)) (List.map_congr_left fun i _ => ?_)
    unfold CVG CV
    cases h2 : SRq k i with
    | none => rfl
    | some r =>
      show va_rf ((rf k i).map ad) = _
      rw [hr k hk h1 i r h2]
      show Value.ref (ad r) = Value.ref (mkad ad ads N r)
      rw [e1 r (hlt k hk i r h2)]
  · rw [if_neg h1, if_neg h1]
    try rw [if_neg h1]
    by_cases h2 : SK k = 15
    · rw [if_pos h2, if_pos h2]
    · rw [if_neg h2, if_neg h2]
      by_cases h3 : SK k = 17
      · rw [if_pos h3, if_pos h3]
        have e2 : (fun i => (SRq k i).map ad) = (fun i => (SRq k i).map (mkad ad ads N)) := by
          funext i
          cases h4 : SRq k i with
          | none => rfl
          | some r =>
            show some (ad r) = some (mkad ad ads N r)
            rw [e1 r (hlt k hk i r h4)]
        rw [e2]
      · rw [if_neg h3, if_neg h3]
