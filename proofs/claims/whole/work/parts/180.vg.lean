/-! the world while it is made: its first N cells, at ad 0, ad 1 ..; rf: what the references hold -/
abbrev RFq : Type := Nat → Nat → Option Nat
def CVG (ad : Nat → Nat) (rf : RFq) (k : Nat) (f : Nat → Int32) (i : Nat) : Value := match SRq k i with | some _ => va_rf ((rf k i).map ad) | none => .int (f i)
def CG (ad : Nat → Nat) (cy : Nat → ClassId) (rf : RFq) (k : Nat) (f : Nat → Int32) (g : Nat → Int64) : va_E :=
  if SK k < 13 then .inr (SK k, (List.range (NFL.getD (SK k) 0)).map (CVG ad rf k f)) else CE ad cy k f g
def WG (ad : Nat → Nat) (cy : Nat → ClassId) (rf : RFq) (N : Nat) (w : Mem) (wl : MemL) : va_W := (List.range N).map (fun k => (ad k, CG ad cy rf k (w k) (wl k)))
/-- what the references hold lies ahead of N; what isn't made yet holds nothing -/
def OKR (N : Nat) (rf : RFq) (w : Mem) (wl : MemL) : Prop := (∀ k i r, rf k i = some r → r < N) ∧ (∀ k, N ≤ k → ∀ i, w k i = 0 ∧ rf k i = none ∧ wl k i = 0)
def strf (rf : RFq) (k i r : Nat) : RFq := fun a j => if a = k ∧ j = i then some r else rf a j
def CY (cy : Nat → ClassId) (s : State) : Prop := s.vm.findClass "[B" = some (cy 13) ∧ s.vm.findClass "[I" = some (cy 14) ∧ s.vm.findClass "[J" = some (cy 15) ∧ s.vm.findClass "[Z" = some (cy 16) ∧ s.vm.findClass "[[I" = some (cy 17)
def AOI (U : State) : Prop := (Cond.arrayOver (.array .int)).before #[] U = true
theorem WG_at {ad : Nat → Nat} {cy : Nat → ClassId} {rf : RFq} {N : Nat} {w : Mem} {wl : MemL} {k : Nat} (hk : k < N) : (WG ad cy rf N w wl)[k]? = some (ad k, CG ad cy rf k (w k) (wl k)) := by
  unfold WG
  rw [List.getElem?_map, List.getElem?_range hk]
  rfl
theorem WG_len {ad : Nat → Nat} {cy : Nat → ClassId} {rf : RFq} {N : Nat} {w : Mem} {wl : MemL} : (WG ad cy rf N w wl).length = N := by
  unfold WG
  rw [List.length_map, List.length_range]
theorem WG_set {ad : Nat → Nat} {cy : Nat → ClassId} {rf rf' : RFq} {N : Nat} {w w' : Mem} {wl : MemL} {k : Nat} {e : va_E} (hk : k < N) (he : CG ad cy rf' k (w' k) (wl k) = e) (hw : ∀ j, j ≠ k → w' j = w j) (hr : ∀ j, j ≠ k → rf' j = rf j) : (WG ad cy rf N w wl).set k (ad k, e) = WG ad cy rf' N w' wl := by
  apply List.ext_getElem?
  intro j
  rcases Nat.lt_or_ge j N with hj | hj
  · by_cases h : j = k
    · subst h
      rw [WG_at hk, he, List.getElem?_set_self (by rw [WG_len]; exact hk)]
    · rw [List.getElem?_set_ne (fun q => h q.symm), WG_at hj, WG_at hj, hw j h]
      have e1 : CG ad cy rf' j = CG ad cy rf j := by
        funext f g
        unfold CG CVG
        rw [hr j h]
      rw [e1]
  · rw [List.getElem?_eq_none (by rw [List.length_set, WG_len]; exact hj), List.getElem?_eq_none (by rw [WG_len]; exact hj)]
theorem CG_obj {ad : Nat → Nat} {cy : Nat → ClassId} {rf : RFq} {k : Nat} {f : Nat → Int32} {g : Nat → Int64} {ci : Nat} (h : SK k = ci) (hc : ci < 13) : CG ad cy rf k f g = .inr (ci, (List.range (NFL.getD ci 0)).map (CVG ad rf k f)) := by
  unfold CG
  rw [if_pos (by rw [h]; exact hc), h]
theorem CG_arr {ad : Nat → Nat} {cy : Nat → ClassId} {rf : RFq} {k : Nat} {f : Nat → Int32} {g : Nat → Int64} (h : 13 ≤ SK k) : CG ad cy rf k f g = CE ad cy k f g := by
  unfold CG
  rw [if_neg (by omega)]
/-- another naming of the addresses, alike below N -/
theorem CG_ad {ad ad' : Nat → Nat} {cy : Nat → ClassId} {rf : RFq} {N k : Nat} {w : Mem} {wl : MemL} {f : Nat → Int32} {g : Nat → Int64} (h : ∀ j, j < N → ad' j = ad j) (hok : OKR N rf w wl) (hs : SK k ≠ 17 ∨ ∀ i r, SRq k i = some r → r < N) : CG ad' cy rf k f g = CG ad cy rf k f g := by
  unfold CG
  by_cases h1 : SK k < 13
  · rw [if_pos h1, if_pos h1]
    have e1 : CVG ad' rf k f = CVG ad rf k f := by
      funext i
      unfold CVG
      cases SRq k i with
      | none => rfl
      | some _ =>
        cases hr : rf k i with
        | none => rfl
        | some r =>
          show va_rf (some (ad' r)) = va_rf (some (ad r))
          rw [h r (hok.1 k i r hr)]
    rw [e1]
  · rw [if_neg h1, if_neg h1]
    unfold CE
    rw [if_neg h1, if_neg h1]
    by_cases h2 : SK k = 15
    · rw [if_pos h2, if_pos h2]
    · rw [if_neg h2, if_neg h2]
      by_cases h3 : SK k = 17
      · rw [if_pos h3, if_pos h3]
        have e1 : (fun i => (SRq k i).map ad') = (fun i => (SRq k i).map ad) := by
          funext i
          cases hr : SRq k i with
          | none => rfl
          | some r =>
            rcases hs with hs | hs
            · exact absurd h3 hs
            · show some (ad' r) = some (ad r)
              rw [h r (hs i r hr)]
        rw [e1]
      · rw [if_neg h3, if_neg h3]
/-- the rows of rows that stand below N point below N -/
def GOK (N : Nat) : Prop := ∀ k, k < N → SK k ≠ 17 ∨ ∀ i r, SRq k i = some r → r < N
theorem WG_ad {ad ad' : Nat → Nat} {cy : Nat → ClassId} {rf : RFq} {N : Nat} {w : Mem} {wl : MemL} (h : ∀ j, j < N → ad' j = ad j) (hok : OKR N rf w wl) (hg : GOK N) : WG ad' cy rf N w wl = WG ad cy rf N w wl := by
  unfold WG
  apply List.map_congr_left
  intro k hk
  have hk := List.mem_range.mp hk
  rw [h k hk, CG_ad h hok (hg k hk)]
theorem WG_succ {ad : Nat → Nat} {cy : Nat → ClassId} {rf : RFq} {N : Nat} {w : Mem} {wl : MemL} : WG ad cy rf (N + 1) w wl = WG ad cy rf N w wl ++ [(ad N, CG ad cy rf N (w N) (wl N))] := by
  unfold WG
  rw [List.range_succ, List.map_append]
  rfl
theorem OKR_mono {N M : Nat} {rf : RFq} {w : Mem} {wl : MemL} (h : OKR N rf w wl) (hm : N ≤ M) : OKR M rf w wl := ⟨fun k i r hr => Nat.lt_of_lt_of_le (h.1 k i r hr) hm, fun k hk => h.2 k (Nat.le_trans hm hk)⟩
theorem OKR_st {N : Nat} {rf : RFq} {w : Mem} {wl : MemL} {k i : Nat} {v : Int32} (h : OKR N rf w wl) (hk : k < N) : OKR N rf (st w k i v) wl := ⟨h.1, fun a ha j => by
  have h1 := h.2 a ha j
  have h2 : a ≠ k := by omega
  simp [st, h2, h1]⟩
theorem OKR_rf {N : Nat} {rf : RFq} {w : Mem} {wl : MemL} {k i r : Nat} (h : OKR N rf w wl) (hk : k < N) (hr : r < N) : OKR N (strf rf k i r) w wl := ⟨fun a j z hz => by
  unfold strf at hz
  split at hz
  · cases hz
    exact hr
  · exact h.1 a j z hz, fun a ha j => by
  have h1 := h.2 a ha j
  have h2 : a ≠ k := by omega
  simp [strf, h2, h1]⟩
theorem strf_ne {rf : RFq} {k i r : Nat} (j : Nat) (hj : j ≠ k) : strf rf k i r j = rf j := by
  funext q
  simp [strf, hj]
def CXG (p : Program) (s : State) (m : MethodId) (args : Array Value) (meth : Method) (c : Code) (cc : ByteArray) (nL : Nat) (own : String) (cy : Nat → ClassId) (D : va_G) (A : Nat → Prop) (H0 : Heap) : Prop :=
  p.tables.exec = Jvm.exec ∧ c.code = cc ∧ c.maxLocals = nL ∧ s.vm.findClass own = some m.cls ∧ (∀ w ∈ TBG, w.before args s = true) ∧ (∀ w ∈ NWL, va_Nw w s) ∧ va_K D vwCl (tysW cy) s ∧ CY cy s ∧ AOI s ∧ (∀ q, H0.size ≤ q → A q) ∧ meth.locks = false
def VG (p : Program) (l : Launch) (e : Env) (R : Room) (s : State) (m : MethodId) (args : Array Value) (below : List Frame) (meth : Method) (c : Code) (nL : Nat) (ad : Nat → Nat) (cy : Nat → ClassId) (D : va_G) (A : Nat → Prop) (H0 : Heap) (ce sl : Nat) (Q : State → Prop) (rf : RFq) (N : Nat) (w : Mem) (wl : MemL) (pc : Nat) (ls : List (Nat × Value)) (st1 : List Value) : Prop :=
  OKR N rf w wl → GOK N → ∀ (H : Heap) (locs : List Loc) (la : Array Slot), va_P D vwCl (WG ad cy rf N w wl) H → va_D A (WG ad cy rf N w wl) → va_S A H0 H locs → lv_has la nL ls → W p l e R s m args below meth c H locs ce sl Q (F0 m pc la st1)
section VGR
variable {p : Program} {l : Launch} {e : Env} {R : Room} {s : State} {m : MethodId} {args : Array Value} {below : List Frame} {meth : Method} {c : Code} {cc : ByteArray} {nL : Nat} {own : String} {ad : Nat → Nat} {cy : Nat → ClassId} {D : va_G} {A : Nat → Prop} {H0 : Heap} {ce sl : Nat} {Q : State → Prop} {rf : RFq} {N : Nat} {w : Mem} {wl : MemL} {pc : Nat} {ls : List (Nat × Value)} {st1 : List Value}
theorem VG_iconst (X : CXG p s m args meth c cc nL own cy D A H0) {n : Int} {v : Int32} (hd : decode cc pc = .ok (.iconst n, 1)) (hv : Int32.ofInt n = v) (k : VG p l e R s m args below meth c nL ad cy D A H0 (ce) (sl) Q rf N w wl (pc + 1) ls (.int v :: st1)) : VG p l e R s m args below meth c nL ad cy D A H0 (ce) (sl) Q rf N w wl pc ls st1 := by
  intro hok hgk H locs la hP hD hS hl
  obtain ⟨hx, hb, hml, hown, hts, hnw, hK, hCY, hAO, hA, hlk⟩ := X
  exact lv_iconst hx hb hd hv (k hok hgk H locs la hP hD hS hl)
theorem VG_bipush (X : CXG p s m args meth c cc nL own cy D A H0) {n : Int} {v : Int32} (hd : decode cc pc = .ok (.bipush n, 2)) (hv : (Int8.ofInt n).toInt32 = v) (k : VG p l e R s m args below meth c nL ad cy D A H0 (ce) (sl) Q rf N w wl (pc + 2) ls (.int v :: st1)) : VG p l e R s m args below meth c nL ad cy D A H0 (ce) (sl) Q rf N w wl pc ls st1 := by
  intro hok hgk H locs la hP hD hS hl
  obtain ⟨hx, hb, hml, hown, hts, hnw, hK, hCY, hAO, hA, hlk⟩ := X
  exact lv_bipush hx hb hd hv (k hok hgk H locs la hP hD hS hl)
theorem VG_sipush (X : CXG p s m args meth c cc nL own cy D A H0) {n : Int} {v : Int32} (hd : decode cc pc = .ok (.sipush n, 3)) (hv : (Int16.ofInt n).toInt32 = v) (k : VG p l e R s m args below meth c nL ad cy D A H0 (ce) (sl) Q rf N w wl (pc + 3) ls (.int v :: st1)) : VG p l e R s m args below meth c nL ad cy D A H0 (ce) (sl) Q rf N w wl pc ls st1 := by
  intro hok hgk H locs la hP hD hS hl
  obtain ⟨hx, hb, hml, hown, hts, hnw, hK, hCY, hAO, hA, hlk⟩ := X
  exact lv_sipush hx hb hd hv (k hok hgk H locs la hP hD hS hl)
theorem VG_aload_n (X : CXG p s m args meth c cc nL own cy D A H0) {k0 : Fin 4} {i x : Nat} (q : Nat) (hd : decode cc pc = .ok (.aload_n k0, 1)) (hi : (k0 : Nat) = i) (hq : ls[q]? = some (i, .ref x)) (k : VG p l e R s m args below meth c nL ad cy D A H0 (ce) (sl) Q rf N w wl (pc + 1) ls (.ref x :: st1)) : VG p l e R s m args below meth c nL ad cy D A H0 (ce) (sl) Q rf N w wl pc ls st1 := by
  intro hok hgk H locs la hP hD hS hl
  obtain ⟨hx, hb, hml, hown, hts, hnw, hK, hCY, hAO, hA, hlk⟩ := X
  exact lv_aload_n hx hb hd hi (lv_at hl q hq) (k hok hgk H locs la hP hD hS hl)
theorem VG_dup (X : CXG p s m args meth c cc nL own cy D A H0) {v : Value} (hd : decode cc pc = .ok (.dup, 1)) (hv : v.category = 1) (k : VG p l e R s m args below meth c nL ad cy D A H0 (ce) (sl) Q rf N w wl (pc + 1) ls (v :: v :: st1)) : VG p l e R s m args below meth c nL ad cy D A H0 (ce) (sl) Q rf N w wl pc ls (v :: st1) := by
  intro hok hgk H locs la hP hD hS hl
  obtain ⟨hx, hb, hml, hown, hts, hnw, hK, hCY, hAO, hA, hlk⟩ := X
  exact lv_dup hx hb hd hv (k hok hgk H locs la hP hD hS hl)
theorem VG_istore_n (X : CXG p s m args meth c cc nL own cy D A H0) {k0 : Fin 4} {i : Nat} {x : Int32} {ls1 : List (Nat × Value)} (hd : decode cc pc = .ok (.istore_n k0, 1)) (hi : (k0 : Nat) = i) (hn : i < nL) (hf : (i, Value.int x) :: ls.filter (fun q => !(q.1 == i) && !(q.1 + 1 == i && q.2.category == 2)) = ls1) (k : VG p l e R s m args below meth c nL ad cy D A H0 (ce) (sl) Q rf N w wl (pc + 1) ls1 st1) : VG p l e R s m args below meth c nL ad cy D A H0 (ce) (sl) Q rf N w wl pc ls (.int x :: st1) := by
  intro hok hgk H locs la hP hD hS hl
  obtain ⟨hx, hb, hml, hown, hts, hnw, hK, hCY, hAO, hA, hlk⟩ := X
  exact lv_istore_n hx hb hd hi hl hn hf (fun la1 hl1 => k hok hgk H locs la1 hP hD hS hl1)
theorem VG_astore_n (X : CXG p s m args meth c cc nL own cy D A H0) {k0 : Fin 4} {i : Nat} {x : Nat} {ls1 : List (Nat × Value)} (hd : decode cc pc = .ok (.astore_n k0, 1)) (hi : (k0 : Nat) = i) (hn : i < nL) (hf : (i, Value.ref x) :: ls.filter (fun q => !(q.1 == i) && !(q.1 + 1 == i && q.2.category == 2)) = ls1) (k : VG p l e R s m args below meth c nL ad cy D A H0 (ce) (sl) Q rf N w wl (pc + 1) ls1 st1) : VG p l e R s m args below meth c nL ad cy D A H0 (ce) (sl) Q rf N w wl pc ls (.ref x :: st1) := by
  intro hok hgk H locs la hP hD hS hl
  obtain ⟨hx, hb, hml, hown, hts, hnw, hK, hCY, hAO, hA, hlk⟩ := X
  exact lv_astore_n hx hb hd hi hl hn hf (fun la1 hl1 => k hok hgk H locs la1 hP hD hS hl1)
theorem VG_objInit (X : CXG p s m args meth c cc nL own cy D A H0) {i x : Nat} (h1 : Cond.methodLink own i objectInit ∈ TBG) (h2 : Cond.instanceMethod objectInit ∈ TBG) (h3 : Cond.code objectInit ⟨#[0xb1]⟩ 1 none ∈ TBG) (hd : decode cc pc = .ok (.invokespecial i, 3)) (hf : 1 ≤ R.frames) (hlo : 2 * 0 + (st1.map fun v => v.category).sum + 12 ≤ R.locals) (k : VG p l e R s m args below meth c nL ad cy D A H0 (ce) (sl) Q rf N w wl (pc + 3) ls st1) : VG p l e R s m args below meth c nL ad cy D A H0 (ce) (sl) Q rf N w wl pc ls (.ref x :: st1) := by
  intro hok hgk H locs la hP hD hS hl
  obtain ⟨hx, hb, hml, hown, hts, hnw, hK, hCY, hAO, hA, hlk⟩ := X
  exact W.objInit hx hb hown (hts _ h1) (hts _ h2) (hts _ h3) rfl (by rw [hml]; exact hl.1) rfl hd hf hlo (k hok hgk H locs la hP hD hS hl)
theorem VG_new (X : CXG p s m args meth c cc nL own cy D A H0) {ci idx n : Nat} {C : String} {T : u_T} (hv : vwCl[ci]? = some (C, T, n)) (hin : ∀ z ∈ u_ws C T n, z ∈ TBG) (t0 : Nat → FieldType) (hty : ∀ z, z < n → parseFieldDescriptor (T z).2.2.1 = some (t0 z)) (h1 : Cond.classLink own idx C ∈ TBG) (h2 : Cond.instantiable C n ∈ TBG) (h3 : Cond.initialized C ∈ TBG) (hs : SK N = ci) (hci : ci < 13) (hN : NFL.getD ci 0 = n) (hdf : ∀ j, j < n → defaultValue (t0 j) = match SRq N j with | some _ => Value.null | none => .int 0) (hc : ce + 1 ≤ R.cells) (hsl : sl + n ≤ R.slots) (hd : decode cc pc = .ok (.new idx, 3)) (kk : ∀ ad1 : Nat → Nat, (∀ k, k < N → ad1 k = ad k) → VG p l e R s m args below meth c nL ad1 cy D A H0 (ce + 1) (sl + n) Q rf (N + 1) w wl (pc + 3) ls (.ref (ad1 N) :: st1)) : VG p l e R s m args below meth c nL ad cy D A H0 (ce) (sl) Q rf N w wl pc ls st1 := by
  intro hok hgk H locs la hP hD hS hl
  obtain ⟨hx, hb, hml, hown, hts, hnw, hK, hCY, hAO, hA, hlk⟩ := X
  refine va_new hx hb hts hin t0 hty hown (hts _ h1) (hts _ h2) (hts _ h3) hK hP hD hS hA hv (fs := (List.range n).map (CVG ad rf N (w N))) (fun j hj => ?_) hc hsl hd (fun q H1 hP1 hD1 hS1 => ?_)
  · rw [hdf j hj]
    show _ = ((List.range n).map (CVG ad rf N (w N))).getD j .null
    rw [List.getD_eq_getElem?_getD, rng_at hj]
    show _ = CVG ad rf N (w N) j
    unfold CVG
    obtain ⟨z1, z2, -⟩ := hok.2 N (Nat.le_refl N) j
    rw [z1, z2]
    cases SRq N j <;> rfl
  · have hag : ∀ k, k < N → (fun k => if k = N then q else ad k) k = ad k := fun k hk => if_neg (by omega)
    have hg1 : GOK (N + 1) := fun k hk => by
      by_cases h : k = N
      · subst h
        exact Or.inl (by omega)
      · rcases hgk k (by omega) with h9 | h9
        · exact Or.inl h9
        · exact Or.inr (fun i r hr => Nat.lt_succ_of_lt (h9 i r hr))
    have e1 : WG ad cy rf N w wl ++ [(q, .inr (ci, (List.range n).map (CVG ad rf N (w N))))] = WG (fun k => if k = N then q else ad k) cy rf (N + 1) w wl := by
      rw [WG_succ, WG_ad hag hok hgk, CG_ad hag hok (Or.inl (by omega)), CG_obj hs hci, hN]
      simp
    rw [e1] at hP1 hD1
    have h9 := kk (fun k => if k = N then q else ad k) hag (OKR_mono hok (Nat.le_succ N)) hg1 H1 locs la hP1 hD1 hS1 hl
    simpa using h9
theorem VG_newaB (X : CXG p s m args meth c cc nL own cy D A H0) {n : Nat} {v : Int32} (hv : ¬ v < 0) (hvn : v.toNatClampNeg = n) (hs : SK N = 13) (hn : SLq N = n) (hby : n * componentBytes .byte ≤ 536870912) (h1 : Cond.arrayClass .byte ∈ TBG) (hc : ce + 1 ≤ R.cells) (hsl : sl + n ≤ R.slots) (hd : decode cc pc = .ok (.newarray .byte, 2)) (kk : ∀ ad1 : Nat → Nat, (∀ k, k < N → ad1 k = ad k) → VG p l e R s m args below meth c nL ad1 cy D A H0 (ce + 1) (sl + n) Q rf (N + 1) w wl (pc + 2) ls (.ref (ad1 N) :: st1)) : VG p l e R s m args below meth c nL ad cy D A H0 (ce) (sl) Q rf N w wl pc ls (.int v :: st1) := by
  intro hok hgk H locs la hP hD hS hl
  obtain ⟨hx, hb, hml, hown, hts, hnw, hK, hCY, hAO, hA, hlk⟩ := X
  refine va_newa (atype := .byte) (ty := .byte) (a0 := (n, .inl (fun _ => 0))) hx hb (hts _ h1) rfl hK hP hD hS hA (fun cA => rfl) hv hvn hby hc hsl hd (fun q cA H1 hK1 hP1 hD1 hS1 => ?_)
  have hcA : cA = cy 13 := by
    have h9 := (hK1.2 5 (cA, .byte) rfl).2
    have h8 : s.vm.findClass ("[" ++ FieldType.toString .byte) = some cA := h9
    exact Option.some.inj (h8.symm.trans hCY.1)
  subst hcA
  have hag : ∀ k, k < N → (fun k => if k = N then q else ad k) k = ad k := fun k hk => if_neg (by omega)
  have hg1 : GOK (N + 1) := fun k hk => by
    by_cases h : k = N
    · subst h
      exact Or.inl (by omega)
    · rcases hgk k (by omega) with h9 | h9
      · exact Or.inl h9
      · exact Or.inr (fun i r hr => Nat.lt_succ_of_lt (h9 i r hr))
  have e1 : WG ad cy rf N w wl ++ [(q, .inl (cy 13, n, .inl (fun _ => 0)))] = WG (fun k => if k = N then q else ad k) cy rf (N + 1) w wl := by
    rw [WG_succ, WG_ad hag hok hgk, CG_arr (by omega), CE_arr hs (by decide), hn, (show w N = (fun _ => 0) from funext fun i => (hok.2 N (Nat.le_refl N) i).1)]
    simp
  rw [e1] at hP1 hD1
  have h9 := kk (fun k => if k = N then q else ad k) hag (OKR_mono hok (Nat.le_succ N)) hg1 H1 locs la hP1 hD1 hS1 hl
  simpa using h9
theorem VG_newaI (X : CXG p s m args meth c cc nL own cy D A H0) {n : Nat} {v : Int32} (hv : ¬ v < 0) (hvn : v.toNatClampNeg = n) (hs : SK N = 14) (hn : SLq N = n) (hby : n * componentBytes .int ≤ 536870912) (h1 : Cond.arrayClass .int ∈ TBG) (hc : ce + 1 ≤ R.cells) (hsl : sl + n ≤ R.slots) (hd : decode cc pc = .ok (.newarray .int, 2)) (kk : ∀ ad1 : Nat → Nat, (∀ k, k < N → ad1 k = ad k) → VG p l e R s m args below meth c nL ad1 cy D A H0 (ce + 1) (sl + n) Q rf (N + 1) w wl (pc + 2) ls (.ref (ad1 N) :: st1)) : VG p l e R s m args below meth c nL ad cy D A H0 (ce) (sl) Q rf N w wl pc ls (.int v :: st1) := by
  intro hok hgk H locs la hP hD hS hl
  obtain ⟨hx, hb, hml, hown, hts, hnw, hK, hCY, hAO, hA, hlk⟩ := X
  refine va_newa (atype := .int) (ty := .int) (a0 := (n, .inl (fun _ => 0))) hx hb (hts _ h1) rfl hK hP hD hS hA (fun cA => rfl) hv hvn hby hc hsl hd (fun q cA H1 hK1 hP1 hD1 hS1 => ?_)
  have hcA : cA = cy 14 := by
    have h9 := (hK1.2 5 (cA, .int) rfl).2
    have h8 : s.vm.findClass ("[" ++ FieldType.toString .int) = some cA := h9
    exact Option.some.inj (h8.symm.trans hCY.2.1)
  subst hcA
  have hag : ∀ k, k < N → (fun k => if k = N then q else ad k) k = ad k := fun k hk => if_neg (by omega)
  have hg1 : GOK (N + 1) := fun k hk => by
    by_cases h : k = N
    · subst h
      exact Or.inl (by omega)
    · rcases hgk k (by omega) with h9 | h9
      · exact Or.inl h9
      · exact Or.inr (fun i r hr => Nat.lt_succ_of_lt (h9 i r hr))
  have e1 : WG ad cy rf N w wl ++ [(q, .inl (cy 14, n, .inl (fun _ => 0)))] = WG (fun k => if k = N then q else ad k) cy rf (N + 1) w wl := by
    rw [WG_succ, WG_ad hag hok hgk, CG_arr (by omega), CE_arr hs (by decide), hn, (show w N = (fun _ => 0) from funext fun i => (hok.2 N (Nat.le_refl N) i).1)]
    simp
  rw [e1] at hP1 hD1
  have h9 := kk (fun k => if k = N then q else ad k) hag (OKR_mono hok (Nat.le_succ N)) hg1 H1 locs la hP1 hD1 hS1 hl
  simpa using h9
theorem VG_newaZ (X : CXG p s m args meth c cc nL own cy D A H0) {n : Nat} {v : Int32} (hv : ¬ v < 0) (hvn : v.toNatClampNeg = n) (hs : SK N = 16) (hn : SLq N = n) (hby : n * componentBytes .boolean ≤ 536870912) (h1 : Cond.arrayClass .boolean ∈ TBG) (hc : ce + 1 ≤ R.cells) (hsl : sl + n ≤ R.slots) (hd : decode cc pc = .ok (.newarray .boolean, 2)) (kk : ∀ ad1 : Nat → Nat, (∀ k, k < N → ad1 k = ad k) → VG p l e R s m args below meth c nL ad1 cy D A H0 (ce + 1) (sl + n) Q rf (N + 1) w wl (pc + 2) ls (.ref (ad1 N) :: st1)) : VG p l e R s m args below meth c nL ad cy D A H0 (ce) (sl) Q rf N w wl pc ls (.int v :: st1) := by
  intro hok hgk H locs la hP hD hS hl
  obtain ⟨hx, hb, hml, hown, hts, hnw, hK, hCY, hAO, hA, hlk⟩ := X
  refine va_newa (atype := .boolean) (ty := .boolean) (a0 := (n, .inl (fun _ => 0))) hx hb (hts _ h1) rfl hK hP hD hS hA (fun cA => rfl) hv hvn hby hc hsl hd (fun q cA H1 hK1 hP1 hD1 hS1 => ?_)
  have hcA : cA = cy 16 := by
    have h9 := (hK1.2 5 (cA, .boolean) rfl).2
    have h8 : s.vm.findClass ("[" ++ FieldType.toString .boolean) = some cA := h9
    exact Option.some.inj (h8.symm.trans hCY.2.2.2.1)
  subst hcA
  have hag : ∀ k, k < N → (fun k => if k = N then q else ad k) k = ad k := fun k hk => if_neg (by omega)
  have hg1 : GOK (N + 1) := fun k hk => by
    by_cases h : k = N
    · subst h
      exact Or.inl (by omega)
    · rcases hgk k (by omega) with h9 | h9
      · exact Or.inl h9
      · exact Or.inr (fun i r hr => Nat.lt_succ_of_lt (h9 i r hr))
  have e1 : WG ad cy rf N w wl ++ [(q, .inl (cy 16, n, .inl (fun _ => 0)))] = WG (fun k => if k = N then q else ad k) cy rf (N + 1) w wl := by
    rw [WG_succ, WG_ad hag hok hgk, CG_arr (by omega), CE_arr hs (by decide), hn, (show w N = (fun _ => 0) from funext fun i => (hok.2 N (Nat.le_refl N) i).1)]
    simp
  rw [e1] at hP1 hD1
  have h9 := kk (fun k => if k = N then q else ad k) hag (OKR_mono hok (Nat.le_succ N)) hg1 H1 locs la hP1 hD1 hS1 hl
  simpa using h9
theorem VG_newaJ (X : CXG p s m args meth c cc nL own cy D A H0) {n : Nat} {v : Int32} (hv : ¬ v < 0) (hvn : v.toNatClampNeg = n) (hs : SK N = 15) (hn : SLq N = n) (hby : n * componentBytes .long ≤ 536870912) (h1 : Cond.arrayClass .long ∈ TBG) (hc : ce + 1 ≤ R.cells) (hsl : sl + n ≤ R.slots) (hd : decode cc pc = .ok (.newarray .long, 2)) (kk : ∀ ad1 : Nat → Nat, (∀ k, k < N → ad1 k = ad k) → VG p l e R s m args below meth c nL ad1 cy D A H0 (ce + 1) (sl + n) Q rf (N + 1) w wl (pc + 2) ls (.ref (ad1 N) :: st1)) : VG p l e R s m args below meth c nL ad cy D A H0 (ce) (sl) Q rf N w wl pc ls (.int v :: st1) := by
  intro hok hgk H locs la hP hD hS hl
  obtain ⟨hx, hb, hml, hown, hts, hnw, hK, hCY, hAO, hA, hlk⟩ := X
  refine va_newa (atype := .long) (ty := .long) (a0 := (n, .inr (.inl (fun _ => 0)))) hx hb (hts _ h1) rfl hK hP hD hS hA (fun cA => rfl) hv hvn hby hc hsl hd (fun q cA H1 hK1 hP1 hD1 hS1 => ?_)
  have hcA : cA = cy 15 := by
    have h9 := (hK1.2 5 (cA, .long) rfl).2
    have h8 : s.vm.findClass ("[" ++ FieldType.toString .long) = some cA := h9
    exact Option.some.inj (h8.symm.trans hCY.2.2.1)
  subst hcA
  have hag : ∀ k, k < N → (fun k => if k = N then q else ad k) k = ad k := fun k hk => if_neg (by omega)
  have hg1 : GOK (N + 1) := fun k hk => by
    by_cases h : k = N
    · subst h
      exact Or.inl (by omega)
    · rcases hgk k (by omega) with h9 | h9
      · exact Or.inl h9
      · exact Or.inr (fun i r hr => Nat.lt_succ_of_lt (h9 i r hr))
  have e1 : WG ad cy rf N w wl ++ [(q, .inl (cy 15, n, .inr (.inl (fun _ => 0))))] = WG (fun k => if k = N then q else ad k) cy rf (N + 1) w wl := by
    rw [WG_succ, WG_ad hag hok hgk, CG_arr (by omega), CE_lng hs, hn, (show wl N = (fun _ => 0) from funext fun i => (hok.2 N (Nat.le_refl N) i).2.2)]
    simp
  rw [e1] at hP1 hD1
  have h9 := kk (fun k => if k = N then q else ad k) hag (OKR_mono hok (Nat.le_succ N)) hg1 H1 locs la hP1 hD1 hS1 hl
  simpa using h9
theorem VG_putR (X : CXG p s m args meth c cc nL own cy D A H0) {ci k i idx n : Nat} {C : String} {T : u_T} (hv : vwCl[ci]? = some (C, T, n)) (hin : ∀ z ∈ u_ws C T n, z ∈ TBG) (hi : i < n) (hC : (T i).1 = C) (hci : ci < 13) (hN : NFL.getD ci 0 = n) (hs : SK k = ci) (hk : k < N) (t0 : Nat → FieldType) (hty : ∀ z, z < n → parseFieldDescriptor (T z).2.2.1 = some (t0 z)) (hnm : ∀ a, a < n → ∀ b, b < n → a ≠ b → (T a).2.1 ≠ (T b).2.1) {r0 r : Nat} (hr0 : SRq k i = some r0) (hr : r < N) (hfin : (T i).2.2.2 = true) (hin2 : meth.name = "<init>") (hown2 : C = own) {ty : FieldType} (hpd : parseFieldDescriptor (T i).2.2.1 = some ty) (hnv : narrow ty (.ref (ad r)) = .ref (ad r)) (hfit : fits ty (.ref (ad r)) = true) (hL : Cond.fieldLink own idx C (T i).2.1 (T i).2.2.1 ∈ TBG) (hd : decode cc pc = .ok (.putfield idx, 3)) (kk : VG p l e R s m args below meth c nL ad cy D A H0 (ce) (sl) Q (strf rf k i r) N w wl (pc + 3) ls st1) : VG p l e R s m args below meth c nL ad cy D A H0 (ce) (sl) Q rf N w wl pc ls (.ref (ad r) :: .ref (ad k) :: st1) := by
  intro hok hgk H locs la hP hD hS hl
  obtain ⟨hx, hb, hml, hown, hts, hnw, hK, hCY, hAO, hA, hlk⟩ := X
  refine va_putF hx hb hts hin t0 hty hnm hown hK hP hD hS k (WG_at hk |>.trans (by rw [CG_obj hs hci, hN])) hv i hi (hts _ hL) (fun _ h => by rw [hC] at h; exact h) hfin hin2 (by rw [hC, hown2]) hpd hnv hfit (by simpa using hi) hd (fun H1 locs1 hP1 hD1 hS1 => ?_)
  have e1 : (WG ad cy rf N w wl).set k (ad k, .inr (ci, ((List.range n).map (CVG ad rf k (w k))).set i (.ref (ad r)))) = WG ad cy (strf rf k i r) N w wl := by
    refine WG_set hk ?_ (fun _ _ => rfl) (fun j hj => strf_ne j hj)
    rw [CG_obj hs hci, hN]
    refine congrArg (fun z => Sum.inr (ci, z)) (Eq.symm (rng_set ?_ ?_))
    · show CVG ad _ k _ i = _
      unfold CVG
      rw [hr0]
      simp [strf, va_rf]
    · intro j hj
      show CVG ad _ k _ j = CVG ad _ k _ j
      unfold CVG
      cases SRq k j with
      | some _ => simp [strf, hj]
      | none => rfl
  rw [e1] at hP1 hD1
  exact kk (OKR_rf hok hk hr) hgk H1 locs1 la hP1 hD1 hS1 hl
theorem VG_putI (X : CXG p s m args meth c cc nL own cy D A H0) {ci k i idx n : Nat} {C : String} {T : u_T} (hv : vwCl[ci]? = some (C, T, n)) (hin : ∀ z ∈ u_ws C T n, z ∈ TBG) (hi : i < n) (hC : (T i).1 = C) (hci : ci < 13) (hN : NFL.getD ci 0 = n) (hs : SK k = ci) (hk : k < N) (t0 : Nat → FieldType) (hty : ∀ z, z < n → parseFieldDescriptor (T z).2.2.1 = some (t0 z)) (hnm : ∀ a, a < n → ∀ b, b < n → a ≠ b → (T a).2.1 ≠ (T b).2.1) (hr : SRq k i = none) (hfin : (T i).2.2.2 = false) {ty : FieldType} {v : Int32} (hpd : parseFieldDescriptor (T i).2.2.1 = some ty) (hnv : narrow ty (.int v) = .int v) (hfit : fits ty (.int v) = true) (hL : Cond.fieldLink own idx C (T i).2.1 (T i).2.2.1 ∈ TBG) (hd : decode cc pc = .ok (.putfield idx, 3)) (kk : VG p l e R s m args below meth c nL ad cy D A H0 (ce) (sl) Q rf N (st w k i v) wl (pc + 3) ls st1) : VG p l e R s m args below meth c nL ad cy D A H0 (ce) (sl) Q rf N w wl pc ls (.int v :: .ref (ad k) :: st1) := by
  intro hok hgk H locs la hP hD hS hl
  obtain ⟨hx, hb, hml, hown, hts, hnw, hK, hCY, hAO, hA, hlk⟩ := X
  refine va_put hx hb hts hin t0 hty hnm hown hK hP hD hS k (WG_at hk |>.trans (by rw [CG_obj hs hci, hN])) hv i hi (hts _ hL) (fun _ h => by rw [hC] at h; exact h) hfin hpd hnv hfit (by simpa using hi) hd (fun H1 locs1 hP1 hD1 hS1 => ?_)
  have e1 : (WG ad cy rf N w wl).set k (ad k, .inr (ci, ((List.range n).map (CVG ad rf k (w k))).set i (.int v))) = WG ad cy rf N (st w k i v) wl := by
    refine WG_set hk ?_ (fun j hj => st_ne j hj) (fun _ _ => rfl)
    rw [CG_obj hs hci, hN]
    refine congrArg (fun z => Sum.inr (ci, z)) (Eq.symm (rng_set ?_ ?_))
    · show CVG ad _ k _ i = _
      unfold CVG
      rw [hr, st_at]
      simp [upd]
    · intro j hj
      show CVG ad _ k _ j = CVG ad _ k _ j
      unfold CVG
      cases SRq k j with
      | some _ => rfl
      | none => simp [st_at, upd, hj]
  rw [e1] at hP1 hD1
  exact kk (OKR_st hok hk) hgk H1 locs1 la hP1 hD1 hS1 hl
theorem VG_getR (X : CXG p s m args meth c cc nL own cy D A H0) {ci k i idx n : Nat} {C : String} {T : u_T} (hv : vwCl[ci]? = some (C, T, n)) (hin : ∀ z ∈ u_ws C T n, z ∈ TBG) (hi : i < n) (hC : (T i).1 = C) (hci : ci < 13) (hN : NFL.getD ci 0 = n) (hs : SK k = ci) (hk : k < N) {r0 r : Nat} (hr0 : SRq k i = some r0) (hr : rf k i = some r) (hL : Cond.fieldLink own idx C (T i).2.1 (T i).2.2.1 ∈ TBG) (hd : decode cc pc = .ok (.getfield idx, 3)) (kk : VG p l e R s m args below meth c nL ad cy D A H0 (ce) (sl) Q rf N w wl (pc + 3) ls (.ref (ad r) :: st1)) : VG p l e R s m args below meth c nL ad cy D A H0 (ce) (sl) Q rf N w wl pc ls (.ref (ad k) :: st1) := by
  intro hok hgk H locs la hP hD hS hl
  obtain ⟨hx, hb, hml, hown, hts, hnw, hK, hCY, hAO, hA, hlk⟩ := X
  refine va_get hx hb hts hin hown hK hP k (WG_at hk |>.trans (by rw [CG_obj hs hci, hN])) hv i hi (hts _ hL) (fun _ h => by rw [hC] at h; exact h) (v := .ref (ad r)) ?_ hd (kk hok hgk H locs la hP hD hS hl)
  rw [rng_at hi]
  show some (CVG ad rf k _ i) = _
  rw [CVG, hr0, hr]
  rfl
end VGR
