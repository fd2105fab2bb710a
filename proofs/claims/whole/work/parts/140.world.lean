/-! the world: 189 cells, 0 .. 149 the class' own, 150 .. 188 the reference's; what each is, how long, what it points to, stands fast once all is made -/
def SKL : List Nat := [11, 7, 13, 9, 14, 14, 14, 3, 14, 8, 2, 14, 14, 14, 14, 14, 2, 14, 14, 14, 14, 14, 2, 14, 14, 14, 14, 14, 2, 14, 14, 14, 14, 14, 2, 14, 14, 14, 14, 14, 14, 4, 14, 14, 14, 14, 14, 14, 8, 2, 14, 14, 14, 14, 14, 2, 14, 14, 14, 14, 14, 2, 14, 14, 14, 14, 14, 2, 14, 14, 14, 14, 14, 2, 14, 14, 14, 14, 14, 14, 4, 14, 14, 14, 14, 14, 14, 0, 14, 5, 14, 14, 14, 5, 14, 14, 14, 1, 17, 14, 14, 14, 14, 14, 14, 14, 14, 14, 14, 14, 14, 14, 14, 14, 14, 14, 14, 14, 14, 14, 14, 14, 14, 14, 14, 14, 14, 14, 14, 14, 14, 14, 14, 14, 14, 14, 14, 14, 14, 6, 17, 14, 14, 14, 16, 10, 14, 14, 14, 14, 12, 13, 13, 14, 14, 14, 15, 15, 15, 14, 14, 14, 14, 14, 14, 14, 14, 14, 14, 14, 16, 14, 14, 14, 14, 14, 14, 14, 14, 14, 14, 14, 14, 14, 14, 14, 14, 16, 14]
def SK (k : Nat) : Nat := SKL.getD k 99
def SLL : List Nat := [0, 0, 2000, 0, 401, 401, 401, 0, 15, 0, 0, 400, 400, 13, 11, 16, 0, 400, 400, 13, 11, 16, 0, 400, 400, 13, 11, 16, 0, 400, 400, 13, 11, 16, 0, 400, 400, 13, 11, 16, 5, 0, 8, 8, 8, 8, 7, 7, 0, 0, 400, 400, 13, 11, 16, 0, 400, 400, 13, 11, 16, 0, 400, 400, 13, 11, 16, 0, 400, 400, 13, 11, 16, 0, 400, 400, 13, 11, 16, 5, 0, 8, 8, 8, 8, 7, 7, 0, 7, 0, 8, 8, 256, 0, 8, 8, 256, 0, 40, 277, 277, 277, 277, 277, 277, 277, 277, 277, 277, 277, 277, 277, 277, 277, 277, 277, 277, 277, 277, 277, 277, 277, 277, 277, 277, 277, 277, 277, 277, 277, 277, 277, 277, 277, 277, 277, 277, 277, 277, 0, 3, 277, 277, 277, 3, 0, 20, 20, 20, 8, 0, 2000, 2000, 403, 403, 403, 403, 29, 15, 40, 2, 16, 16, 16, 16, 2, 14, 14, 10, 10, 260, 260, 260, 260, 260, 840, 840, 64, 11, 400, 260, 260, 7, 10400, 20, 20, 20, 3, 780]
def SLq (k : Nat) : Nat := SLL.getD k 0
def SRL : List (List (Option Nat)) := [[some 1, some 3, some 7, some 9, some 48, some 87, some 89, some 93, some 97, some 139, some 145, some 149, none], [some 2, none], [], [some 1, some 4, some 5, some 6, none], [], [], [], [some 3, some 8, none, none, none, none, none, none, none], [], [some 10, some 16, some 22, some 28, some 34, some 40, some 41, none, none, none, none, none, none, none, none, none, none, none], [some 11, some 12, some 13, some 14, some 15, none, none, none], [], [], [], [], [], [some 17, some 18, some 19, some 20, some 21, none, none, none], [], [], [], [], [], [some 23, some 24, some 25, some 26, some 27, none, none, none], [], [], [], [], [], [some 29, some 30, some 31, some 32, some 33, none, none, none], [], [], [], [], [], [some 35, some 36, some 37, some 38, some 39, none, none, none], [], [], [], [], [], [], [some 42, some 43, some 44, some 45, some 46, some 47, none, none], [], [], [], [], [], [], [some 49, some 55, some 61, some 67, some 73, some 79, some 80, none, none, none, none, none, none, none, none, none, none, none], [some 50, some 51, some 52, some 53, some 54, none, none, none], [], [], [], [], [], [some 56, some 57, some 58, some 59, some 60, none, none, none], [], [], [], [], [], [some 62, some 63, some 64, some 65, some 66, none, none, none], [], [], [], [], [], [some 68, some 69, some 70, some 71, some 72, none, none, none], [], [], [], [], [], [some 74, some 75, some 76, some 77, some 78, none, none, none], [], [], [], [], [], [], [some 81, some 82, some 83, some 84, some 85, some 86, none, none], [], [], [], [], [], [], [some 48, some 88, none, none, none, none, none, none], [], [some 48, some 90, some 91, some 92, none, none, none, none, none], [], [], [], [some 48, some 94, some 95, some 96, none, none, none, none, none], [], [], [], [some 98, none, none], [some 99, some 100, some 101, some 102, some 103, some 104, some 105, some 106, some 107, some 108, some 109, some 110, some 111, some 112, some 113, some 114, some 115, some 116, some 117, some 118, some 119, some 120, some 121, some 122, some 123, some 124, some 125, some 126, some 127, some 128, some 129, some 130, some 131, some 132, some 133, some 134, some 135, some 136, some 137, some 138], [], [], [], [], [], [], [], [], [], [], [], [], [], [], [], [], [], [], [], [], [], [], [], [], [], [], [], [], [], [], [], [], [], [], [], [], [], [], [], [], [some 140, some 144], [some 141, some 142, some 143], [], [], [], [], [some 146, some 147, some 148, none], [], [], [], [], [none, some 151, none, some 152, none, some 153, some 154, some 155, some 156, some 157, none, none, none, none, none, none, none, none, none, none, none, some 158, some 159, some 160, some 161, some 162, some 163, some 164, some 165, some 166, some 167, some 168, some 169, none, some 170, some 171, some 172, some 173, some 174, none, some 175, some 176, some 177, none, some 178, some 179, none, some 180, some 181, none, none, none, none, none, none, none, none, none, none, none, some 182, none, none, none, none, some 183, none, some 184, some 185, some 186, some 187, some 188], [], [], [], [], [], [], [], [], [], [], [], [], [], [], [], [], [], [], [], [], [], [], [], [], [], [], [], [], [], [], [], [], [], [], [], [], [], []]
def SRq (k i : Nat) : Option Nat := (SRL.getD k []).getD i none
def NFL : List Nat := [8, 3, 8, 9, 8, 9, 2, 2, 18, 5, 4, 13, 72]
def cmb (w wm : Mem) : Mem := fun k i => if k < 150 then w k i else wm k i
def CV (ad : Nat → Nat) (k : Nat) (f : Nat → Int32) (i : Nat) : Value := match SRq k i with | some r => .ref (ad r) | none => .int (f i)
def CE (ad : Nat → Nat) (cy : Nat → ClassId) (k : Nat) (f : Nat → Int32) (g : Nat → Int64) : va_E :=
  if SK k < 13 then .inr (SK k, (List.range (NFL.getD (SK k) 0)).map (CV ad k f))
  else if SK k = 15 then .inl (cy 15, SLq k, .inr (.inl g))
  else if SK k = 17 then .inl (cy 17, SLq k, .inr (.inr (.inr (.inr (fun i => (SRq k i).map ad)))))
  else .inl (cy (SK k), SLq k, .inl f)
def WS (ad : Nat → Nat) (cy : Nat → ClassId) (w : Mem) (wl : MemL) : va_W := (List.range (ad 1000)).map (fun k => (ad k, CE ad cy k (w k) (wl k)))
def tysW (cy : Nat → ClassId) : List (ClassId × FieldType) := [(cy 13, .byte), (cy 14, .int), (cy 15, .long), (cy 16, .boolean), (cy 17, .array .int)]
def INJ (ad : Nat → Nat) : Prop := 150 ≤ ad 1000 ∧ ∀ i j, i < ad 1000 → j < ad 1000 → ad i = ad j → i = j
def AW (ad : Nat → Nat) : Nat → Prop := fun q => ∃ k, k < ad 1000 ∧ q = ad k
theorem WS_at {ad : Nat → Nat} {cy : Nat → ClassId} {w : Mem} {wl : MemL} {k : Nat} (hk : k < ad 1000) : (WS ad cy w wl)[k]? = some (ad k, CE ad cy k (w k) (wl k)) := by
  unfold WS
  rw [List.getElem?_map, List.getElem?_range hk]
  rfl
theorem WS_len {ad : Nat → Nat} {cy : Nat → ClassId} {w : Mem} {wl : MemL} : (WS ad cy w wl).length = ad 1000 := by
  unfold WS
  rw [List.length_map, List.length_range]
theorem WS_set {ad : Nat → Nat} {cy : Nat → ClassId} {w w' : Mem} {wl wl' : MemL} {k : Nat} {e : va_E} (hk : k < ad 1000) (he : CE ad cy k (w' k) (wl' k) = e) (hw : ∀ j, j ≠ k → w' j = w j) (hl : ∀ j, j ≠ k → wl' j = wl j) : (WS ad cy w wl).set k (ad k, e) = WS ad cy w' wl' := by
  apply List.ext_getElem?
  intro j
  rcases Nat.lt_or_ge j (ad 1000) with hj | hj
  · by_cases h : j = k
    · subst h
      rw [WS_at hk, he, List.getElem?_set_self (by rw [WS_len]; exact hk)]
    · rw [List.getElem?_set_ne (fun q => h q.symm), WS_at hj, WS_at hj, hw j h, hl j h]
  · rw [List.getElem?_eq_none (by rw [List.length_set, WS_len]; exact hj), List.getElem?_eq_none (by rw [WS_len]; exact hj)]
theorem CE_obj {ad : Nat → Nat} {cy : Nat → ClassId} {k : Nat} {f : Nat → Int32} {g : Nat → Int64} {ci : Nat} (h : SK k = ci) (hc : ci < 13) : CE ad cy k f g = .inr (ci, (List.range (NFL.getD ci 0)).map (CV ad k f)) := by
  unfold CE
  rw [if_pos (by rw [h]; exact hc), h]
theorem CE_arr {ad : Nat → Nat} {cy : Nat → ClassId} {k : Nat} {f : Nat → Int32} {g : Nat → Int64} {t : Nat} (h : SK k = t) (hc : t = 13 ∨ t = 14 ∨ t = 16) : CE ad cy k f g = .inl (cy t, SLq k, .inl f) := by
  unfold CE
  subst h
  rw [if_neg (by omega), if_neg (by omega), if_neg (by omega)]
theorem CE_lng {ad : Nat → Nat} {cy : Nat → ClassId} {k : Nat} {f : Nat → Int32} {g : Nat → Int64} (h : SK k = 15) : CE ad cy k f g = .inl (cy 15, SLq k, .inr (.inl g)) := by
  unfold CE
  rw [if_neg (by omega), if_pos h]
theorem CE_rows {ad : Nat → Nat} {cy : Nat → ClassId} {k : Nat} {f : Nat → Int32} {g : Nat → Int64} (h : SK k = 17) : CE ad cy k f g = .inl (cy 17, SLq k, .inr (.inr (.inr (.inr (fun i => (SRq k i).map ad))))) := by
  unfold CE
  rw [if_neg (by omega), if_neg (by omega), if_pos h]
theorem rng_at {α : Type} {f : Nat → α} {n i : Nat} (h : i < n) : ((List.range n).map f)[i]? = some (f i) := by
  rw [List.getElem?_map, List.getElem?_range h]
  rfl
theorem rng_set {α : Type} {f g : Nat → α} {n i : Nat} {v : α} (hi : g i = v) (hne : ∀ j, j ≠ i → g j = f j) : ((List.range n).map f).set i v = (List.range n).map g := by
  apply List.ext_getElem?
  intro j
  by_cases h : j = i
  · subst h
    rcases Nat.lt_or_ge j n with hj | hj
    · rw [List.getElem?_set_self (by simpa using hj), rng_at hj, hi]
    · rw [List.getElem?_eq_none (by simpa using hj), List.getElem?_eq_none (by simpa using hj)]
  · rw [List.getElem?_set_ne (fun q => h q.symm)]
    rcases Nat.lt_or_ge j n with hj | hj
    · rw [rng_at hj, rng_at hj, hne j h]
    · rw [List.getElem?_eq_none (by simpa using hj), List.getElem?_eq_none (by simpa using hj)]
theorem cmb_c {w wm : Mem} {k : Nat} (h : k < 150) : cmb w wm k = w k := by
  funext i
  simp [cmb, h]
theorem cmb_m {w wm : Mem} {k : Nat} (h : 150 ≤ k) : cmb w wm k = wm k := by
  funext i
  simp [cmb, show ¬ k < 150 by omega]
theorem cmb_ne_c {w w' wm : Mem} {k : Nat} (hk : k < 150) (h : ∀ j, j ≠ k → w' j = w j) (j : Nat) (hj : j ≠ k) : cmb w' wm j = cmb w wm j := by
  funext i
  unfold cmb
  rw [h j hj]
theorem cmb_ne_m {w wm wm' : Mem} {k : Nat} (hk : 150 ≤ k) (h : ∀ j, j ≠ k → wm' j = wm j) (j : Nat) (hj : j ≠ k) : cmb w wm' j = cmb w wm j := by
  funext i
  unfold cmb
  rw [h j hj]
/-- the words that are good on every call: the tables' without the nest mates' links -/
def TBG : List Cond := lw_tbl.filter goodWord
def isNest : Cond → Bool
  | .fieldLinkNest _ _ _ _ _ _ => true
  | .methodLinkNest _ _ _ _ => true
  | _ => false
def NWL : List Cond := lw_tbl.filter isNest
abbrev TBq (y : MethodName) (b : ByteArray) (n : Nat) (ret : Option FieldType) : List Cond := Cond.code y b n ret :: TBG
theorem inTBG {i : Nat} {w : Cond} (h : tables_1[i]? = some w) (g : goodWord w = true) : w ∈ TBG := List.mem_filter.mpr ⟨List.mem_append_right _ (List.mem_of_getElem? h), g⟩
theorem inTBGs {i : Nat} {w : Cond} (h : (k2_sels lw_privs)[i]? = some w) (g : goodWord w = true) : w ∈ TBG := List.mem_filter.mpr ⟨List.mem_append_left _ (List.mem_of_getElem? h), g⟩
theorem inNWL {i : Nat} {w : Cond} (h : tables_1[i]? = some w) (g : isNest w = true) : w ∈ NWL := List.mem_filter.mpr ⟨List.mem_append_right _ (List.mem_of_getElem? h), g⟩
theorem goodTBG {w : Cond} (h : w ∈ TBG) : w ∈ TBG ∧ ((w.onTables && w.keeps) = true ∨ ∃ ty, w = .arrayClass ty) := ⟨h, good_of_word (List.mem_filter.mp h).2⟩
theorem goodTB {y : MethodName} {b : ByteArray} {n : Nat} {ret : Option FieldType} (h : Cond.code y b n ret ∈ TBG) : GoodIn TBG (TBq y b n ret) := fun w hw => (List.mem_cons.mp hw).elim (fun e => by rw [e]; exact goodTBG h) goodTBG
theorem goodTBV {own C : String} {idx : Nat} {y : MethodName} {b : ByteArray} {n : Nat} {ret : Option FieldType} (h : Cond.code y b n ret ∈ TBG) (h1 : Cond.methodLink own idx y ∈ TBG) (h2 : Cond.instanceMethod y ∈ TBG) (h3 : Cond.selects C y y ∈ TBG) (h4 : Cond.initialized C ∈ TBG) : GoodIn TBG (wsV own idx C y (TBq y b n ret)) := by
  intro w hw
  rcases List.mem_append.mp hw with hw | hw
  · simp only [List.mem_cons, List.not_mem_nil, or_false] at hw
    rcases hw with rfl | rfl | rfl | rfl
    · exact goodTBG h1
    · exact goodTBG h2
    · exact goodTBG h3
    · exact goodTBG h4
  · exact goodTB h w hw
theorem nest_warm {s U : State} (hW : s.WarmedH U.vm) (h : ∀ w ∈ NWL, va_Nw w s) : ∀ w ∈ NWL, va_Nw w U := by
  intro w hw
  have hn := (List.mem_filter.mp hw).2
  have h0 := h w hw
  cases w <;> first | exact va_Nw.warmF hW h0 | exact va_Nw.warmM hW h0 | exact absurd hn (by simp [isNest])
/-- the two literals: their lengths, their bytes; ad 200, ad 201 the Strings, ad 210, ad 211 their rows -/
def tx0 : String := "hill wind far gives style goes parts man judge snow gusts waits gate second seed if then else at section gust weight ski late white bar length lean home "
def tx1 : String := ";=+-*/<()"
/-- the JDK's formatter: a reference, or null -/
def FM (ad : Nat → Nat) : Value := if ad 221 = 0 then .null else .ref (ad 220)
/-- what stands fast of the JDK's texts: the literals, two statics -/
def STR (ad : Nat → Nat) (A : Nat → Prop) (U : State) (H : Heap) : Prop := vk_S 2 lenS bytS (fun i => ad (200 + i)) (fun i => ad (210 + i)) A U H ∧ vk_R "WindJump$Tokens" 72 tx0 (ad 200) U ∧ vk_R "WindJump$Tokens" 61 tx1 (ad 201) U ∧ va_Z "java/lang/String" "COMPACT_STRINGS" "Z" (.int 1) A U H ∧ va_Z "jdk/internal/util/Preconditions" "SIOOBE_FORMATTER" "Ljava/util/function/BiFunction;" (FM ad) A U H
theorem STR_at {ad : Nat → Nat} {A B : Nat → Prop} {s U : State} {H0 H : Heap} {locs : List Loc} (h : STR ad A s H0) (hS : va_S A H0 H locs) (hW : s.WarmedH U.vm) (hAB : ∀ q, B q → A q) : STR ad B U H :=
  ⟨vk_S.moved hW.alike ((h.1.kept hS.2.1).narrow hAB), vk_R.warm hW h.2.1, vk_R.warm hW h.2.2.1, va_Z.moved hW.alike ((h.2.2.2.1.kept hS.2.1).narrow hAB), va_Z.moved hW.alike ((h.2.2.2.2.kept hS.2.1).narrow hAB)⟩
/-- what stands fast in a method's walk -/
def CXq (p : Program) (s : State) (m : MethodId) (args : Array Value) (meth : Method) (c : Code) (cc : ByteArray) (nL : Nat) (own : String) (ad : Nat → Nat) (cy : Nat → ClassId) (D : va_G) (A : Nat → Prop) (H0 : Heap) : Prop :=
  p.tables.exec = Jvm.exec ∧ c.code = cc ∧ c.maxLocals = nL ∧ s.vm.findClass own = some m.cls ∧ (∀ w ∈ TBG, w.before args s = true) ∧ (∀ w ∈ NWL, va_Nw w s) ∧ va_K D vwCl (tysW cy) s ∧ INJ ad ∧ (∀ k, k < ad 1000 → A (ad k)) ∧ meth.locks = false ∧ STR ad A s H0
/-- the machine at pc, with these locals and this stack, the world as w, wm, wl say: it comes to Q -/
def V (p : Program) (l : Launch) (e : Env) (R : Room) (s : State) (m : MethodId) (args : Array Value) (below : List Frame) (meth : Method) (c : Code) (nL : Nat) (ad : Nat → Nat) (cy : Nat → ClassId) (D : va_G) (A : Nat → Prop) (H0 : Heap) (ce sl : Nat) (Q : State → Prop) (w wm : Mem) (wl : MemL) (pc : Nat) (ls : List (Nat × Value)) (st : List Value) : Prop :=
  ∀ (H : Heap) (locs : List Loc) (la : Array Slot), va_P D vwCl (WS ad cy (cmb w wm) wl) H → va_S A H0 H locs → lv_has la nL ls → W p l e R s m args below meth c H locs ce sl Q (F0 m pc la st)
theorem WS_D {ad : Nat → Nat} {cy : Nat → ClassId} {w : Mem} {wl : MemL} {A : Nat → Prop} (hi : ∀ i j, i < ad 1000 → j < ad 1000 → ad i = ad j → i = j) (hA : ∀ k, k < ad 1000 → A (ad k)) : va_D A (WS ad cy w wl) := by
  have hlt : ∀ (k : Nat) (q : Nat × va_E), (WS ad cy w wl)[k]? = some q → k < ad 1000 ∧ q.1 = ad k := by
    intro k q hq
    have h1 : k < ad 1000 := by
      have h2 := (List.getElem?_eq_some_iff.mp hq).1
      rw [WS_len] at h2
      exact h2
    rw [WS_at h1] at hq
    exact ⟨h1, by rw [← Option.some.inj hq]⟩
  refine ⟨fun i j x y hx hy hxy => ?_, fun k q hq => ?_⟩
  · obtain ⟨a1, a2⟩ := hlt i x hx
    obtain ⟨b1, b2⟩ := hlt j y hy
    exact hi i j a1 b1 (by rw [← a2, ← b2]; exact hxy)
  · obtain ⟨a1, a2⟩ := hlt k q hq
    rw [a2]
    exact hA k a1
section VR
variable {p : Program} {l : Launch} {e : Env} {R : Room} {s : State} {m : MethodId} {args : Array Value} {below : List Frame} {meth : Method} {c : Code} {cc : ByteArray} {nL : Nat} {own : String} {ad : Nat → Nat} {cy : Nat → ClassId} {D : va_G} {A : Nat → Prop} {H0 : Heap} {ce sl : Nat} {Q : State → Prop} {w wm : Mem} {wl : MemL} {pc : Nat} {ls : List (Nat × Value)} {st1 : List Value}
theorem V_iconst (X : CXq p s m args meth c cc nL own ad cy D A H0) {n : Int} {v : Int32} (hd : decode cc pc = .ok (.iconst n, 1)) (hv : Int32.ofInt n = v) (k : V p l e R s m args below meth c nL ad cy D A H0 ce sl Q w wm wl (pc + 1) ls (.int v :: st1)) : V p l e R s m args below meth c nL ad cy D A H0 ce sl Q w wm wl pc ls st1 := by
  intro H locs la hP hS hl
  obtain ⟨hx, hb, hml, hown, hts, hnw, hK, ⟨hNN, hinj⟩, hA, hlk, hst⟩ := X
  exact lv_iconst hx hb hd hv (k H locs la hP hS hl)
theorem V_bipush (X : CXq p s m args meth c cc nL own ad cy D A H0) {n : Int} {v : Int32} (hd : decode cc pc = .ok (.bipush n, 2)) (hv : (Int8.ofInt n).toInt32 = v) (k : V p l e R s m args below meth c nL ad cy D A H0 ce sl Q w wm wl (pc + 2) ls (.int v :: st1)) : V p l e R s m args below meth c nL ad cy D A H0 ce sl Q w wm wl pc ls st1 := by
  intro H locs la hP hS hl
  obtain ⟨hx, hb, hml, hown, hts, hnw, hK, ⟨hNN, hinj⟩, hA, hlk, hst⟩ := X
  exact lv_bipush hx hb hd hv (k H locs la hP hS hl)
theorem V_sipush (X : CXq p s m args meth c cc nL own ad cy D A H0) {n : Int} {v : Int32} (hd : decode cc pc = .ok (.sipush n, 3)) (hv : (Int16.ofInt n).toInt32 = v) (k : V p l e R s m args below meth c nL ad cy D A H0 ce sl Q w wm wl (pc + 3) ls (.int v :: st1)) : V p l e R s m args below meth c nL ad cy D A H0 ce sl Q w wm wl pc ls st1 := by
  intro H locs la hP hS hl
  obtain ⟨hx, hb, hml, hown, hts, hnw, hK, ⟨hNN, hinj⟩, hA, hlk, hst⟩ := X
  exact lv_sipush hx hb hd hv (k H locs la hP hS hl)
theorem V_lconst (X : CXq p s m args meth c cc nL own ad cy D A H0) {n : Fin 2} {v : Int64} (hd : decode cc pc = .ok (.lconst n, 1)) (hv : Int64.ofNat (n : Nat) = v) (k : V p l e R s m args below meth c nL ad cy D A H0 ce sl Q w wm wl (pc + 1) ls (.long v :: st1)) : V p l e R s m args below meth c nL ad cy D A H0 ce sl Q w wm wl pc ls st1 := by
  intro H locs la hP hS hl
  obtain ⟨hx, hb, hml, hown, hts, hnw, hK, ⟨hNN, hinj⟩, hA, hlk, hst⟩ := X
  exact lv_lconst hx hb hd hv (k H locs la hP hS hl)
theorem V_ldc (X : CXq p s m args meth c cc nL own ad cy D A H0) {i : Nat} {v : Int32} (hd : decode cc pc = .ok (.ldc i, 2)) (hc : Cond.constant own i v ∈ TBG) (k : V p l e R s m args below meth c nL ad cy D A H0 ce sl Q w wm wl (pc + 2) ls (.int v :: st1)) : V p l e R s m args below meth c nL ad cy D A H0 ce sl Q w wm wl pc ls st1 := by
  intro H locs la hP hS hl
  obtain ⟨hx, hb, hml, hown, hts, hnw, hK, ⟨hNN, hinj⟩, hA, hlk, hst⟩ := X
  exact lv_ldc hx hb hown (hts _ hc) hd (k H locs la hP hS hl)
theorem V_ldc2 (X : CXq p s m args meth c cc nL own ad cy D A H0) {i : Nat} {v : Int64} (hd : decode cc pc = .ok (.ldc2_w i, 3)) (hc : Cond.constantLong own i v ∈ TBG) (k : V p l e R s m args below meth c nL ad cy D A H0 ce sl Q w wm wl (pc + 3) ls (.long v :: st1)) : V p l e R s m args below meth c nL ad cy D A H0 ce sl Q w wm wl pc ls st1 := by
  intro H locs la hP hS hl
  obtain ⟨hx, hb, hml, hown, hts, hnw, hK, ⟨hNN, hinj⟩, hA, hlk, hst⟩ := X
  exact lv_ldc2 hx hb hown (hts _ hc) hd (k H locs la hP hS hl)
theorem V_iload_n (X : CXq p s m args meth c cc nL own ad cy D A H0) {k0 : Fin 4} {i : Nat} {x : Int32} (q : Nat) (hd : decode cc pc = .ok (.iload_n k0, 1)) (hi : (k0 : Nat) = i) (hq : ls[q]? = some (i, .int x)) (k : V p l e R s m args below meth c nL ad cy D A H0 ce sl Q w wm wl (pc + 1) ls (.int x :: st1)) : V p l e R s m args below meth c nL ad cy D A H0 ce sl Q w wm wl pc ls st1 := by
  intro H locs la hP hS hl
  obtain ⟨hx, hb, hml, hown, hts, hnw, hK, ⟨hNN, hinj⟩, hA, hlk, hst⟩ := X
  exact lv_iload_n hx hb hd hi (lv_at hl q hq) (k H locs la hP hS hl)
theorem V_iload (X : CXq p s m args meth c cc nL own ad cy D A H0) {i : Nat} {x : Int32} (q : Nat) (hd : decode cc pc = .ok (.iload i, 2)) (hq : ls[q]? = some (i, .int x)) (k : V p l e R s m args below meth c nL ad cy D A H0 ce sl Q w wm wl (pc + 2) ls (.int x :: st1)) : V p l e R s m args below meth c nL ad cy D A H0 ce sl Q w wm wl pc ls st1 := by
  intro H locs la hP hS hl
  obtain ⟨hx, hb, hml, hown, hts, hnw, hK, ⟨hNN, hinj⟩, hA, hlk, hst⟩ := X
  exact lv_iload hx hb hd (lv_at hl q hq) (k H locs la hP hS hl)
theorem V_istore_n (X : CXq p s m args meth c cc nL own ad cy D A H0) {k0 : Fin 4} {i : Nat} {x x1 : Int32} {ls1 : List (Nat × Value)} (hd : decode cc pc = .ok (.istore_n k0, 1)) (hi : (k0 : Nat) = i) (hn : i < nL) (he : x1 = x) (hf : (i, Value.int x1) :: ls.filter (fun q => !(q.1 == i) && !(q.1 + 1 == i && q.2.category == 2)) = ls1) (k : V p l e R s m args below meth c nL ad cy D A H0 ce sl Q w wm wl (pc + 1) ls1 st1) : V p l e R s m args below meth c nL ad cy D A H0 ce sl Q w wm wl pc ls (.int x :: st1) := by
  intro H locs la hP hS hl
  obtain ⟨hx, hb, hml, hown, hts, hnw, hK, ⟨hNN, hinj⟩, hA, hlk, hst⟩ := X
  subst he
  exact lv_istore_n hx hb hd hi hl hn hf (fun la1 hl1 => k H locs la1 hP hS hl1)
theorem V_istore (X : CXq p s m args meth c cc nL own ad cy D A H0) {i : Nat} {x x1 : Int32} {ls1 : List (Nat × Value)} (hd : decode cc pc = .ok (.istore i, 2)) (hn : i < nL) (he : x1 = x) (hf : (i, Value.int x1) :: ls.filter (fun q => !(q.1 == i) && !(q.1 + 1 == i && q.2.category == 2)) = ls1) (k : V p l e R s m args below meth c nL ad cy D A H0 ce sl Q w wm wl (pc + 2) ls1 st1) : V p l e R s m args below meth c nL ad cy D A H0 ce sl Q w wm wl pc ls (.int x :: st1) := by
  intro H locs la hP hS hl
  obtain ⟨hx, hb, hml, hown, hts, hnw, hK, ⟨hNN, hinj⟩, hA, hlk, hst⟩ := X
  subst he
  exact lv_istore hx hb hd hl hn hf (fun la1 hl1 => k H locs la1 hP hS hl1)
theorem V_lload_n (X : CXq p s m args meth c cc nL own ad cy D A H0) {k0 : Fin 4} {i : Nat} {x : Int64} (q : Nat) (hd : decode cc pc = .ok (.lload_n k0, 1)) (hi : (k0 : Nat) = i) (hq : ls[q]? = some (i, .long x)) (k : V p l e R s m args below meth c nL ad cy D A H0 ce sl Q w wm wl (pc + 1) ls (.long x :: st1)) : V p l e R s m args below meth c nL ad cy D A H0 ce sl Q w wm wl pc ls st1 := by
  intro H locs la hP hS hl
  obtain ⟨hx, hb, hml, hown, hts, hnw, hK, ⟨hNN, hinj⟩, hA, hlk, hst⟩ := X
  exact lv_lload_n hx hb hd hi (lv_at hl q hq) (k H locs la hP hS hl)
theorem V_lload (X : CXq p s m args meth c cc nL own ad cy D A H0) {i : Nat} {x : Int64} (q : Nat) (hd : decode cc pc = .ok (.lload i, 2)) (hq : ls[q]? = some (i, .long x)) (k : V p l e R s m args below meth c nL ad cy D A H0 ce sl Q w wm wl (pc + 2) ls (.long x :: st1)) : V p l e R s m args below meth c nL ad cy D A H0 ce sl Q w wm wl pc ls st1 := by
  intro H locs la hP hS hl
  obtain ⟨hx, hb, hml, hown, hts, hnw, hK, ⟨hNN, hinj⟩, hA, hlk, hst⟩ := X
  exact lv_lload hx hb hd (lv_at hl q hq) (k H locs la hP hS hl)
theorem V_lstore_n (X : CXq p s m args meth c cc nL own ad cy D A H0) {k0 : Fin 4} {i : Nat} {x x1 : Int64} {ls1 : List (Nat × Value)} (hd : decode cc pc = .ok (.lstore_n k0, 1)) (hi : (k0 : Nat) = i) (hn : i + 1 < nL) (he : x1 = x) (hf : (i, Value.long x1) :: ls.filter (fun q => !(q.1 == i) && (!(q.1 == i + 1) && !(q.1 + 1 == i && q.2.category == 2))) = ls1) (k : V p l e R s m args below meth c nL ad cy D A H0 ce sl Q w wm wl (pc + 1) ls1 st1) : V p l e R s m args below meth c nL ad cy D A H0 ce sl Q w wm wl pc ls (.long x :: st1) := by
  intro H locs la hP hS hl
  obtain ⟨hx, hb, hml, hown, hts, hnw, hK, ⟨hNN, hinj⟩, hA, hlk, hst⟩ := X
  subst he
  exact lv_lstore_n hx hb hd hi hl hn hf (fun la1 hl1 => k H locs la1 hP hS hl1)
theorem V_lstore (X : CXq p s m args meth c cc nL own ad cy D A H0) {i : Nat} {x x1 : Int64} {ls1 : List (Nat × Value)} (hd : decode cc pc = .ok (.lstore i, 2)) (hn : i + 1 < nL) (he : x1 = x) (hf : (i, Value.long x1) :: ls.filter (fun q => !(q.1 == i) && (!(q.1 == i + 1) && !(q.1 + 1 == i && q.2.category == 2))) = ls1) (k : V p l e R s m args below meth c nL ad cy D A H0 ce sl Q w wm wl (pc + 2) ls1 st1) : V p l e R s m args below meth c nL ad cy D A H0 ce sl Q w wm wl pc ls (.long x :: st1) := by
  intro H locs la hP hS hl
  obtain ⟨hx, hb, hml, hown, hts, hnw, hK, ⟨hNN, hinj⟩, hA, hlk, hst⟩ := X
  subst he
  exact lv_lstore hx hb hd hl hn hf (fun la1 hl1 => k H locs la1 hP hS hl1)
theorem V_aload_n (X : CXq p s m args meth c cc nL own ad cy D A H0) {k0 : Fin 4} {i : Nat} {x : Nat} (q : Nat) (hd : decode cc pc = .ok (.aload_n k0, 1)) (hi : (k0 : Nat) = i) (hq : ls[q]? = some (i, .ref x)) (k : V p l e R s m args below meth c nL ad cy D A H0 ce sl Q w wm wl (pc + 1) ls (.ref x :: st1)) : V p l e R s m args below meth c nL ad cy D A H0 ce sl Q w wm wl pc ls st1 := by
  intro H locs la hP hS hl
  obtain ⟨hx, hb, hml, hown, hts, hnw, hK, ⟨hNN, hinj⟩, hA, hlk, hst⟩ := X
  exact lv_aload_n hx hb hd hi (lv_at hl q hq) (k H locs la hP hS hl)
theorem V_aload (X : CXq p s m args meth c cc nL own ad cy D A H0) {i : Nat} {x : Nat} (q : Nat) (hd : decode cc pc = .ok (.aload i, 2)) (hq : ls[q]? = some (i, .ref x)) (k : V p l e R s m args below meth c nL ad cy D A H0 ce sl Q w wm wl (pc + 2) ls (.ref x :: st1)) : V p l e R s m args below meth c nL ad cy D A H0 ce sl Q w wm wl pc ls st1 := by
  intro H locs la hP hS hl
  obtain ⟨hx, hb, hml, hown, hts, hnw, hK, ⟨hNN, hinj⟩, hA, hlk, hst⟩ := X
  exact lv_aload hx hb hd (lv_at hl q hq) (k H locs la hP hS hl)
theorem V_astore_n (X : CXq p s m args meth c cc nL own ad cy D A H0) {k0 : Fin 4} {i : Nat} {x x1 : Nat} {ls1 : List (Nat × Value)} (hd : decode cc pc = .ok (.astore_n k0, 1)) (hi : (k0 : Nat) = i) (hn : i < nL) (he : x1 = x) (hf : (i, Value.ref x1) :: ls.filter (fun q => !(q.1 == i) && !(q.1 + 1 == i && q.2.category == 2)) = ls1) (k : V p l e R s m args below meth c nL ad cy D A H0 ce sl Q w wm wl (pc + 1) ls1 st1) : V p l e R s m args below meth c nL ad cy D A H0 ce sl Q w wm wl pc ls (.ref x :: st1) := by
  intro H locs la hP hS hl
  obtain ⟨hx, hb, hml, hown, hts, hnw, hK, ⟨hNN, hinj⟩, hA, hlk, hst⟩ := X
  subst he
  exact lv_astore_n hx hb hd hi hl hn hf (fun la1 hl1 => k H locs la1 hP hS hl1)
theorem V_astore (X : CXq p s m args meth c cc nL own ad cy D A H0) {i : Nat} {x x1 : Nat} {ls1 : List (Nat × Value)} (hd : decode cc pc = .ok (.astore i, 2)) (hn : i < nL) (he : x1 = x) (hf : (i, Value.ref x1) :: ls.filter (fun q => !(q.1 == i) && !(q.1 + 1 == i && q.2.category == 2)) = ls1) (k : V p l e R s m args below meth c nL ad cy D A H0 ce sl Q w wm wl (pc + 2) ls1 st1) : V p l e R s m args below meth c nL ad cy D A H0 ce sl Q w wm wl pc ls (.ref x :: st1) := by
  intro H locs la hP hS hl
  obtain ⟨hx, hb, hml, hown, hts, hnw, hK, ⟨hNN, hinj⟩, hA, hlk, hst⟩ := X
  subst he
  exact lv_astore hx hb hd hl hn hf (fun la1 hl1 => k H locs la1 hP hS hl1)
theorem V_iinc (X : CXq p s m args meth c cc nL own ad cy D A H0) {i : Nat} {n : Int} {x x1 : Int32} {ls1 : List (Nat × Value)} (q : Nat) (hd : decode cc pc = .ok (.iinc i n, 3)) (hq : ls[q]? = some (i, .int x)) (hn : i < nL) (he : x1 = x + Int32.ofInt n) (hf : (i, Value.int x1) :: ls.filter (fun q => !(q.1 == i) && !(q.1 + 1 == i && q.2.category == 2)) = ls1) (k : V p l e R s m args below meth c nL ad cy D A H0 ce sl Q w wm wl (pc + 3) ls1 st1) : V p l e R s m args below meth c nL ad cy D A H0 ce sl Q w wm wl pc ls st1 := by
  intro H locs la hP hS hl
  obtain ⟨hx, hb, hml, hown, hts, hnw, hK, ⟨hNN, hinj⟩, hA, hlk, hst⟩ := X
  exact lv_iinc hx hb hd hl hq he.symm hn hf (fun la1 hl1 => k H locs la1 hP hS hl1)
theorem V_sub (X : CXq p s m args meth c cc nL own ad cy D A H0) {ls1 : List (Nat × Value)} (ks : List Nat) (hf : lv_pick ls ks = ls1) (k : V p l e R s m args below meth c nL ad cy D A H0 ce sl Q w wm wl pc ls1 st1) : V p l e R s m args below meth c nL ad cy D A H0 ce sl Q w wm wl pc ls st1 := by
  intro H locs la hP hS hl
  obtain ⟨hx, hb, hml, hown, hts, hnw, hK, ⟨hNN, hinj⟩, hA, hlk, hst⟩ := X
  exact k H locs la hP hS (lv_sub hl ks hf)
theorem V_pop (X : CXq p s m args meth c cc nL own ad cy D A H0) {v : Value} (hd : decode cc pc = .ok (.pop, 1)) (hv : v.category = 1) (k : V p l e R s m args below meth c nL ad cy D A H0 ce sl Q w wm wl (pc + 1) ls st1) : V p l e R s m args below meth c nL ad cy D A H0 ce sl Q w wm wl pc ls (v :: st1) := by
  intro H locs la hP hS hl
  obtain ⟨hx, hb, hml, hown, hts, hnw, hK, ⟨hNN, hinj⟩, hA, hlk, hst⟩ := X
  exact lv_pop hx hb hd hv (k H locs la hP hS hl)
theorem V_dup (X : CXq p s m args meth c cc nL own ad cy D A H0) {v : Value} (hd : decode cc pc = .ok (.dup, 1)) (hv : v.category = 1) (k : V p l e R s m args below meth c nL ad cy D A H0 ce sl Q w wm wl (pc + 1) ls (v :: v :: st1)) : V p l e R s m args below meth c nL ad cy D A H0 ce sl Q w wm wl pc ls (v :: st1) := by
  intro H locs la hP hS hl
  obtain ⟨hx, hb, hml, hown, hts, hnw, hK, ⟨hNN, hinj⟩, hA, hlk, hst⟩ := X
  exact lv_dup hx hb hd hv (k H locs la hP hS hl)
theorem V_dup2 (X : CXq p s m args meth c cc nL own ad cy D A H0) {v u : Value} (hd : decode cc pc = .ok (.dup2, 1)) (hv : v.category = 1) (hu : u.category = 1) (k : V p l e R s m args below meth c nL ad cy D A H0 ce sl Q w wm wl (pc + 1) ls (v :: u :: v :: u :: st1)) : V p l e R s m args below meth c nL ad cy D A H0 ce sl Q w wm wl pc ls (v :: u :: st1) := by
  intro H locs la hP hS hl
  obtain ⟨hx, hb, hml, hown, hts, hnw, hK, ⟨hNN, hinj⟩, hA, hlk, hst⟩ := X
  exact lv_dup2_11 hx hb hd hv hu (k H locs la hP hS hl)
theorem V_dup_x1 (X : CXq p s m args meth c cc nL own ad cy D A H0) {v u : Value} (hd : decode cc pc = .ok (.dup_x1, 1)) (hv : v.category = 1) (hu : u.category = 1) (k : V p l e R s m args below meth c nL ad cy D A H0 ce sl Q w wm wl (pc + 1) ls (v :: u :: v :: st1)) : V p l e R s m args below meth c nL ad cy D A H0 ce sl Q w wm wl pc ls (v :: u :: st1) := by
  intro H locs la hP hS hl
  obtain ⟨hx, hb, hml, hown, hts, hnw, hK, ⟨hNN, hinj⟩, hA, hlk, hst⟩ := X
  exact lv_dup_x1 hx hb hd hv hu (k H locs la hP hS hl)
theorem V_iadd (X : CXq p s m args meth c cc nL own ad cy D A H0) {x y : Int32} (hd : decode cc pc = .ok (.iadd, 1)) (k : V p l e R s m args below meth c nL ad cy D A H0 ce sl Q w wm wl (pc + 1) ls (.int (x + y) :: st1)) : V p l e R s m args below meth c nL ad cy D A H0 ce sl Q w wm wl pc ls (.int y :: .int x :: st1) := by
  intro H locs la hP hS hl
  obtain ⟨hx, hb, hml, hown, hts, hnw, hK, ⟨hNN, hinj⟩, hA, hlk, hst⟩ := X
  exact lv_iadd hx hb hd (k H locs la hP hS hl)
theorem V_isub (X : CXq p s m args meth c cc nL own ad cy D A H0) {x y : Int32} (hd : decode cc pc = .ok (.isub, 1)) (k : V p l e R s m args below meth c nL ad cy D A H0 ce sl Q w wm wl (pc + 1) ls (.int (x - y) :: st1)) : V p l e R s m args below meth c nL ad cy D A H0 ce sl Q w wm wl pc ls (.int y :: .int x :: st1) := by
  intro H locs la hP hS hl
  obtain ⟨hx, hb, hml, hown, hts, hnw, hK, ⟨hNN, hinj⟩, hA, hlk, hst⟩ := X
  exact lv_isub hx hb hd (k H locs la hP hS hl)
theorem V_imul (X : CXq p s m args meth c cc nL own ad cy D A H0) {x y : Int32} (hd : decode cc pc = .ok (.imul, 1)) (k : V p l e R s m args below meth c nL ad cy D A H0 ce sl Q w wm wl (pc + 1) ls (.int (x * y) :: st1)) : V p l e R s m args below meth c nL ad cy D A H0 ce sl Q w wm wl pc ls (.int y :: .int x :: st1) := by
  intro H locs la hP hS hl
  obtain ⟨hx, hb, hml, hown, hts, hnw, hK, ⟨hNN, hinj⟩, hA, hlk, hst⟩ := X
  exact lv_imul hx hb hd (k H locs la hP hS hl)
theorem V_iand (X : CXq p s m args meth c cc nL own ad cy D A H0) {x y : Int32} (hd : decode cc pc = .ok (.iand, 1)) (k : V p l e R s m args below meth c nL ad cy D A H0 ce sl Q w wm wl (pc + 1) ls (.int (x &&& y) :: st1)) : V p l e R s m args below meth c nL ad cy D A H0 ce sl Q w wm wl pc ls (.int y :: .int x :: st1) := by
  intro H locs la hP hS hl
  obtain ⟨hx, hb, hml, hown, hts, hnw, hK, ⟨hNN, hinj⟩, hA, hlk, hst⟩ := X
  exact lv_iand hx hb hd (k H locs la hP hS hl)
theorem V_ixor (X : CXq p s m args meth c cc nL own ad cy D A H0) {x y : Int32} (hd : decode cc pc = .ok (.ixor, 1)) (k : V p l e R s m args below meth c nL ad cy D A H0 ce sl Q w wm wl (pc + 1) ls (.int (x ^^^ y) :: st1)) : V p l e R s m args below meth c nL ad cy D A H0 ce sl Q w wm wl pc ls (.int y :: .int x :: st1) := by
  intro H locs la hP hS hl
  obtain ⟨hx, hb, hml, hown, hts, hnw, hK, ⟨hNN, hinj⟩, hA, hlk, hst⟩ := X
  exact lv_ixor hx hb hd (k H locs la hP hS hl)
theorem V_ior (X : CXq p s m args meth c cc nL own ad cy D A H0) {x y : Int32} (hd : decode cc pc = .ok (.ior, 1)) (k : V p l e R s m args below meth c nL ad cy D A H0 ce sl Q w wm wl (pc + 1) ls (.int (x ||| y) :: st1)) : V p l e R s m args below meth c nL ad cy D A H0 ce sl Q w wm wl pc ls (.int y :: .int x :: st1) := by
  intro H locs la hP hS hl
  obtain ⟨hx, hb, hml, hown, hts, hnw, hK, ⟨hNN, hinj⟩, hA, hlk, hst⟩ := X
  exact lv_ior hx hb hd (k H locs la hP hS hl)
theorem V_ineg (X : CXq p s m args meth c cc nL own ad cy D A H0) {x : Int32} (hd : decode cc pc = .ok (.ineg, 1)) (k : V p l e R s m args below meth c nL ad cy D A H0 ce sl Q w wm wl (pc + 1) ls (.int (-x) :: st1)) : V p l e R s m args below meth c nL ad cy D A H0 ce sl Q w wm wl pc ls (.int x :: st1) := by
  intro H locs la hP hS hl
  obtain ⟨hx, hb, hml, hown, hts, hnw, hK, ⟨hNN, hinj⟩, hA, hlk, hst⟩ := X
  exact lv_ineg hx hb hd (k H locs la hP hS hl)
theorem V_idiv (X : CXq p s m args meth c cc nL own ad cy D A H0) {x y : Int32} (hd : decode cc pc = .ok (.idiv, 1)) (hne : ¬ y = 0) (k : V p l e R s m args below meth c nL ad cy D A H0 ce sl Q w wm wl (pc + 1) ls (.int (x / y) :: st1)) : V p l e R s m args below meth c nL ad cy D A H0 ce sl Q w wm wl pc ls (.int y :: .int x :: st1) := by
  intro H locs la hP hS hl
  obtain ⟨hx, hb, hml, hown, hts, hnw, hK, ⟨hNN, hinj⟩, hA, hlk, hst⟩ := X
  exact lv_idiv hx hb hd hne (k H locs la hP hS hl)
theorem V_irem (X : CXq p s m args meth c cc nL own ad cy D A H0) {x y : Int32} (hd : decode cc pc = .ok (.irem, 1)) (hne : ¬ y = 0) (k : V p l e R s m args below meth c nL ad cy D A H0 ce sl Q w wm wl (pc + 1) ls (.int (x - x / y * y) :: st1)) : V p l e R s m args below meth c nL ad cy D A H0 ce sl Q w wm wl pc ls (.int y :: .int x :: st1) := by
  intro H locs la hP hS hl
  obtain ⟨hx, hb, hml, hown, hts, hnw, hK, ⟨hNN, hinj⟩, hA, hlk, hst⟩ := X
  exact lv_irem hx hb hd hne (k H locs la hP hS hl)
theorem V_iushr (X : CXq p s m args meth c cc nL own ad cy D A H0) {x y : Int32} (hd : decode cc pc = .ok (.iushr, 1)) (k : V p l e R s m args below meth c nL ad cy D A H0 ce sl Q w wm wl (pc + 1) ls (.int ((x.toUInt32 >>> (y.toUInt32 &&& Int32.toUInt32 31)).toInt32) :: st1)) : V p l e R s m args below meth c nL ad cy D A H0 ce sl Q w wm wl pc ls (.int y :: .int x :: st1) := by
  intro H locs la hP hS hl
  obtain ⟨hx, hb, hml, hown, hts, hnw, hK, ⟨hNN, hinj⟩, hA, hlk, hst⟩ := X
  exact lv_iushr hx hb hd rfl (k H locs la hP hS hl)
theorem V_ishr (X : CXq p s m args meth c cc nL own ad cy D A H0) {x y : Int32} (hd : decode cc pc = .ok (.ishr, 1)) (k : V p l e R s m args below meth c nL ad cy D A H0 ce sl Q w wm wl (pc + 1) ls (.int (x >>> (y &&& 31)) :: st1)) : V p l e R s m args below meth c nL ad cy D A H0 ce sl Q w wm wl pc ls (.int y :: .int x :: st1) := by
  intro H locs la hP hS hl
  obtain ⟨hx, hb, hml, hown, hts, hnw, hK, ⟨hNN, hinj⟩, hA, hlk, hst⟩ := X
  exact lv_ishr hx hb hd (k H locs la hP hS hl)
theorem V_i2b (X : CXq p s m args meth c cc nL own ad cy D A H0) {x : Int32} (hd : decode cc pc = .ok (.i2b, 1)) (k : V p l e R s m args below meth c nL ad cy D A H0 ce sl Q w wm wl (pc + 1) ls (.int x.toInt8.toInt32 :: st1)) : V p l e R s m args below meth c nL ad cy D A H0 ce sl Q w wm wl pc ls (.int x :: st1) := by
  intro H locs la hP hS hl
  obtain ⟨hx, hb, hml, hown, hts, hnw, hK, ⟨hNN, hinj⟩, hA, hlk, hst⟩ := X
  exact lv_i2b hx hb hd rfl (k H locs la hP hS hl)
theorem V_i2c (X : CXq p s m args meth c cc nL own ad cy D A H0) {x : Int32} (hd : decode cc pc = .ok (.i2c, 1)) (k : V p l e R s m args below meth c nL ad cy D A H0 ce sl Q w wm wl (pc + 1) ls (.int (x.toUInt32 % 65536).toInt32 :: st1)) : V p l e R s m args below meth c nL ad cy D A H0 ce sl Q w wm wl pc ls (.int x :: st1) := by
  intro H locs la hP hS hl
  obtain ⟨hx, hb, hml, hown, hts, hnw, hK, ⟨hNN, hinj⟩, hA, hlk, hst⟩ := X
  exact lv_i2c hx hb hd rfl (k H locs la hP hS hl)
theorem V_i2l (X : CXq p s m args meth c cc nL own ad cy D A H0) {x : Int32} (hd : decode cc pc = .ok (.i2l, 1)) (k : V p l e R s m args below meth c nL ad cy D A H0 ce sl Q w wm wl (pc + 1) ls (.long x.toInt64 :: st1)) : V p l e R s m args below meth c nL ad cy D A H0 ce sl Q w wm wl pc ls (.int x :: st1) := by
  intro H locs la hP hS hl
  obtain ⟨hx, hb, hml, hown, hts, hnw, hK, ⟨hNN, hinj⟩, hA, hlk, hst⟩ := X
  exact lv_i2l hx hb hd rfl (k H locs la hP hS hl)
theorem V_ladd (X : CXq p s m args meth c cc nL own ad cy D A H0) {x y : Int64} (hd : decode cc pc = .ok (.ladd, 1)) (k : V p l e R s m args below meth c nL ad cy D A H0 ce sl Q w wm wl (pc + 1) ls (.long (x + y) :: st1)) : V p l e R s m args below meth c nL ad cy D A H0 ce sl Q w wm wl pc ls (.long y :: .long x :: st1) := by
  intro H locs la hP hS hl
  obtain ⟨hx, hb, hml, hown, hts, hnw, hK, ⟨hNN, hinj⟩, hA, hlk, hst⟩ := X
  exact lv_ladd hx hb hd (k H locs la hP hS hl)
theorem V_lmul (X : CXq p s m args meth c cc nL own ad cy D A H0) {x y : Int64} (hd : decode cc pc = .ok (.lmul, 1)) (k : V p l e R s m args below meth c nL ad cy D A H0 ce sl Q w wm wl (pc + 1) ls (.long (x * y) :: st1)) : V p l e R s m args below meth c nL ad cy D A H0 ce sl Q w wm wl pc ls (.long y :: .long x :: st1) := by
  intro H locs la hP hS hl
  obtain ⟨hx, hb, hml, hown, hts, hnw, hK, ⟨hNN, hinj⟩, hA, hlk, hst⟩ := X
  exact lv_lmul hx hb hd (k H locs la hP hS hl)
theorem V_lcmp (X : CXq p s m args meth c cc nL own ad cy D A H0) {x y : Int64} (hd : decode cc pc = .ok (.lcmp, 1)) (k : V p l e R s m args below meth c nL ad cy D A H0 ce sl Q w wm wl (pc + 1) ls (.int (lg_cmp x y) :: st1)) : V p l e R s m args below meth c nL ad cy D A H0 ce sl Q w wm wl pc ls (.long y :: .long x :: st1) := by
  intro H locs la hP hS hl
  obtain ⟨hx, hb, hml, hown, hts, hnw, hK, ⟨hNN, hinj⟩, hA, hlk, hst⟩ := X
  exact W.lcmp hx hb hd (k H locs la hP hS hl)
theorem V_if_eq (X : CXq p s m args meth c cc nL own ad cy D A H0) {x : Int32} {off : Int} {tgt : Nat} (hd : decode cc pc = .ok (.ifCond .eq off, 3)) (ht : (pc : Int) + off = (tgt : Int)) (kt : x = 0 → V p l e R s m args below meth c nL ad cy D A H0 ce sl Q w wm wl tgt ls st1) (kf : ¬ (x = 0) → V p l e R s m args below meth c nL ad cy D A H0 ce sl Q w wm wl (pc + 3) ls st1) : V p l e R s m args below meth c nL ad cy D A H0 ce sl Q w wm wl pc ls (.int x :: st1) := by
  intro H locs la hP hS hl
  obtain ⟨hx, hb, hml, hown, hts, hnw, hK, ⟨hNN, hinj⟩, hA, hlk, hst⟩ := X
  exact lv_if_eq hx hb hd ht (fun q => kt (by first | exact q | simpa using q) H locs la hP hS hl) (fun q => kf (by first | exact q | simpa using q) H locs la hP hS hl)
theorem V_icmp_eq (X : CXq p s m args meth c cc nL own ad cy D A H0) {x y : Int32} {off : Int} {tgt : Nat} (hd : decode cc pc = .ok (.if_icmp .eq off, 3)) (ht : (pc : Int) + off = (tgt : Int)) (kt : x = y → V p l e R s m args below meth c nL ad cy D A H0 ce sl Q w wm wl tgt ls st1) (kf : ¬ (x = y) → V p l e R s m args below meth c nL ad cy D A H0 ce sl Q w wm wl (pc + 3) ls st1) : V p l e R s m args below meth c nL ad cy D A H0 ce sl Q w wm wl pc ls (.int y :: .int x :: st1) := by
  intro H locs la hP hS hl
  obtain ⟨hx, hb, hml, hown, hts, hnw, hK, ⟨hNN, hinj⟩, hA, hlk, hst⟩ := X
  exact lv_icmp_eq hx hb hd ht (fun q => kt (by first | exact q | simpa using q) H locs la hP hS hl) (fun q => kf (by first | exact q | simpa using q) H locs la hP hS hl)
theorem V_if_ne (X : CXq p s m args meth c cc nL own ad cy D A H0) {x : Int32} {off : Int} {tgt : Nat} (hd : decode cc pc = .ok (.ifCond .ne off, 3)) (ht : (pc : Int) + off = (tgt : Int)) (kt : ¬ x = 0 → V p l e R s m args below meth c nL ad cy D A H0 ce sl Q w wm wl tgt ls st1) (kf : ¬ (¬ x = 0) → V p l e R s m args below meth c nL ad cy D A H0 ce sl Q w wm wl (pc + 3) ls st1) : V p l e R s m args below meth c nL ad cy D A H0 ce sl Q w wm wl pc ls (.int x :: st1) := by
  intro H locs la hP hS hl
  obtain ⟨hx, hb, hml, hown, hts, hnw, hK, ⟨hNN, hinj⟩, hA, hlk, hst⟩ := X
  exact lv_if_ne hx hb hd ht (fun q => kt (by first | exact q | simpa using q) H locs la hP hS hl) (fun q => kf (by first | exact q | simpa using q) H locs la hP hS hl)
theorem V_icmp_ne (X : CXq p s m args meth c cc nL own ad cy D A H0) {x y : Int32} {off : Int} {tgt : Nat} (hd : decode cc pc = .ok (.if_icmp .ne off, 3)) (ht : (pc : Int) + off = (tgt : Int)) (kt : ¬ x = y → V p l e R s m args below meth c nL ad cy D A H0 ce sl Q w wm wl tgt ls st1) (kf : ¬ (¬ x = y) → V p l e R s m args below meth c nL ad cy D A H0 ce sl Q w wm wl (pc + 3) ls st1) : V p l e R s m args below meth c nL ad cy D A H0 ce sl Q w wm wl pc ls (.int y :: .int x :: st1) := by
  intro H locs la hP hS hl
  obtain ⟨hx, hb, hml, hown, hts, hnw, hK, ⟨hNN, hinj⟩, hA, hlk, hst⟩ := X
  exact lv_icmp_ne hx hb hd ht (fun q => kt (by first | exact q | simpa using q) H locs la hP hS hl) (fun q => kf (by first | exact q | simpa using q) H locs la hP hS hl)
theorem V_if_lt (X : CXq p s m args meth c cc nL own ad cy D A H0) {x : Int32} {off : Int} {tgt : Nat} (hd : decode cc pc = .ok (.ifCond .lt off, 3)) (ht : (pc : Int) + off = (tgt : Int)) (kt : x < 0 → V p l e R s m args below meth c nL ad cy D A H0 ce sl Q w wm wl tgt ls st1) (kf : ¬ (x < 0) → V p l e R s m args below meth c nL ad cy D A H0 ce sl Q w wm wl (pc + 3) ls st1) : V p l e R s m args below meth c nL ad cy D A H0 ce sl Q w wm wl pc ls (.int x :: st1) := by
  intro H locs la hP hS hl
  obtain ⟨hx, hb, hml, hown, hts, hnw, hK, ⟨hNN, hinj⟩, hA, hlk, hst⟩ := X
  exact lv_if_lt hx hb hd ht (fun q => kt (by first | exact q | simpa using q) H locs la hP hS hl) (fun q => kf (by first | exact q | simpa using q) H locs la hP hS hl)
theorem V_icmp_lt (X : CXq p s m args meth c cc nL own ad cy D A H0) {x y : Int32} {off : Int} {tgt : Nat} (hd : decode cc pc = .ok (.if_icmp .lt off, 3)) (ht : (pc : Int) + off = (tgt : Int)) (kt : x < y → V p l e R s m args below meth c nL ad cy D A H0 ce sl Q w wm wl tgt ls st1) (kf : ¬ (x < y) → V p l e R s m args below meth c nL ad cy D A H0 ce sl Q w wm wl (pc + 3) ls st1) : V p l e R s m args below meth c nL ad cy D A H0 ce sl Q w wm wl pc ls (.int y :: .int x :: st1) := by
  intro H locs la hP hS hl
  obtain ⟨hx, hb, hml, hown, hts, hnw, hK, ⟨hNN, hinj⟩, hA, hlk, hst⟩ := X
  exact lv_icmp_lt hx hb hd ht (fun q => kt (by first | exact q | simpa using q) H locs la hP hS hl) (fun q => kf (by first | exact q | simpa using q) H locs la hP hS hl)
theorem V_if_ge (X : CXq p s m args meth c cc nL own ad cy D A H0) {x : Int32} {off : Int} {tgt : Nat} (hd : decode cc pc = .ok (.ifCond .ge off, 3)) (ht : (pc : Int) + off = (tgt : Int)) (kt : 0 ≤ x → V p l e R s m args below meth c nL ad cy D A H0 ce sl Q w wm wl tgt ls st1) (kf : ¬ (0 ≤ x) → V p l e R s m args below meth c nL ad cy D A H0 ce sl Q w wm wl (pc + 3) ls st1) : V p l e R s m args below meth c nL ad cy D A H0 ce sl Q w wm wl pc ls (.int x :: st1) := by
  intro H locs la hP hS hl
  obtain ⟨hx, hb, hml, hown, hts, hnw, hK, ⟨hNN, hinj⟩, hA, hlk, hst⟩ := X
  exact lv_if_ge hx hb hd ht (fun q => kt (by first | exact q | simpa using q) H locs la hP hS hl) (fun q => kf (by first | exact q | simpa using q) H locs la hP hS hl)
theorem V_icmp_ge (X : CXq p s m args meth c cc nL own ad cy D A H0) {x y : Int32} {off : Int} {tgt : Nat} (hd : decode cc pc = .ok (.if_icmp .ge off, 3)) (ht : (pc : Int) + off = (tgt : Int)) (kt : y ≤ x → V p l e R s m args below meth c nL ad cy D A H0 ce sl Q w wm wl tgt ls st1) (kf : ¬ (y ≤ x) → V p l e R s m args below meth c nL ad cy D A H0 ce sl Q w wm wl (pc + 3) ls st1) : V p l e R s m args below meth c nL ad cy D A H0 ce sl Q w wm wl pc ls (.int y :: .int x :: st1) := by
  intro H locs la hP hS hl
  obtain ⟨hx, hb, hml, hown, hts, hnw, hK, ⟨hNN, hinj⟩, hA, hlk, hst⟩ := X
  exact lv_icmp_ge hx hb hd ht (fun q => kt (by first | exact q | simpa using q) H locs la hP hS hl) (fun q => kf (by first | exact q | simpa using q) H locs la hP hS hl)
theorem V_if_gt (X : CXq p s m args meth c cc nL own ad cy D A H0) {x : Int32} {off : Int} {tgt : Nat} (hd : decode cc pc = .ok (.ifCond .gt off, 3)) (ht : (pc : Int) + off = (tgt : Int)) (kt : 0 < x → V p l e R s m args below meth c nL ad cy D A H0 ce sl Q w wm wl tgt ls st1) (kf : ¬ (0 < x) → V p l e R s m args below meth c nL ad cy D A H0 ce sl Q w wm wl (pc + 3) ls st1) : V p l e R s m args below meth c nL ad cy D A H0 ce sl Q w wm wl pc ls (.int x :: st1) := by
  intro H locs la hP hS hl
  obtain ⟨hx, hb, hml, hown, hts, hnw, hK, ⟨hNN, hinj⟩, hA, hlk, hst⟩ := X
  exact lv_if_gt hx hb hd ht (fun q => kt (by first | exact q | simpa using q) H locs la hP hS hl) (fun q => kf (by first | exact q | simpa using q) H locs la hP hS hl)
theorem V_icmp_gt (X : CXq p s m args meth c cc nL own ad cy D A H0) {x y : Int32} {off : Int} {tgt : Nat} (hd : decode cc pc = .ok (.if_icmp .gt off, 3)) (ht : (pc : Int) + off = (tgt : Int)) (kt : y < x → V p l e R s m args below meth c nL ad cy D A H0 ce sl Q w wm wl tgt ls st1) (kf : ¬ (y < x) → V p l e R s m args below meth c nL ad cy D A H0 ce sl Q w wm wl (pc + 3) ls st1) : V p l e R s m args below meth c nL ad cy D A H0 ce sl Q w wm wl pc ls (.int y :: .int x :: st1) := by
  intro H locs la hP hS hl
  obtain ⟨hx, hb, hml, hown, hts, hnw, hK, ⟨hNN, hinj⟩, hA, hlk, hst⟩ := X
  exact lv_icmp_gt hx hb hd ht (fun q => kt (by first | exact q | simpa using q) H locs la hP hS hl) (fun q => kf (by first | exact q | simpa using q) H locs la hP hS hl)
theorem V_if_le (X : CXq p s m args meth c cc nL own ad cy D A H0) {x : Int32} {off : Int} {tgt : Nat} (hd : decode cc pc = .ok (.ifCond .le off, 3)) (ht : (pc : Int) + off = (tgt : Int)) (kt : x ≤ 0 → V p l e R s m args below meth c nL ad cy D A H0 ce sl Q w wm wl tgt ls st1) (kf : ¬ (x ≤ 0) → V p l e R s m args below meth c nL ad cy D A H0 ce sl Q w wm wl (pc + 3) ls st1) : V p l e R s m args below meth c nL ad cy D A H0 ce sl Q w wm wl pc ls (.int x :: st1) := by
  intro H locs la hP hS hl
  obtain ⟨hx, hb, hml, hown, hts, hnw, hK, ⟨hNN, hinj⟩, hA, hlk, hst⟩ := X
  exact lv_if_le hx hb hd ht (fun q => kt (by first | exact q | simpa using q) H locs la hP hS hl) (fun q => kf (by first | exact q | simpa using q) H locs la hP hS hl)
theorem V_icmp_le (X : CXq p s m args meth c cc nL own ad cy D A H0) {x y : Int32} {off : Int} {tgt : Nat} (hd : decode cc pc = .ok (.if_icmp .le off, 3)) (ht : (pc : Int) + off = (tgt : Int)) (kt : x ≤ y → V p l e R s m args below meth c nL ad cy D A H0 ce sl Q w wm wl tgt ls st1) (kf : ¬ (x ≤ y) → V p l e R s m args below meth c nL ad cy D A H0 ce sl Q w wm wl (pc + 3) ls st1) : V p l e R s m args below meth c nL ad cy D A H0 ce sl Q w wm wl pc ls (.int y :: .int x :: st1) := by
  intro H locs la hP hS hl
  obtain ⟨hx, hb, hml, hown, hts, hnw, hK, ⟨hNN, hinj⟩, hA, hlk, hst⟩ := X
  exact lv_icmp_le hx hb hd ht (fun q => kt (by first | exact q | simpa using q) H locs la hP hS hl) (fun q => kf (by first | exact q | simpa using q) H locs la hP hS hl)
theorem V_goto (X : CXq p s m args meth c cc nL own ad cy D A H0) {off : Int} {tgt : Nat} (hd : decode cc pc = .ok (.goto off, 3)) (ht : (pc : Int) + off = (tgt : Int)) (k : V p l e R s m args below meth c nL ad cy D A H0 ce sl Q w wm wl tgt ls st1) : V p l e R s m args below meth c nL ad cy D A H0 ce sl Q w wm wl pc ls st1 := by
  intro H locs la hP hS hl
  obtain ⟨hx, hb, hml, hown, hts, hnw, hK, ⟨hNN, hinj⟩, hA, hlk, hst⟩ := X
  exact lv_goto hx hb hd ht (k H locs la hP hS hl)
theorem V_tableOut (X : CXq p s m args meth c cc nL own ad cy D A H0) {dflt lo hi : Int} {offs : Array Int} {len : Nat} {x : Int32} {tgt : Nat} (hd : decode cc pc = .ok (.tableswitch dflt lo hi offs, len)) (h : x.toInt < lo ∨ hi < x.toInt) (ht : (pc : Int) + dflt = (tgt : Int)) (k : V p l e R s m args below meth c nL ad cy D A H0 ce sl Q w wm wl tgt ls st1) : V p l e R s m args below meth c nL ad cy D A H0 ce sl Q w wm wl pc ls (.int x :: st1) := by
  intro H locs la hP hS hl
  obtain ⟨hx, hb, hml, hown, hts, hnw, hK, ⟨hNN, hinj⟩, hA, hlk, hst⟩ := X
  exact lv_tableOut hx hb hd h ht (k H locs la hP hS hl)
theorem V_tableIn (X : CXq p s m args meth c cc nL own ad cy D A H0) {dflt lo hi : Int} {offs : Array Int} {len : Nat} {x : Int32} {off : Int} {tgt : Nat} (hd : decode cc pc = .ok (.tableswitch dflt lo hi offs, len)) (h1 : ¬ x.toInt < lo) (h2 : ¬ hi < x.toInt) (ho : offs[(x.toInt - lo).toNat]? = some off) (ht : (pc : Int) + off = (tgt : Int)) (k : V p l e R s m args below meth c nL ad cy D A H0 ce sl Q w wm wl tgt ls st1) : V p l e R s m args below meth c nL ad cy D A H0 ce sl Q w wm wl pc ls (.int x :: st1) := by
  intro H locs la hP hS hl
  obtain ⟨hx, hb, hml, hown, hts, hnw, hK, ⟨hNN, hinj⟩, hA, hlk, hst⟩ := X
  exact lv_tableIn hx hb hd h1 h2 ho ht (k H locs la hP hS hl)
theorem V_lookup (X : CXq p s m args meth c cc nL own ad cy D A H0) {dflt : Int} {ps : Array (Int × Int)} {len : Nat} {x : Int32} {off : Int} {tgt : Nat} (hd : decode cc pc = .ok (.lookupswitch dflt ps, len)) (hp : (ps.toList.zip (ps.toList.drop 1)).all (fun (a, next) => a.1 < next.1) = true) (ho : Op.lookupswitch.offset ps.toList dflt x.toInt = off) (ht : (pc : Int) + off = (tgt : Int)) (k : V p l e R s m args below meth c nL ad cy D A H0 ce sl Q w wm wl tgt ls st1) : V p l e R s m args below meth c nL ad cy D A H0 ce sl Q w wm wl pc ls (.int x :: st1) := by
  intro H locs la hP hS hl
  obtain ⟨hx, hb, hml, hown, hts, hnw, hK, ⟨hNN, hinj⟩, hA, hlk, hst⟩ := X
  exact lv_lookup hx hb hd hp ho ht (k H locs la hP hS hl)
theorem V_getI_c (X : CXq p s m args meth c cc nL own ad cy D A H0) {ci k i idx N : Nat} {C : String} {T : u_T} (hv : vwCl[ci]? = some (C, T, N)) (hin : ∀ z ∈ u_ws C T N, z ∈ TBG) (hi : i < N) (hC : (T i).1 = C) (hci : ci < 13) (hN : NFL.getD ci 0 = N) (hs : SK k = ci) (hk : k < 150) (hr : SRq k i = none) (hL : Cond.fieldLink own idx C (T i).2.1 (T i).2.2.1 ∈ TBG) (hd : decode cc pc = .ok (.getfield idx, 3)) (kk : V p l e R s m args below meth c nL ad cy D A H0 ce sl Q w wm wl (pc + 3) ls (.int (w k i) :: st1)) : V p l e R s m args below meth c nL ad cy D A H0 ce sl Q w wm wl pc ls (.ref (ad k) :: st1) := by
  intro H locs la hP hS hl
  obtain ⟨hx, hb, hml, hown, hts, hnw, hK, ⟨hNN, hinj⟩, hA, hlk, hst⟩ := X
  refine va_get hx hb hts hin hown hK hP k (WS_at (Nat.lt_of_lt_of_le hk hNN) |>.trans (by rw [CE_obj hs hci, hN])) hv i hi (hts _ hL) (fun _ h => by rw [hC] at h; exact h) (v := .int (w k i)) ?_ hd (kk H locs la hP hS hl)
  rw [rng_at hi]
  show some (CV ad k _ i) = _
  rw [CV, hr]
  simp only [cmb_c hk]
theorem V_getR_c (X : CXq p s m args meth c cc nL own ad cy D A H0) {ci k i idx N : Nat} {C : String} {T : u_T} (hv : vwCl[ci]? = some (C, T, N)) (hin : ∀ z ∈ u_ws C T N, z ∈ TBG) (hi : i < N) (hC : (T i).1 = C) (hci : ci < 13) (hN : NFL.getD ci 0 = N) (hs : SK k = ci) (hk : k < 150) {r : Nat} (hr : SRq k i = some r) (hL : Cond.fieldLink own idx C (T i).2.1 (T i).2.2.1 ∈ TBG) (hd : decode cc pc = .ok (.getfield idx, 3)) (kk : V p l e R s m args below meth c nL ad cy D A H0 ce sl Q w wm wl (pc + 3) ls (.ref (ad r) :: st1)) : V p l e R s m args below meth c nL ad cy D A H0 ce sl Q w wm wl pc ls (.ref (ad k) :: st1) := by
  intro H locs la hP hS hl
  obtain ⟨hx, hb, hml, hown, hts, hnw, hK, ⟨hNN, hinj⟩, hA, hlk, hst⟩ := X
  refine va_get hx hb hts hin hown hK hP k (WS_at (Nat.lt_of_lt_of_le hk hNN) |>.trans (by rw [CE_obj hs hci, hN])) hv i hi (hts _ hL) (fun _ h => by rw [hC] at h; exact h) (v := .ref (ad r)) ?_ hd (kk H locs la hP hS hl)
  rw [rng_at hi]
  show some (CV ad k _ i) = _
  rw [CV, hr]
theorem V_putI_c (X : CXq p s m args meth c cc nL own ad cy D A H0) {ci k i idx N : Nat} {C : String} {T : u_T} (hv : vwCl[ci]? = some (C, T, N)) (hin : ∀ z ∈ u_ws C T N, z ∈ TBG) (hi : i < N) (hC : (T i).1 = C) (hci : ci < 13) (hN : NFL.getD ci 0 = N) (hs : SK k = ci) (hk : k < 150) (hr : SRq k i = none) (t0 : Nat → FieldType) (hty : ∀ z, z < N → parseFieldDescriptor (T z).2.2.1 = some (t0 z)) (hnm : ∀ a, a < N → ∀ b, b < N → a ≠ b → (T a).2.1 ≠ (T b).2.1) (hfin : (T i).2.2.2 = false) {ty : FieldType} (hpd : parseFieldDescriptor (T i).2.2.1 = some ty) {v : Int32} (hnv : narrow ty (.int v) = .int v) (hfit : fits ty (.int v) = true) (hL : Cond.fieldLink own idx C (T i).2.1 (T i).2.2.1 ∈ TBG) (hd : decode cc pc = .ok (.putfield idx, 3)) {w1 : Mem} (hw : w1 = st w k i v) (kk : V p l e R s m args below meth c nL ad cy D A H0 ce sl Q w1 wm wl (pc + 3) ls st1) : V p l e R s m args below meth c nL ad cy D A H0 ce sl Q w wm wl pc ls (.int v :: .ref (ad k) :: st1) := by
  intro H locs la hP hS hl
  obtain ⟨hx, hb, hml, hown, hts, hnw, hK, ⟨hNN, hinj⟩, hA, hlk, hst⟩ := X
  subst hw
  refine va_put hx hb hts hin t0 hty hnm hown hK hP (WS_D hinj hA) hS k (WS_at (Nat.lt_of_lt_of_le hk hNN) |>.trans (by rw [CE_obj hs hci, hN])) hv i hi (hts _ hL) (fun _ h => by rw [hC] at h; exact h) hfin hpd hnv hfit (by simpa using hi) hd (fun H1 locs1 hP1 hD1 hS1 => kk H1 locs1 la ?_ hS1 hl)
  rw [WS_set (w' := cmb (st w k i v) wm) (wl' := wl) (Nat.lt_of_lt_of_le hk hNN) ?_ (cmb_ne_c hk (fun j hj => st_ne j hj)) (fun _ _ => rfl)] at hP1
  · exact hP1
  · rw [CE_obj hs hci, hN]
    refine congrArg (fun z => Sum.inr (ci, z)) (Eq.symm (rng_set ?_ ?_))
    · show CV ad k _ i = _
      rw [CV, hr]
      simp only [cmb_c hk, st_at, upd, if_pos]
    · intro j hj
      show CV ad k _ j = CV ad k _ j
      unfold CV
      cases SRq k j with
      | some r => rfl
      | none => simp only [cmb_c hk, st_at, upd, if_neg hj]
theorem V_getI_cN (X : CXq p s m args meth c cc nL own ad cy D A H0) {ci k i idx N : Nat} {C : String} {T : u_T} (hv : vwCl[ci]? = some (C, T, N)) (hin : ∀ z ∈ u_ws C T N, z ∈ TBG) (hi : i < N) (hC : (T i).1 = C) (hci : ci < 13) (hN : NFL.getD ci 0 = N) (hs : SK k = ci) (hk : k < 150) (hr : SRq k i = none) {host : String} (hL : Cond.fieldLinkNest own idx C (T i).2.1 (T i).2.2.1 host ∈ NWL) (hd : decode cc pc = .ok (.getfield idx, 3)) (kk : V p l e R s m args below meth c nL ad cy D A H0 ce sl Q w wm wl (pc + 3) ls (.int (w k i) :: st1)) : V p l e R s m args below meth c nL ad cy D A H0 ce sl Q w wm wl pc ls (.ref (ad k) :: st1) := by
  intro H locs la hP hS hl
  obtain ⟨hx, hb, hml, hown, hts, hnw, hK, ⟨hNN, hinj⟩, hA, hlk, hst⟩ := X
  refine va_getN hx hb hts hin hown hK hP k (WS_at (Nat.lt_of_lt_of_le hk hNN) |>.trans (by rw [CE_obj hs hci, hN])) hv i hi (va_Nw.use rfl (hnw _ hL)) (fun _ h => by rw [hC] at h; exact h) (v := .int (w k i)) ?_ hd (kk H locs la hP hS hl)
  rw [rng_at hi]
  show some (CV ad k _ i) = _
  rw [CV, hr]
  simp only [cmb_c hk]
theorem V_getR_cN (X : CXq p s m args meth c cc nL own ad cy D A H0) {ci k i idx N : Nat} {C : String} {T : u_T} (hv : vwCl[ci]? = some (C, T, N)) (hin : ∀ z ∈ u_ws C T N, z ∈ TBG) (hi : i < N) (hC : (T i).1 = C) (hci : ci < 13) (hN : NFL.getD ci 0 = N) (hs : SK k = ci) (hk : k < 150) {r : Nat} (hr : SRq k i = some r) {host : String} (hL : Cond.fieldLinkNest own idx C (T i).2.1 (T i).2.2.1 host ∈ NWL) (hd : decode cc pc = .ok (.getfield idx, 3)) (kk : V p l e R s m args below meth c nL ad cy D A H0 ce sl Q w wm wl (pc + 3) ls (.ref (ad r) :: st1)) : V p l e R s m args below meth c nL ad cy D A H0 ce sl Q w wm wl pc ls (.ref (ad k) :: st1) := by
  intro H locs la hP hS hl
  obtain ⟨hx, hb, hml, hown, hts, hnw, hK, ⟨hNN, hinj⟩, hA, hlk, hst⟩ := X
  refine va_getN hx hb hts hin hown hK hP k (WS_at (Nat.lt_of_lt_of_le hk hNN) |>.trans (by rw [CE_obj hs hci, hN])) hv i hi (va_Nw.use rfl (hnw _ hL)) (fun _ h => by rw [hC] at h; exact h) (v := .ref (ad r)) ?_ hd (kk H locs la hP hS hl)
  rw [rng_at hi]
  show some (CV ad k _ i) = _
  rw [CV, hr]
theorem V_putI_cN (X : CXq p s m args meth c cc nL own ad cy D A H0) {ci k i idx N : Nat} {C : String} {T : u_T} (hv : vwCl[ci]? = some (C, T, N)) (hin : ∀ z ∈ u_ws C T N, z ∈ TBG) (hi : i < N) (hC : (T i).1 = C) (hci : ci < 13) (hN : NFL.getD ci 0 = N) (hs : SK k = ci) (hk : k < 150) (hr : SRq k i = none) (t0 : Nat → FieldType) (hty : ∀ z, z < N → parseFieldDescriptor (T z).2.2.1 = some (t0 z)) (hnm : ∀ a, a < N → ∀ b, b < N → a ≠ b → (T a).2.1 ≠ (T b).2.1) (hfin : (T i).2.2.2 = false) {ty : FieldType} (hpd : parseFieldDescriptor (T i).2.2.1 = some ty) {v : Int32} (hnv : narrow ty (.int v) = .int v) (hfit : fits ty (.int v) = true) {host : String} (hL : Cond.fieldLinkNest own idx C (T i).2.1 (T i).2.2.1 host ∈ NWL) (hd : decode cc pc = .ok (.putfield idx, 3)) {w1 : Mem} (hw : w1 = st w k i v) (kk : V p l e R s m args below meth c nL ad cy D A H0 ce sl Q w1 wm wl (pc + 3) ls st1) : V p l e R s m args below meth c nL ad cy D A H0 ce sl Q w wm wl pc ls (.int v :: .ref (ad k) :: st1) := by
  intro H locs la hP hS hl
  obtain ⟨hx, hb, hml, hown, hts, hnw, hK, ⟨hNN, hinj⟩, hA, hlk, hst⟩ := X
  subst hw
  refine va_putN hx hb hts hin t0 hty hnm hown hK hP (WS_D hinj hA) hS k (WS_at (Nat.lt_of_lt_of_le hk hNN) |>.trans (by rw [CE_obj hs hci, hN])) hv i hi (va_Nw.use rfl (hnw _ hL)) (fun _ h => by rw [hC] at h; exact h) hfin hpd hnv hfit (by simpa using hi) hd (fun H1 locs1 hP1 hD1 hS1 => kk H1 locs1 la ?_ hS1 hl)
  rw [WS_set (w' := cmb (st w k i v) wm) (wl' := wl) (Nat.lt_of_lt_of_le hk hNN) ?_ (cmb_ne_c hk (fun j hj => st_ne j hj)) (fun _ _ => rfl)] at hP1
  · exact hP1
  · rw [CE_obj hs hci, hN]
    refine congrArg (fun z => Sum.inr (ci, z)) (Eq.symm (rng_set ?_ ?_))
    · show CV ad k _ i = _
      rw [CV, hr]
      simp only [cmb_c hk, st_at, upd, if_pos]
    · intro j hj
      show CV ad k _ j = CV ad k _ j
      unfold CV
      cases SRq k j with
      | some r => rfl
      | none => simp only [cmb_c hk, st_at, upd, if_neg hj]
theorem V_iald_c (X : CXq p s m args meth c cc nL own ad cy D A H0) {k n : Nat} (hn : SLq k = n) (hk : k < 150) (hs : SK k = 14) {i : Int32} (hin : vp_in i n) (hd : decode cc pc = .ok (.iaload, 1)) (kk : V p l e R s m args below meth c nL ad cy D A H0 ce sl Q w wm wl (pc + 1) ls (.int (w k (ix i)) :: st1)) : V p l e R s m args below meth c nL ad cy D A H0 ce sl Q w wm wl pc ls (.int i :: .ref (ad k) :: st1) := by
  intro H locs la hP hS hl
  obtain ⟨hx, hb, hml, hown, hts, hnw, hK, ⟨hNN, hinj⟩, hA, hlk, hst⟩ := X
  have kk1 := kk H locs la hP hS hl
  rw [← cmb_c (w := w) (wm := wm) hk] at kk1
  exact va_iald hx hb hK hP k 1 (WS_at (Nat.lt_of_lt_of_le hk hNN) |>.trans (by rw [CE_arr hs (by decide), hn])) rfl hin hd kk1
theorem V_iast_c (X : CXq p s m args meth c cc nL own ad cy D A H0) {k n : Nat} (hn : SLq k = n) (hk : k < 150) (hs : SK k = 14) {i x : Int32} (hin : vp_in i n) (hd : decode cc pc = .ok (.iastore, 1)) {w1 : Mem} (hw : w1 = st w k (ix i) x) (kk : V p l e R s m args below meth c nL ad cy D A H0 ce sl Q w1 wm wl (pc + 1) ls st1) : V p l e R s m args below meth c nL ad cy D A H0 ce sl Q w wm wl pc ls (.int x :: .int i :: .ref (ad k) :: st1) := by
  intro H locs la hP hS hl
  obtain ⟨hx, hb, hml, hown, hts, hnw, hK, ⟨hNN, hinj⟩, hA, hlk, hst⟩ := X
  subst hw
  refine va_iast hx hb hK hP (WS_D hinj hA) hS k 1 (WS_at (Nat.lt_of_lt_of_le hk hNN) |>.trans (by rw [CE_arr hs (by decide), hn])) rfl hin hd (fun H1 locs1 hP1 hD1 hS1 => kk H1 locs1 la ?_ hS1 hl)
  rw [WS_set (w' := cmb (st w k (ix i) x) wm) (wl' := wl) (Nat.lt_of_lt_of_le hk hNN) ?_ (cmb_ne_c hk (fun j hj => st_ne j hj)) (fun _ _ => rfl)] at hP1
  · exact hP1
  · rw [CE_arr hs (by decide), hn]
    rw [cmb_c hk, cmb_c hk, st_at]
    rfl
theorem V_bald_c (X : CXq p s m args meth c cc nL own ad cy D A H0) {k n : Nat} (hn : SLq k = n) (hk : k < 150) (hs : SK k = 13) {i : Int32} (hin : vp_in i n) (hd : decode cc pc = .ok (.baload, 1)) (kk : V p l e R s m args below meth c nL ad cy D A H0 ce sl Q w wm wl (pc + 1) ls (.int (w k (ix i)) :: st1)) : V p l e R s m args below meth c nL ad cy D A H0 ce sl Q w wm wl pc ls (.int i :: .ref (ad k) :: st1) := by
  intro H locs la hP hS hl
  obtain ⟨hx, hb, hml, hown, hts, hnw, hK, ⟨hNN, hinj⟩, hA, hlk, hst⟩ := X
  have kk1 := kk H locs la hP hS hl
  rw [← cmb_c (w := w) (wm := wm) hk] at kk1
  exact va_bald hx hb hK hP k 0 (WS_at (Nat.lt_of_lt_of_le hk hNN) |>.trans (by rw [CE_arr hs (by decide), hn])) rfl hin hd kk1
theorem V_bast_c (X : CXq p s m args meth c cc nL own ad cy D A H0) {k n : Nat} (hn : SLq k = n) (hk : k < 150) (hs : SK k = 13) {i x : Int32} (hin : vp_in i n) (hd : decode cc pc = .ok (.bastore, 1)) {w1 : Mem} (hw : w1 = st w k (ix i) (vp_nar .byte x)) (kk : V p l e R s m args below meth c nL ad cy D A H0 ce sl Q w1 wm wl (pc + 1) ls st1) : V p l e R s m args below meth c nL ad cy D A H0 ce sl Q w wm wl pc ls (.int x :: .int i :: .ref (ad k) :: st1) := by
  intro H locs la hP hS hl
  obtain ⟨hx, hb, hml, hown, hts, hnw, hK, ⟨hNN, hinj⟩, hA, hlk, hst⟩ := X
  subst hw
  refine va_bast hx hb hK hP (WS_D hinj hA) hS k 0 (WS_at (Nat.lt_of_lt_of_le hk hNN) |>.trans (by rw [CE_arr hs (by decide), hn])) rfl hin hd (fun H1 locs1 hP1 hD1 hS1 => kk H1 locs1 la ?_ hS1 hl)
  rw [WS_set (w' := cmb (st w k (ix i) (vp_nar .byte x)) wm) (wl' := wl) (Nat.lt_of_lt_of_le hk hNN) ?_ (cmb_ne_c hk (fun j hj => st_ne j hj)) (fun _ _ => rfl)] at hP1
  · exact hP1
  · rw [CE_arr hs (by decide), hn]
    rw [cmb_c hk, cmb_c hk, st_at]
    rfl
theorem V_zald_c (X : CXq p s m args meth c cc nL own ad cy D A H0) {k n : Nat} (hn : SLq k = n) (hk : k < 150) (hs : SK k = 16) {i : Int32} (hin : vp_in i n) (hd : decode cc pc = .ok (.baload, 1)) (kk : V p l e R s m args below meth c nL ad cy D A H0 ce sl Q w wm wl (pc + 1) ls (.int (w k (ix i)) :: st1)) : V p l e R s m args below meth c nL ad cy D A H0 ce sl Q w wm wl pc ls (.int i :: .ref (ad k) :: st1) := by
  intro H locs la hP hS hl
  obtain ⟨hx, hb, hml, hown, hts, hnw, hK, ⟨hNN, hinj⟩, hA, hlk, hst⟩ := X
  have kk1 := kk H locs la hP hS hl
  rw [← cmb_c (w := w) (wm := wm) hk] at kk1
  exact va_zald hx hb hK hP k 3 (WS_at (Nat.lt_of_lt_of_le hk hNN) |>.trans (by rw [CE_arr hs (by decide), hn])) rfl hin hd kk1
theorem V_zast_c (X : CXq p s m args meth c cc nL own ad cy D A H0) {k n : Nat} (hn : SLq k = n) (hk : k < 150) (hs : SK k = 16) {i x : Int32} (hin : vp_in i n) (hd : decode cc pc = .ok (.bastore, 1)) {w1 : Mem} (hw : w1 = st w k (ix i) (vp_nar .boolean x)) (kk : V p l e R s m args below meth c nL ad cy D A H0 ce sl Q w1 wm wl (pc + 1) ls st1) : V p l e R s m args below meth c nL ad cy D A H0 ce sl Q w wm wl pc ls (.int x :: .int i :: .ref (ad k) :: st1) := by
  intro H locs la hP hS hl
  obtain ⟨hx, hb, hml, hown, hts, hnw, hK, ⟨hNN, hinj⟩, hA, hlk, hst⟩ := X
  subst hw
  refine va_zast hx hb hK hP (WS_D hinj hA) hS k 3 (WS_at (Nat.lt_of_lt_of_le hk hNN) |>.trans (by rw [CE_arr hs (by decide), hn])) rfl hin hd (fun H1 locs1 hP1 hD1 hS1 => kk H1 locs1 la ?_ hS1 hl)
  rw [WS_set (w' := cmb (st w k (ix i) (vp_nar .boolean x)) wm) (wl' := wl) (Nat.lt_of_lt_of_le hk hNN) ?_ (cmb_ne_c hk (fun j hj => st_ne j hj)) (fun _ _ => rfl)] at hP1
  · exact hP1
  · rw [CE_arr hs (by decide), hn]
    rw [cmb_c hk, cmb_c hk, st_at]
    rfl
theorem V_alen_c (X : CXq p s m args meth c cc nL own ad cy D A H0) {k n : Nat} (hn : SLq k = n) (hk : k < 150) {t : Nat} (hs : SK k = t) (ht : t = 13 ∨ t = 14 ∨ t = 16) (hd : decode cc pc = .ok (.arraylength, 1)) (kk : V p l e R s m args below meth c nL ad cy D A H0 ce sl Q w wm wl (pc + 1) ls (.int (Int32.ofNat n) :: st1)) : V p l e R s m args below meth c nL ad cy D A H0 ce sl Q w wm wl pc ls (.ref (ad k) :: st1) := by
  intro H locs la hP hS hl
  obtain ⟨hx, hb, hml, hown, hts, hnw, hK, ⟨hNN, hinj⟩, hA, hlk, hst⟩ := X
  have h1 := WS_at (ad := ad) (cy := cy) (w := cmb w wm) (wl := wl) (Nat.lt_of_lt_of_le hk hNN)
  rw [CE_arr hs ht, hn] at h1
  rcases ht with rfl | rfl | rfl
  · exact va_alen hx hb hK hP k 0 h1 (ty := .byte) rfl rfl hd (kk H locs la hP hS hl)
  · exact va_alen hx hb hK hP k 1 h1 (ty := .int) rfl rfl hd (kk H locs la hP hS hl)
  · exact va_alen hx hb hK hP k 3 h1 (ty := .boolean) rfl rfl hd (kk H locs la hP hS hl)
theorem V_getI_m (X : CXq p s m args meth c cc nL own ad cy D A H0) {ci k i idx N : Nat} {C : String} {T : u_T} (hv : vwCl[ci]? = some (C, T, N)) (hin : ∀ z ∈ u_ws C T N, z ∈ TBG) (hi : i < N) (hC : (T i).1 = C) (hci : ci < 13) (hN : NFL.getD ci 0 = N) (hs : SK k = ci) (hk : 150 ≤ k ∧ k < ad 1000) (hr : SRq k i = none) (hL : Cond.fieldLink own idx C (T i).2.1 (T i).2.2.1 ∈ TBG) (hd : decode cc pc = .ok (.getfield idx, 3)) (kk : V p l e R s m args below meth c nL ad cy D A H0 ce sl Q w wm wl (pc + 3) ls (.int (wm k i) :: st1)) : V p l e R s m args below meth c nL ad cy D A H0 ce sl Q w wm wl pc ls (.ref (ad k) :: st1) := by
  intro H locs la hP hS hl
  obtain ⟨hx, hb, hml, hown, hts, hnw, hK, ⟨hNN, hinj⟩, hA, hlk, hst⟩ := X
  refine va_get hx hb hts hin hown hK hP k (WS_at hk.2 |>.trans (by rw [CE_obj hs hci, hN])) hv i hi (hts _ hL) (fun _ h => by rw [hC] at h; exact h) (v := .int (wm k i)) ?_ hd (kk H locs la hP hS hl)
  rw [rng_at hi]
  show some (CV ad k _ i) = _
  rw [CV, hr]
  simp only [cmb_m hk.1]
theorem V_getR_m (X : CXq p s m args meth c cc nL own ad cy D A H0) {ci k i idx N : Nat} {C : String} {T : u_T} (hv : vwCl[ci]? = some (C, T, N)) (hin : ∀ z ∈ u_ws C T N, z ∈ TBG) (hi : i < N) (hC : (T i).1 = C) (hci : ci < 13) (hN : NFL.getD ci 0 = N) (hs : SK k = ci) (hk : 150 ≤ k ∧ k < ad 1000) {r : Nat} (hr : SRq k i = some r) (hL : Cond.fieldLink own idx C (T i).2.1 (T i).2.2.1 ∈ TBG) (hd : decode cc pc = .ok (.getfield idx, 3)) (kk : V p l e R s m args below meth c nL ad cy D A H0 ce sl Q w wm wl (pc + 3) ls (.ref (ad r) :: st1)) : V p l e R s m args below meth c nL ad cy D A H0 ce sl Q w wm wl pc ls (.ref (ad k) :: st1) := by
  intro H locs la hP hS hl
  obtain ⟨hx, hb, hml, hown, hts, hnw, hK, ⟨hNN, hinj⟩, hA, hlk, hst⟩ := X
  refine va_get hx hb hts hin hown hK hP k (WS_at hk.2 |>.trans (by rw [CE_obj hs hci, hN])) hv i hi (hts _ hL) (fun _ h => by rw [hC] at h; exact h) (v := .ref (ad r)) ?_ hd (kk H locs la hP hS hl)
  rw [rng_at hi]
  show some (CV ad k _ i) = _
  rw [CV, hr]
theorem V_putI_m (X : CXq p s m args meth c cc nL own ad cy D A H0) {ci k i idx N : Nat} {C : String} {T : u_T} (hv : vwCl[ci]? = some (C, T, N)) (hin : ∀ z ∈ u_ws C T N, z ∈ TBG) (hi : i < N) (hC : (T i).1 = C) (hci : ci < 13) (hN : NFL.getD ci 0 = N) (hs : SK k = ci) (hk : 150 ≤ k ∧ k < ad 1000) (hr : SRq k i = none) (t0 : Nat → FieldType) (hty : ∀ z, z < N → parseFieldDescriptor (T z).2.2.1 = some (t0 z)) (hnm : ∀ a, a < N → ∀ b, b < N → a ≠ b → (T a).2.1 ≠ (T b).2.1) (hfin : (T i).2.2.2 = false) {ty : FieldType} (hpd : parseFieldDescriptor (T i).2.2.1 = some ty) {v : Int32} (hnv : narrow ty (.int v) = .int v) (hfit : fits ty (.int v) = true) (hL : Cond.fieldLink own idx C (T i).2.1 (T i).2.2.1 ∈ TBG) (hd : decode cc pc = .ok (.putfield idx, 3)) {w1 : Mem} (hw : w1 = st wm k i v) (kk : V p l e R s m args below meth c nL ad cy D A H0 ce sl Q w w1 wl (pc + 3) ls st1) : V p l e R s m args below meth c nL ad cy D A H0 ce sl Q w wm wl pc ls (.int v :: .ref (ad k) :: st1) := by
  intro H locs la hP hS hl
  obtain ⟨hx, hb, hml, hown, hts, hnw, hK, ⟨hNN, hinj⟩, hA, hlk, hst⟩ := X
  subst hw
  refine va_put hx hb hts hin t0 hty hnm hown hK hP (WS_D hinj hA) hS k (WS_at hk.2 |>.trans (by rw [CE_obj hs hci, hN])) hv i hi (hts _ hL) (fun _ h => by rw [hC] at h; exact h) hfin hpd hnv hfit (by simpa using hi) hd (fun H1 locs1 hP1 hD1 hS1 => kk H1 locs1 la ?_ hS1 hl)
  rw [WS_set (w' := cmb w (st wm k i v)) (wl' := wl) hk.2 ?_ (cmb_ne_m hk.1 (fun j hj => st_ne j hj)) (fun _ _ => rfl)] at hP1
  · exact hP1
  · rw [CE_obj hs hci, hN]
    refine congrArg (fun z => Sum.inr (ci, z)) (Eq.symm (rng_set ?_ ?_))
    · show CV ad k _ i = _
      rw [CV, hr]
      simp only [cmb_m hk.1, st_at, upd, if_pos]
    · intro j hj
      show CV ad k _ j = CV ad k _ j
      unfold CV
      cases SRq k j with
      | some r => rfl
      | none => simp only [cmb_m hk.1, st_at, upd, if_neg hj]
theorem V_getI_mN (X : CXq p s m args meth c cc nL own ad cy D A H0) {ci k i idx N : Nat} {C : String} {T : u_T} (hv : vwCl[ci]? = some (C, T, N)) (hin : ∀ z ∈ u_ws C T N, z ∈ TBG) (hi : i < N) (hC : (T i).1 = C) (hci : ci < 13) (hN : NFL.getD ci 0 = N) (hs : SK k = ci) (hk : 150 ≤ k ∧ k < ad 1000) (hr : SRq k i = none) {host : String} (hL : Cond.fieldLinkNest own idx C (T i).2.1 (T i).2.2.1 host ∈ NWL) (hd : decode cc pc = .ok (.getfield idx, 3)) (kk : V p l e R s m args below meth c nL ad cy D A H0 ce sl Q w wm wl (pc + 3) ls (.int (wm k i) :: st1)) : V p l e R s m args below meth c nL ad cy D A H0 ce sl Q w wm wl pc ls (.ref (ad k) :: st1) := by
  intro H locs la hP hS hl
  obtain ⟨hx, hb, hml, hown, hts, hnw, hK, ⟨hNN, hinj⟩, hA, hlk, hst⟩ := X
  refine va_getN hx hb hts hin hown hK hP k (WS_at hk.2 |>.trans (by rw [CE_obj hs hci, hN])) hv i hi (va_Nw.use rfl (hnw _ hL)) (fun _ h => by rw [hC] at h; exact h) (v := .int (wm k i)) ?_ hd (kk H locs la hP hS hl)
  rw [rng_at hi]
  show some (CV ad k _ i) = _
  rw [CV, hr]
  simp only [cmb_m hk.1]
theorem V_getR_mN (X : CXq p s m args meth c cc nL own ad cy D A H0) {ci k i idx N : Nat} {C : String} {T : u_T} (hv : vwCl[ci]? = some (C, T, N)) (hin : ∀ z ∈ u_ws C T N, z ∈ TBG) (hi : i < N) (hC : (T i).1 = C) (hci : ci < 13) (hN : NFL.getD ci 0 = N) (hs : SK k = ci) (hk : 150 ≤ k ∧ k < ad 1000) {r : Nat} (hr : SRq k i = some r) {host : String} (hL : Cond.fieldLinkNest own idx C (T i).2.1 (T i).2.2.1 host ∈ NWL) (hd : decode cc pc = .ok (.getfield idx, 3)) (kk : V p l e R s m args below meth c nL ad cy D A H0 ce sl Q w wm wl (pc + 3) ls (.ref (ad r) :: st1)) : V p l e R s m args below meth c nL ad cy D A H0 ce sl Q w wm wl pc ls (.ref (ad k) :: st1) := by
  intro H locs la hP hS hl
  obtain ⟨hx, hb, hml, hown, hts, hnw, hK, ⟨hNN, hinj⟩, hA, hlk, hst⟩ := X
  refine va_getN hx hb hts hin hown hK hP k (WS_at hk.2 |>.trans (by rw [CE_obj hs hci, hN])) hv i hi (va_Nw.use rfl (hnw _ hL)) (fun _ h => by rw [hC] at h; exact h) (v := .ref (ad r)) ?_ hd (kk H locs la hP hS hl)
  rw [rng_at hi]
  show some (CV ad k _ i) = _
  rw [CV, hr]
theorem V_putI_mN (X : CXq p s m args meth c cc nL own ad cy D A H0) {ci k i idx N : Nat} {C : String} {T : u_T} (hv : vwCl[ci]? = some (C, T, N)) (hin : ∀ z ∈ u_ws C T N, z ∈ TBG) (hi : i < N) (hC : (T i).1 = C) (hci : ci < 13) (hN : NFL.getD ci 0 = N) (hs : SK k = ci) (hk : 150 ≤ k ∧ k < ad 1000) (hr : SRq k i = none) (t0 : Nat → FieldType) (hty : ∀ z, z < N → parseFieldDescriptor (T z).2.2.1 = some (t0 z)) (hnm : ∀ a, a < N → ∀ b, b < N → a ≠ b → (T a).2.1 ≠ (T b).2.1) (hfin : (T i).2.2.2 = false) {ty : FieldType} (hpd : parseFieldDescriptor (T i).2.2.1 = some ty) {v : Int32} (hnv : narrow ty (.int v) = .int v) (hfit : fits ty (.int v) = true) {host : String} (hL : Cond.fieldLinkNest own idx C (T i).2.1 (T i).2.2.1 host ∈ NWL) (hd : decode cc pc = .ok (.putfield idx, 3)) {w1 : Mem} (hw : w1 = st wm k i v) (kk : V p l e R s m args below meth c nL ad cy D A H0 ce sl Q w w1 wl (pc + 3) ls st1) : V p l e R s m args below meth c nL ad cy D A H0 ce sl Q w wm wl pc ls (.int v :: .ref (ad k) :: st1) := by
  intro H locs la hP hS hl
  obtain ⟨hx, hb, hml, hown, hts, hnw, hK, ⟨hNN, hinj⟩, hA, hlk, hst⟩ := X
  subst hw
  refine va_putN hx hb hts hin t0 hty hnm hown hK hP (WS_D hinj hA) hS k (WS_at hk.2 |>.trans (by rw [CE_obj hs hci, hN])) hv i hi (va_Nw.use rfl (hnw _ hL)) (fun _ h => by rw [hC] at h; exact h) hfin hpd hnv hfit (by simpa using hi) hd (fun H1 locs1 hP1 hD1 hS1 => kk H1 locs1 la ?_ hS1 hl)
  rw [WS_set (w' := cmb w (st wm k i v)) (wl' := wl) hk.2 ?_ (cmb_ne_m hk.1 (fun j hj => st_ne j hj)) (fun _ _ => rfl)] at hP1
  · exact hP1
  · rw [CE_obj hs hci, hN]
    refine congrArg (fun z => Sum.inr (ci, z)) (Eq.symm (rng_set ?_ ?_))
    · show CV ad k _ i = _
      rw [CV, hr]
      simp only [cmb_m hk.1, st_at, upd, if_pos]
    · intro j hj
      show CV ad k _ j = CV ad k _ j
      unfold CV
      cases SRq k j with
      | some r => rfl
      | none => simp only [cmb_m hk.1, st_at, upd, if_neg hj]
theorem V_iald_m (X : CXq p s m args meth c cc nL own ad cy D A H0) {k n : Nat} (hn : SLq k = n) (hk : 150 ≤ k ∧ k < ad 1000) (hs : SK k = 14) {i : Int32} (hin : vp_in i n) (hd : decode cc pc = .ok (.iaload, 1)) (kk : V p l e R s m args below meth c nL ad cy D A H0 ce sl Q w wm wl (pc + 1) ls (.int (wm k (ix i)) :: st1)) : V p l e R s m args below meth c nL ad cy D A H0 ce sl Q w wm wl pc ls (.int i :: .ref (ad k) :: st1) := by
  intro H locs la hP hS hl
  obtain ⟨hx, hb, hml, hown, hts, hnw, hK, ⟨hNN, hinj⟩, hA, hlk, hst⟩ := X
  have kk1 := kk H locs la hP hS hl
  rw [← cmb_m (w := w) (wm := wm) hk.1] at kk1
  exact va_iald hx hb hK hP k 1 (WS_at hk.2 |>.trans (by rw [CE_arr hs (by decide), hn])) rfl hin hd kk1
theorem V_iast_m (X : CXq p s m args meth c cc nL own ad cy D A H0) {k n : Nat} (hn : SLq k = n) (hk : 150 ≤ k ∧ k < ad 1000) (hs : SK k = 14) {i x : Int32} (hin : vp_in i n) (hd : decode cc pc = .ok (.iastore, 1)) {w1 : Mem} (hw : w1 = st wm k (ix i) x) (kk : V p l e R s m args below meth c nL ad cy D A H0 ce sl Q w w1 wl (pc + 1) ls st1) : V p l e R s m args below meth c nL ad cy D A H0 ce sl Q w wm wl pc ls (.int x :: .int i :: .ref (ad k) :: st1) := by
  intro H locs la hP hS hl
  obtain ⟨hx, hb, hml, hown, hts, hnw, hK, ⟨hNN, hinj⟩, hA, hlk, hst⟩ := X
  subst hw
  refine va_iast hx hb hK hP (WS_D hinj hA) hS k 1 (WS_at hk.2 |>.trans (by rw [CE_arr hs (by decide), hn])) rfl hin hd (fun H1 locs1 hP1 hD1 hS1 => kk H1 locs1 la ?_ hS1 hl)
  rw [WS_set (w' := cmb w (st wm k (ix i) x)) (wl' := wl) hk.2 ?_ (cmb_ne_m hk.1 (fun j hj => st_ne j hj)) (fun _ _ => rfl)] at hP1
  · exact hP1
  · rw [CE_arr hs (by decide), hn]
    rw [cmb_m hk.1, cmb_m hk.1, st_at]
    rfl
theorem V_bald_m (X : CXq p s m args meth c cc nL own ad cy D A H0) {k n : Nat} (hn : SLq k = n) (hk : 150 ≤ k ∧ k < ad 1000) (hs : SK k = 13) {i : Int32} (hin : vp_in i n) (hd : decode cc pc = .ok (.baload, 1)) (kk : V p l e R s m args below meth c nL ad cy D A H0 ce sl Q w wm wl (pc + 1) ls (.int (wm k (ix i)) :: st1)) : V p l e R s m args below meth c nL ad cy D A H0 ce sl Q w wm wl pc ls (.int i :: .ref (ad k) :: st1) := by
  intro H locs la hP hS hl
  obtain ⟨hx, hb, hml, hown, hts, hnw, hK, ⟨hNN, hinj⟩, hA, hlk, hst⟩ := X
  have kk1 := kk H locs la hP hS hl
  rw [← cmb_m (w := w) (wm := wm) hk.1] at kk1
  exact va_bald hx hb hK hP k 0 (WS_at hk.2 |>.trans (by rw [CE_arr hs (by decide), hn])) rfl hin hd kk1
theorem V_bast_m (X : CXq p s m args meth c cc nL own ad cy D A H0) {k n : Nat} (hn : SLq k = n) (hk : 150 ≤ k ∧ k < ad 1000) (hs : SK k = 13) {i x : Int32} (hin : vp_in i n) (hd : decode cc pc = .ok (.bastore, 1)) {w1 : Mem} (hw : w1 = st wm k (ix i) (vp_nar .byte x)) (kk : V p l e R s m args below meth c nL ad cy D A H0 ce sl Q w w1 wl (pc + 1) ls st1) : V p l e R s m args below meth c nL ad cy D A H0 ce sl Q w wm wl pc ls (.int x :: .int i :: .ref (ad k) :: st1) := by
  intro H locs la hP hS hl
  obtain ⟨hx, hb, hml, hown, hts, hnw, hK, ⟨hNN, hinj⟩, hA, hlk, hst⟩ := X
  subst hw
  refine va_bast hx hb hK hP (WS_D hinj hA) hS k 0 (WS_at hk.2 |>.trans (by rw [CE_arr hs (by decide), hn])) rfl hin hd (fun H1 locs1 hP1 hD1 hS1 => kk H1 locs1 la ?_ hS1 hl)
  rw [WS_set (w' := cmb w (st wm k (ix i) (vp_nar .byte x))) (wl' := wl) hk.2 ?_ (cmb_ne_m hk.1 (fun j hj => st_ne j hj)) (fun _ _ => rfl)] at hP1
  · exact hP1
  · rw [CE_arr hs (by decide), hn]
    rw [cmb_m hk.1, cmb_m hk.1, st_at]
    rfl
theorem V_zald_m (X : CXq p s m args meth c cc nL own ad cy D A H0) {k n : Nat} (hn : SLq k = n) (hk : 150 ≤ k ∧ k < ad 1000) (hs : SK k = 16) {i : Int32} (hin : vp_in i n) (hd : decode cc pc = .ok (.baload, 1)) (kk : V p l e R s m args below meth c nL ad cy D A H0 ce sl Q w wm wl (pc + 1) ls (.int (wm k (ix i)) :: st1)) : V p l e R s m args below meth c nL ad cy D A H0 ce sl Q w wm wl pc ls (.int i :: .ref (ad k) :: st1) := by
  intro H locs la hP hS hl
  obtain ⟨hx, hb, hml, hown, hts, hnw, hK, ⟨hNN, hinj⟩, hA, hlk, hst⟩ := X
  have kk1 := kk H locs la hP hS hl
  rw [← cmb_m (w := w) (wm := wm) hk.1] at kk1
  exact va_zald hx hb hK hP k 3 (WS_at hk.2 |>.trans (by rw [CE_arr hs (by decide), hn])) rfl hin hd kk1
theorem V_zast_m (X : CXq p s m args meth c cc nL own ad cy D A H0) {k n : Nat} (hn : SLq k = n) (hk : 150 ≤ k ∧ k < ad 1000) (hs : SK k = 16) {i x : Int32} (hin : vp_in i n) (hd : decode cc pc = .ok (.bastore, 1)) {w1 : Mem} (hw : w1 = st wm k (ix i) (vp_nar .boolean x)) (kk : V p l e R s m args below meth c nL ad cy D A H0 ce sl Q w w1 wl (pc + 1) ls st1) : V p l e R s m args below meth c nL ad cy D A H0 ce sl Q w wm wl pc ls (.int x :: .int i :: .ref (ad k) :: st1) := by
  intro H locs la hP hS hl
  obtain ⟨hx, hb, hml, hown, hts, hnw, hK, ⟨hNN, hinj⟩, hA, hlk, hst⟩ := X
  subst hw
  refine va_zast hx hb hK hP (WS_D hinj hA) hS k 3 (WS_at hk.2 |>.trans (by rw [CE_arr hs (by decide), hn])) rfl hin hd (fun H1 locs1 hP1 hD1 hS1 => kk H1 locs1 la ?_ hS1 hl)
  rw [WS_set (w' := cmb w (st wm k (ix i) (vp_nar .boolean x))) (wl' := wl) hk.2 ?_ (cmb_ne_m hk.1 (fun j hj => st_ne j hj)) (fun _ _ => rfl)] at hP1
  · exact hP1
  · rw [CE_arr hs (by decide), hn]
    rw [cmb_m hk.1, cmb_m hk.1, st_at]
    rfl
theorem V_alen_m (X : CXq p s m args meth c cc nL own ad cy D A H0) {k n : Nat} (hn : SLq k = n) (hk : 150 ≤ k ∧ k < ad 1000) {t : Nat} (hs : SK k = t) (ht : t = 13 ∨ t = 14 ∨ t = 16) (hd : decode cc pc = .ok (.arraylength, 1)) (kk : V p l e R s m args below meth c nL ad cy D A H0 ce sl Q w wm wl (pc + 1) ls (.int (Int32.ofNat n) :: st1)) : V p l e R s m args below meth c nL ad cy D A H0 ce sl Q w wm wl pc ls (.ref (ad k) :: st1) := by
  intro H locs la hP hS hl
  obtain ⟨hx, hb, hml, hown, hts, hnw, hK, ⟨hNN, hinj⟩, hA, hlk, hst⟩ := X
  have h1 := WS_at (ad := ad) (cy := cy) (w := cmb w wm) (wl := wl) hk.2
  rw [CE_arr hs ht, hn] at h1
  rcases ht with rfl | rfl | rfl
  · exact va_alen hx hb hK hP k 0 h1 (ty := .byte) rfl rfl hd (kk H locs la hP hS hl)
  · exact va_alen hx hb hK hP k 1 h1 (ty := .int) rfl rfl hd (kk H locs la hP hS hl)
  · exact va_alen hx hb hK hP k 3 h1 (ty := .boolean) rfl rfl hd (kk H locs la hP hS hl)
theorem V_lald (X : CXq p s m args meth c cc nL own ad cy D A H0) {k n : Nat} (hn : SLq k = n) (hk : 150 ≤ k ∧ k < ad 1000) (hs : SK k = 15) {i : Int32} (hin : vp_in i n) (hd : decode cc pc = .ok (.laload, 1)) (kk : V p l e R s m args below meth c nL ad cy D A H0 ce sl Q w wm wl (pc + 1) ls (.long (wl k (ix i)) :: st1)) : V p l e R s m args below meth c nL ad cy D A H0 ce sl Q w wm wl pc ls (.int i :: .ref (ad k) :: st1) := by
  intro H locs la hP hS hl
  obtain ⟨hx, hb, hml, hown, hts, hnw, hK, ⟨hNN, hinj⟩, hA, hlk, hst⟩ := X
  exact va_lald hx hb hK hP k 2 (WS_at hk.2 |>.trans (by rw [CE_lng hs, hn])) rfl hin hd (kk H locs la hP hS hl)
theorem V_last (X : CXq p s m args meth c cc nL own ad cy D A H0) {k n : Nat} (hn : SLq k = n) (hk : 150 ≤ k ∧ k < ad 1000) (hs : SK k = 15) {i : Int32} {x : Int64} (hin : vp_in i n) (hd : decode cc pc = .ok (.lastore, 1)) {w1 : MemL} (hw : w1 = stL wl k (ix i) x) (kk : V p l e R s m args below meth c nL ad cy D A H0 ce sl Q w wm w1 (pc + 1) ls st1) : V p l e R s m args below meth c nL ad cy D A H0 ce sl Q w wm wl pc ls (.long x :: .int i :: .ref (ad k) :: st1) := by
  intro H locs la hP hS hl
  obtain ⟨hx, hb, hml, hown, hts, hnw, hK, ⟨hNN, hinj⟩, hA, hlk, hst⟩ := X
  subst hw
  refine va_last hx hb hK hP (WS_D hinj hA) hS k 2 (WS_at hk.2 |>.trans (by rw [CE_lng hs, hn])) rfl hin hd (fun H1 locs1 hP1 hD1 hS1 => kk H1 locs1 la ?_ hS1 hl)
  rw [WS_set (w' := cmb w wm) (wl' := stL wl k (ix i) x) hk.2 ?_ (fun _ _ => rfl) (fun j hj => stL_ne j hj)] at hP1
  · exact hP1
  · rw [CE_lng hs, hn, stL_at]
    rfl
theorem V_aald (X : CXq p s m args meth c cc nL own ad cy D A H0) {k n : Nat} (hn : SLq k = n) (hk : k < 150) (hs : SK k = 17) {i : Int32} {r : Nat} (hin : vp_in i n) (hr : SRq k (ix i) = some r) (hd : decode cc pc = .ok (.aaload, 1)) (kk : V p l e R s m args below meth c nL ad cy D A H0 ce sl Q w wm wl (pc + 1) ls (.ref (ad r) :: st1)) : V p l e R s m args below meth c nL ad cy D A H0 ce sl Q w wm wl pc ls (.int i :: .ref (ad k) :: st1) := by
  intro H locs la hP hS hl
  obtain ⟨hx, hb, hml, hown, hts, hnw, hK, ⟨hNN, hinj⟩, hA, hlk, hst⟩ := X
  have h1 := WS_at (ad := ad) (cy := cy) (w := cmb w wm) (wl := wl) (Nat.lt_of_lt_of_le hk hNN)
  rw [CE_rows hs, hn] at h1
  have hlt : i.toNatClampNeg < n := Nat.not_le.mp fun q => hin (Or.inr q)
  have kk1 := kk H locs la hP hS hl
  refine W.aald (v := .ref (ad r)) (ty := .array .int) hx hb (hP k _ h1) ((hK.2 4 _ rfl).1 n (fun j => va_rf ((SRq k j).map ad))) rfl (fun q => by cases q) (by show ¬ (i < 0 ∨ (arrV _ _ _).slots.size ≤ _); rw [arrV_size]; exact hin) ?_ rfl rfl hd kk1
  show (arrV _ _ _).slots[_]? = _
  rw [arrV_read _ _ hlt]
  show some (va_rf ((SRq k (ix i)).map ad)) = _
  rw [hr]
  rfl
theorem V_mmax (X : CXq p s m args meth c cc nL own ad cy D A H0) {i : Nat} {x y : Int32} (hd : decode cc pc = .ok (.invokestatic i, 3)) (h1 : Cond.methodLink own i Lib.Math.max.name ∈ TBG) (h2 : Cond.static Lib.Math.max.name ∈ TBG) (h3 : Cond.initialized "java/lang/Math" ∈ TBG) (h4 : Cond.code Lib.Math.max.name Lib.Math.max.code 2 (some .int) ∈ TBG) (hf : 1 ≤ R.frames) (hlo : (st1.map fun v => v.category).sum + 13 ≤ R.locals) (hce : ce ≤ R.cells) (hsl : sl ≤ R.slots) (k : V p l e R s m args below meth c nL ad cy D A H0 ce sl Q w wm wl (pc + 3) ls (.int (if x < y then y else x) :: st1)) : V p l e R s m args below meth c nL ad cy D A H0 ce sl Q w wm wl pc ls (.int y :: .int x :: st1) := by
  intro H locs la hP hS hl
  obtain ⟨hx, hb, hml, hown, hts, hnw, hK, ⟨hNN, hinj⟩, hA, hlk, hst⟩ := X
  exact va_mmax hx hb (by rw [hml]; exact hl.1.symm) hown (hts _ h1) (hts _ h2) (hts _ h3) (hts _ h4) hf hlo hce hsl hd (k H locs la hP hS hl)
theorem V_mmin (X : CXq p s m args meth c cc nL own ad cy D A H0) {i : Nat} {x y : Int32} (hd : decode cc pc = .ok (.invokestatic i, 3)) (h1 : Cond.methodLink own i Lib.Math.min.name ∈ TBG) (h2 : Cond.static Lib.Math.min.name ∈ TBG) (h3 : Cond.initialized "java/lang/Math" ∈ TBG) (h4 : Cond.code Lib.Math.min.name Lib.Math.min.code 2 (some .int) ∈ TBG) (hf : 1 ≤ R.frames) (hlo : (st1.map fun v => v.category).sum + 13 ≤ R.locals) (hce : ce ≤ R.cells) (hsl : sl ≤ R.slots) (k : V p l e R s m args below meth c nL ad cy D A H0 ce sl Q w wm wl (pc + 3) ls (.int (if y < x then y else x) :: st1)) : V p l e R s m args below meth c nL ad cy D A H0 ce sl Q w wm wl pc ls (.int y :: .int x :: st1) := by
  intro H locs la hP hS hl
  obtain ⟨hx, hb, hml, hown, hts, hnw, hK, ⟨hNN, hinj⟩, hA, hlk, hst⟩ := X
  exact va_mmin hx hb (by rw [hml]; exact hl.1.symm) hown (hts _ h1) (hts _ h2) (hts _ h3) (hts _ h4) hf hlo hce hsl hd (k H locs la hP hS hl)
theorem V_mabs (X : CXq p s m args meth c cc nL own ad cy D A H0) {i : Nat} {x : Int32} (hd : decode cc pc = .ok (.invokestatic i, 3)) (h1 : Cond.methodLink own i Lib.Math.abs.name ∈ TBG) (h2 : Cond.static Lib.Math.abs.name ∈ TBG) (h3 : Cond.initialized "java/lang/Math" ∈ TBG) (h4 : Cond.code Lib.Math.abs.name Lib.Math.abs.code 1 (some .int) ∈ TBG) (hf : 1 ≤ R.frames) (hlo : (st1.map fun v => v.category).sum + 13 ≤ R.locals) (hce : ce ≤ R.cells) (hsl : sl ≤ R.slots) (k : V p l e R s m args below meth c nL ad cy D A H0 ce sl Q w wm wl (pc + 3) ls (.int (if 0 ≤ x then x else 0 - x) :: st1)) : V p l e R s m args below meth c nL ad cy D A H0 ce sl Q w wm wl pc ls (.int x :: st1) := by
  intro H locs la hP hS hl
  obtain ⟨hx, hb, hml, hown, hts, hnw, hK, ⟨hNN, hinj⟩, hA, hlk, hst⟩ := X
  exact va_mabs hx hb (by rw [hml]; exact hl.1.symm) hown (hts _ h1) (hts _ h2) (hts _ h3) (hts _ h4) hf hlo hce hsl hd (k H locs la hP hS hl)
theorem V_copy (X : CXq p s m args meth c cc nL own ad cy D A H0) {i : Nat} {k0 n0 k1 n1 : Nat} (hs0 : SK k0 = 14) (hs1 : SK k1 = 14) (hn0 : SLq k0 = n0) (hn1 : SLq k1 = n1) (hk0 : k0 < 150) (hk1 : k1 < 150) {sp dp n : Int32} (hd : decode cc pc = .ok (.invokestatic i, 3)) (h1 : Cond.methodLink own i arraycopyName ∈ TBG) (h2 : Cond.native arraycopyName ∈ TBG) (h3 : Cond.static arraycopyName ∈ TBG) (h4 : Cond.initialized "java/lang/System" ∈ TBG) (g1 : ¬ sp < 0) (g2 : ¬ dp < 0) (g3 : ¬ n < 0) (g4 : ix sp + ix n ≤ n0) (g5 : ix dp + ix n ≤ n1) (hf : 1 ≤ R.frames) (hlo : (st1.map fun v => v.category).sum + (nativeFrameWords "java/lang/System" "arraycopy" 5 + 11) ≤ R.locals) {w1 : Mem} (hw : w1 = cpy w k0 (ix sp) k1 (ix dp) (ix n)) (k : V p l e R s m args below meth c nL ad cy D A H0 ce sl Q w1 wm wl (pc + 3) ls st1) : V p l e R s m args below meth c nL ad cy D A H0 ce sl Q w wm wl pc ls (.int n :: .int dp :: .ref (ad k1) :: .int sp :: .ref (ad k0) :: st1) := by
  intro H locs la hP hS hl
  obtain ⟨hx, hb, hml, hown, hts, hnw, hK, ⟨hNN, hinj⟩, hA, hlk, hst⟩ := X
  subst hw
  have e0 := WS_at (ad := ad) (cy := cy) (w := cmb w wm) (wl := wl) (Nat.lt_of_lt_of_le hk0 hNN)
  have e1 := WS_at (ad := ad) (cy := cy) (w := cmb w wm) (wl := wl) (Nat.lt_of_lt_of_le hk1 hNN)
  rw [CE_arr hs0 (by decide), hn0] at e0
  rw [CE_arr hs1 (by decide), hn1] at e1
  refine va_copyi hx hb (by rw [hml]; exact hl.1.symm) hown (hts _ h1) (hts _ h2) (hts _ h3) (hts _ h4) hK hP (WS_D hinj hA) hS k0 k1 1 1 e0 e1 (ty := .int) rfl rfl rfl g1 g2 g3 g4 g5 (fun _ _ => rfl) hf hlo hd (fun H1 locs1 hP1 hD1 hS1 => k H1 locs1 la ?_ hS1 hl)
  rw [WS_set (w' := cmb (cpy w k0 (ix sp) k1 (ix dp) (ix n)) wm) (wl' := wl) (Nat.lt_of_lt_of_le hk1 hNN) ?_ (cmb_ne_c hk1 (fun j hj => cpy_ne j hj)) (fun _ _ => rfl)] at hP1
  · exact hP1
  · rw [CE_arr hs1 (by decide), hn1, cmb_c hk1, cmb_c hk1, cmb_c hk0, cpy_at]
    rfl

end VR

