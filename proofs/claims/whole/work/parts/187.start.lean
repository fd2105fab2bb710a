-- printed by wip/whole/gen10.py
theorem q_22 : (Jvm.Cond.classLink "WindJumpLaw" (7 : Nat) "WindJump") ∈ TBG := inG1 (i := 22) rfl rfl
theorem q_23 : (Jvm.Cond.instantiable "WindJump" (13 : Nat)) ∈ TBG := inG1 (i := 23) rfl rfl
theorem q_24 : (Jvm.Cond.methodLink "WindJumpLaw" (9 : Nat) ({ cls := "WindJump", name := "<init>", desc := "()V" } : Jvm.MethodName)) ∈ TBG := inG1 (i := 24) rfl rfl
theorem q_1182 : (Jvm.Cond.classLink "WindJumpLaw" (10 : Nat) "WindJumpModel") ∈ TBG := inG5 (i := 222) rfl rfl
theorem q_1183 : (Jvm.Cond.instantiable "WindJumpModel" (72 : Nat)) ∈ TBG := inG5 (i := 223) rfl rfl
theorem q_1184 : (Jvm.Cond.methodLink "WindJumpLaw" (12 : Nat) ({ cls := "WindJumpModel", name := "<init>", desc := "()V" } : Jvm.MethodName)) ∈ TBG := inG5 (i := 224) rfl rfl
theorem cls_all {s : State} {b : Nat} (hts : ∀ w ∈ TBG, w.before #[Value.ref b] s = true) : ∃ D : va_G, ∀ (k : Nat) (q : vw_C), vwCl[k]? = some q → u_Kn s q.1 q.2.1 q.2.2 (D.1 k) (D.2 k) := by
  obtain ⟨c0, i0, h0⟩ := u_known (C := RX0) (T := TX0) (N := 8) (n := 8) hts uin_0 (hts _ q_288)
  obtain ⟨c1, i1, h1⟩ := u_known (C := RX1) (T := TX1) (N := 3) (n := 3) hts uin_1 (hts _ q_369)
  obtain ⟨c2, i2, h2⟩ := u_known (C := RX2) (T := TX2) (N := 8) (n := 8) hts uin_2 (hts _ q_114)
  obtain ⟨c3, i3, h3⟩ := u_known (C := RX3) (T := TX3) (N := 9) (n := 9) hts uin_3 (hts _ q_73)
  obtain ⟨c4, i4, h4⟩ := u_known (C := RX4) (T := TX4) (N := 8) (n := 8) hts uin_4 (hts _ q_146)
  obtain ⟨c5, i5, h5⟩ := u_known (C := RX5) (T := TX5) (N := 9) (n := 9) hts uin_5 (hts _ q_330)
  obtain ⟨c6, i6, h6⟩ := u_known (C := RX6) (T := TX6) (N := 2) (n := 2) hts uin_6 (hts _ q_388)
  obtain ⟨c7, i7, h7⟩ := u_known (C := RX7) (T := TX7) (N := 2) (n := 2) hts uin_7 (hts _ q_31)
  obtain ⟨c8, i8, h8⟩ := u_known (C := RX8) (T := TX8) (N := 18) (n := 18) hts uin_8 (hts _ q_108)
  obtain ⟨c9, i9, h9⟩ := u_known (C := RX9) (T := TX9) (N := 5) (n := 5) hts uin_9 (hts _ q_47)
  obtain ⟨c10, i10, h10⟩ := u_known (C := RX10) (T := TX10) (N := 4) (n := 4) hts uin_10 (hts _ q_403)
  obtain ⟨c11, i11, h11⟩ := u_known (C := RX11) (T := TX11) (N := 13) (n := 13) hts uin_11 (hts _ q_23)
  obtain ⟨c12, i12, h12⟩ := u_known (C := RX12) (T := TX12) (N := 72) (n := 72) hts uin_12 (hts _ q_1183)
  have hx : ∀ k : Nat, ∃ z : ClassId × (Nat → Nat), ∀ q : vw_C, vwCl[k]? = some q → u_Kn s q.1 q.2.1 q.2.2 z.1 z.2 := by
    intro k
    match k with
    | 0 => exact ⟨(c0, i0), fun q hq => by cases hq; exact h0⟩
    | 1 => exact ⟨(c1, i1), fun q hq => by cases hq; exact h1⟩
    | 2 => exact ⟨(c2, i2), fun q hq => by cases hq; exact h2⟩
    | 3 => exact ⟨(c3, i3), fun q hq => by cases hq; exact h3⟩
    | 4 => exact ⟨(c4, i4), fun q hq => by cases hq; exact h4⟩
    | 5 => exact ⟨(c5, i5), fun q hq => by cases hq; exact h5⟩
    | 6 => exact ⟨(c6, i6), fun q hq => by cases hq; exact h6⟩
    | 7 => exact ⟨(c7, i7), fun q hq => by cases hq; exact h7⟩
    | 8 => exact ⟨(c8, i8), fun q hq => by cases hq; exact h8⟩
    | 9 => exact ⟨(c9, i9), fun q hq => by cases hq; exact h9⟩
    | 10 => exact ⟨(c10, i10), fun q hq => by cases hq; exact h10⟩
    | 11 => exact ⟨(c11, i11), fun q hq => by cases hq; exact h11⟩
    | 12 => exact ⟨(c12, i12), fun q hq => by cases hq; exact h12⟩
    | k + 13 => exact ⟨(c0, i0), fun q hq => by simp [vwCl] at hq⟩
  obtain ⟨f, hf⟩ := Classical.axiomOfChoice hx
  exact ⟨(fun k => (f k).1, fun k => (f k).2), fun k q hq => hf k q hq⟩
theorem arr_all {s : State} {b : Nat} (hts : ∀ w ∈ TBG, w.before #[Value.ref b] s = true) (hAO : AOI s) : ∃ cy : Nat → ClassId, CY cy s ∧ ∀ (k : Nat) (q : ClassId × FieldType), (tysW cy)[k]? = some q → ArrOfT s q.1 q.2 ∧ va_RA s q.1 q.2 := by
  obtain ⟨cB, kB, oB, fB, gB, jB⟩ := Cond.arrayClass_spec (hts (Cond.arrayClass .byte) q_45)
  obtain ⟨cI, kI, oI, fI, gI, jI⟩ := Cond.arrayClass_spec (hts (Cond.arrayClass .int) q_71)
  obtain ⟨cJ, kJ, oJ, fJ, gJ, jJ⟩ := Cond.arrayClass_spec (hts (Cond.arrayClass .long) q_1431)
  obtain ⟨cZ, kZ, oZ, fZ, gZ, jZ⟩ := Cond.arrayClass_spec (hts (Cond.arrayClass .boolean) q_401)
  obtain ⟨oG, cG, kG, -, -, gG, jG, fG⟩ := Jvm.Stand.arrayOver_specB hAO
  refine ⟨fun k => if k = 13 then cB else if k = 14 then cI else if k = 15 then cJ else if k = 16 then cZ else cG, ⟨fB, fI, fJ, fZ, fG⟩, ?_⟩
  intro k q hq
  match k with
  | 0 => cases hq; exact ⟨fun n z => ⟨fun k h => (by cases h), kB, gB, oB, jB⟩, fB⟩
  | 1 => cases hq; exact ⟨fun n z => ⟨fun k h => (by cases h), kI, gI, oI, jI⟩, fI⟩
  | 2 => cases hq; exact ⟨fun n z => ⟨fun k h => (by cases h), kJ, gJ, oJ, jJ⟩, fJ⟩
  | 3 => cases hq; exact ⟨fun n z => ⟨fun k h => (by cases h), kZ, gZ, oZ, jZ⟩, fZ⟩
  | 4 => cases hq; exact ⟨fun n z => ⟨fun k h => (by cases h), kG, gG, oG, jG⟩, fG⟩
  | k + 5 => simp [tysW] at hq
def tmS (i : Nat) : Term := if i = 0 then Term.string "WindJump$Tokens" 72 else Term.string "WindJump$Tokens" 61
def GN : Cond := Jvm.Cond.and given_1 narrow_1
theorem lenS_lt : ∀ i, i < 2 → lenS.getD i 0 < 2 ^ 31 := by decide
theorem sw1 : ∀ i, i < 2 → Cond.exactly (tmS i) "java/lang/String" ∈ flatC GN := by decide +kernel
theorem sw2 : ∀ i, i < 2 → Cond.eq (.field (tmS i) "java/lang/String" "coder" "B") (.int 0) ∈ flatC GN := by decide +kernel
theorem sw3 : ∀ i, i < 2 → Cond.arrayOf (.field (tmS i) "java/lang/String" "value" "[B") .byte ∈ flatC GN := by decide +kernel
theorem sw4 : ∀ i, i < 2 → Cond.eq (.length (.field (tmS i) "java/lang/String" "value" "[B")) (.int (Int32.ofNat (lenS.getD i 0))) ∈ flatC GN := by decide +kernel
theorem sw5a : (List.range 153).map (fun j => Cond.eq (.elem (.field (tmS 0) "java/lang/String" "value" "[B") (.int (Int32.ofNat j))) (.int ((bytS.getD 0 []).getD j 0))) = ((flatC GN).drop 13).take 153 := by decide +kernel
theorem sw5b : (List.range 9).map (fun j => Cond.eq (.elem (.field (tmS 1) "java/lang/String" "value" "[B") (.int (Int32.ofNat j))) (.int ((bytS.getD 1 []).getD j 0))) = ((flatC GN).drop 170).take 9 := by decide +kernel
theorem sw5 : ∀ i, i < 2 → ∀ j, j < lenS.getD i 0 → Cond.eq (.elem (.field (tmS i) "java/lang/String" "value" "[B") (.int (Int32.ofNat j))) (.int ((bytS.getD i []).getD j 0)) ∈ flatC GN := by
  intro i hi j hj
  match i, hi with
  | 0, _ =>
    have h1 : Cond.eq (.elem (.field (tmS 0) "java/lang/String" "value" "[B") (.int (Int32.ofNat j))) (.int ((bytS.getD 0 []).getD j 0)) ∈ ((flatC GN).drop 13).take 153 := by
      rw [← sw5a]
      exact List.mem_map.mpr ⟨j, List.mem_range.mpr hj, rfl⟩
    exact List.mem_of_mem_drop (List.mem_of_mem_take h1)
  | 1, _ =>
    have h1 : Cond.eq (.elem (.field (tmS 1) "java/lang/String" "value" "[B") (.int (Int32.ofNat j))) (.int ((bytS.getD 1 []).getD j 0)) ∈ ((flatC GN).drop 170).take 9 := by
      rw [← sw5b]
      exact List.mem_map.mpr ⟨j, List.mem_range.mpr hj, rfl⟩
    exact List.mem_of_mem_drop (List.mem_of_mem_take h1)
theorem sw6 : Cond.not (Cond.eq (tmS 0) (tmS 1)) ∈ flatC GN := by decide +kernel
theorem sw7 : Cond.eq (.static "java/lang/String" "COMPACT_STRINGS" "Z") (.int 1) ∈ flatC GN := by decide +kernel
theorem sw8 : Cond.isRef (.static "jdk/internal/util/Preconditions" "SIOOBE_FORMATTER" "Ljava/util/function/BiFunction;") ∈ flatC GN := by decide +kernel
theorem str_all {s : State} {b : Nat} (hts : ∀ w ∈ lw_tbl, w.before #[Value.ref b] s = true) (hgv : GN.before #[Value.ref b] s = true) : ∃ ads : Nat → Nat, STR ads (fun q => s.heap.size ≤ q) s s.heap := by
  have hs := flat_of_before GN hgv
  have hA : ∀ a : Nat, a < s.heap.size → ¬ (fun q => s.heap.size ≤ q) a := fun a h => Nat.not_le.mpr h
  obtain ⟨aK, aV, hS, hT⟩ := vk_Sof (N := 2) (tm := tmS) (len := lenS) (byt := bytS) (A := fun q => s.heap.size ≤ q) lenS_lt (fun i hi => hs _ (sw1 i hi)) (fun i hi => hs _ (sw2 i hi)) (fun i hi => hs _ (sw3 i hi)) (fun i hi => hs _ (sw4 i hi)) (fun i hi j hj => hs _ (sw5 i hi j hj)) (fun i j hi hj hij => by
    have h6 := hs _ sw6
    match i, j, hi, hj, hij with
    | 0, 0, _, _, h => exact absurd rfl h
    | 0, 1, _, _, _ => exact Or.inl h6
    | 1, 0, _, _, _ => exact Or.inr h6
    | 1, 1, _, _, h => exact absurd rfl h) hA
  have z1 := va_Zof (A := fun q => s.heap.size ≤ q) (hts _ (List.mem_append_right _ (inT3 (i := 99) rfl) : Cond.laysStatic "java/lang/String" "COMPACT_STRINGS" "Z" ∈ lw_tbl)) (hts _ (List.mem_append_right _ (inT1 (i := 15) rfl) : Cond.initialized "java/lang/String" ∈ lw_tbl)) (va_eqt (hs _ sw7)) hA
  obtain ⟨v, hv, hvr⟩ := Cond.isRef_spec (hs _ sw8)
  obtain ⟨f, t, rfl⟩ : ∃ f t : Nat, v = if f = 0 then Value.null else .ref t := by
    cases v with
    | ref t => exact ⟨1, t, rfl⟩
    | null => exact ⟨0, 0, rfl⟩
    | _ => simp [Value.isRef] at hvr
  have z2 := va_Zof (A := fun q => s.heap.size ≤ q) (hts _ (List.mem_append_right _ (inT3 (i := 115) rfl) : Cond.laysStatic "jdk/internal/util/Preconditions" "SIOOBE_FORMATTER" "Ljava/util/function/BiFunction;" ∈ lw_tbl)) (hts _ (List.mem_append_right _ (inT1 (i := 17) rfl) : Cond.initialized "jdk/internal/util/Preconditions" ∈ lw_tbl)) hv hA
  refine ⟨fun k => if k < 210 then aK (k - 200) else if k < 220 then aV (k - 210) else if k = 221 then f else t, ?_⟩
  have e1 : ∀ i, i < 2 → (fun k => if k < 210 then aK (k - 200) else if k < 220 then aV (k - 210) else if k = 221 then f else t) (200 + i) = aK i := fun i hi => by
    dsimp only
    rw [if_pos (by omega), show 200 + i - 200 = i by omega]
  have e2 : ∀ i, i < 2 → (fun k => if k < 210 then aK (k - 200) else if k < 220 then aV (k - 210) else if k = 221 then f else t) (210 + i) = aV i := fun i hi => by
    dsimp only
    rw [if_neg (by omega), if_pos (by omega), show 210 + i - 210 = i by omega]
  have e3 : (fun k => if k < 210 then aK (k - 200) else if k < 220 then aV (k - 210) else if k = 221 then f else t) 220 = t := rfl
  have e4 : (fun k => if k < 210 then aK (k - 200) else if k < 220 then aV (k - 210) else if k = 221 then f else t) 221 = f := rfl
  generalize (fun k => if k < 210 then aK (k - 200) else if k < 220 then aV (k - 210) else if k = 221 then f else t) = ads at e1 e2 e3 e4 ⊢
  unfold STR
  refine ⟨?_, ?_, ?_, z1, ?_⟩
  · unfold vk_S at hS ⊢
    refine ⟨fun i hi => ?_, fun i j hi hj hij => ?_⟩
    · dsimp only
      rw [e1 i hi, e2 i hi]
      exact hS.1 i hi
    · dsimp only at hij
      rw [e1 i hi, e1 j hj] at hij
      exact hS.2 i j hi hj hij
  · rw [show ads 200 = aK 0 from e1 0 (by decide)]
    exact vk_R.of (hts _ (List.mem_append_right _ (inT3 (i := 89) rfl))) (hT 0 (by decide))
  · rw [show ads 201 = aK 1 from e1 1 (by decide)]
    exact vk_R.of (hts _ (List.mem_append_right _ (inT3 (i := 145) rfl))) (hT 1 (by decide))
  · rw [show FM ads = if f = 0 then Value.null else .ref t from by unfold FM; rw [e3, e4]]
    exact z2
/-- the law's entry: both objects are made, the loop begins -/
theorem start_wp {p : Program} {e : Env} {s : State} {m : MethodId} {below : List Frame} {meth : Method} {c : Code} (l : Launch) {b L : Nat} {xs : Nat → Int32} (C0 : lw_At p s m meth c b L xs) (hwp : wp_11_initT wI_11 (fun w => wp_12_initT wI_12 wlZ (fun wm wl => ∃ n, wp_law_b18 L xs n (0 : Int32) w wm wl))) : W p l e room_1 s m #[Value.ref b] below meth c s.heap [] 0 0 (lw_Z below #[Value.ref b] s) (entryFrame m ([Value.ref b] : List Value).toArray 4) := by
  obtain ⟨hx, hb, hr, hml, hown, hts, hX, hbl, hlocks, hgv⟩ := C0
  have hT : ∀ w ∈ TBG, w.before #[Value.ref b] s = true := fun w hw => hts w (List.mem_filter.mp hw).1
  have hN : ∀ z ∈ NWL, va_Nw z s := fun z hz => va_Nw.of (nest_on hz) (hts z (List.mem_filter.mp hz).1)
  have hAO : AOI s := hts _ (List.mem_append_right _ (inT2 (i := 135) rfl))
  obtain ⟨D, hD⟩ := cls_all hT
  obtain ⟨cy, hC, hY⟩ := arr_all hT hAO
  obtain ⟨ads, hst⟩ := str_all hts hgv
  have X : CXG p s m #[Value.ref b] meth c code 4 R_law cy D (fun q => s.heap.size ≤ q) s.heap := ⟨hx, hb, hml, hown, hT, hN, ⟨hD, hY⟩, hC, hAO, fun _ h => h, hlocks⟩
  have hl := lv_entry ([.ref b]) (n := 4) (Nat.le_of_ble_eq_true rfl)
  rw [lg_entry_eq]
  have hz0 : OKR 0 rfZ wZ wlZ := ⟨fun k i r h => (by cases h), fun k _ i => ⟨rfl, rfl, rfl⟩⟩
  suffices h : VG p l e room_1 s m #[Value.ref b] below meth c 4 (fun _ => 0) cy D (fun q => s.heap.size ≤ q) s.heap 0 0 (lw_Z below #[Value.ref b] s) rfZ 0 wZ wlZ 0 [(0, .ref b)] [] from
    h hz0 (GOKx 0 (by decide)) s.heap [] _ (fun k q h => by simp [WG] at h) ⟨fun i j p q h => by simp [WG] at h, fun k q h => by simp [WG] at h⟩ va_S.rf hl
  refine VG_new X (rfl : vwCl[11]? = some (RX11, TX11, 13)) uin_11 tyX11 tyX11_ok q_22 q_23 q_1 rfl (by decide) rfl (by decide +kernel) (Nat.le_of_ble_eq_true rfl) (Nat.le_of_ble_eq_true rfl) dL_law_0 (fun ad1 hx1 => ?_)
  refine VG_dup X dL_law_3 rfl ?_
  refine VG_callS X hst (k := 0) (As := []) (st1 := [.ref (ad1 0)]) mfi_11 (Or.inl q_24) (fun hok hgk sz => ci_11 l hwp hok hgk sz) rfl ⟨rfl, rfl⟩ ⟨Nat.le_of_ble_eq_true rfl, Nat.le_of_ble_eq_true rfl⟩ ⟨Nat.le_of_ble_eq_true rfl, Nat.le_of_ble_eq_true rfl⟩ rfl (Nat.le_of_ble_eq_true rfl) dL_law_4 (fun u hu => ?_)
  obtain ⟨ad2, rf2, w2, wl2⟩ := u
  obtain ⟨hx2, h2, h3, w1, h4, hwp⟩ := hu
  dsimp only at hx2 h2 h3 h4
  subst h2 h3 h4
  dsimp only
  rw [← hx2 0 (by decide)]
  suffices h : VG p l e room_1 s m #[Value.ref b] below meth c 4 ad2 cy D (fun q => s.heap.size ≤ q) s.heap (0 + 1 + 149) (0 + 13 + 24479) (lw_Z below #[Value.ref b] s) (SRN 150) 150 (cmb w1 wZ) wlZ (4 + 3) [(0, .ref b)] [.ref (ad2 0)] from
    h (SRN_ok (Or.inl rfl) (fun k hk i => ⟨by simp [cmb, show ¬ k < 150 by omega, wZ], rfl⟩)) (GOKx 150 (by decide))
  refine VG_astore_n X (i := 1) dL_law_7 rfl (by decide) (ls1 := [(1, .ref (ad2 0)), (0, .ref b)]) rfl ?_
  refine VG_new X (rfl : vwCl[12]? = some (RX12, TX12, 72)) uin_12 tyX12 tyX12_ok q_1182 q_1183 q_14 rfl (by decide) rfl (by decide +kernel) (Nat.le_of_ble_eq_true rfl) (Nat.le_of_ble_eq_true rfl) dL_law_8 (fun ad3 hx3 => ?_)
  rw [← hx3 0 (by decide)]
  refine VG_dup X dL_law_11 rfl ?_
  refine VG_callS X hst (k := 150) (As := []) (st1 := [.ref (ad3 150)]) mfi_12 (Or.inl q_1184) (fun hok hgk sz => ci_12 l hwp hok hgk sz) rfl ⟨rfl, rfl⟩ ⟨Nat.le_of_ble_eq_true rfl, Nat.le_of_ble_eq_true rfl⟩ ⟨Nat.le_of_ble_eq_true rfl, Nat.le_of_ble_eq_true rfl⟩ rfl (Nat.le_of_ble_eq_true rfl) dL_law_12 (fun u hu => ?_)
  obtain ⟨ad4, rf4, w4, wl4⟩ := u
  obtain ⟨hx4, h2, w5, h4, hwp⟩ := hu
  dsimp only at hx4 h2 h4 hwp
  subst h2 h4
  dsimp only
  rw [← hx4 0 (by decide), ← hx4 150 (by decide)]
  obtain ⟨n, hwp⟩ := hwp
  refine VGn_toV (ads := ads) (w := w1) (wm := w5) (by decide) (by decide) (fun k hk _ i r hh => by unfold SRN; rw [if_pos hk]; exact hh) rfl (fun hi hA => ?_)
  have Y := CX_of X hst hi hA
  refine V_astore_n Y (i := 2) dL_law_15 rfl (by decide) rfl (ls1 := [(2, .ref (ad4 150)), (1, .ref (ad4 0)), (0, .ref b)]) rfl ?_
  refine V_iconst Y (v := (0 : Int32)) dL_law_16 (by decide) ?_
  refine V_istore_n Y (i := 3) dL_law_17 rfl (by decide) rfl (ls1 := [(3, .int (0 : Int32)), (2, .ref (ad4 150)), (1, .ref (ad4 0)), (0, .ref b)]) rfl ?_
  refine V_sub Y [3, 2, 1, 0] (ls1 := [(0, .ref b), (1, .ref (ad4 0)), (2, .ref (ad4 150)), (3, .int (0 : Int32))]) rfl ?_
  exact v_law_b18 Y hr rfl hX hbl n _ _ _ _ hwp
