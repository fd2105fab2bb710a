/-! the transformers are monotone -/
theorem mo_and {A B C D : Prop} (f : A → C) (g : B → D) : A ∧ B → C ∧ D := fun h => ⟨f h.1, g h.2⟩
theorem mo_all {α : Sort _} {A B : α → Prop} (f : ∀ x, A x → B x) : (∀ x, A x) → ∀ x, B x := fun h x => f x (h x)
theorem mo_ex {A B : Nat → Prop} (f : ∀ n, A n → B n) : (∃ n, A n) → ∃ n, B n := fun ⟨n, h⟩ => ⟨n, f n h⟩
theorem mq_2_set {k : Nat} {a1 : Int32} {a2 : Int32} {w : Mem} {Q Q9 : Mem → Prop} (HQ : ∀ x0, Q x0 → Q9 x0) : wp_2_set k a1 a2 w Q → wp_2_set k a1 a2 w Q9 := by
  unfold wp_2_set
  repeat' first | with_reducible exact HQ | with_reducible exact HQ _ | with_reducible exact fun h => h | with_reducible refine mo_and ?_ ?_ | with_reducible refine mo_ex (fun _ => ?_) | with_reducible refine mo_all (fun _ => ?_) | intro _
theorem mq_0_mixed {a1 : Int32} {a2 : Int32} {w : Mem} {Q Q9 : Int32 → Mem → Prop} (HQ : ∀ x0 x1, Q x0 x1 → Q9 x0 x1) : wp_0_mixed a1 a2 w Q → wp_0_mixed a1 a2 w Q9 := by
  unfold wp_0_mixed
  repeat' first | with_reducible exact HQ | with_reducible exact HQ _ _ | with_reducible exact fun h => h | with_reducible refine mo_and ?_ ?_ | with_reducible refine mo_ex (fun _ => ?_) | with_reducible refine mo_all (fun _ => ?_) | intro _
theorem mq_0_lot {a1 : Int32} {a2 : Int32} {w : Mem} {Q Q9 : Int32 → Mem → Prop} (HQ : ∀ x0 x1, Q x0 x1 → Q9 x0 x1) : wp_0_lot a1 a2 w Q → wp_0_lot a1 a2 w Q9 := by
  unfold wp_0_lot
  repeat' first | with_reducible exact HQ | with_reducible exact HQ _ _ | with_reducible exact fun h => h | with_reducible refine mo_and ?_ ?_ | with_reducible refine mo_ex (fun _ => ?_) | with_reducible refine mq_0_mixed ?_ | with_reducible refine mo_all (fun _ => ?_) | intro _
theorem mq_2_joined {k : Nat} {a1 : Int32} {a2 : Int32} {a3 : Int32} {w : Mem} {Q Q9 : Int32 → Mem → Prop} (HQ : ∀ x0 x1, Q x0 x1 → Q9 x0 x1) : wp_2_joined k a1 a2 a3 w Q → wp_2_joined k a1 a2 a3 w Q9 := by
  unfold wp_2_joined
  repeat' first | with_reducible exact HQ | with_reducible exact HQ _ _ | with_reducible exact fun h => h | with_reducible refine mo_and ?_ ?_ | with_reducible refine mo_ex (fun _ => ?_) | with_reducible refine mo_all (fun _ => ?_) | intro _
theorem mq_2_worth_b161 {k : Nat} {l1 : Int32} {l2 : Int32} {l3 : Int32} {w : Mem} {Q Q9 : Int32 → Mem → Prop} {L42 L429 : Int32 → Int32 → Int32 → Mem → Prop} (HQ : ∀ x0 x1, Q x0 x1 → Q9 x0 x1) (HL42 : ∀ x0 x1 x2 x3, L42 x0 x1 x2 x3 → L429 x0 x1 x2 x3) : wp_2_worth_b161 k Q L42 l1 l2 l3 w → wp_2_worth_b161 k Q9 L429 l1 l2 l3 w := by
  unfold wp_2_worth_b161
  repeat' first | with_reducible exact HQ | with_reducible exact HQ _ _ | with_reducible exact HL42 | with_reducible exact HL42 _ _ _ _ | with_reducible exact fun h => h | with_reducible refine mo_and ?_ ?_ | with_reducible refine mo_ex (fun _ => ?_) | with_reducible refine mo_all (fun _ => ?_) | intro _
theorem mq_2_worth_b114 {k : Nat} {l1 : Int32} {l2 : Int32} {l3 : Int32} {s1 : Int32} {s2 : Int32} {w : Mem} {Q Q9 : Int32 → Mem → Prop} {L42 L429 : Int32 → Int32 → Int32 → Mem → Prop} (HQ : ∀ x0 x1, Q x0 x1 → Q9 x0 x1) (HL42 : ∀ x0 x1 x2 x3, L42 x0 x1 x2 x3 → L429 x0 x1 x2 x3) : wp_2_worth_b114 k Q L42 l1 l2 l3 s1 s2 w → wp_2_worth_b114 k Q9 L429 l1 l2 l3 s1 s2 w := by
  unfold wp_2_worth_b114
  repeat' first | with_reducible exact HQ | with_reducible exact HQ _ _ | with_reducible exact HL42 | with_reducible exact HL42 _ _ _ _ | with_reducible exact fun h => h | with_reducible refine mo_and ?_ ?_ | with_reducible refine mo_ex (fun _ => ?_) | with_reducible refine mq_2_worth_b161 ?_ ?_ | with_reducible refine mo_all (fun _ => ?_) | intro _
theorem mq_2_worth_b71 {k : Nat} {l1 : Int32} {l2 : Int32} {l3 : Int32} {w : Mem} {Q Q9 : Int32 → Mem → Prop} {L42 L429 : Int32 → Int32 → Int32 → Mem → Prop} (HQ : ∀ x0 x1, Q x0 x1 → Q9 x0 x1) (HL42 : ∀ x0 x1 x2 x3, L42 x0 x1 x2 x3 → L429 x0 x1 x2 x3) : wp_2_worth_b71 k Q L42 l1 l2 l3 w → wp_2_worth_b71 k Q9 L429 l1 l2 l3 w := by
  unfold wp_2_worth_b71
  repeat' first | with_reducible exact HQ | with_reducible exact HQ _ _ | with_reducible exact HL42 | with_reducible exact HL42 _ _ _ _ | with_reducible exact fun h => h | with_reducible refine mo_and ?_ ?_ | with_reducible refine mo_ex (fun _ => ?_) | with_reducible refine mq_2_worth_b161 ?_ ?_ | with_reducible refine mq_2_worth_b114 ?_ ?_ | with_reducible refine mo_all (fun _ => ?_) | intro _
theorem mq_2_worth_b42 {k : Nat} {Q Q9 : Int32 → Mem → Prop} (HQ : ∀ x0 x1, Q x0 x1 → Q9 x0 x1) : ∀ (y0 : Nat) (y1 : Int32) (y2 : Int32) (y3 : Int32) (y4 : Mem), wp_2_worth_b42 k Q y0 y1 y2 y3 y4 → wp_2_worth_b42 k Q9 y0 y1 y2 y3 y4 := by
  intro n
  induction n with
  | zero => exact fun _ _ _ _ h => h
  | succ n ih =>
    intro y1 y2 y3 y4
    unfold wp_2_worth_b42
    repeat' first | with_reducible exact HQ | with_reducible exact HQ _ _ | with_reducible exact ih | with_reducible exact ih _ _ _ _ | with_reducible exact fun h => h | with_reducible refine mo_and ?_ ?_ | with_reducible refine mo_ex (fun _ => ?_) | with_reducible refine mq_2_worth_b71 ?_ ?_ | with_reducible refine mq_2_worth_b161 ?_ ?_ | with_reducible refine mq_2_joined ?_ | with_reducible refine mo_all (fun _ => ?_) | intro _
theorem mq_2_worth_b41 {k : Nat} {l1 : Int32} {l2 : Int32} {s0 : Int32} {w : Mem} {Q Q9 : Int32 → Mem → Prop} (HQ : ∀ x0 x1, Q x0 x1 → Q9 x0 x1) : wp_2_worth_b41 k Q l1 l2 s0 w → wp_2_worth_b41 k Q9 l1 l2 s0 w := by
  unfold wp_2_worth_b41
  repeat' first | with_reducible exact HQ | with_reducible exact HQ _ _ | with_reducible exact fun h => h | with_reducible refine mo_and ?_ ?_ | with_reducible refine mo_ex (fun _ => ?_) | with_reducible refine mq_2_worth_b42 ?_ _ _ _ _ _ | with_reducible refine mo_all (fun _ => ?_) | intro _
theorem mq_2_worth {k : Nat} {a1 : Int32} {w : Mem} {Q Q9 : Int32 → Mem → Prop} (HQ : ∀ x0 x1, Q x0 x1 → Q9 x0 x1) : wp_2_worth k a1 w Q → wp_2_worth k a1 w Q9 := by
  unfold wp_2_worth
  repeat' first | with_reducible exact HQ | with_reducible exact HQ _ _ | with_reducible exact fun h => h | with_reducible refine mo_and ?_ ?_ | with_reducible refine mo_ex (fun _ => ?_) | with_reducible refine mq_2_worth_b41 ?_ | with_reducible refine mo_all (fun _ => ?_) | intro _
theorem mq_2_tells_b37 {k : Nat} {l1 : Int32} {s0 : Int32} {w : Mem} {Q Q9 : Int32 → Mem → Prop} {L7 L79 : Int32 → Mem → Prop} (HQ : ∀ x0 x1, Q x0 x1 → Q9 x0 x1) (HL7 : ∀ x0 x1, L7 x0 x1 → L79 x0 x1) : wp_2_tells_b37 k Q L7 l1 s0 w → wp_2_tells_b37 k Q9 L79 l1 s0 w := by
  unfold wp_2_tells_b37
  repeat' first | with_reducible exact HQ | with_reducible exact HQ _ _ | with_reducible exact HL7 | with_reducible exact HL7 _ _ | with_reducible exact fun h => h | with_reducible refine mo_and ?_ ?_ | with_reducible refine mo_ex (fun _ => ?_) | with_reducible refine mq_2_worth ?_ | with_reducible refine mo_all (fun _ => ?_) | intro _
theorem mq_2_tells_b7 {k : Nat} {Q Q9 : Int32 → Mem → Prop} (HQ : ∀ x0 x1, Q x0 x1 → Q9 x0 x1) : ∀ (y0 : Nat) (y1 : Int32) (y2 : Mem), wp_2_tells_b7 k Q y0 y1 y2 → wp_2_tells_b7 k Q9 y0 y1 y2 := by
  intro n
  induction n with
  | zero => exact fun _ _ h => h
  | succ n ih =>
    intro y1 y2
    unfold wp_2_tells_b7
    repeat' first | with_reducible exact HQ | with_reducible exact HQ _ _ | with_reducible exact ih | with_reducible exact ih _ _ | with_reducible exact fun h => h | with_reducible refine mo_and ?_ ?_ | with_reducible refine mo_ex (fun _ => ?_) | with_reducible refine mq_2_worth ?_ | with_reducible refine mq_2_tells_b37 ?_ ?_ | with_reducible refine mo_all (fun _ => ?_) | intro _
theorem mq_2_tells {k : Nat} {w : Mem} {Q Q9 : Int32 → Mem → Prop} (HQ : ∀ x0 x1, Q x0 x1 → Q9 x0 x1) : wp_2_tells k w Q → wp_2_tells k w Q9 := by
  unfold wp_2_tells
  repeat' first | with_reducible exact HQ | with_reducible exact HQ _ _ | with_reducible exact fun h => h | with_reducible refine mo_and ?_ ?_ | with_reducible refine mo_ex (fun _ => ?_) | with_reducible refine mq_2_tells_b7 ?_ _ _ _ | with_reducible refine mo_all (fun _ => ?_) | intro _
theorem mq_11_held {a1 : Int32} {a2 : Int32} {a3 : Int32} {w : Mem} {Q Q9 : Int32 → Mem → Prop} (HQ : ∀ x0 x1, Q x0 x1 → Q9 x0 x1) : wp_11_held a1 a2 a3 w Q → wp_11_held a1 a2 a3 w Q9 := by
  unfold wp_11_held
  repeat' first | with_reducible exact HQ | with_reducible exact HQ _ _ | with_reducible exact fun h => h | with_reducible refine mo_and ?_ ?_ | with_reducible refine mo_ex (fun _ => ?_) | with_reducible refine mo_all (fun _ => ?_) | intro _
theorem mq_0_windAt {a1 : Int32} {a2 : Int32} {w : Mem} {Q Q9 : Int32 → Mem → Prop} (HQ : ∀ x0 x1, Q x0 x1 → Q9 x0 x1) : wp_0_windAt a1 a2 w Q → wp_0_windAt a1 a2 w Q9 := by
  unfold wp_0_windAt
  repeat' first | with_reducible exact HQ | with_reducible exact HQ _ _ | with_reducible exact fun h => h | with_reducible refine mo_and ?_ ?_ | with_reducible refine mo_ex (fun _ => ?_) | with_reducible refine mq_2_set ?_ | with_reducible refine mq_0_lot ?_ | with_reducible refine mq_2_tells ?_ | with_reducible refine mq_11_held ?_ | with_reducible refine mo_all (fun _ => ?_) | intro _
theorem mq_0_blow_b91 {s1 : Int32} {w : Mem} {Q Q9 : Mem → Prop} (HQ : ∀ x0, Q x0 → Q9 x0) : wp_0_blow_b91 Q s1 w → wp_0_blow_b91 Q9 s1 w := by
  unfold wp_0_blow_b91
  repeat' first | with_reducible exact HQ | with_reducible exact HQ _ | with_reducible exact fun h => h | with_reducible refine mo_and ?_ ?_ | with_reducible refine mo_ex (fun _ => ?_) | with_reducible refine mo_all (fun _ => ?_) | intro _
theorem mq_0_blow_b10  {Q Q9 : Mem → Prop} (HQ : ∀ x0, Q x0 → Q9 x0) : ∀ (y0 : Nat) (y1 : Int32) (y2 : Int32) (y3 : Int32) (y4 : Int32) (y5 : Int32) (y6 : Mem), wp_0_blow_b10 Q y0 y1 y2 y3 y4 y5 y6 → wp_0_blow_b10 Q9 y0 y1 y2 y3 y4 y5 y6 := by
  intro n
  induction n with
  | zero => exact fun _ _ _ _ _ _ h => h
  | succ n ih =>
    intro y1 y2 y3 y4 y5 y6
    unfold wp_0_blow_b10
    repeat' first | with_reducible exact HQ | with_reducible exact HQ _ | with_reducible exact ih | with_reducible exact ih _ _ _ _ _ _ | with_reducible exact fun h => h | with_reducible refine mo_and ?_ ?_ | with_reducible refine mo_ex (fun _ => ?_) | with_reducible refine mq_0_blow_b91 ?_ | with_reducible refine mq_0_windAt ?_ | with_reducible refine mo_all (fun _ => ?_) | intro _
theorem mq_0_blow {a1 : Int32} {w : Mem} {Q Q9 : Mem → Prop} (HQ : ∀ x0, Q x0 → Q9 x0) : wp_0_blow a1 w Q → wp_0_blow a1 w Q9 := by
  unfold wp_0_blow
  repeat' first | with_reducible exact HQ | with_reducible exact HQ _ | with_reducible exact fun h => h | with_reducible refine mo_and ?_ ?_ | with_reducible refine mo_ex (fun _ => ?_) | with_reducible refine mq_0_blow_b10 ?_ _ _ _ _ _ _ _ | with_reducible refine mo_all (fun _ => ?_) | intro _
theorem mq_0_calmDown {w : Mem} {Q Q9 : Mem → Prop} (HQ : ∀ x0, Q x0 → Q9 x0) : wp_0_calmDown w Q → wp_0_calmDown w Q9 := by
  unfold wp_0_calmDown
  repeat' first | with_reducible exact HQ | with_reducible exact HQ _ | with_reducible exact fun h => h | with_reducible refine mo_and ?_ ?_ | with_reducible refine mo_ex (fun _ => ?_) | with_reducible refine mo_all (fun _ => ?_) | intro _
theorem mq_0_slipOf {a1 : Int32} {a2 : Int32} {w : Mem} {Q Q9 : Int32 → Mem → Prop} (HQ : ∀ x0 x1, Q x0 x1 → Q9 x0 x1) : wp_0_slipOf a1 a2 w Q → wp_0_slipOf a1 a2 w Q9 := by
  unfold wp_0_slipOf
  repeat' first | with_reducible exact HQ | with_reducible exact HQ _ _ | with_reducible exact fun h => h | with_reducible refine mo_and ?_ ?_ | with_reducible refine mo_ex (fun _ => ?_) | with_reducible refine mq_0_lot ?_ | with_reducible refine mo_all (fun _ => ?_) | intro _
theorem mq_0_goes {a1 : Int32} {a2 : Int32} {w : Mem} {Q Q9 : Int32 → Mem → Prop} (HQ : ∀ x0 x1, Q x0 x1 → Q9 x0 x1) : wp_0_goes a1 a2 w Q → wp_0_goes a1 a2 w Q9 := by
  unfold wp_0_goes
  repeat' first | with_reducible exact HQ | with_reducible exact HQ _ _ | with_reducible exact fun h => h | with_reducible refine mo_and ?_ ?_ | with_reducible refine mo_ex (fun _ => ?_) | with_reducible refine mq_2_set ?_ | with_reducible refine mq_2_tells ?_ | with_reducible refine mo_all (fun _ => ?_) | intro _
theorem mq_0_reach {a1 : Int32} {a2 : Int32} {a3 : Int32} {a4 : Int32} {a5 : Int32} {w : Mem} {Q Q9 : Int32 → Mem → Prop} (HQ : ∀ x0 x1, Q x0 x1 → Q9 x0 x1) : wp_0_reach a1 a2 a3 a4 a5 w Q → wp_0_reach a1 a2 a3 a4 a5 w Q9 := by
  unfold wp_0_reach
  repeat' first | with_reducible exact HQ | with_reducible exact HQ _ _ | with_reducible exact fun h => h | with_reducible refine mo_and ?_ ?_ | with_reducible refine mo_ex (fun _ => ?_) | with_reducible refine mq_2_set ?_ | with_reducible refine mq_2_tells ?_ | with_reducible refine mq_11_held ?_ | with_reducible refine mo_all (fun _ => ?_) | intro _
theorem mq_0_reachOf {a1 : Int32} {a2 : Int32} {a3 : Int32} {a4 : Int32} {w : Mem} {Q Q9 : Int32 → Mem → Prop} (HQ : ∀ x0 x1, Q x0 x1 → Q9 x0 x1) : wp_0_reachOf a1 a2 a3 a4 w Q → wp_0_reachOf a1 a2 a3 a4 w Q9 := by
  unfold wp_0_reachOf
  repeat' first | with_reducible exact HQ | with_reducible exact HQ _ _ | with_reducible exact fun h => h | with_reducible refine mo_and ?_ ?_ | with_reducible refine mo_ex (fun _ => ?_) | with_reducible refine mq_0_reach ?_ | with_reducible refine mo_all (fun _ => ?_) | intro _
theorem mq_11_styleOf_b101 {b1 : Nat} {nb1 : Nat} {l4 : Int32} {l5 : Int32} {l6 : Int32} {l7 : Int32} {w : Mem} {Q Q9 : Int32 → Mem → Prop} (HQ : ∀ x0 x1, Q x0 x1 → Q9 x0 x1) : wp_11_styleOf_b101 b1 nb1 Q l4 l5 l6 l7 w → wp_11_styleOf_b101 b1 nb1 Q9 l4 l5 l6 l7 w := by
  unfold wp_11_styleOf_b101
  repeat' first | with_reducible exact HQ | with_reducible exact HQ _ _ | with_reducible exact fun h => h | with_reducible refine mo_and ?_ ?_ | with_reducible refine mo_ex (fun _ => ?_) | with_reducible refine mo_all (fun _ => ?_) | intro _
theorem mq_11_styleOf_b95 {b1 : Nat} {nb1 : Nat} {l1 : Int32} {l2 : Int32} {l3 : Int32} {l4 : Int32} {l5 : Int32} {l6 : Int32} {l7 : Int32} {l8 : Int32} {w : Mem} {Q Q9 : Int32 → Mem → Prop} {L15 L159 : Int32 → Int32 → Int32 → Int32 → Int32 → Int32 → Int32 → Int32 → Mem → Prop} (HQ : ∀ x0 x1, Q x0 x1 → Q9 x0 x1) (HL15 : ∀ x0 x1 x2 x3 x4 x5 x6 x7 x8, L15 x0 x1 x2 x3 x4 x5 x6 x7 x8 → L159 x0 x1 x2 x3 x4 x5 x6 x7 x8) : wp_11_styleOf_b95 b1 nb1 Q L15 l1 l2 l3 l4 l5 l6 l7 l8 w → wp_11_styleOf_b95 b1 nb1 Q9 L159 l1 l2 l3 l4 l5 l6 l7 l8 w := by
  unfold wp_11_styleOf_b95
  repeat' first | with_reducible exact HQ | with_reducible exact HQ _ _ | with_reducible exact HL15 | with_reducible exact HL15 _ _ _ _ _ _ _ _ _ | with_reducible exact fun h => h | with_reducible refine mo_and ?_ ?_ | with_reducible refine mo_ex (fun _ => ?_) | with_reducible refine mo_all (fun _ => ?_) | intro _
theorem mq_11_styleOf_b83 {b1 : Nat} {nb1 : Nat} {l1 : Int32} {l2 : Int32} {l3 : Int32} {l4 : Int32} {l5 : Int32} {l6 : Int32} {l8 : Int32} {l9 : Int32} {s0 : Int32} {w : Mem} {Q Q9 : Int32 → Mem → Prop} {L15 L159 : Int32 → Int32 → Int32 → Int32 → Int32 → Int32 → Int32 → Int32 → Mem → Prop} (HQ : ∀ x0 x1, Q x0 x1 → Q9 x0 x1) (HL15 : ∀ x0 x1 x2 x3 x4 x5 x6 x7 x8, L15 x0 x1 x2 x3 x4 x5 x6 x7 x8 → L159 x0 x1 x2 x3 x4 x5 x6 x7 x8) : wp_11_styleOf_b83 b1 nb1 Q L15 l1 l2 l3 l4 l5 l6 l8 l9 s0 w → wp_11_styleOf_b83 b1 nb1 Q9 L159 l1 l2 l3 l4 l5 l6 l8 l9 s0 w := by
  unfold wp_11_styleOf_b83
  repeat' first | with_reducible exact HQ | with_reducible exact HQ _ _ | with_reducible exact HL15 | with_reducible exact HL15 _ _ _ _ _ _ _ _ _ | with_reducible exact fun h => h | with_reducible refine mo_and ?_ ?_ | with_reducible refine mo_ex (fun _ => ?_) | with_reducible refine mq_11_styleOf_b95 ?_ ?_ | with_reducible refine mo_all (fun _ => ?_) | intro _
theorem mq_11_styleOf_b64 {b1 : Nat} {nb1 : Nat} {l1 : Int32} {l2 : Int32} {l3 : Int32} {l4 : Int32} {l5 : Int32} {l7 : Int32} {l8 : Int32} {l9 : Int32} {s0 : Int32} {w : Mem} {Q Q9 : Int32 → Mem → Prop} {L15 L159 : Int32 → Int32 → Int32 → Int32 → Int32 → Int32 → Int32 → Int32 → Mem → Prop} (HQ : ∀ x0 x1, Q x0 x1 → Q9 x0 x1) (HL15 : ∀ x0 x1 x2 x3 x4 x5 x6 x7 x8, L15 x0 x1 x2 x3 x4 x5 x6 x7 x8 → L159 x0 x1 x2 x3 x4 x5 x6 x7 x8) : wp_11_styleOf_b64 b1 nb1 Q L15 l1 l2 l3 l4 l5 l7 l8 l9 s0 w → wp_11_styleOf_b64 b1 nb1 Q9 L159 l1 l2 l3 l4 l5 l7 l8 l9 s0 w := by
  unfold wp_11_styleOf_b64
  repeat' first | with_reducible exact HQ | with_reducible exact HQ _ _ | with_reducible exact HL15 | with_reducible exact HL15 _ _ _ _ _ _ _ _ _ | with_reducible exact fun h => h | with_reducible refine mo_and ?_ ?_ | with_reducible refine mo_ex (fun _ => ?_) | with_reducible refine mq_11_styleOf_b83 ?_ ?_ | with_reducible refine mo_all (fun _ => ?_) | intro _
theorem mq_11_styleOf_b15 {b1 : Nat} {nb1 : Nat} {Q Q9 : Int32 → Mem → Prop} (HQ : ∀ x0 x1, Q x0 x1 → Q9 x0 x1) : ∀ (y0 : Nat) (y1 : Int32) (y2 : Int32) (y3 : Int32) (y4 : Int32) (y5 : Int32) (y6 : Int32) (y7 : Int32) (y8 : Int32) (y9 : Mem), wp_11_styleOf_b15 b1 nb1 Q y0 y1 y2 y3 y4 y5 y6 y7 y8 y9 → wp_11_styleOf_b15 b1 nb1 Q9 y0 y1 y2 y3 y4 y5 y6 y7 y8 y9 := by
  intro n
  induction n with
  | zero => exact fun _ _ _ _ _ _ _ _ _ h => h
  | succ n ih =>
    intro y1 y2 y3 y4 y5 y6 y7 y8 y9
    unfold wp_11_styleOf_b15
    repeat' first | with_reducible exact HQ | with_reducible exact HQ _ _ | with_reducible exact ih | with_reducible exact ih _ _ _ _ _ _ _ _ _ | with_reducible exact fun h => h | with_reducible refine mo_and ?_ ?_ | with_reducible refine mo_ex (fun _ => ?_) | with_reducible refine mq_11_styleOf_b101 ?_ | with_reducible refine mq_11_styleOf_b64 ?_ ?_ | with_reducible refine mq_11_styleOf_b95 ?_ ?_ | with_reducible refine mo_all (fun _ => ?_) | intro _
theorem mq_11_styleOf {b1 : Nat} {nb1 : Nat} {a2 : Int32} {a3 : Int32} {a4 : Int32} {w : Mem} {Q Q9 : Int32 → Mem → Prop} (HQ : ∀ x0 x1, Q x0 x1 → Q9 x0 x1) : wp_11_styleOf b1 nb1 a2 a3 a4 w Q → wp_11_styleOf b1 nb1 a2 a3 a4 w Q9 := by
  unfold wp_11_styleOf
  repeat' first | with_reducible exact HQ | with_reducible exact HQ _ _ | with_reducible exact fun h => h | with_reducible refine mo_and ?_ ?_ | with_reducible refine mo_ex (fun _ => ?_) | with_reducible refine mq_11_styleOf_b15 ?_ _ _ _ _ _ _ _ _ _ _ | with_reducible refine mo_all (fun _ => ?_) | intro _
theorem mq_0_givenFor {a1 : Int32} {w : Mem} {Q Q9 : Int32 → Mem → Prop} (HQ : ∀ x0 x1, Q x0 x1 → Q9 x0 x1) : wp_0_givenFor a1 w Q → wp_0_givenFor a1 w Q9 := by
  unfold wp_0_givenFor
  repeat' first | with_reducible exact HQ | with_reducible exact HQ _ _ | with_reducible exact fun h => h | with_reducible refine mo_and ?_ ?_ | with_reducible refine mo_ex (fun _ => ?_) | with_reducible refine mq_2_set ?_ | with_reducible refine mq_2_tells ?_ | with_reducible refine mq_11_held ?_ | with_reducible refine mo_all (fun _ => ?_) | intro _
theorem mq_0_pointsFor {a1 : Int32} {a2 : Int32} {a3 : Int32} {a4 : Int32} {w : Mem} {Q Q9 : Int32 → Mem → Prop} (HQ : ∀ x0 x1, Q x0 x1 → Q9 x0 x1) : wp_0_pointsFor a1 a2 a3 a4 w Q → wp_0_pointsFor a1 a2 a3 a4 w Q9 := by
  unfold wp_0_pointsFor
  repeat' first | with_reducible exact HQ | with_reducible exact HQ _ _ | with_reducible exact fun h => h | with_reducible refine mo_and ?_ ?_ | with_reducible refine mo_ex (fun _ => ?_) | with_reducible refine mo_all (fun _ => ?_) | intro _
theorem mq_0_judge_b112 {l1 : Int32} {l3 : Int32} {l5 : Int32} {s1 : Int32} {s2 : Int32} {w : Mem} {Q Q9 : Mem → Prop} {L40 L409 : Int32 → Int32 → Int32 → Mem → Prop} (HQ : ∀ x0, Q x0 → Q9 x0) (HL40 : ∀ x0 x1 x2 x3, L40 x0 x1 x2 x3 → L409 x0 x1 x2 x3) : wp_0_judge_b112 Q L40 l1 l3 l5 s1 s2 w → wp_0_judge_b112 Q9 L409 l1 l3 l5 s1 s2 w := by
  unfold wp_0_judge_b112
  repeat' first | with_reducible exact HQ | with_reducible exact HQ _ | with_reducible exact HL40 | with_reducible exact HL40 _ _ _ _ | with_reducible exact fun h => h | with_reducible refine mo_and ?_ ?_ | with_reducible refine mo_ex (fun _ => ?_) | with_reducible refine mq_2_set ?_ | with_reducible refine mq_2_tells ?_ | with_reducible refine mq_11_held ?_ | with_reducible refine mo_all (fun _ => ?_) | intro _
theorem mq_0_judge_b40  {Q Q9 : Mem → Prop} (HQ : ∀ x0, Q x0 → Q9 x0) : ∀ (y0 : Nat) (y1 : Int32) (y2 : Int32) (y3 : Int32) (y4 : Mem), wp_0_judge_b40 Q y0 y1 y2 y3 y4 → wp_0_judge_b40 Q9 y0 y1 y2 y3 y4 := by
  intro n
  induction n with
  | zero => exact fun _ _ _ _ h => h
  | succ n ih =>
    intro y1 y2 y3 y4
    unfold wp_0_judge_b40
    repeat' first | with_reducible exact HQ | with_reducible exact HQ _ | with_reducible exact ih | with_reducible exact ih _ _ _ _ | with_reducible exact fun h => h | with_reducible refine mo_and ?_ ?_ | with_reducible refine mo_ex (fun _ => ?_) | with_reducible refine mq_11_styleOf ?_ | with_reducible refine mq_0_givenFor ?_ | with_reducible refine mq_0_pointsFor ?_ | with_reducible refine mq_2_set ?_ | with_reducible refine mq_0_judge_b112 ?_ ?_ | with_reducible refine mo_all (fun _ => ?_) | intro _
theorem mq_0_judge {a1 : Int32} {a2 : Int32} {a3 : Int32} {w : Mem} {Q Q9 : Mem → Prop} (HQ : ∀ x0, Q x0 → Q9 x0) : wp_0_judge a1 a2 a3 w Q → wp_0_judge a1 a2 a3 w Q9 := by
  unfold wp_0_judge
  repeat' first | with_reducible exact HQ | with_reducible exact HQ _ | with_reducible exact fun h => h | with_reducible refine mo_and ?_ ?_ | with_reducible refine mo_ex (fun _ => ?_) | with_reducible refine mq_2_set ?_ | with_reducible refine mq_0_judge_b40 ?_ _ _ _ _ _ | with_reducible refine mo_all (fun _ => ?_) | intro _
theorem mq_J7_fill_53178_b5 {b1 : Nat} {nb1 : Nat} {Q Q9 : Mem → Prop} (HQ : ∀ x0, Q x0 → Q9 x0) : ∀ (y0 : Nat) (y1 : Int32) (y2 : Int32) (y3 : Int32) (y4 : Mem), wp_J7_fill_53178_b5 b1 nb1 Q y0 y1 y2 y3 y4 → wp_J7_fill_53178_b5 b1 nb1 Q9 y0 y1 y2 y3 y4 := by
  intro n
  induction n with
  | zero => exact fun _ _ _ _ h => h
  | succ n ih =>
    intro y1 y2 y3 y4
    unfold wp_J7_fill_53178_b5
    repeat' first | with_reducible exact HQ | with_reducible exact HQ _ | with_reducible exact ih | with_reducible exact ih _ _ _ _ | with_reducible exact fun h => h | with_reducible refine mo_and ?_ ?_ | with_reducible refine mo_ex (fun _ => ?_) | with_reducible refine mo_all (fun _ => ?_) | intro _
theorem mq_J7_fill_53178 {b1 : Nat} {nb1 : Nat} {a2 : Int32} {w : Mem} {Q Q9 : Mem → Prop} (HQ : ∀ x0, Q x0 → Q9 x0) : wp_J7_fill_53178 b1 nb1 a2 w Q → wp_J7_fill_53178 b1 nb1 a2 w Q9 := by
  unfold wp_J7_fill_53178
  repeat' first | with_reducible exact HQ | with_reducible exact HQ _ | with_reducible exact fun h => h | with_reducible refine mo_and ?_ ?_ | with_reducible refine mo_ex (fun _ => ?_) | with_reducible refine mq_J7_fill_53178_b5 ?_ _ _ _ _ _ | with_reducible refine mo_all (fun _ => ?_) | intro _
theorem mq_0_mostStyle {w : Mem} {Q Q9 : Int32 → Mem → Prop} (HQ : ∀ x0 x1, Q x0 x1 → Q9 x0 x1) : wp_0_mostStyle w Q → wp_0_mostStyle w Q9 := by
  unfold wp_0_mostStyle
  repeat' first | with_reducible exact HQ | with_reducible exact HQ _ _ | with_reducible exact fun h => h | with_reducible refine mo_and ?_ ?_ | with_reducible refine mo_ex (fun _ => ?_) | with_reducible refine mq_J7_fill_53178 ?_ | with_reducible refine mq_11_styleOf ?_ | with_reducible refine mo_all (fun _ => ?_) | intro _
theorem mq_1_clear {w : Mem} {Q Q9 : Mem → Prop} (HQ : ∀ x0, Q x0 → Q9 x0) : wp_1_clear w Q → wp_1_clear w Q9 := by
  unfold wp_1_clear
  repeat' first | with_reducible exact HQ | with_reducible exact HQ _ | with_reducible exact fun h => h | with_reducible refine mo_and ?_ ?_ | with_reducible refine mo_ex (fun _ => ?_) | with_reducible refine mo_all (fun _ => ?_) | intro _
theorem mq_5_save {k : Nat} {b1 : Nat} {nb1 : Nat} {w : Mem} {Q Q9 : Mem → Prop} (HQ : ∀ x0, Q x0 → Q9 x0) : wp_5_save k b1 nb1 w Q → wp_5_save k b1 nb1 w Q9 := by
  unfold wp_5_save
  repeat' first | with_reducible exact HQ | with_reducible exact HQ _ | with_reducible exact fun h => h | with_reducible refine mo_and ?_ ?_ | with_reducible refine mo_ex (fun _ => ?_) | with_reducible refine mo_all (fun _ => ?_) | intro _
theorem mq_1_keep {k1 : Nat} {w : Mem} {Q Q9 : Mem → Prop} (HQ : ∀ x0, Q x0 → Q9 x0) : wp_1_keep k1 w Q → wp_1_keep k1 w Q9 := by
  unfold wp_1_keep
  repeat' first | with_reducible exact HQ | with_reducible exact HQ _ | with_reducible exact fun h => h | with_reducible refine mo_and ?_ ?_ | with_reducible refine mo_ex (fun _ => ?_) | with_reducible refine mq_5_save ?_ | with_reducible refine mo_all (fun _ => ?_) | intro _
theorem mq_5_load {k : Nat} {b1 : Nat} {nb1 : Nat} {w : Mem} {Q Q9 : Mem → Prop} (HQ : ∀ x0, Q x0 → Q9 x0) : wp_5_load k b1 nb1 w Q → wp_5_load k b1 nb1 w Q9 := by
  unfold wp_5_load
  repeat' first | with_reducible exact HQ | with_reducible exact HQ _ | with_reducible exact fun h => h | with_reducible refine mo_and ?_ ?_ | with_reducible refine mo_ex (fun _ => ?_) | with_reducible refine mo_all (fun _ => ?_) | intro _
theorem mq_1_takeBack {k1 : Nat} {w : Mem} {Q Q9 : Int32 → Mem → Prop} (HQ : ∀ x0 x1, Q x0 x1 → Q9 x0 x1) : wp_1_takeBack k1 w Q → wp_1_takeBack k1 w Q9 := by
  unfold wp_1_takeBack
  repeat' first | with_reducible exact HQ | with_reducible exact HQ _ _ | with_reducible exact fun h => h | with_reducible refine mo_and ?_ ?_ | with_reducible refine mo_ex (fun _ => ?_) | with_reducible refine mq_5_load ?_ | with_reducible refine mo_all (fun _ => ?_) | intro _
theorem mq_11_within_b14 {w : Mem} {Q Q9 : Int32 → Mem → Prop} (HQ : ∀ x0 x1, Q x0 x1 → Q9 x0 x1) : wp_11_within_b14 Q w → wp_11_within_b14 Q9 w := by
  unfold wp_11_within_b14
  repeat' first | with_reducible exact HQ | with_reducible exact HQ _ _ | with_reducible exact fun h => h | with_reducible refine mo_and ?_ ?_ | with_reducible refine mo_ex (fun _ => ?_) | with_reducible refine mo_all (fun _ => ?_) | intro _
theorem mq_11_within {a1 : Int32} {a2 : Int32} {a3 : Int32} {w : Mem} {Q Q9 : Int32 → Mem → Prop} (HQ : ∀ x0 x1, Q x0 x1 → Q9 x0 x1) : wp_11_within a1 a2 a3 w Q → wp_11_within a1 a2 a3 w Q9 := by
  unfold wp_11_within
  repeat' first | with_reducible exact HQ | with_reducible exact HQ _ _ | with_reducible exact fun h => h | with_reducible refine mo_and ?_ ?_ | with_reducible refine mo_ex (fun _ => ?_) | with_reducible refine mq_11_within_b14 ?_ | with_reducible refine mo_all (fun _ => ?_) | intro _
theorem mq_5_begin_b42 {k : Nat} {Q Q9 : Mem → Prop} (HQ : ∀ x0, Q x0 → Q9 x0) : ∀ (y0 : Nat) (y1 : Int32) (y2 : Mem), wp_5_begin_b42 k Q y0 y1 y2 → wp_5_begin_b42 k Q9 y0 y1 y2 := by
  intro n
  induction n with
  | zero => exact fun _ _ h => h
  | succ n ih =>
    intro y1 y2
    unfold wp_5_begin_b42
    repeat' first | with_reducible exact HQ | with_reducible exact HQ _ | with_reducible exact ih | with_reducible exact ih _ _ | with_reducible exact fun h => h | with_reducible refine mo_and ?_ ?_ | with_reducible refine mo_ex (fun _ => ?_) | with_reducible refine mq_J7_fill_53178 ?_ | with_reducible refine mo_all (fun _ => ?_) | intro _
theorem mq_5_begin {k : Nat} {w : Mem} {Q Q9 : Mem → Prop} (HQ : ∀ x0, Q x0 → Q9 x0) : wp_5_begin k w Q → wp_5_begin k w Q9 := by
  unfold wp_5_begin
  repeat' first | with_reducible exact HQ | with_reducible exact HQ _ | with_reducible exact fun h => h | with_reducible refine mo_and ?_ ?_ | with_reducible refine mo_ex (fun _ => ?_) | with_reducible refine mq_5_begin_b42 ?_ _ _ _ | with_reducible refine mo_all (fun _ => ?_) | intro _
theorem mq_5_turnOrder_b2 {k : Nat} {Q Q9 : Mem → Prop} (HQ : ∀ x0, Q x0 → Q9 x0) : ∀ (y0 : Nat) (y1 : Int32) (y2 : Mem), wp_5_turnOrder_b2 k Q y0 y1 y2 → wp_5_turnOrder_b2 k Q9 y0 y1 y2 := by
  intro n
  induction n with
  | zero => exact fun _ _ h => h
  | succ n ih =>
    intro y1 y2
    unfold wp_5_turnOrder_b2
    repeat' first | with_reducible exact HQ | with_reducible exact HQ _ | with_reducible exact ih | with_reducible exact ih _ _ | with_reducible exact fun h => h | with_reducible refine mo_and ?_ ?_ | with_reducible refine mo_ex (fun _ => ?_) | with_reducible refine mo_all (fun _ => ?_) | intro _
theorem mq_5_turnOrder {k : Nat} {w : Mem} {Q Q9 : Mem → Prop} (HQ : ∀ x0, Q x0 → Q9 x0) : wp_5_turnOrder k w Q → wp_5_turnOrder k w Q9 := by
  unfold wp_5_turnOrder
  repeat' first | with_reducible exact HQ | with_reducible exact HQ _ | with_reducible exact fun h => h | with_reducible refine mo_and ?_ ?_ | with_reducible refine mo_ex (fun _ => ?_) | with_reducible refine mq_5_turnOrder_b2 ?_ _ _ _ | with_reducible refine mo_all (fun _ => ?_) | intro _
theorem mq_5_copy {k : Nat} {k1 : Nat} {w : Mem} {Q Q9 : Mem → Prop} (HQ : ∀ x0, Q x0 → Q9 x0) : wp_5_copy k k1 w Q → wp_5_copy k k1 w Q9 := by
  unfold wp_5_copy
  repeat' first | with_reducible exact HQ | with_reducible exact HQ _ | with_reducible exact fun h => h | with_reducible refine mo_and ?_ ?_ | with_reducible refine mo_ex (fun _ => ?_) | with_reducible refine mo_all (fun _ => ?_) | intro _
theorem mq_5_nextMan_b32 {k : Nat} {w : Mem} {Q Q9 : Int32 → Mem → Prop} (HQ : ∀ x0 x1, Q x0 x1 → Q9 x0 x1) : wp_5_nextMan_b32 k Q w → wp_5_nextMan_b32 k Q9 w := by
  unfold wp_5_nextMan_b32
  repeat' first | with_reducible exact HQ | with_reducible exact HQ _ _ | with_reducible exact fun h => h | with_reducible refine mo_and ?_ ?_ | with_reducible refine mo_ex (fun _ => ?_) | with_reducible refine mo_all (fun _ => ?_) | intro _
theorem mq_5_nextMan {k : Nat} {w : Mem} {Q Q9 : Int32 → Mem → Prop} (HQ : ∀ x0 x1, Q x0 x1 → Q9 x0 x1) : wp_5_nextMan k w Q → wp_5_nextMan k w Q9 := by
  unfold wp_5_nextMan
  repeat' first | with_reducible exact HQ | with_reducible exact HQ _ _ | with_reducible exact fun h => h | with_reducible refine mo_and ?_ ?_ | with_reducible refine mo_ex (fun _ => ?_) | with_reducible refine mq_5_nextMan_b32 ?_ | with_reducible refine mo_all (fun _ => ?_) | intro _
theorem mq_5_isToStart_b5 {k : Nat} {Q Q9 : Int32 → Mem → Prop} (HQ : ∀ x0 x1, Q x0 x1 → Q9 x0 x1) : ∀ (y0 : Nat) (y1 : Int32) (y2 : Int32) (y3 : Mem), wp_5_isToStart_b5 k Q y0 y1 y2 y3 → wp_5_isToStart_b5 k Q9 y0 y1 y2 y3 := by
  intro n
  induction n with
  | zero => exact fun _ _ _ h => h
  | succ n ih =>
    intro y1 y2 y3
    unfold wp_5_isToStart_b5
    repeat' first | with_reducible exact HQ | with_reducible exact HQ _ _ | with_reducible exact ih | with_reducible exact ih _ _ _ | with_reducible exact fun h => h | with_reducible refine mo_and ?_ ?_ | with_reducible refine mo_ex (fun _ => ?_) | with_reducible refine mo_all (fun _ => ?_) | intro _
theorem mq_5_isToStart {k : Nat} {a1 : Int32} {w : Mem} {Q Q9 : Int32 → Mem → Prop} (HQ : ∀ x0 x1, Q x0 x1 → Q9 x0 x1) : wp_5_isToStart k a1 w Q → wp_5_isToStart k a1 w Q9 := by
  unfold wp_5_isToStart
  repeat' first | with_reducible exact HQ | with_reducible exact HQ _ _ | with_reducible exact fun h => h | with_reducible refine mo_and ?_ ?_ | with_reducible refine mo_ex (fun _ => ?_) | with_reducible refine mq_5_isToStart_b5 ?_ _ _ _ _ | with_reducible refine mo_all (fun _ => ?_) | intro _
theorem mq_5_cellsOf {a1 : Int32} {a2 : Int32} {w : Mem} {Q Q9 : Int32 → Mem → Prop} (HQ : ∀ x0 x1, Q x0 x1 → Q9 x0 x1) : wp_5_cellsOf a1 a2 w Q → wp_5_cellsOf a1 a2 w Q9 := by
  unfold wp_5_cellsOf
  repeat' first | with_reducible exact HQ | with_reducible exact HQ _ _ | with_reducible exact fun h => h | with_reducible refine mo_and ?_ ?_ | with_reducible refine mo_ex (fun _ => ?_) | with_reducible refine mo_all (fun _ => ?_) | intro _
theorem mq_5_cell_b32 {k : Nat} {w : Mem} {Q Q9 : Int32 → Mem → Prop} (HQ : ∀ x0 x1, Q x0 x1 → Q9 x0 x1) : wp_5_cell_b32 k Q w → wp_5_cell_b32 k Q9 w := by
  unfold wp_5_cell_b32
  repeat' first | with_reducible exact HQ | with_reducible exact HQ _ _ | with_reducible exact fun h => h | with_reducible refine mo_and ?_ ?_ | with_reducible refine mo_ex (fun _ => ?_) | with_reducible refine mo_all (fun _ => ?_) | intro _
theorem mq_5_cell {k : Nat} {a1 : Int32} {a2 : Int32} {a3 : Int32} {w : Mem} {Q Q9 : Int32 → Mem → Prop} (HQ : ∀ x0 x1, Q x0 x1 → Q9 x0 x1) : wp_5_cell k a1 a2 a3 w Q → wp_5_cell k a1 a2 a3 w Q9 := by
  unfold wp_5_cell
  repeat' first | with_reducible exact HQ | with_reducible exact HQ _ _ | with_reducible exact fun h => h | with_reducible refine mo_and ?_ ?_ | with_reducible refine mo_ex (fun _ => ?_) | with_reducible refine mq_5_cellsOf ?_ | with_reducible refine mq_5_cell_b32 ?_ | with_reducible refine mo_all (fun _ => ?_) | intro _
theorem mq_5_hasJump_b35 {k : Nat} {w : Mem} {Q Q9 : Int32 → Mem → Prop} (HQ : ∀ x0 x1, Q x0 x1 → Q9 x0 x1) : wp_5_hasJump_b35 k Q w → wp_5_hasJump_b35 k Q9 w := by
  unfold wp_5_hasJump_b35
  repeat' first | with_reducible exact HQ | with_reducible exact HQ _ _ | with_reducible exact fun h => h | with_reducible refine mo_and ?_ ?_ | with_reducible refine mo_ex (fun _ => ?_) | with_reducible refine mo_all (fun _ => ?_) | intro _
theorem mq_5_hasJump {k : Nat} {a1 : Int32} {a2 : Int32} {w : Mem} {Q Q9 : Int32 → Mem → Prop} (HQ : ∀ x0 x1, Q x0 x1 → Q9 x0 x1) : wp_5_hasJump k a1 a2 w Q → wp_5_hasJump k a1 a2 w Q9 := by
  unfold wp_5_hasJump
  repeat' first | with_reducible exact HQ | with_reducible exact HQ _ _ | with_reducible exact fun h => h | with_reducible refine mo_and ?_ ?_ | with_reducible refine mo_ex (fun _ => ?_) | with_reducible refine mq_11_within ?_ | with_reducible refine mq_5_hasJump_b35 ?_ | with_reducible refine mq_5_cell ?_ | with_reducible refine mo_all (fun _ => ?_) | intro _
theorem mq_5_styleWithout {k : Nat} {a1 : Int32} {a2 : Int32} {a3 : Int32} {w : Mem} {Q Q9 : Int32 → Mem → Prop} (HQ : ∀ x0 x1, Q x0 x1 → Q9 x0 x1) : wp_5_styleWithout k a1 a2 a3 w Q → wp_5_styleWithout k a1 a2 a3 w Q9 := by
  unfold wp_5_styleWithout
  repeat' first | with_reducible exact HQ | with_reducible exact HQ _ _ | with_reducible exact fun h => h | with_reducible refine mo_and ?_ ?_ | with_reducible refine mo_ex (fun _ => ?_) | with_reducible refine mq_5_cellsOf ?_ | with_reducible refine mq_11_styleOf ?_ | with_reducible refine mo_all (fun _ => ?_) | intro _
theorem mq_11_rankAmong_b52 {b1 : Nat} {nb1 : Nat} {l1 : Int32} {l2 : Int32} {l3 : Int32} {l4 : Int32} {w : Mem} {Q Q9 : Int32 → Mem → Prop} {L5 L59 : Int32 → Int32 → Int32 → Int32 → Mem → Prop} (HQ : ∀ x0 x1, Q x0 x1 → Q9 x0 x1) (HL5 : ∀ x0 x1 x2 x3 x4, L5 x0 x1 x2 x3 x4 → L59 x0 x1 x2 x3 x4) : wp_11_rankAmong_b52 b1 nb1 Q L5 l1 l2 l3 l4 w → wp_11_rankAmong_b52 b1 nb1 Q9 L59 l1 l2 l3 l4 w := by
  unfold wp_11_rankAmong_b52
  repeat' first | with_reducible exact HQ | with_reducible exact HQ _ _ | with_reducible exact HL5 | with_reducible exact HL5 _ _ _ _ _ | with_reducible exact fun h => h | with_reducible refine mo_and ?_ ?_ | with_reducible refine mo_ex (fun _ => ?_) | with_reducible refine mo_all (fun _ => ?_) | intro _
theorem mq_11_rankAmong_b42 {b1 : Nat} {nb1 : Nat} {l1 : Int32} {l2 : Int32} {l3 : Int32} {l4 : Int32} {s0 : Int32} {w : Mem} {Q Q9 : Int32 → Mem → Prop} {L5 L59 : Int32 → Int32 → Int32 → Int32 → Mem → Prop} (HQ : ∀ x0 x1, Q x0 x1 → Q9 x0 x1) (HL5 : ∀ x0 x1 x2 x3 x4, L5 x0 x1 x2 x3 x4 → L59 x0 x1 x2 x3 x4) : wp_11_rankAmong_b42 b1 nb1 Q L5 l1 l2 l3 l4 s0 w → wp_11_rankAmong_b42 b1 nb1 Q9 L59 l1 l2 l3 l4 s0 w := by
  unfold wp_11_rankAmong_b42
  repeat' first | with_reducible exact HQ | with_reducible exact HQ _ _ | with_reducible exact HL5 | with_reducible exact HL5 _ _ _ _ _ | with_reducible exact fun h => h | with_reducible refine mo_and ?_ ?_ | with_reducible refine mo_ex (fun _ => ?_) | with_reducible refine mq_11_rankAmong_b52 ?_ ?_ | with_reducible refine mo_all (fun _ => ?_) | intro _
theorem mq_11_rankAmong_b41 {b1 : Nat} {nb1 : Nat} {l1 : Int32} {l2 : Int32} {l3 : Int32} {l4 : Int32} {w : Mem} {Q Q9 : Int32 → Mem → Prop} {L5 L59 : Int32 → Int32 → Int32 → Int32 → Mem → Prop} (HQ : ∀ x0 x1, Q x0 x1 → Q9 x0 x1) (HL5 : ∀ x0 x1 x2 x3 x4, L5 x0 x1 x2 x3 x4 → L59 x0 x1 x2 x3 x4) : wp_11_rankAmong_b41 b1 nb1 Q L5 l1 l2 l3 l4 w → wp_11_rankAmong_b41 b1 nb1 Q9 L59 l1 l2 l3 l4 w := by
  unfold wp_11_rankAmong_b41
  repeat' first | with_reducible exact HQ | with_reducible exact HQ _ _ | with_reducible exact HL5 | with_reducible exact HL5 _ _ _ _ _ | with_reducible exact fun h => h | with_reducible refine mo_and ?_ ?_ | with_reducible refine mo_ex (fun _ => ?_) | with_reducible refine mq_11_rankAmong_b42 ?_ ?_ | with_reducible refine mo_all (fun _ => ?_) | intro _
theorem mq_11_rankAmong_b37 {b1 : Nat} {nb1 : Nat} {l1 : Int32} {l2 : Int32} {l3 : Int32} {l4 : Int32} {w : Mem} {Q Q9 : Int32 → Mem → Prop} {L5 L59 : Int32 → Int32 → Int32 → Int32 → Mem → Prop} (HQ : ∀ x0 x1, Q x0 x1 → Q9 x0 x1) (HL5 : ∀ x0 x1 x2 x3 x4, L5 x0 x1 x2 x3 x4 → L59 x0 x1 x2 x3 x4) : wp_11_rankAmong_b37 b1 nb1 Q L5 l1 l2 l3 l4 w → wp_11_rankAmong_b37 b1 nb1 Q9 L59 l1 l2 l3 l4 w := by
  unfold wp_11_rankAmong_b37
  repeat' first | with_reducible exact HQ | with_reducible exact HQ _ _ | with_reducible exact HL5 | with_reducible exact HL5 _ _ _ _ _ | with_reducible exact fun h => h | with_reducible refine mo_and ?_ ?_ | with_reducible refine mo_ex (fun _ => ?_) | with_reducible refine mq_11_rankAmong_b42 ?_ ?_ | with_reducible refine mo_all (fun _ => ?_) | intro _
theorem mq_11_rankAmong_b5 {b1 : Nat} {nb1 : Nat} {Q Q9 : Int32 → Mem → Prop} (HQ : ∀ x0 x1, Q x0 x1 → Q9 x0 x1) : ∀ (y0 : Nat) (y1 : Int32) (y2 : Int32) (y3 : Int32) (y4 : Int32) (y5 : Mem), wp_11_rankAmong_b5 b1 nb1 Q y0 y1 y2 y3 y4 y5 → wp_11_rankAmong_b5 b1 nb1 Q9 y0 y1 y2 y3 y4 y5 := by
  intro n
  induction n with
  | zero => exact fun _ _ _ _ _ h => h
  | succ n ih =>
    intro y1 y2 y3 y4 y5
    unfold wp_11_rankAmong_b5
    repeat' first | with_reducible exact HQ | with_reducible exact HQ _ _ | with_reducible exact ih | with_reducible exact ih _ _ _ _ _ | with_reducible exact fun h => h | with_reducible refine mo_and ?_ ?_ | with_reducible refine mo_ex (fun _ => ?_) | with_reducible refine mq_11_rankAmong_b37 ?_ ?_ | with_reducible refine mq_11_rankAmong_b41 ?_ ?_ | with_reducible refine mo_all (fun _ => ?_) | intro _
theorem mq_11_rankAmong {b1 : Nat} {nb1 : Nat} {a2 : Int32} {a3 : Int32} {w : Mem} {Q Q9 : Int32 → Mem → Prop} (HQ : ∀ x0 x1, Q x0 x1 → Q9 x0 x1) : wp_11_rankAmong b1 nb1 a2 a3 w Q → wp_11_rankAmong b1 nb1 a2 a3 w Q9 := by
  unfold wp_11_rankAmong
  repeat' first | with_reducible exact HQ | with_reducible exact HQ _ _ | with_reducible exact fun h => h | with_reducible refine mo_and ?_ ?_ | with_reducible refine mo_ex (fun _ => ?_) | with_reducible refine mq_11_rankAmong_b5 ?_ _ _ _ _ _ _ | with_reducible refine mo_all (fun _ => ?_) | intro _
theorem mq_5_rankOf {k : Nat} {a1 : Int32} {w : Mem} {Q Q9 : Int32 → Mem → Prop} (HQ : ∀ x0 x1, Q x0 x1 → Q9 x0 x1) : wp_5_rankOf k a1 w Q → wp_5_rankOf k a1 w Q9 := by
  unfold wp_5_rankOf
  repeat' first | with_reducible exact HQ | with_reducible exact HQ _ _ | with_reducible exact fun h => h | with_reducible refine mo_and ?_ ?_ | with_reducible refine mo_ex (fun _ => ?_) | with_reducible refine mq_11_rankAmong ?_ | with_reducible refine mo_all (fun _ => ?_) | intro _
theorem mq_5_manOfRank_b2 {k : Nat} {Q Q9 : Int32 → Mem → Prop} (HQ : ∀ x0 x1, Q x0 x1 → Q9 x0 x1) : ∀ (y0 : Nat) (y1 : Int32) (y2 : Int32) (y3 : Mem), wp_5_manOfRank_b2 k Q y0 y1 y2 y3 → wp_5_manOfRank_b2 k Q9 y0 y1 y2 y3 := by
  intro n
  induction n with
  | zero => exact fun _ _ _ h => h
  | succ n ih =>
    intro y1 y2 y3
    unfold wp_5_manOfRank_b2
    repeat' first | with_reducible exact HQ | with_reducible exact HQ _ _ | with_reducible exact ih | with_reducible exact ih _ _ _ | with_reducible exact fun h => h | with_reducible refine mo_and ?_ ?_ | with_reducible refine mo_ex (fun _ => ?_) | with_reducible refine mq_5_rankOf ?_ | with_reducible refine mo_all (fun _ => ?_) | intro _
theorem mq_5_manOfRank {k : Nat} {a1 : Int32} {w : Mem} {Q Q9 : Int32 → Mem → Prop} (HQ : ∀ x0 x1, Q x0 x1 → Q9 x0 x1) : wp_5_manOfRank k a1 w Q → wp_5_manOfRank k a1 w Q9 := by
  unfold wp_5_manOfRank
  repeat' first | with_reducible exact HQ | with_reducible exact HQ _ _ | with_reducible exact fun h => h | with_reducible refine mo_and ?_ ?_ | with_reducible refine mo_ex (fun _ => ?_) | with_reducible refine mq_5_manOfRank_b2 ?_ _ _ _ _ | with_reducible refine mo_all (fun _ => ?_) | intro _
theorem mq_5_beginNextRound_b53 {k : Nat} {Q Q9 : Mem → Prop} (HQ : ∀ x0, Q x0 → Q9 x0) : ∀ (y0 : Nat) (y1 : Int32) (y2 : Mem), wp_5_beginNextRound_b53 k Q y0 y1 y2 → wp_5_beginNextRound_b53 k Q9 y0 y1 y2 := by
  intro n
  induction n with
  | zero => exact fun _ _ h => h
  | succ n ih =>
    intro y1 y2
    unfold wp_5_beginNextRound_b53
    repeat' first | with_reducible exact HQ | with_reducible exact HQ _ | with_reducible exact ih | with_reducible exact ih _ _ | with_reducible exact fun h => h | with_reducible refine mo_and ?_ ?_ | with_reducible refine mo_ex (fun _ => ?_) | with_reducible refine mq_5_manOfRank ?_ | with_reducible refine mo_all (fun _ => ?_) | intro _
theorem mq_5_beginNextRound_b48 {k : Nat} {s1 : Int32} {w : Mem} {Q Q9 : Mem → Prop} (HQ : ∀ x0, Q x0 → Q9 x0) : wp_5_beginNextRound_b48 k Q s1 w → wp_5_beginNextRound_b48 k Q9 s1 w := by
  unfold wp_5_beginNextRound_b48
  repeat' first | with_reducible exact HQ | with_reducible exact HQ _ | with_reducible exact fun h => h | with_reducible refine mo_and ?_ ?_ | with_reducible refine mo_ex (fun _ => ?_) | with_reducible refine mq_5_beginNextRound_b53 ?_ _ _ _ | with_reducible refine mo_all (fun _ => ?_) | intro _
theorem mq_5_beginNextRound {k : Nat} {w : Mem} {Q Q9 : Mem → Prop} (HQ : ∀ x0, Q x0 → Q9 x0) : wp_5_beginNextRound k w Q → wp_5_beginNextRound k w Q9 := by
  unfold wp_5_beginNextRound
  repeat' first | with_reducible exact HQ | with_reducible exact HQ _ | with_reducible exact fun h => h | with_reducible refine mo_and ?_ ?_ | with_reducible refine mo_ex (fun _ => ?_) | with_reducible refine mq_5_beginNextRound_b48 ?_ | with_reducible refine mo_all (fun _ => ?_) | intro _
theorem mq_5_enter {k : Nat} {a1 : Int32} {a2 : Int32} {a3 : Int32} {w : Mem} {Q Q9 : Mem → Prop} (HQ : ∀ x0, Q x0 → Q9 x0) : wp_5_enter k a1 a2 a3 w Q → wp_5_enter k a1 a2 a3 w Q9 := by
  unfold wp_5_enter
  repeat' first | with_reducible exact HQ | with_reducible exact HQ _ | with_reducible exact fun h => h | with_reducible refine mo_and ?_ ?_ | with_reducible refine mo_ex (fun _ => ?_) | with_reducible refine mq_5_cellsOf ?_ | with_reducible refine mq_11_within ?_ | with_reducible refine mq_5_beginNextRound ?_ | with_reducible refine mo_all (fun _ => ?_) | intro _
theorem mq_5_mostOfOthers_b34 {k : Nat} {l1 : Int32} {l2 : Int32} {l3 : Int32} {w : Mem} {Q Q9 : Int32 → Mem → Prop} {L4 L49 : Int32 → Int32 → Int32 → Mem → Prop} (HQ : ∀ x0 x1, Q x0 x1 → Q9 x0 x1) (HL4 : ∀ x0 x1 x2 x3, L4 x0 x1 x2 x3 → L49 x0 x1 x2 x3) : wp_5_mostOfOthers_b34 k Q L4 l1 l2 l3 w → wp_5_mostOfOthers_b34 k Q9 L49 l1 l2 l3 w := by
  unfold wp_5_mostOfOthers_b34
  repeat' first | with_reducible exact HQ | with_reducible exact HQ _ _ | with_reducible exact HL4 | with_reducible exact HL4 _ _ _ _ | with_reducible exact fun h => h | with_reducible refine mo_and ?_ ?_ | with_reducible refine mo_ex (fun _ => ?_) | with_reducible refine mo_all (fun _ => ?_) | intro _
theorem mq_5_mostOfOthers_b4 {k : Nat} {Q Q9 : Int32 → Mem → Prop} (HQ : ∀ x0 x1, Q x0 x1 → Q9 x0 x1) : ∀ (y0 : Nat) (y1 : Int32) (y2 : Int32) (y3 : Int32) (y4 : Mem), wp_5_mostOfOthers_b4 k Q y0 y1 y2 y3 y4 → wp_5_mostOfOthers_b4 k Q9 y0 y1 y2 y3 y4 := by
  intro n
  induction n with
  | zero => exact fun _ _ _ _ h => h
  | succ n ih =>
    intro y1 y2 y3 y4
    unfold wp_5_mostOfOthers_b4
    repeat' first | with_reducible exact HQ | with_reducible exact HQ _ _ | with_reducible exact ih | with_reducible exact ih _ _ _ _ | with_reducible exact fun h => h | with_reducible refine mo_and ?_ ?_ | with_reducible refine mo_ex (fun _ => ?_) | with_reducible refine mq_5_mostOfOthers_b34 ?_ ?_ | with_reducible refine mo_all (fun _ => ?_) | intro _
theorem mq_5_mostOfOthers {k : Nat} {a1 : Int32} {w : Mem} {Q Q9 : Int32 → Mem → Prop} (HQ : ∀ x0 x1, Q x0 x1 → Q9 x0 x1) : wp_5_mostOfOthers k a1 w Q → wp_5_mostOfOthers k a1 w Q9 := by
  unfold wp_5_mostOfOthers
  repeat' first | with_reducible exact HQ | with_reducible exact HQ _ _ | with_reducible exact fun h => h | with_reducible refine mo_and ?_ ?_ | with_reducible refine mo_ex (fun _ => ?_) | with_reducible refine mq_5_mostOfOthers_b4 ?_ _ _ _ _ _ | with_reducible refine mo_all (fun _ => ?_) | intro _
theorem mq_5_totalToBeFirst_b50 {k : Nat} {l1 : Int32} {l2 : Int32} {l3 : Int32} {w : Mem} {Q Q9 : Int32 → Mem → Prop} {L4 L49 : Int32 → Int32 → Int32 → Mem → Prop} (HQ : ∀ x0 x1, Q x0 x1 → Q9 x0 x1) (HL4 : ∀ x0 x1 x2 x3, L4 x0 x1 x2 x3 → L49 x0 x1 x2 x3) : wp_5_totalToBeFirst_b50 k Q L4 l1 l2 l3 w → wp_5_totalToBeFirst_b50 k Q9 L49 l1 l2 l3 w := by
  unfold wp_5_totalToBeFirst_b50
  repeat' first | with_reducible exact HQ | with_reducible exact HQ _ _ | with_reducible exact HL4 | with_reducible exact HL4 _ _ _ _ | with_reducible exact fun h => h | with_reducible refine mo_and ?_ ?_ | with_reducible refine mo_ex (fun _ => ?_) | with_reducible refine mo_all (fun _ => ?_) | intro _
theorem mq_5_totalToBeFirst_b46 {k : Nat} {l1 : Int32} {l3 : Int32} {s0 : Int32} {s1 : Int32} {w : Mem} {Q Q9 : Int32 → Mem → Prop} {L4 L49 : Int32 → Int32 → Int32 → Mem → Prop} (HQ : ∀ x0 x1, Q x0 x1 → Q9 x0 x1) (HL4 : ∀ x0 x1 x2 x3, L4 x0 x1 x2 x3 → L49 x0 x1 x2 x3) : wp_5_totalToBeFirst_b46 k Q L4 l1 l3 s0 s1 w → wp_5_totalToBeFirst_b46 k Q9 L49 l1 l3 s0 s1 w := by
  unfold wp_5_totalToBeFirst_b46
  repeat' first | with_reducible exact HQ | with_reducible exact HQ _ _ | with_reducible exact HL4 | with_reducible exact HL4 _ _ _ _ | with_reducible exact fun h => h | with_reducible refine mo_and ?_ ?_ | with_reducible refine mo_ex (fun _ => ?_) | with_reducible refine mq_5_totalToBeFirst_b50 ?_ ?_ | with_reducible refine mo_all (fun _ => ?_) | intro _
theorem mq_5_totalToBeFirst_b4 {k : Nat} {Q Q9 : Int32 → Mem → Prop} (HQ : ∀ x0 x1, Q x0 x1 → Q9 x0 x1) : ∀ (y0 : Nat) (y1 : Int32) (y2 : Int32) (y3 : Int32) (y4 : Mem), wp_5_totalToBeFirst_b4 k Q y0 y1 y2 y3 y4 → wp_5_totalToBeFirst_b4 k Q9 y0 y1 y2 y3 y4 := by
  intro n
  induction n with
  | zero => exact fun _ _ _ _ h => h
  | succ n ih =>
    intro y1 y2 y3 y4
    unfold wp_5_totalToBeFirst_b4
    repeat' first | with_reducible exact HQ | with_reducible exact HQ _ _ | with_reducible exact ih | with_reducible exact ih _ _ _ _ | with_reducible exact fun h => h | with_reducible refine mo_and ?_ ?_ | with_reducible refine mo_ex (fun _ => ?_) | with_reducible refine mq_5_totalToBeFirst_b50 ?_ ?_ | with_reducible refine mq_5_totalToBeFirst_b46 ?_ ?_ | with_reducible refine mo_all (fun _ => ?_) | intro _
theorem mq_5_totalToBeFirst {k : Nat} {a1 : Int32} {w : Mem} {Q Q9 : Int32 → Mem → Prop} (HQ : ∀ x0 x1, Q x0 x1 → Q9 x0 x1) : wp_5_totalToBeFirst k a1 w Q → wp_5_totalToBeFirst k a1 w Q9 := by
  unfold wp_5_totalToBeFirst
  repeat' first | with_reducible exact HQ | with_reducible exact HQ _ _ | with_reducible exact fun h => h | with_reducible refine mo_and ?_ ?_ | with_reducible refine mo_ex (fun _ => ?_) | with_reducible refine mq_5_totalToBeFirst_b4 ?_ _ _ _ _ _ | with_reducible refine mo_all (fun _ => ?_) | intro _
theorem mq_5_givenBy_b53 {k : Nat} {l1 : Int32} {l3 : Int32} {l4 : Int32} {s0 : Int32} {s1 : Int32} {w : Mem} {Q Q9 : Int32 → Mem → Prop} {L4 L49 : Int32 → Int32 → Int32 → Mem → Prop} {L21 L219 : Int32 → Int32 → Int32 → Int32 → Mem → Prop} (HQ : ∀ x0 x1, Q x0 x1 → Q9 x0 x1) (HL4 : ∀ x0 x1 x2 x3, L4 x0 x1 x2 x3 → L49 x0 x1 x2 x3) (HL21 : ∀ x0 x1 x2 x3 x4, L21 x0 x1 x2 x3 x4 → L219 x0 x1 x2 x3 x4) : wp_5_givenBy_b53 k Q L4 L21 l1 l3 l4 s0 s1 w → wp_5_givenBy_b53 k Q9 L49 L219 l1 l3 l4 s0 s1 w := by
  unfold wp_5_givenBy_b53
  repeat' first | with_reducible exact HQ | with_reducible exact HQ _ _ | with_reducible exact HL4 | with_reducible exact HL4 _ _ _ _ | with_reducible exact HL21 | with_reducible exact HL21 _ _ _ _ _ | with_reducible exact fun h => h | with_reducible refine mo_and ?_ ?_ | with_reducible refine mo_ex (fun _ => ?_) | with_reducible refine mo_all (fun _ => ?_) | intro _
theorem mq_5_givenBy_b21 {k : Nat} {Q Q9 : Int32 → Mem → Prop} {L4 L49 : Int32 → Int32 → Int32 → Mem → Prop} (HQ : ∀ x0 x1, Q x0 x1 → Q9 x0 x1) (HL4 : ∀ x0 x1 x2 x3, L4 x0 x1 x2 x3 → L49 x0 x1 x2 x3) : ∀ (y0 : Nat) (y1 : Int32) (y2 : Int32) (y3 : Int32) (y4 : Int32) (y5 : Mem), wp_5_givenBy_b21 k Q L4 y0 y1 y2 y3 y4 y5 → wp_5_givenBy_b21 k Q9 L49 y0 y1 y2 y3 y4 y5 := by
  intro n
  induction n with
  | zero => exact fun _ _ _ _ _ h => h
  | succ n ih =>
    intro y1 y2 y3 y4 y5
    unfold wp_5_givenBy_b21
    repeat' first | with_reducible exact HQ | with_reducible exact HQ _ _ | with_reducible exact HL4 | with_reducible exact HL4 _ _ _ _ | with_reducible exact ih | with_reducible exact ih _ _ _ _ _ | with_reducible exact fun h => h | with_reducible refine mo_and ?_ ?_ | with_reducible refine mo_ex (fun _ => ?_) | with_reducible refine mq_5_hasJump ?_ | with_reducible refine mq_5_givenBy_b53 ?_ ?_ ?_ | with_reducible refine mq_5_cell ?_ | with_reducible refine mo_all (fun _ => ?_) | intro _
theorem mq_5_givenBy_b4 {k : Nat} {Q Q9 : Int32 → Mem → Prop} (HQ : ∀ x0 x1, Q x0 x1 → Q9 x0 x1) : ∀ (y0 : Nat) (y1 : Int32) (y2 : Int32) (y3 : Int32) (y4 : Mem), wp_5_givenBy_b4 k Q y0 y1 y2 y3 y4 → wp_5_givenBy_b4 k Q9 y0 y1 y2 y3 y4 := by
  intro n
  induction n with
  | zero => exact fun _ _ _ _ h => h
  | succ n ih =>
    intro y1 y2 y3 y4
    unfold wp_5_givenBy_b4
    repeat' first | with_reducible exact HQ | with_reducible exact HQ _ _ | with_reducible exact ih | with_reducible exact ih _ _ _ _ | with_reducible exact fun h => h | with_reducible refine mo_and ?_ ?_ | with_reducible refine mo_ex (fun _ => ?_) | with_reducible refine mq_5_givenBy_b21 ?_ ?_ _ _ _ _ _ _ | with_reducible refine mo_all (fun _ => ?_) | intro _
theorem mq_5_givenBy {k : Nat} {a1 : Int32} {w : Mem} {Q Q9 : Int32 → Mem → Prop} (HQ : ∀ x0 x1, Q x0 x1 → Q9 x0 x1) : wp_5_givenBy k a1 w Q → wp_5_givenBy k a1 w Q9 := by
  unfold wp_5_givenBy
  repeat' first | with_reducible exact HQ | with_reducible exact HQ _ _ | with_reducible exact fun h => h | with_reducible refine mo_and ?_ ?_ | with_reducible refine mo_ex (fun _ => ?_) | with_reducible refine mq_5_givenBy_b4 ?_ _ _ _ _ _ | with_reducible refine mo_all (fun _ => ?_) | intro _
theorem mq_5_jumpsBeyond_b52 {k : Nat} {l1 : Int32} {l2 : Int32} {l3 : Int32} {l4 : Int32} {w : Mem} {Q Q9 : Int32 → Mem → Prop} {L4 L49 : Int32 → Int32 → Int32 → Mem → Prop} {L21 L219 : Int32 → Int32 → Int32 → Int32 → Mem → Prop} (HQ : ∀ x0 x1, Q x0 x1 → Q9 x0 x1) (HL4 : ∀ x0 x1 x2 x3, L4 x0 x1 x2 x3 → L49 x0 x1 x2 x3) (HL21 : ∀ x0 x1 x2 x3 x4, L21 x0 x1 x2 x3 x4 → L219 x0 x1 x2 x3 x4) : wp_5_jumpsBeyond_b52 k Q L4 L21 l1 l2 l3 l4 w → wp_5_jumpsBeyond_b52 k Q9 L49 L219 l1 l2 l3 l4 w := by
  unfold wp_5_jumpsBeyond_b52
  repeat' first | with_reducible exact HQ | with_reducible exact HQ _ _ | with_reducible exact HL4 | with_reducible exact HL4 _ _ _ _ | with_reducible exact HL21 | with_reducible exact HL21 _ _ _ _ _ | with_reducible exact fun h => h | with_reducible refine mo_and ?_ ?_ | with_reducible refine mo_ex (fun _ => ?_) | with_reducible refine mo_all (fun _ => ?_) | intro _
theorem mq_5_jumpsBeyond_b21 {k : Nat} {Q Q9 : Int32 → Mem → Prop} {L4 L49 : Int32 → Int32 → Int32 → Mem → Prop} (HQ : ∀ x0 x1, Q x0 x1 → Q9 x0 x1) (HL4 : ∀ x0 x1 x2 x3, L4 x0 x1 x2 x3 → L49 x0 x1 x2 x3) : ∀ (y0 : Nat) (y1 : Int32) (y2 : Int32) (y3 : Int32) (y4 : Int32) (y5 : Mem), wp_5_jumpsBeyond_b21 k Q L4 y0 y1 y2 y3 y4 y5 → wp_5_jumpsBeyond_b21 k Q9 L49 y0 y1 y2 y3 y4 y5 := by
  intro n
  induction n with
  | zero => exact fun _ _ _ _ _ h => h
  | succ n ih =>
    intro y1 y2 y3 y4 y5
    unfold wp_5_jumpsBeyond_b21
    repeat' first | with_reducible exact HQ | with_reducible exact HQ _ _ | with_reducible exact HL4 | with_reducible exact HL4 _ _ _ _ | with_reducible exact ih | with_reducible exact ih _ _ _ _ _ | with_reducible exact fun h => h | with_reducible refine mo_and ?_ ?_ | with_reducible refine mo_ex (fun _ => ?_) | with_reducible refine mq_5_hasJump ?_ | with_reducible refine mq_5_jumpsBeyond_b52 ?_ ?_ ?_ | with_reducible refine mq_5_cell ?_ | with_reducible refine mo_all (fun _ => ?_) | intro _
theorem mq_5_jumpsBeyond_b4 {k : Nat} {Q Q9 : Int32 → Mem → Prop} (HQ : ∀ x0 x1, Q x0 x1 → Q9 x0 x1) : ∀ (y0 : Nat) (y1 : Int32) (y2 : Int32) (y3 : Int32) (y4 : Mem), wp_5_jumpsBeyond_b4 k Q y0 y1 y2 y3 y4 → wp_5_jumpsBeyond_b4 k Q9 y0 y1 y2 y3 y4 := by
  intro n
  induction n with
  | zero => exact fun _ _ _ _ h => h
  | succ n ih =>
    intro y1 y2 y3 y4
    unfold wp_5_jumpsBeyond_b4
    repeat' first | with_reducible exact HQ | with_reducible exact HQ _ _ | with_reducible exact ih | with_reducible exact ih _ _ _ _ | with_reducible exact fun h => h | with_reducible refine mo_and ?_ ?_ | with_reducible refine mo_ex (fun _ => ?_) | with_reducible refine mq_5_jumpsBeyond_b21 ?_ ?_ _ _ _ _ _ _ | with_reducible refine mo_all (fun _ => ?_) | intro _
theorem mq_5_jumpsBeyond {k : Nat} {a1 : Int32} {w : Mem} {Q Q9 : Int32 → Mem → Prop} (HQ : ∀ x0 x1, Q x0 x1 → Q9 x0 x1) : wp_5_jumpsBeyond k a1 w Q → wp_5_jumpsBeyond k a1 w Q9 := by
  unfold wp_5_jumpsBeyond
  repeat' first | with_reducible exact HQ | with_reducible exact HQ _ _ | with_reducible exact fun h => h | with_reducible refine mo_and ?_ ?_ | with_reducible refine mo_ex (fun _ => ?_) | with_reducible refine mq_5_jumpsBeyond_b4 ?_ _ _ _ _ _ | with_reducible refine mo_all (fun _ => ?_) | intro _
theorem mq_5_longest_b4 {k : Nat} {Q Q9 : Int32 → Mem → Prop} (HQ : ∀ x0 x1, Q x0 x1 → Q9 x0 x1) : ∀ (y0 : Nat) (y1 : Int32) (y2 : Int32) (y3 : Mem), wp_5_longest_b4 k Q y0 y1 y2 y3 → wp_5_longest_b4 k Q9 y0 y1 y2 y3 := by
  intro n
  induction n with
  | zero => exact fun _ _ _ h => h
  | succ n ih =>
    intro y1 y2 y3
    unfold wp_5_longest_b4
    repeat' first | with_reducible exact HQ | with_reducible exact HQ _ _ | with_reducible exact ih | with_reducible exact ih _ _ _ | with_reducible exact fun h => h | with_reducible refine mo_and ?_ ?_ | with_reducible refine mo_ex (fun _ => ?_) | with_reducible refine mq_5_cell ?_ | with_reducible refine mo_all (fun _ => ?_) | intro _
theorem mq_5_longest {k : Nat} {w : Mem} {Q Q9 : Int32 → Mem → Prop} (HQ : ∀ x0 x1, Q x0 x1 → Q9 x0 x1) : wp_5_longest k w Q → wp_5_longest k w Q9 := by
  unfold wp_5_longest
  repeat' first | with_reducible exact HQ | with_reducible exact HQ _ _ | with_reducible exact fun h => h | with_reducible refine mo_and ?_ ?_ | with_reducible refine mo_ex (fun _ => ?_) | with_reducible refine mq_5_longest_b4 ?_ _ _ _ _ | with_reducible refine mo_all (fun _ => ?_) | intro _
theorem mq_6_putInto {a1 : Int32} {k2 : Nat} {w : Mem} {Q Q9 : Int32 → Mem → Prop} (HQ : ∀ x0 x1, Q x0 x1 → Q9 x0 x1) : wp_6_putInto a1 k2 w Q → wp_6_putInto a1 k2 w Q9 := by
  unfold wp_6_putInto
  repeat' first | with_reducible exact HQ | with_reducible exact HQ _ _ | with_reducible exact fun h => h | with_reducible refine mo_and ?_ ?_ | with_reducible refine mo_ex (fun _ => ?_) | with_reducible refine mq_11_within ?_ | with_reducible refine mq_5_save ?_ | with_reducible refine mo_all (fun _ => ?_) | intro _
theorem mq_6_giveBack {a1 : Int32} {k2 : Nat} {w : Mem} {Q Q9 : Int32 → Mem → Prop} (HQ : ∀ x0 x1, Q x0 x1 → Q9 x0 x1) : wp_6_giveBack a1 k2 w Q → wp_6_giveBack a1 k2 w Q9 := by
  unfold wp_6_giveBack
  repeat' first | with_reducible exact HQ | with_reducible exact HQ _ _ | with_reducible exact fun h => h | with_reducible refine mo_and ?_ ?_ | with_reducible refine mo_ex (fun _ => ?_) | with_reducible refine mq_11_within ?_ | with_reducible refine mq_5_load ?_ | with_reducible refine mo_all (fun _ => ?_) | intro _
theorem mq_6_countHeld_b24 {l2 : Int32} {s0 : Int32} {s1 : Int32} {w : Mem} {Q Q9 : Int32 → Mem → Prop} {L4 L49 : Int32 → Int32 → Mem → Prop} (HQ : ∀ x0 x1, Q x0 x1 → Q9 x0 x1) (HL4 : ∀ x0 x1 x2, L4 x0 x1 x2 → L49 x0 x1 x2) : wp_6_countHeld_b24 Q L4 l2 s0 s1 w → wp_6_countHeld_b24 Q9 L49 l2 s0 s1 w := by
  unfold wp_6_countHeld_b24
  repeat' first | with_reducible exact HQ | with_reducible exact HQ _ _ | with_reducible exact HL4 | with_reducible exact HL4 _ _ _ | with_reducible exact fun h => h | with_reducible refine mo_and ?_ ?_ | with_reducible refine mo_ex (fun _ => ?_) | with_reducible refine mo_all (fun _ => ?_) | intro _
theorem mq_6_countHeld_b4  {Q Q9 : Int32 → Mem → Prop} (HQ : ∀ x0 x1, Q x0 x1 → Q9 x0 x1) : ∀ (y0 : Nat) (y1 : Int32) (y2 : Int32) (y3 : Mem), wp_6_countHeld_b4 Q y0 y1 y2 y3 → wp_6_countHeld_b4 Q9 y0 y1 y2 y3 := by
  intro n
  induction n with
  | zero => exact fun _ _ _ h => h
  | succ n ih =>
    intro y1 y2 y3
    unfold wp_6_countHeld_b4
    repeat' first | with_reducible exact HQ | with_reducible exact HQ _ _ | with_reducible exact ih | with_reducible exact ih _ _ _ | with_reducible exact fun h => h | with_reducible refine mo_and ?_ ?_ | with_reducible refine mo_ex (fun _ => ?_) | with_reducible refine mq_6_countHeld_b24 ?_ ?_ | with_reducible refine mo_all (fun _ => ?_) | intro _
theorem mq_6_countHeld {w : Mem} {Q Q9 : Int32 → Mem → Prop} (HQ : ∀ x0 x1, Q x0 x1 → Q9 x0 x1) : wp_6_countHeld w Q → wp_6_countHeld w Q9 := by
  unfold wp_6_countHeld
  repeat' first | with_reducible exact HQ | with_reducible exact HQ _ _ | with_reducible exact fun h => h | with_reducible refine mo_and ?_ ?_ | with_reducible refine mo_ex (fun _ => ?_) | with_reducible refine mq_6_countHeld_b4 ?_ _ _ _ _ | with_reducible refine mo_all (fun _ => ?_) | intro _
theorem mq_7_hasRoom {a1 : Int32} {w : Mem} {Q Q9 : Int32 → Mem → Prop} (HQ : ∀ x0 x1, Q x0 x1 → Q9 x0 x1) : wp_7_hasRoom a1 w Q → wp_7_hasRoom a1 w Q9 := by
  unfold wp_7_hasRoom
  repeat' first | with_reducible exact HQ | with_reducible exact HQ _ _ | with_reducible exact fun h => h | with_reducible refine mo_and ?_ ?_ | with_reducible refine mo_ex (fun _ => ?_) | with_reducible refine mo_all (fun _ => ?_) | intro _
theorem mq_7_put_b38 {l1 : Int32} {l2 : Int32} {w : Mem} {Q Q9 : Mem → Prop} {L3 L39 : Int32 → Int32 → Mem → Prop} (HQ : ∀ x0, Q x0 → Q9 x0) (HL3 : ∀ x0 x1 x2, L3 x0 x1 x2 → L39 x0 x1 x2) : wp_7_put_b38 Q L3 l1 l2 w → wp_7_put_b38 Q9 L39 l1 l2 w := by
  unfold wp_7_put_b38
  repeat' first | with_reducible exact HQ | with_reducible exact HQ _ | with_reducible exact HL3 | with_reducible exact HL3 _ _ _ | with_reducible exact fun h => h | with_reducible refine mo_and ?_ ?_ | with_reducible refine mo_ex (fun _ => ?_) | with_reducible refine mo_all (fun _ => ?_) | intro _
theorem mq_7_put_b3  {Q Q9 : Mem → Prop} (HQ : ∀ x0, Q x0 → Q9 x0) : ∀ (y0 : Nat) (y1 : Int32) (y2 : Int32) (y3 : Mem), wp_7_put_b3 Q y0 y1 y2 y3 → wp_7_put_b3 Q9 y0 y1 y2 y3 := by
  intro n
  induction n with
  | zero => exact fun _ _ _ h => h
  | succ n ih =>
    intro y1 y2 y3
    unfold wp_7_put_b3
    repeat' first | with_reducible exact HQ | with_reducible exact HQ _ | with_reducible exact ih | with_reducible exact ih _ _ _ | with_reducible exact fun h => h | with_reducible refine mo_and ?_ ?_ | with_reducible refine mo_ex (fun _ => ?_) | with_reducible refine mq_7_hasRoom ?_ | with_reducible refine mq_7_put_b38 ?_ ?_ | with_reducible refine mo_all (fun _ => ?_) | intro _
theorem mq_7_put {a1 : Int32} {w : Mem} {Q Q9 : Mem → Prop} (HQ : ∀ x0, Q x0 → Q9 x0) : wp_7_put a1 w Q → wp_7_put a1 w Q9 := by
  unfold wp_7_put
  repeat' first | with_reducible exact HQ | with_reducible exact HQ _ | with_reducible exact fun h => h | with_reducible refine mo_and ?_ ?_ | with_reducible refine mo_ex (fun _ => ?_) | with_reducible refine mq_7_put_b3 ?_ _ _ _ _ | with_reducible refine mo_all (fun _ => ?_) | intro _
theorem mq_10_add {a1 : Int32} {a2 : Int32} {a3 : Int32} {w : Mem} {Q Q9 : Int32 → Mem → Prop} (HQ : ∀ x0 x1, Q x0 x1 → Q9 x0 x1) : wp_10_add a1 a2 a3 w Q → wp_10_add a1 a2 a3 w Q9 := by
  unfold wp_10_add
  repeat' first | with_reducible exact HQ | with_reducible exact HQ _ _ | with_reducible exact fun h => h | with_reducible refine mo_and ?_ ?_ | with_reducible refine mo_ex (fun _ => ?_) | with_reducible refine mo_all (fun _ => ?_) | intro _
theorem mq_11_feed {a1 : Int32} {a2 : Int32} {a3 : Int32} {a4 : Int32} {a5 : Int32} {w : Mem} {Q Q9 : Int32 → Mem → Prop} (HQ : ∀ x0 x1, Q x0 x1 → Q9 x0 x1) : wp_11_feed a1 a2 a3 a4 a5 w Q → wp_11_feed a1 a2 a3 a4 a5 w Q9 := by
  unfold wp_11_feed
  repeat' first | with_reducible exact HQ | with_reducible exact HQ _ _ | with_reducible exact fun h => h | with_reducible refine mo_and ?_ ?_ | with_reducible refine mo_ex (fun _ => ?_) | with_reducible refine mq_7_hasRoom ?_ | with_reducible refine mq_7_put ?_ | with_reducible refine mo_all (fun _ => ?_) | intro _
theorem mq_11_back {a1 : Int32} {w : Mem} {Q Q9 : Int32 → Mem → Prop} (HQ : ∀ x0 x1, Q x0 x1 → Q9 x0 x1) : wp_11_back a1 w Q → wp_11_back a1 w Q9 := by
  unfold wp_11_back
  repeat' first | with_reducible exact HQ | with_reducible exact HQ _ _ | with_reducible exact fun h => h | with_reducible refine mo_and ?_ ?_ | with_reducible refine mo_ex (fun _ => ?_) | with_reducible refine mq_11_within ?_ | with_reducible refine mo_all (fun _ => ?_) | intro _
theorem mq_11_place {w : Mem} {Q Q9 : Int32 → Mem → Prop} (HQ : ∀ x0 x1, Q x0 x1 → Q9 x0 x1) : wp_11_place w Q → wp_11_place w Q9 := by
  unfold wp_11_place
  repeat' first | with_reducible exact HQ | with_reducible exact HQ _ _ | with_reducible exact fun h => h | with_reducible refine mo_and ?_ ?_ | with_reducible refine mo_ex (fun _ => ?_) | with_reducible refine mo_all (fun _ => ?_) | intro _
theorem mq_11_now {a1 : Int32} {w : Mem} {Q Q9 : Int32 → Mem → Prop} (HQ : ∀ x0 x1, Q x0 x1 → Q9 x0 x1) : wp_11_now a1 w Q → wp_11_now a1 w Q9 := by
  unfold wp_11_now
  repeat' first | with_reducible exact HQ | with_reducible exact HQ _ _ | with_reducible exact fun h => h | with_reducible refine mo_and ?_ ?_ | with_reducible refine mo_ex (fun _ => ?_) | with_reducible refine mq_5_nextMan ?_ | with_reducible refine mq_0_blow ?_ | with_reducible refine mo_all (fun _ => ?_) | intro _
theorem mq_11_wind {a1 : Int32} {a2 : Int32} {w : Mem} {Q Q9 : Int32 → Mem → Prop} (HQ : ∀ x0 x1, Q x0 x1 → Q9 x0 x1) : wp_11_wind a1 a2 w Q → wp_11_wind a1 a2 w Q9 := by
  unfold wp_11_wind
  repeat' first | with_reducible exact HQ | with_reducible exact HQ _ _ | with_reducible exact fun h => h | with_reducible refine mo_and ?_ ?_ | with_reducible refine mo_ex (fun _ => ?_) | with_reducible refine mq_11_within ?_ | with_reducible refine mq_0_windAt ?_ | with_reducible refine mo_all (fun _ => ?_) | intro _
theorem mq_11_jump {a1 : Int32} {a2 : Int32} {a3 : Int32} {w : Mem} {Q Q9 : Int32 → Mem → Prop} (HQ : ∀ x0 x1, Q x0 x1 → Q9 x0 x1) : wp_11_jump a1 a2 a3 w Q → wp_11_jump a1 a2 a3 w Q9 := by
  unfold wp_11_jump
  repeat' first | with_reducible exact HQ | with_reducible exact HQ _ _ | with_reducible exact fun h => h | with_reducible refine mo_and ?_ ?_ | with_reducible refine mo_ex (fun _ => ?_) | with_reducible refine mq_5_hasJump ?_ | with_reducible refine mq_11_within ?_ | with_reducible refine mq_5_cell ?_ | with_reducible refine mo_all (fun _ => ?_) | intro _
theorem mq_11_isJudge {a1 : Int32} {w : Mem} {Q Q9 : Int32 → Mem → Prop} (HQ : ∀ x0 x1, Q x0 x1 → Q9 x0 x1) : wp_11_isJudge a1 w Q → wp_11_isJudge a1 w Q9 := by
  unfold wp_11_isJudge
  repeat' first | with_reducible exact HQ | with_reducible exact HQ _ _ | with_reducible exact fun h => h | with_reducible refine mo_and ?_ ?_ | with_reducible refine mo_ex (fun _ => ?_) | with_reducible refine mq_11_within ?_ | with_reducible refine mo_all (fun _ => ?_) | intro _
theorem mq_11_mark {a1 : Int32} {a2 : Int32} {a3 : Int32} {w : Mem} {Q Q9 : Int32 → Mem → Prop} (HQ : ∀ x0 x1, Q x0 x1 → Q9 x0 x1) : wp_11_mark a1 a2 a3 w Q → wp_11_mark a1 a2 a3 w Q9 := by
  unfold wp_11_mark
  repeat' first | with_reducible exact HQ | with_reducible exact HQ _ _ | with_reducible exact fun h => h | with_reducible refine mo_and ?_ ?_ | with_reducible refine mo_ex (fun _ => ?_) | with_reducible refine mq_5_hasJump ?_ | with_reducible refine mq_11_isJudge ?_ | with_reducible refine mq_5_cell ?_ | with_reducible refine mo_all (fun _ => ?_) | intro _
theorem mq_11_isMan {a1 : Int32} {w : Mem} {Q Q9 : Int32 → Mem → Prop} (HQ : ∀ x0 x1, Q x0 x1 → Q9 x0 x1) : wp_11_isMan a1 w Q → wp_11_isMan a1 w Q9 := by
  unfold wp_11_isMan
  repeat' first | with_reducible exact HQ | with_reducible exact HQ _ _ | with_reducible exact fun h => h | with_reducible refine mo_and ?_ ?_ | with_reducible refine mo_ex (fun _ => ?_) | with_reducible refine mq_11_within ?_ | with_reducible refine mo_all (fun _ => ?_) | intro _
theorem mq_11_points {a1 : Int32} {w : Mem} {Q Q9 : Int32 → Mem → Prop} (HQ : ∀ x0 x1, Q x0 x1 → Q9 x0 x1) : wp_11_points a1 w Q → wp_11_points a1 w Q9 := by
  unfold wp_11_points
  repeat' first | with_reducible exact HQ | with_reducible exact HQ _ _ | with_reducible exact fun h => h | with_reducible refine mo_and ?_ ?_ | with_reducible refine mo_ex (fun _ => ?_) | with_reducible refine mq_11_isMan ?_ | with_reducible refine mo_all (fun _ => ?_) | intro _
theorem mq_11_rank {a1 : Int32} {w : Mem} {Q Q9 : Int32 → Mem → Prop} (HQ : ∀ x0 x1, Q x0 x1 → Q9 x0 x1) : wp_11_rank a1 w Q → wp_11_rank a1 w Q9 := by
  unfold wp_11_rank
  repeat' first | with_reducible exact HQ | with_reducible exact HQ _ _ | with_reducible exact fun h => h | with_reducible refine mo_and ?_ ?_ | with_reducible refine mo_ex (fun _ => ?_) | with_reducible refine mq_11_isMan ?_ | with_reducible refine mq_5_rankOf ?_ | with_reducible refine mo_all (fun _ => ?_) | intro _
theorem mq_11_ranked {a1 : Int32} {w : Mem} {Q Q9 : Int32 → Mem → Prop} (HQ : ∀ x0 x1, Q x0 x1 → Q9 x0 x1) : wp_11_ranked a1 w Q → wp_11_ranked a1 w Q9 := by
  unfold wp_11_ranked
  repeat' first | with_reducible exact HQ | with_reducible exact HQ _ _ | with_reducible exact fun h => h | with_reducible refine mo_and ?_ ?_ | with_reducible refine mo_ex (fun _ => ?_) | with_reducible refine mq_11_isMan ?_ | with_reducible refine mq_5_manOfRank ?_ | with_reducible refine mo_all (fun _ => ?_) | intro _
theorem mq_11_waitByGoes_b2  {Q Q9 : Int32 → Mem → Prop} (HQ : ∀ x0 x1, Q x0 x1 → Q9 x0 x1) : ∀ (y0 : Nat) (y1 : Int32) (y2 : Int32) (y3 : Int32) (y4 : Mem), wp_11_waitByGoes_b2 Q y0 y1 y2 y3 y4 → wp_11_waitByGoes_b2 Q9 y0 y1 y2 y3 y4 := by
  intro n
  induction n with
  | zero => exact fun _ _ _ _ h => h
  | succ n ih =>
    intro y1 y2 y3 y4
    unfold wp_11_waitByGoes_b2
    repeat' first | with_reducible exact HQ | with_reducible exact HQ _ _ | with_reducible exact ih | with_reducible exact ih _ _ _ _ | with_reducible exact fun h => h | with_reducible refine mo_and ?_ ?_ | with_reducible refine mo_ex (fun _ => ?_) | with_reducible refine mq_0_blow ?_ | with_reducible refine mq_0_goes ?_ | with_reducible refine mo_all (fun _ => ?_) | intro _
theorem mq_11_waitByGoes {a1 : Int32} {a2 : Int32} {w : Mem} {Q Q9 : Int32 → Mem → Prop} (HQ : ∀ x0 x1, Q x0 x1 → Q9 x0 x1) : wp_11_waitByGoes a1 a2 w Q → wp_11_waitByGoes a1 a2 w Q9 := by
  unfold wp_11_waitByGoes
  repeat' first | with_reducible exact HQ | with_reducible exact HQ _ _ | with_reducible exact fun h => h | with_reducible refine mo_and ?_ ?_ | with_reducible refine mo_ex (fun _ => ?_) | with_reducible refine mq_11_waitByGoes_b2 ?_ _ _ _ _ _ | with_reducible refine mo_all (fun _ => ?_) | intro _
theorem mq_11_launch {k1 : Nat} {a2 : Int32} {w : Mem} {Q Q9 : Mem → Prop} (HQ : ∀ x0, Q x0 → Q9 x0) : wp_11_launch k1 a2 w Q → wp_11_launch k1 a2 w Q9 := by
  unfold wp_11_launch
  repeat' first | with_reducible exact HQ | with_reducible exact HQ _ | with_reducible exact fun h => h | with_reducible refine mo_and ?_ ?_ | with_reducible refine mo_ex (fun _ => ?_) | with_reducible refine mq_5_nextMan ?_ | with_reducible refine mq_0_slipOf ?_ | with_reducible refine mq_0_blow ?_ | with_reducible refine mq_0_reachOf ?_ | with_reducible refine mq_0_judge ?_ | with_reducible refine mq_5_enter ?_ | with_reducible refine mo_all (fun _ => ?_) | intro _
theorem mq_11_startByGoes_b5 {k1 : Nat} {Q Q9 : Int32 → Mem → Prop} (HQ : ∀ x0 x1, Q x0 x1 → Q9 x0 x1) : ∀ (y0 : Nat) (y1 : Int32) (y2 : Int32) (y3 : Int32) (y4 : Mem), wp_11_startByGoes_b5 k1 Q y0 y1 y2 y3 y4 → wp_11_startByGoes_b5 k1 Q9 y0 y1 y2 y3 y4 := by
  intro n
  induction n with
  | zero => exact fun _ _ _ _ h => h
  | succ n ih =>
    intro y1 y2 y3 y4
    unfold wp_11_startByGoes_b5
    repeat' first | with_reducible exact HQ | with_reducible exact HQ _ _ | with_reducible exact ih | with_reducible exact ih _ _ _ _ | with_reducible exact fun h => h | with_reducible refine mo_and ?_ ?_ | with_reducible refine mo_ex (fun _ => ?_) | with_reducible refine mq_5_nextMan ?_ | with_reducible refine mq_11_waitByGoes ?_ | with_reducible refine mq_11_launch ?_ | with_reducible refine mo_all (fun _ => ?_) | intro _
theorem mq_11_startByGoes {k1 : Nat} {a2 : Int32} {w : Mem} {Q Q9 : Int32 → Mem → Prop} (HQ : ∀ x0 x1, Q x0 x1 → Q9 x0 x1) : wp_11_startByGoes k1 a2 w Q → wp_11_startByGoes k1 a2 w Q9 := by
  unfold wp_11_startByGoes
  repeat' first | with_reducible exact HQ | with_reducible exact HQ _ _ | with_reducible exact fun h => h | with_reducible refine mo_and ?_ ?_ | with_reducible refine mo_ex (fun _ => ?_) | with_reducible refine mq_11_startByGoes_b5 ?_ _ _ _ _ _ | with_reducible refine mo_all (fun _ => ?_) | intro _
theorem mq_11_start {a1 : Int32} {w : Mem} {Q Q9 : Int32 → Mem → Prop} (HQ : ∀ x0 x1, Q x0 x1 → Q9 x0 x1) : wp_11_start a1 w Q → wp_11_start a1 w Q9 := by
  unfold wp_11_start
  repeat' first | with_reducible exact HQ | with_reducible exact HQ _ _ | with_reducible exact fun h => h | with_reducible refine mo_and ?_ ?_ | with_reducible refine mo_ex (fun _ => ?_) | with_reducible refine mq_11_within ?_ | with_reducible refine mq_5_nextMan ?_ | with_reducible refine mq_1_keep ?_ | with_reducible refine mq_11_startByGoes ?_ | with_reducible refine mo_all (fun _ => ?_) | intro _
theorem mq_11_letGo {a1 : Int32} {w : Mem} {Q Q9 : Int32 → Mem → Prop} (HQ : ∀ x0 x1, Q x0 x1 → Q9 x0 x1) : wp_11_letGo a1 w Q → wp_11_letGo a1 w Q9 := by
  unfold wp_11_letGo
  repeat' first | with_reducible exact HQ | with_reducible exact HQ _ _ | with_reducible exact fun h => h | with_reducible refine mo_and ?_ ?_ | with_reducible refine mo_ex (fun _ => ?_) | with_reducible refine mq_11_within ?_ | with_reducible refine mq_5_nextMan ?_ | with_reducible refine mq_1_keep ?_ | with_reducible refine mq_11_launch ?_ | with_reducible refine mo_all (fun _ => ?_) | intro _
theorem mq_11_isGate {a1 : Int32} {w : Mem} {Q Q9 : Int32 → Mem → Prop} (HQ : ∀ x0 x1, Q x0 x1 → Q9 x0 x1) : wp_11_isGate a1 w Q → wp_11_isGate a1 w Q9 := by
  unfold wp_11_isGate
  repeat' first | with_reducible exact HQ | with_reducible exact HQ _ _ | with_reducible exact fun h => h | with_reducible refine mo_and ?_ ?_ | with_reducible refine mo_ex (fun _ => ?_) | with_reducible refine mq_11_within ?_ | with_reducible refine mo_all (fun _ => ?_) | intro _
theorem mq_11_gate {a1 : Int32} {w : Mem} {Q Q9 : Int32 → Mem → Prop} (HQ : ∀ x0 x1, Q x0 x1 → Q9 x0 x1) : wp_11_gate a1 w Q → wp_11_gate a1 w Q9 := by
  unfold wp_11_gate
  repeat' first | with_reducible exact HQ | with_reducible exact HQ _ _ | with_reducible exact fun h => h | with_reducible refine mo_and ?_ ?_ | with_reducible refine mo_ex (fun _ => ?_) | with_reducible refine mq_11_isGate ?_ | with_reducible refine mq_1_keep ?_ | with_reducible refine mo_all (fun _ => ?_) | intro _
theorem mq_11_pause {a1 : Int32} {w : Mem} {Q Q9 : Int32 → Mem → Prop} (HQ : ∀ x0 x1, Q x0 x1 → Q9 x0 x1) : wp_11_pause a1 w Q → wp_11_pause a1 w Q9 := by
  unfold wp_11_pause
  repeat' first | with_reducible exact HQ | with_reducible exact HQ _ _ | with_reducible exact fun h => h | with_reducible refine mo_and ?_ ?_ | with_reducible refine mo_ex (fun _ => ?_) | with_reducible refine mq_11_within ?_ | with_reducible refine mq_1_keep ?_ | with_reducible refine mo_all (fun _ => ?_) | intro _
theorem mq_11_undo {w : Mem} {Q Q9 : Int32 → Mem → Prop} (HQ : ∀ x0 x1, Q x0 x1 → Q9 x0 x1) : wp_11_undo w Q → wp_11_undo w Q9 := by
  unfold wp_11_undo
  repeat' first | with_reducible exact HQ | with_reducible exact HQ _ _ | with_reducible exact fun h => h | with_reducible refine mo_and ?_ ?_ | with_reducible refine mo_ex (fun _ => ?_) | with_reducible refine mq_1_takeBack ?_ | with_reducible refine mo_all (fun _ => ?_) | intro _
theorem mq_11_isLate {a1 : Int32} {w : Mem} {Q Q9 : Int32 → Mem → Prop} (HQ : ∀ x0 x1, Q x0 x1 → Q9 x0 x1) : wp_11_isLate a1 w Q → wp_11_isLate a1 w Q9 := by
  unfold wp_11_isLate
  repeat' first | with_reducible exact HQ | with_reducible exact HQ _ _ | with_reducible exact fun h => h | with_reducible refine mo_and ?_ ?_ | with_reducible refine mo_ex (fun _ => ?_) | with_reducible refine mq_11_within ?_ | with_reducible refine mo_all (fun _ => ?_) | intro _
theorem mq_11_jumpNow_b28 {l5 : Int32} {w : Mem} {Q Q9 : Int32 → Mem → Prop} (HQ : ∀ x0 x1, Q x0 x1 → Q9 x0 x1) : wp_11_jumpNow_b28 Q l5 w → wp_11_jumpNow_b28 Q9 l5 w := by
  unfold wp_11_jumpNow_b28
  repeat' first | with_reducible exact HQ | with_reducible exact HQ _ _ | with_reducible exact fun h => h | with_reducible refine mo_and ?_ ?_ | with_reducible refine mo_ex (fun _ => ?_) | with_reducible refine mo_all (fun _ => ?_) | intro _
theorem mq_11_jumpNow {a1 : Int32} {a2 : Int32} {a3 : Int32} {a4 : Int32} {a5 : Int32} {w : Mem} {Q Q9 : Int32 → Mem → Prop} (HQ : ∀ x0 x1, Q x0 x1 → Q9 x0 x1) : wp_11_jumpNow a1 a2 a3 a4 a5 w Q → wp_11_jumpNow a1 a2 a3 a4 a5 w Q9 := by
  unfold wp_11_jumpNow
  repeat' first | with_reducible exact HQ | with_reducible exact HQ _ _ | with_reducible exact fun h => h | with_reducible refine mo_and ?_ ?_ | with_reducible refine mo_ex (fun _ => ?_) | with_reducible refine mq_0_reachOf ?_ | with_reducible refine mq_11_jumpNow_b28 ?_ | with_reducible refine mq_0_judge ?_ | with_reducible refine mo_all (fun _ => ?_) | intro _
theorem mq_11_tryOut {a1 : Int32} {a2 : Int32} {a3 : Int32} {a4 : Int32} {w : Mem} {Q Q9 : Int32 → Mem → Prop} (HQ : ∀ x0 x1, Q x0 x1 → Q9 x0 x1) : wp_11_tryOut a1 a2 a3 a4 w Q → wp_11_tryOut a1 a2 a3 a4 w Q9 := by
  unfold wp_11_tryOut
  repeat' first | with_reducible exact HQ | with_reducible exact HQ _ _ | with_reducible exact fun h => h | with_reducible refine mo_and ?_ ?_ | with_reducible refine mo_ex (fun _ => ?_) | with_reducible refine mq_0_blow ?_ | with_reducible refine mq_11_jumpNow ?_ | with_reducible refine mo_all (fun _ => ?_) | intro _
theorem mq_11_attempt {a1 : Int32} {a2 : Int32} {a3 : Int32} {a4 : Int32} {w : Mem} {Q Q9 : Int32 → Mem → Prop} (HQ : ∀ x0 x1, Q x0 x1 → Q9 x0 x1) : wp_11_attempt a1 a2 a3 a4 w Q → wp_11_attempt a1 a2 a3 a4 w Q9 := by
  unfold wp_11_attempt
  repeat' first | with_reducible exact HQ | with_reducible exact HQ _ _ | with_reducible exact fun h => h | with_reducible refine mo_and ?_ ?_ | with_reducible refine mo_ex (fun _ => ?_) | with_reducible refine mq_11_isMan ?_ | with_reducible refine mq_11_within ?_ | with_reducible refine mq_11_isLate ?_ | with_reducible refine mq_11_tryOut ?_ | with_reducible refine mo_all (fun _ => ?_) | intro _
theorem mq_11_wait_b99 {l4 : Int32} {w : Mem} {Q Q9 : Int32 → Mem → Prop} (HQ : ∀ x0 x1, Q x0 x1 → Q9 x0 x1) : wp_11_wait_b99 Q l4 w → wp_11_wait_b99 Q9 l4 w := by
  unfold wp_11_wait_b99
  repeat' first | with_reducible exact HQ | with_reducible exact HQ _ _ | with_reducible exact fun h => h | with_reducible refine mo_and ?_ ?_ | with_reducible refine mo_ex (fun _ => ?_) | with_reducible refine mo_all (fun _ => ?_) | intro _
theorem mq_11_wait_b84 {l1 : Int32} {l2 : Int32} {l3 : Int32} {l4 : Int32} {l5 : Int32} {l6 : Int32} {w : Mem} {Q Q9 : Int32 → Mem → Prop} {L46 L469 : Int32 → Int32 → Int32 → Int32 → Int32 → Int32 → Mem → Prop} (HQ : ∀ x0 x1, Q x0 x1 → Q9 x0 x1) (HL46 : ∀ x0 x1 x2 x3 x4 x5 x6, L46 x0 x1 x2 x3 x4 x5 x6 → L469 x0 x1 x2 x3 x4 x5 x6) : wp_11_wait_b84 Q L46 l1 l2 l3 l4 l5 l6 w → wp_11_wait_b84 Q9 L469 l1 l2 l3 l4 l5 l6 w := by
  unfold wp_11_wait_b84
  repeat' first | with_reducible exact HQ | with_reducible exact HQ _ _ | with_reducible exact HL46 | with_reducible exact HL46 _ _ _ _ _ _ _ | with_reducible exact fun h => h | with_reducible refine mo_and ?_ ?_ | with_reducible refine mo_ex (fun _ => ?_) | with_reducible refine mo_all (fun _ => ?_) | intro _
theorem mq_11_wait_b46  {Q Q9 : Int32 → Mem → Prop} (HQ : ∀ x0 x1, Q x0 x1 → Q9 x0 x1) : ∀ (y0 : Nat) (y1 : Int32) (y2 : Int32) (y3 : Int32) (y4 : Int32) (y5 : Int32) (y6 : Int32) (y7 : Mem), wp_11_wait_b46 Q y0 y1 y2 y3 y4 y5 y6 y7 → wp_11_wait_b46 Q9 y0 y1 y2 y3 y4 y5 y6 y7 := by
  intro n
  induction n with
  | zero => exact fun _ _ _ _ _ _ _ h => h
  | succ n ih =>
    intro y1 y2 y3 y4 y5 y6 y7
    unfold wp_11_wait_b46
    repeat' first | with_reducible exact HQ | with_reducible exact HQ _ _ | with_reducible exact ih | with_reducible exact ih _ _ _ _ _ _ _ | with_reducible exact fun h => h | with_reducible refine mo_and ?_ ?_ | with_reducible refine mo_ex (fun _ => ?_) | with_reducible refine mq_11_wait_b99 ?_ | with_reducible refine mq_11_tryOut ?_ | with_reducible refine mq_11_wait_b84 ?_ ?_ | with_reducible refine mo_all (fun _ => ?_) | intro _
theorem mq_11_wait_b29 {l1 : Int32} {l2 : Int32} {s0 : Int32} {w : Mem} {Q Q9 : Int32 → Mem → Prop} (HQ : ∀ x0 x1, Q x0 x1 → Q9 x0 x1) : wp_11_wait_b29 Q l1 l2 s0 w → wp_11_wait_b29 Q9 l1 l2 s0 w := by
  unfold wp_11_wait_b29
  repeat' first | with_reducible exact HQ | with_reducible exact HQ _ _ | with_reducible exact fun h => h | with_reducible refine mo_and ?_ ?_ | with_reducible refine mo_ex (fun _ => ?_) | with_reducible refine mq_11_tryOut ?_ | with_reducible refine mq_11_wait_b46 ?_ _ _ _ _ _ _ _ _ | with_reducible refine mo_all (fun _ => ?_) | intro _
theorem mq_11_wait {a1 : Int32} {a2 : Int32} {w : Mem} {Q Q9 : Int32 → Mem → Prop} (HQ : ∀ x0 x1, Q x0 x1 → Q9 x0 x1) : wp_11_wait a1 a2 w Q → wp_11_wait a1 a2 w Q9 := by
  unfold wp_11_wait
  repeat' first | with_reducible exact HQ | with_reducible exact HQ _ _ | with_reducible exact fun h => h | with_reducible refine mo_and ?_ ?_ | with_reducible refine mo_ex (fun _ => ?_) | with_reducible refine mq_11_isMan ?_ | with_reducible refine mq_11_within ?_ | with_reducible refine mq_11_wait_b29 ?_ | with_reducible refine mo_all (fun _ => ?_) | intro _
theorem mq_11_cost {a1 : Int32} {a2 : Int32} {a3 : Int32} {w : Mem} {Q Q9 : Int32 → Mem → Prop} (HQ : ∀ x0 x1, Q x0 x1 → Q9 x0 x1) : wp_11_cost a1 a2 a3 w Q → wp_11_cost a1 a2 a3 w Q9 := by
  unfold wp_11_cost
  repeat' first | with_reducible exact HQ | with_reducible exact HQ _ _ | with_reducible exact fun h => h | with_reducible refine mo_and ?_ ?_ | with_reducible refine mo_ex (fun _ => ?_) | with_reducible refine mq_11_isMan ?_ | with_reducible refine mq_11_isLate ?_ | with_reducible refine mq_11_tryOut ?_ | with_reducible refine mo_all (fun _ => ?_) | intro _
theorem mq_11_pound {a1 : Int32} {a2 : Int32} {a3 : Int32} {w : Mem} {Q Q9 : Int32 → Mem → Prop} (HQ : ∀ x0 x1, Q x0 x1 → Q9 x0 x1) : wp_11_pound a1 a2 a3 w Q → wp_11_pound a1 a2 a3 w Q9 := by
  unfold wp_11_pound
  repeat' first | with_reducible exact HQ | with_reducible exact HQ _ _ | with_reducible exact fun h => h | with_reducible refine mo_and ?_ ?_ | with_reducible refine mo_ex (fun _ => ?_) | with_reducible refine mq_11_isMan ?_ | with_reducible refine mq_11_within ?_ | with_reducible refine mq_0_blow ?_ | with_reducible refine mq_0_reach ?_ | with_reducible refine mo_all (fun _ => ?_) | intro _
theorem mq_11_gain {a1 : Int32} {w : Mem} {Q Q9 : Int32 → Mem → Prop} (HQ : ∀ x0 x1, Q x0 x1 → Q9 x0 x1) : wp_11_gain a1 w Q → wp_11_gain a1 w Q9 := by
  unfold wp_11_gain
  repeat' first | with_reducible exact HQ | with_reducible exact HQ _ _ | with_reducible exact fun h => h | with_reducible refine mo_and ?_ ?_ | with_reducible refine mo_ex (fun _ => ?_) | with_reducible refine mq_11_isMan ?_ | with_reducible refine mq_11_tryOut ?_ | with_reducible refine mq_0_calmDown ?_ | with_reducible refine mq_11_jumpNow ?_ | with_reducible refine mo_all (fun _ => ?_) | intro _
theorem mq_11_number {a1 : Int32} {w : Mem} {Q Q9 : Int32 → Mem → Prop} (HQ : ∀ x0 x1, Q x0 x1 → Q9 x0 x1) : wp_11_number a1 w Q → wp_11_number a1 w Q9 := by
  unfold wp_11_number
  repeat' first | with_reducible exact HQ | with_reducible exact HQ _ _ | with_reducible exact fun h => h | with_reducible refine mo_and ?_ ?_ | with_reducible refine mo_ex (fun _ => ?_) | with_reducible refine mq_11_isMan ?_ | with_reducible refine mq_0_blow ?_ | with_reducible refine mq_11_jumpNow ?_ | with_reducible refine mo_all (fun _ => ?_) | intro _
theorem mq_11_isSafeGate_b26  {Q Q9 : Int32 → Mem → Prop} {L2 L29 : Int32 → Int32 → Mem → Prop} (HQ : ∀ x0 x1, Q x0 x1 → Q9 x0 x1) (HL2 : ∀ x0 x1 x2, L2 x0 x1 x2 → L29 x0 x1 x2) : ∀ (y0 : Nat) (y1 : Int32) (y2 : Int32) (y3 : Int32) (y4 : Mem), wp_11_isSafeGate_b26 Q L2 y0 y1 y2 y3 y4 → wp_11_isSafeGate_b26 Q9 L29 y0 y1 y2 y3 y4 := by
  intro n
  induction n with
  | zero => exact fun _ _ _ _ h => h
  | succ n ih =>
    intro y1 y2 y3 y4
    unfold wp_11_isSafeGate_b26
    repeat' first | with_reducible exact HQ | with_reducible exact HQ _ _ | with_reducible exact HL2 | with_reducible exact HL2 _ _ _ | with_reducible exact ih | with_reducible exact ih _ _ _ _ | with_reducible exact fun h => h | with_reducible refine mo_and ?_ ?_ | with_reducible refine mo_ex (fun _ => ?_) | with_reducible refine mq_0_reachOf ?_ | with_reducible refine mo_all (fun _ => ?_) | intro _
theorem mq_11_isSafeGate_b2  {Q Q9 : Int32 → Mem → Prop} (HQ : ∀ x0 x1, Q x0 x1 → Q9 x0 x1) : ∀ (y0 : Nat) (y1 : Int32) (y2 : Int32) (y3 : Mem), wp_11_isSafeGate_b2 Q y0 y1 y2 y3 → wp_11_isSafeGate_b2 Q9 y0 y1 y2 y3 := by
  intro n
  induction n with
  | zero => exact fun _ _ _ h => h
  | succ n ih =>
    intro y1 y2 y3
    unfold wp_11_isSafeGate_b2
    repeat' first | with_reducible exact HQ | with_reducible exact HQ _ _ | with_reducible exact ih | with_reducible exact ih _ _ _ | with_reducible exact fun h => h | with_reducible refine mo_and ?_ ?_ | with_reducible refine mo_ex (fun _ => ?_) | with_reducible refine mq_0_blow ?_ | with_reducible refine mq_11_isSafeGate_b26 ?_ ?_ _ _ _ _ _ | with_reducible refine mo_all (fun _ => ?_) | intro _
theorem mq_11_isSafeGate {a1 : Int32} {w : Mem} {Q Q9 : Int32 → Mem → Prop} (HQ : ∀ x0 x1, Q x0 x1 → Q9 x0 x1) : wp_11_isSafeGate a1 w Q → wp_11_isSafeGate a1 w Q9 := by
  unfold wp_11_isSafeGate
  repeat' first | with_reducible exact HQ | with_reducible exact HQ _ _ | with_reducible exact fun h => h | with_reducible refine mo_and ?_ ?_ | with_reducible refine mo_ex (fun _ => ?_) | with_reducible refine mq_11_isSafeGate_b2 ?_ _ _ _ _ | with_reducible refine mo_all (fun _ => ?_) | intro _
theorem mq_11_safeGate_b3  {Q Q9 : Int32 → Mem → Prop} (HQ : ∀ x0 x1, Q x0 x1 → Q9 x0 x1) : ∀ (y0 : Nat) (y1 : Int32) (y2 : Mem), wp_11_safeGate_b3 Q y0 y1 y2 → wp_11_safeGate_b3 Q9 y0 y1 y2 := by
  intro n
  induction n with
  | zero => exact fun _ _ h => h
  | succ n ih =>
    intro y1 y2
    unfold wp_11_safeGate_b3
    repeat' first | with_reducible exact HQ | with_reducible exact HQ _ _ | with_reducible exact ih | with_reducible exact ih _ _ | with_reducible exact fun h => h | with_reducible refine mo_and ?_ ?_ | with_reducible refine mo_ex (fun _ => ?_) | with_reducible refine mq_11_isSafeGate ?_ | with_reducible refine mo_all (fun _ => ?_) | intro _
theorem mq_11_safeGate {w : Mem} {Q Q9 : Int32 → Mem → Prop} (HQ : ∀ x0 x1, Q x0 x1 → Q9 x0 x1) : wp_11_safeGate w Q → wp_11_safeGate w Q9 := by
  unfold wp_11_safeGate
  repeat' first | with_reducible exact HQ | with_reducible exact HQ _ _ | with_reducible exact fun h => h | with_reducible refine mo_and ?_ ?_ | with_reducible refine mo_ex (fun _ => ?_) | with_reducible refine mq_11_safeGate_b3 ?_ _ _ _ | with_reducible refine mo_all (fun _ => ?_) | intro _
theorem mq_11_gates_b47  {Q Q9 : Int32 → Mem → Prop} (HQ : ∀ x0 x1, Q x0 x1 → Q9 x0 x1) : ∀ (y0 : Nat) (y1 : Int32) (y2 : Int32) (y3 : Int32) (y4 : Mem), wp_11_gates_b47 Q y0 y1 y2 y3 y4 → wp_11_gates_b47 Q9 y0 y1 y2 y3 y4 := by
  intro n
  induction n with
  | zero => exact fun _ _ _ _ h => h
  | succ n ih =>
    intro y1 y2 y3 y4
    unfold wp_11_gates_b47
    repeat' first | with_reducible exact HQ | with_reducible exact HQ _ _ | with_reducible exact ih | with_reducible exact ih _ _ _ _ | with_reducible exact fun h => h | with_reducible refine mo_and ?_ ?_ | with_reducible refine mo_ex (fun _ => ?_) | with_reducible refine mq_0_reachOf ?_ | with_reducible refine mo_all (fun _ => ?_) | intro _
theorem mq_11_gates {a1 : Int32} {w : Mem} {Q Q9 : Int32 → Mem → Prop} (HQ : ∀ x0 x1, Q x0 x1 → Q9 x0 x1) : wp_11_gates a1 w Q → wp_11_gates a1 w Q9 := by
  unfold wp_11_gates
  repeat' first | with_reducible exact HQ | with_reducible exact HQ _ _ | with_reducible exact fun h => h | with_reducible refine mo_and ?_ ?_ | with_reducible refine mo_ex (fun _ => ?_) | with_reducible refine mq_11_within ?_ | with_reducible refine mq_11_safeGate ?_ | with_reducible refine mq_0_blow ?_ | with_reducible refine mq_11_gates_b47 ?_ _ _ _ _ _ | with_reducible refine mo_all (fun _ => ?_) | intro _
theorem mq_11_crown_b84 {l1 : Int32} {l2 : Int32} {l3 : Int32} {l4 : Int32} {w : Mem} {Q Q9 : Int32 → Mem → Prop} {L25 L259 : Int32 → Int32 → Int32 → Int32 → Mem → Prop} (HQ : ∀ x0 x1, Q x0 x1 → Q9 x0 x1) (HL25 : ∀ x0 x1 x2 x3 x4, L25 x0 x1 x2 x3 x4 → L259 x0 x1 x2 x3 x4) : wp_11_crown_b84 Q L25 l1 l2 l3 l4 w → wp_11_crown_b84 Q9 L259 l1 l2 l3 l4 w := by
  unfold wp_11_crown_b84
  repeat' first | with_reducible exact HQ | with_reducible exact HQ _ _ | with_reducible exact HL25 | with_reducible exact HL25 _ _ _ _ _ | with_reducible exact fun h => h | with_reducible refine mo_and ?_ ?_ | with_reducible refine mo_ex (fun _ => ?_) | with_reducible refine mo_all (fun _ => ?_) | intro _
theorem mq_11_crown_b25  {Q Q9 : Int32 → Mem → Prop} (HQ : ∀ x0 x1, Q x0 x1 → Q9 x0 x1) : ∀ (y0 : Nat) (y1 : Int32) (y2 : Int32) (y3 : Int32) (y4 : Int32) (y5 : Mem), wp_11_crown_b25 Q y0 y1 y2 y3 y4 y5 → wp_11_crown_b25 Q9 y0 y1 y2 y3 y4 y5 := by
  intro n
  induction n with
  | zero => exact fun _ _ _ _ _ h => h
  | succ n ih =>
    intro y1 y2 y3 y4 y5
    unfold wp_11_crown_b25
    repeat' first | with_reducible exact HQ | with_reducible exact HQ _ _ | with_reducible exact ih | with_reducible exact ih _ _ _ _ _ | with_reducible exact fun h => h | with_reducible refine mo_and ?_ ?_ | with_reducible refine mo_ex (fun _ => ?_) | with_reducible refine mq_5_copy ?_ | with_reducible refine mq_11_startByGoes ?_ | with_reducible refine mq_5_rankOf ?_ | with_reducible refine mq_11_crown_b84 ?_ ?_ | with_reducible refine mo_all (fun _ => ?_) | intro _
theorem mq_11_crown {a1 : Int32} {a2 : Int32} {w : Mem} {Q Q9 : Int32 → Mem → Prop} (HQ : ∀ x0 x1, Q x0 x1 → Q9 x0 x1) : wp_11_crown a1 a2 w Q → wp_11_crown a1 a2 w Q9 := by
  unfold wp_11_crown
  repeat' first | with_reducible exact HQ | with_reducible exact HQ _ _ | with_reducible exact fun h => h | with_reducible refine mo_and ?_ ?_ | with_reducible refine mo_ex (fun _ => ?_) | with_reducible refine mq_11_isMan ?_ | with_reducible refine mq_11_within ?_ | with_reducible refine mq_11_crown_b25 ?_ _ _ _ _ _ _ | with_reducible refine mo_all (fun _ => ?_) | intro _
theorem mq_11_pointsWithout {a1 : Int32} {a2 : Int32} {a3 : Int32} {w : Mem} {Q Q9 : Int32 → Mem → Prop} (HQ : ∀ x0 x1, Q x0 x1 → Q9 x0 x1) : wp_11_pointsWithout a1 a2 a3 w Q → wp_11_pointsWithout a1 a2 a3 w Q9 := by
  unfold wp_11_pointsWithout
  repeat' first | with_reducible exact HQ | with_reducible exact HQ _ _ | with_reducible exact fun h => h | with_reducible refine mo_and ?_ ?_ | with_reducible refine mo_ex (fun _ => ?_) | with_reducible refine mq_5_hasJump ?_ | with_reducible refine mq_5_styleWithout ?_ | with_reducible refine mq_5_cell ?_ | with_reducible refine mq_0_givenFor ?_ | with_reducible refine mq_0_pointsFor ?_ | with_reducible refine mo_all (fun _ => ?_) | intro _
theorem mq_11_without_b20  {Q Q9 : Int32 → Mem → Prop} (HQ : ∀ x0 x1, Q x0 x1 → Q9 x0 x1) : ∀ (y0 : Nat) (y1 : Int32) (y2 : Int32) (y3 : Int32) (y4 : Mem), wp_11_without_b20 Q y0 y1 y2 y3 y4 → wp_11_without_b20 Q9 y0 y1 y2 y3 y4 := by
  intro n
  induction n with
  | zero => exact fun _ _ _ _ h => h
  | succ n ih =>
    intro y1 y2 y3 y4
    unfold wp_11_without_b20
    repeat' first | with_reducible exact HQ | with_reducible exact HQ _ _ | with_reducible exact ih | with_reducible exact ih _ _ _ _ | with_reducible exact fun h => h | with_reducible refine mo_and ?_ ?_ | with_reducible refine mo_ex (fun _ => ?_) | with_reducible refine mq_11_rankAmong ?_ | with_reducible refine mq_11_pointsWithout ?_ | with_reducible refine mo_all (fun _ => ?_) | intro _
theorem mq_11_without {a1 : Int32} {a2 : Int32} {w : Mem} {Q Q9 : Int32 → Mem → Prop} (HQ : ∀ x0 x1, Q x0 x1 → Q9 x0 x1) : wp_11_without a1 a2 w Q → wp_11_without a1 a2 w Q9 := by
  unfold wp_11_without
  repeat' first | with_reducible exact HQ | with_reducible exact HQ _ _ | with_reducible exact fun h => h | with_reducible refine mo_and ?_ ?_ | with_reducible refine mo_ex (fun _ => ?_) | with_reducible refine mq_11_isMan ?_ | with_reducible refine mq_11_isJudge ?_ | with_reducible refine mq_11_without_b20 ?_ _ _ _ _ _ | with_reducible refine mo_all (fun _ => ?_) | intro _
theorem mq_11_needs_b141 {l1 : Int32} {l2 : Int32} {l3 : Int32} {l4 : Int32} {l5 : Int32} {w : Mem} {Q Q9 : Int32 → Mem → Prop} {L68 L689 : Int32 → Int32 → Int32 → Int32 → Int32 → Mem → Prop} (HQ : ∀ x0 x1, Q x0 x1 → Q9 x0 x1) (HL68 : ∀ x0 x1 x2 x3 x4 x5, L68 x0 x1 x2 x3 x4 x5 → L689 x0 x1 x2 x3 x4 x5) : wp_11_needs_b141 Q L68 l1 l2 l3 l4 l5 w → wp_11_needs_b141 Q9 L689 l1 l2 l3 l4 l5 w := by
  unfold wp_11_needs_b141
  repeat' first | with_reducible exact HQ | with_reducible exact HQ _ _ | with_reducible exact HL68 | with_reducible exact HL68 _ _ _ _ _ _ | with_reducible exact fun h => h | with_reducible refine mo_and ?_ ?_ | with_reducible refine mo_ex (fun _ => ?_) | with_reducible refine mo_all (fun _ => ?_) | intro _
theorem mq_11_needs_b68  {Q Q9 : Int32 → Mem → Prop} (HQ : ∀ x0 x1, Q x0 x1 → Q9 x0 x1) : ∀ (y0 : Nat) (y1 : Int32) (y2 : Int32) (y3 : Int32) (y4 : Int32) (y5 : Int32) (y6 : Mem), wp_11_needs_b68 Q y0 y1 y2 y3 y4 y5 y6 → wp_11_needs_b68 Q9 y0 y1 y2 y3 y4 y5 y6 := by
  intro n
  induction n with
  | zero => exact fun _ _ _ _ _ _ h => h
  | succ n ih =>
    intro y1 y2 y3 y4 y5 y6
    unfold wp_11_needs_b68
    repeat' first | with_reducible exact HQ | with_reducible exact HQ _ _ | with_reducible exact ih | with_reducible exact ih _ _ _ _ _ _ | with_reducible exact fun h => h | with_reducible refine mo_and ?_ ?_ | with_reducible refine mo_ex (fun _ => ?_) | with_reducible refine mq_0_pointsFor ?_ | with_reducible refine mq_0_judge ?_ | with_reducible refine mq_11_needs_b141 ?_ ?_ | with_reducible refine mo_all (fun _ => ?_) | intro _
theorem mq_11_needs {a1 : Int32} {w : Mem} {Q Q9 : Int32 → Mem → Prop} (HQ : ∀ x0 x1, Q x0 x1 → Q9 x0 x1) : wp_11_needs a1 w Q → wp_11_needs a1 w Q9 := by
  unfold wp_11_needs
  repeat' first | with_reducible exact HQ | with_reducible exact HQ _ _ | with_reducible exact fun h => h | with_reducible refine mo_and ?_ ?_ | with_reducible refine mo_ex (fun _ => ?_) | with_reducible refine mq_11_isMan ?_ | with_reducible refine mq_5_isToStart ?_ | with_reducible refine mq_5_totalToBeFirst ?_ | with_reducible refine mq_0_mostStyle ?_ | with_reducible refine mq_0_calmDown ?_ | with_reducible refine mq_0_givenFor ?_ | with_reducible refine mq_11_needs_b68 ?_ _ _ _ _ _ _ _ | with_reducible refine mo_all (fun _ => ?_) | intro _
theorem mq_11_spread_b24  {Q Q9 : Int32 → Mem → Prop} (HQ : ∀ x0 x1, Q x0 x1 → Q9 x0 x1) : ∀ (y0 : Nat) (y1 : Int32) (y2 : Int32) (y3 : Int32) (y4 : Int32) (y5 : Mem), wp_11_spread_b24 Q y0 y1 y2 y3 y4 y5 → wp_11_spread_b24 Q9 y0 y1 y2 y3 y4 y5 := by
  intro n
  induction n with
  | zero => exact fun _ _ _ _ _ h => h
  | succ n ih =>
    intro y1 y2 y3 y4 y5
    unfold wp_11_spread_b24
    repeat' first | with_reducible exact HQ | with_reducible exact HQ _ _ | with_reducible exact ih | with_reducible exact ih _ _ _ _ _ | with_reducible exact fun h => h | with_reducible refine mo_and ?_ ?_ | with_reducible refine mo_ex (fun _ => ?_) | with_reducible refine mq_11_tryOut ?_ | with_reducible refine mo_all (fun _ => ?_) | intro _
theorem mq_11_spread {a1 : Int32} {w : Mem} {Q Q9 : Int32 → Mem → Prop} (HQ : ∀ x0 x1, Q x0 x1 → Q9 x0 x1) : wp_11_spread a1 w Q → wp_11_spread a1 w Q9 := by
  unfold wp_11_spread
  repeat' first | with_reducible exact HQ | with_reducible exact HQ _ _ | with_reducible exact fun h => h | with_reducible refine mo_and ?_ ?_ | with_reducible refine mo_ex (fun _ => ?_) | with_reducible refine mq_11_isMan ?_ | with_reducible refine mq_11_tryOut ?_ | with_reducible refine mq_11_spread_b24 ?_ _ _ _ _ _ _ | with_reducible refine mo_all (fun _ => ?_) | intro _
theorem mq_11_atGate {a1 : Int32} {a2 : Int32} {a3 : Int32} {w : Mem} {Q Q9 : Int32 → Mem → Prop} (HQ : ∀ x0 x1, Q x0 x1 → Q9 x0 x1) : wp_11_atGate a1 a2 a3 w Q → wp_11_atGate a1 a2 a3 w Q9 := by
  unfold wp_11_atGate
  repeat' first | with_reducible exact HQ | with_reducible exact HQ _ _ | with_reducible exact fun h => h | with_reducible refine mo_and ?_ ?_ | with_reducible refine mo_ex (fun _ => ?_) | with_reducible refine mq_11_isMan ?_ | with_reducible refine mq_11_isGate ?_ | with_reducible refine mq_0_blow ?_ | with_reducible refine mq_11_jumpNow ?_ | with_reducible refine mo_all (fun _ => ?_) | intro _
theorem mq_11_lead {a1 : Int32} {w : Mem} {Q Q9 : Int32 → Mem → Prop} (HQ : ∀ x0 x1, Q x0 x1 → Q9 x0 x1) : wp_11_lead a1 w Q → wp_11_lead a1 w Q9 := by
  unfold wp_11_lead
  repeat' first | with_reducible exact HQ | with_reducible exact HQ _ _ | with_reducible exact fun h => h | with_reducible refine mo_and ?_ ?_ | with_reducible refine mo_ex (fun _ => ?_) | with_reducible refine mq_11_isMan ?_ | with_reducible refine mq_5_mostOfOthers ?_ | with_reducible refine mo_all (fun _ => ?_) | intro _
theorem mq_11_reversed {a1 : Int32} {w : Mem} {Q Q9 : Int32 → Mem → Prop} (HQ : ∀ x0 x1, Q x0 x1 → Q9 x0 x1) : wp_11_reversed a1 w Q → wp_11_reversed a1 w Q9 := by
  unfold wp_11_reversed
  repeat' first | with_reducible exact HQ | with_reducible exact HQ _ _ | with_reducible exact fun h => h | with_reducible refine mo_and ?_ ?_ | with_reducible refine mo_ex (fun _ => ?_) | with_reducible refine mq_11_isMan ?_ | with_reducible refine mq_5_begin ?_ | with_reducible refine mq_5_turnOrder ?_ | with_reducible refine mq_11_startByGoes ?_ | with_reducible refine mq_5_rankOf ?_ | with_reducible refine mo_all (fun _ => ?_) | intro _
theorem mq_11_harsh_b81 {l1 : Int32} {l2 : Int32} {l3 : Int32} {l4 : Int32} {l5 : Int32} {w : Mem} {Q Q9 : Int32 → Mem → Prop} {L21 L219 : Int32 → Int32 → Int32 → Int32 → Int32 → Mem → Prop} (HQ : ∀ x0 x1, Q x0 x1 → Q9 x0 x1) (HL21 : ∀ x0 x1 x2 x3 x4 x5, L21 x0 x1 x2 x3 x4 x5 → L219 x0 x1 x2 x3 x4 x5) : wp_11_harsh_b81 Q L21 l1 l2 l3 l4 l5 w → wp_11_harsh_b81 Q9 L219 l1 l2 l3 l4 l5 w := by
  unfold wp_11_harsh_b81
  repeat' first | with_reducible exact HQ | with_reducible exact HQ _ _ | with_reducible exact HL21 | with_reducible exact HL21 _ _ _ _ _ _ | with_reducible exact fun h => h | with_reducible refine mo_and ?_ ?_ | with_reducible refine mo_ex (fun _ => ?_) | with_reducible refine mo_all (fun _ => ?_) | intro _
theorem mq_11_harsh_b74 {l1 : Int32} {l2 : Int32} {l5 : Int32} {l6 : Int32} {w : Mem} {Q Q9 : Int32 → Mem → Prop} {L21 L219 : Int32 → Int32 → Int32 → Int32 → Int32 → Mem → Prop} (HQ : ∀ x0 x1, Q x0 x1 → Q9 x0 x1) (HL21 : ∀ x0 x1 x2 x3 x4 x5, L21 x0 x1 x2 x3 x4 x5 → L219 x0 x1 x2 x3 x4 x5) : wp_11_harsh_b74 Q L21 l1 l2 l5 l6 w → wp_11_harsh_b74 Q9 L219 l1 l2 l5 l6 w := by
  unfold wp_11_harsh_b74
  repeat' first | with_reducible exact HQ | with_reducible exact HQ _ _ | with_reducible exact HL21 | with_reducible exact HL21 _ _ _ _ _ _ | with_reducible exact fun h => h | with_reducible refine mo_and ?_ ?_ | with_reducible refine mo_ex (fun _ => ?_) | with_reducible refine mq_11_harsh_b81 ?_ ?_ | with_reducible refine mo_all (fun _ => ?_) | intro _
theorem mq_11_harsh_b21  {Q Q9 : Int32 → Mem → Prop} (HQ : ∀ x0 x1, Q x0 x1 → Q9 x0 x1) : ∀ (y0 : Nat) (y1 : Int32) (y2 : Int32) (y3 : Int32) (y4 : Int32) (y5 : Int32) (y6 : Mem), wp_11_harsh_b21 Q y0 y1 y2 y3 y4 y5 y6 → wp_11_harsh_b21 Q9 y0 y1 y2 y3 y4 y5 y6 := by
  intro n
  induction n with
  | zero => exact fun _ _ _ _ _ _ h => h
  | succ n ih =>
    intro y1 y2 y3 y4 y5 y6
    unfold wp_11_harsh_b21
    repeat' first | with_reducible exact HQ | with_reducible exact HQ _ _ | with_reducible exact ih | with_reducible exact ih _ _ _ _ _ _ | with_reducible exact fun h => h | with_reducible refine mo_and ?_ ?_ | with_reducible refine mo_ex (fun _ => ?_) | with_reducible refine mq_5_givenBy ?_ | with_reducible refine mq_11_harsh_b74 ?_ ?_ | with_reducible refine mq_11_harsh_b81 ?_ ?_ | with_reducible refine mo_all (fun _ => ?_) | intro _
theorem mq_11_harsh {a1 : Int32} {a2 : Int32} {w : Mem} {Q Q9 : Int32 → Mem → Prop} (HQ : ∀ x0 x1, Q x0 x1 → Q9 x0 x1) : wp_11_harsh a1 a2 w Q → wp_11_harsh a1 a2 w Q9 := by
  unfold wp_11_harsh
  repeat' first | with_reducible exact HQ | with_reducible exact HQ _ _ | with_reducible exact fun h => h | with_reducible refine mo_and ?_ ?_ | with_reducible refine mo_ex (fun _ => ?_) | with_reducible refine mq_11_within ?_ | with_reducible refine mq_11_harsh_b21 ?_ _ _ _ _ _ _ _ | with_reducible refine mo_all (fun _ => ?_) | intro _
theorem mq_11_calm_b105 {l1 : Int32} {l2 : Int32} {l3 : Int32} {l4 : Int32} {l5 : Int32} {w : Mem} {Q Q9 : Int32 → Mem → Prop} {L52 L529 : Int32 → Int32 → Int32 → Int32 → Int32 → Mem → Prop} (HQ : ∀ x0 x1, Q x0 x1 → Q9 x0 x1) (HL52 : ∀ x0 x1 x2 x3 x4 x5, L52 x0 x1 x2 x3 x4 x5 → L529 x0 x1 x2 x3 x4 x5) : wp_11_calm_b105 Q L52 l1 l2 l3 l4 l5 w → wp_11_calm_b105 Q9 L529 l1 l2 l3 l4 l5 w := by
  unfold wp_11_calm_b105
  repeat' first | with_reducible exact HQ | with_reducible exact HQ _ _ | with_reducible exact HL52 | with_reducible exact HL52 _ _ _ _ _ _ | with_reducible exact fun h => h | with_reducible refine mo_and ?_ ?_ | with_reducible refine mo_ex (fun _ => ?_) | with_reducible refine mo_all (fun _ => ?_) | intro _
theorem mq_11_calm_b52  {Q Q9 : Int32 → Mem → Prop} (HQ : ∀ x0 x1, Q x0 x1 → Q9 x0 x1) : ∀ (y0 : Nat) (y1 : Int32) (y2 : Int32) (y3 : Int32) (y4 : Int32) (y5 : Int32) (y6 : Mem), wp_11_calm_b52 Q y0 y1 y2 y3 y4 y5 y6 → wp_11_calm_b52 Q9 y0 y1 y2 y3 y4 y5 y6 := by
  intro n
  induction n with
  | zero => exact fun _ _ _ _ _ _ h => h
  | succ n ih =>
    intro y1 y2 y3 y4 y5 y6
    unfold wp_11_calm_b52
    repeat' first | with_reducible exact HQ | with_reducible exact HQ _ _ | with_reducible exact ih | with_reducible exact ih _ _ _ _ _ _ | with_reducible exact fun h => h | with_reducible refine mo_and ?_ ?_ | with_reducible refine mo_ex (fun _ => ?_) | with_reducible refine mq_0_blow ?_ | with_reducible refine mq_11_calm_b105 ?_ ?_ | with_reducible refine mo_all (fun _ => ?_) | intro _
theorem mq_11_calm {a1 : Int32} {a2 : Int32} {w : Mem} {Q Q9 : Int32 → Mem → Prop} (HQ : ∀ x0 x1, Q x0 x1 → Q9 x0 x1) : wp_11_calm a1 a2 w Q → wp_11_calm a1 a2 w Q9 := by
  unfold wp_11_calm
  repeat' first | with_reducible exact HQ | with_reducible exact HQ _ _ | with_reducible exact fun h => h | with_reducible refine mo_and ?_ ?_ | with_reducible refine mo_ex (fun _ => ?_) | with_reducible refine mq_11_within ?_ | with_reducible refine mq_0_blow ?_ | with_reducible refine mq_11_calm_b52 ?_ _ _ _ _ _ _ _ | with_reducible refine mo_all (fun _ => ?_) | intro _
theorem mq_11_windiest_b52 {l1 : Int32} {l2 : Int32} {l3 : Int32} {l4 : Int32} {w : Mem} {Q Q9 : Int32 → Mem → Prop} {L19 L199 : Int32 → Int32 → Int32 → Int32 → Mem → Prop} (HQ : ∀ x0 x1, Q x0 x1 → Q9 x0 x1) (HL19 : ∀ x0 x1 x2 x3 x4, L19 x0 x1 x2 x3 x4 → L199 x0 x1 x2 x3 x4) : wp_11_windiest_b52 Q L19 l1 l2 l3 l4 w → wp_11_windiest_b52 Q9 L199 l1 l2 l3 l4 w := by
  unfold wp_11_windiest_b52
  repeat' first | with_reducible exact HQ | with_reducible exact HQ _ _ | with_reducible exact HL19 | with_reducible exact HL19 _ _ _ _ _ | with_reducible exact fun h => h | with_reducible refine mo_and ?_ ?_ | with_reducible refine mo_ex (fun _ => ?_) | with_reducible refine mo_all (fun _ => ?_) | intro _
theorem mq_11_windiest_b19  {Q Q9 : Int32 → Mem → Prop} (HQ : ∀ x0 x1, Q x0 x1 → Q9 x0 x1) : ∀ (y0 : Nat) (y1 : Int32) (y2 : Int32) (y3 : Int32) (y4 : Int32) (y5 : Mem), wp_11_windiest_b19 Q y0 y1 y2 y3 y4 y5 → wp_11_windiest_b19 Q9 y0 y1 y2 y3 y4 y5 := by
  intro n
  induction n with
  | zero => exact fun _ _ _ _ _ h => h
  | succ n ih =>
    intro y1 y2 y3 y4 y5
    unfold wp_11_windiest_b19
    repeat' first | with_reducible exact HQ | with_reducible exact HQ _ _ | with_reducible exact ih | with_reducible exact ih _ _ _ _ _ | with_reducible exact fun h => h | with_reducible refine mo_and ?_ ?_ | with_reducible refine mo_ex (fun _ => ?_) | with_reducible refine mq_0_windAt ?_ | with_reducible refine mq_11_windiest_b52 ?_ ?_ | with_reducible refine mo_all (fun _ => ?_) | intro _
theorem mq_11_windiest {a1 : Int32} {w : Mem} {Q Q9 : Int32 → Mem → Prop} (HQ : ∀ x0 x1, Q x0 x1 → Q9 x0 x1) : wp_11_windiest a1 w Q → wp_11_windiest a1 w Q9 := by
  unfold wp_11_windiest
  repeat' first | with_reducible exact HQ | with_reducible exact HQ _ _ | with_reducible exact fun h => h | with_reducible refine mo_and ?_ ?_ | with_reducible refine mo_ex (fun _ => ?_) | with_reducible refine mq_11_within ?_ | with_reducible refine mq_11_windiest_b19 ?_ _ _ _ _ _ _ | with_reducible refine mo_all (fun _ => ?_) | intro _
theorem mq_11_progress {a1 : Int32} {w : Mem} {Q Q9 : Int32 → Mem → Prop} (HQ : ∀ x0 x1, Q x0 x1 → Q9 x0 x1) : wp_11_progress a1 w Q → wp_11_progress a1 w Q9 := by
  unfold wp_11_progress
  repeat' first | with_reducible exact HQ | with_reducible exact HQ _ _ | with_reducible exact fun h => h | with_reducible refine mo_and ?_ ?_ | with_reducible refine mo_ex (fun _ => ?_) | with_reducible refine mq_5_hasJump ?_ | with_reducible refine mq_5_cell ?_ | with_reducible refine mo_all (fun _ => ?_) | intro _
theorem mq_11_moreThanHimself {a1 : Int32} {a2 : Int32} {w : Mem} {Q Q9 : Int32 → Mem → Prop} (HQ : ∀ x0 x1, Q x0 x1 → Q9 x0 x1) : wp_11_moreThanHimself a1 a2 w Q → wp_11_moreThanHimself a1 a2 w Q9 := by
  unfold wp_11_moreThanHimself
  repeat' first | with_reducible exact HQ | with_reducible exact HQ _ _ | with_reducible exact fun h => h | with_reducible refine mo_and ?_ ?_ | with_reducible refine mo_ex (fun _ => ?_) | with_reducible refine mq_5_cell ?_ | with_reducible refine mq_0_blow ?_ | with_reducible refine mq_0_reachOf ?_ | with_reducible refine mo_all (fun _ => ?_) | intro _
theorem mq_11_himself_b100 {l1 : Int32} {l2 : Int32} {l3 : Int32} {l4 : Int32} {l5 : Int32} {l6 : Int32} {w : Mem} {Q Q9 : Int32 → Mem → Prop} {L26 L269 : Int32 → Int32 → Int32 → Int32 → Int32 → Mem → Prop} {L44 L449 : Int32 → Int32 → Int32 → Int32 → Int32 → Int32 → Mem → Prop} (HQ : ∀ x0 x1, Q x0 x1 → Q9 x0 x1) (HL26 : ∀ x0 x1 x2 x3 x4 x5, L26 x0 x1 x2 x3 x4 x5 → L269 x0 x1 x2 x3 x4 x5) (HL44 : ∀ x0 x1 x2 x3 x4 x5 x6, L44 x0 x1 x2 x3 x4 x5 x6 → L449 x0 x1 x2 x3 x4 x5 x6) : wp_11_himself_b100 Q L26 L44 l1 l2 l3 l4 l5 l6 w → wp_11_himself_b100 Q9 L269 L449 l1 l2 l3 l4 l5 l6 w := by
  unfold wp_11_himself_b100
  repeat' first | with_reducible exact HQ | with_reducible exact HQ _ _ | with_reducible exact HL26 | with_reducible exact HL26 _ _ _ _ _ _ | with_reducible exact HL44 | with_reducible exact HL44 _ _ _ _ _ _ _ | with_reducible exact fun h => h | with_reducible refine mo_and ?_ ?_ | with_reducible refine mo_ex (fun _ => ?_) | with_reducible refine mo_all (fun _ => ?_) | intro _
theorem mq_11_himself_b90 {l1 : Int32} {l5 : Int32} {l6 : Int32} {l7 : Int32} {w : Mem} {Q Q9 : Int32 → Mem → Prop} {L26 L269 : Int32 → Int32 → Int32 → Int32 → Int32 → Mem → Prop} {L44 L449 : Int32 → Int32 → Int32 → Int32 → Int32 → Int32 → Mem → Prop} (HQ : ∀ x0 x1, Q x0 x1 → Q9 x0 x1) (HL26 : ∀ x0 x1 x2 x3 x4 x5, L26 x0 x1 x2 x3 x4 x5 → L269 x0 x1 x2 x3 x4 x5) (HL44 : ∀ x0 x1 x2 x3 x4 x5 x6, L44 x0 x1 x2 x3 x4 x5 x6 → L449 x0 x1 x2 x3 x4 x5 x6) : wp_11_himself_b90 Q L26 L44 l1 l5 l6 l7 w → wp_11_himself_b90 Q9 L269 L449 l1 l5 l6 l7 w := by
  unfold wp_11_himself_b90
  repeat' first | with_reducible exact HQ | with_reducible exact HQ _ _ | with_reducible exact HL26 | with_reducible exact HL26 _ _ _ _ _ _ | with_reducible exact HL44 | with_reducible exact HL44 _ _ _ _ _ _ _ | with_reducible exact fun h => h | with_reducible refine mo_and ?_ ?_ | with_reducible refine mo_ex (fun _ => ?_) | with_reducible refine mq_11_himself_b100 ?_ ?_ ?_ | with_reducible refine mo_all (fun _ => ?_) | intro _
theorem mq_11_himself_b44  {Q Q9 : Int32 → Mem → Prop} {L26 L269 : Int32 → Int32 → Int32 → Int32 → Int32 → Mem → Prop} (HQ : ∀ x0 x1, Q x0 x1 → Q9 x0 x1) (HL26 : ∀ x0 x1 x2 x3 x4 x5, L26 x0 x1 x2 x3 x4 x5 → L269 x0 x1 x2 x3 x4 x5) : ∀ (y0 : Nat) (y1 : Int32) (y2 : Int32) (y3 : Int32) (y4 : Int32) (y5 : Int32) (y6 : Int32) (y7 : Mem), wp_11_himself_b44 Q L26 y0 y1 y2 y3 y4 y5 y6 y7 → wp_11_himself_b44 Q9 L269 y0 y1 y2 y3 y4 y5 y6 y7 := by
  intro n
  induction n with
  | zero => exact fun _ _ _ _ _ _ _ h => h
  | succ n ih =>
    intro y1 y2 y3 y4 y5 y6 y7
    unfold wp_11_himself_b44
    repeat' first | with_reducible exact HQ | with_reducible exact HQ _ _ | with_reducible exact HL26 | with_reducible exact HL26 _ _ _ _ _ _ | with_reducible exact ih | with_reducible exact ih _ _ _ _ _ _ _ | with_reducible exact fun h => h | with_reducible refine mo_and ?_ ?_ | with_reducible refine mo_ex (fun _ => ?_) | with_reducible refine mq_5_hasJump ?_ | with_reducible refine mq_11_moreThanHimself ?_ | with_reducible refine mq_11_himself_b90 ?_ ?_ ?_ | with_reducible refine mq_11_himself_b100 ?_ ?_ ?_ | with_reducible refine mo_all (fun _ => ?_) | intro _
theorem mq_11_himself_b26  {Q Q9 : Int32 → Mem → Prop} (HQ : ∀ x0 x1, Q x0 x1 → Q9 x0 x1) : ∀ (y0 : Nat) (y1 : Int32) (y2 : Int32) (y3 : Int32) (y4 : Int32) (y5 : Int32) (y6 : Mem), wp_11_himself_b26 Q y0 y1 y2 y3 y4 y5 y6 → wp_11_himself_b26 Q9 y0 y1 y2 y3 y4 y5 y6 := by
  intro n
  induction n with
  | zero => exact fun _ _ _ _ _ _ h => h
  | succ n ih =>
    intro y1 y2 y3 y4 y5 y6
    unfold wp_11_himself_b26
    repeat' first | with_reducible exact HQ | with_reducible exact HQ _ _ | with_reducible exact ih | with_reducible exact ih _ _ _ _ _ _ | with_reducible exact fun h => h | with_reducible refine mo_and ?_ ?_ | with_reducible refine mo_ex (fun _ => ?_) | with_reducible refine mq_11_himself_b44 ?_ ?_ _ _ _ _ _ _ _ _ | with_reducible refine mo_all (fun _ => ?_) | intro _
theorem mq_11_himself {a1 : Int32} {w : Mem} {Q Q9 : Int32 → Mem → Prop} (HQ : ∀ x0 x1, Q x0 x1 → Q9 x0 x1) : wp_11_himself a1 w Q → wp_11_himself a1 w Q9 := by
  unfold wp_11_himself
  repeat' first | with_reducible exact HQ | with_reducible exact HQ _ _ | with_reducible exact fun h => h | with_reducible refine mo_and ?_ ?_ | with_reducible refine mo_ex (fun _ => ?_) | with_reducible refine mq_11_within ?_ | with_reducible refine mq_11_himself_b26 ?_ _ _ _ _ _ _ _ | with_reducible refine mo_all (fun _ => ?_) | intro _
theorem mq_11_tell {a1 : Int32} {a2 : Int32} {a3 : Int32} {w : Mem} {Q Q9 : Int32 → Mem → Prop} (HQ : ∀ x0 x1, Q x0 x1 → Q9 x0 x1) : wp_11_tell a1 a2 a3 w Q → wp_11_tell a1 a2 a3 w Q9 := by
  unfold wp_11_tell
  repeat' first | with_reducible exact HQ | with_reducible exact HQ _ _ | with_reducible exact fun h => h | with_reducible refine mo_and ?_ ?_ | with_reducible refine mo_ex (fun _ => ?_) | with_reducible refine mq_11_isMan ?_ | with_reducible refine mq_11_within ?_ | with_reducible refine mq_10_add ?_ | with_reducible refine mo_all (fun _ => ?_) | intro _
theorem mq_11_forget {w : Mem} {Q Q9 : Int32 → Mem → Prop} (HQ : ∀ x0 x1, Q x0 x1 → Q9 x0 x1) : wp_11_forget w Q → wp_11_forget w Q9 := by
  unfold wp_11_forget
  repeat' first | with_reducible exact HQ | with_reducible exact HQ _ _ | with_reducible exact fun h => h | with_reducible refine mo_and ?_ ?_ | with_reducible refine mo_ex (fun _ => ?_) | with_reducible refine mo_all (fun _ => ?_) | intro _
theorem mq_11_mayBeSoLate_b82 {l1 : Int32} {l2 : Int32} {l3 : Int32} {l4 : Int32} {w : Mem} {Q Q9 : Int32 → Mem → Prop} {L3 L39 : Int32 → Int32 → Int32 → Int32 → Mem → Prop} (HQ : ∀ x0 x1, Q x0 x1 → Q9 x0 x1) (HL3 : ∀ x0 x1 x2 x3 x4, L3 x0 x1 x2 x3 x4 → L39 x0 x1 x2 x3 x4) : wp_11_mayBeSoLate_b82 Q L3 l1 l2 l3 l4 w → wp_11_mayBeSoLate_b82 Q9 L39 l1 l2 l3 l4 w := by
  unfold wp_11_mayBeSoLate_b82
  repeat' first | with_reducible exact HQ | with_reducible exact HQ _ _ | with_reducible exact HL3 | with_reducible exact HL3 _ _ _ _ _ | with_reducible exact fun h => h | with_reducible refine mo_and ?_ ?_ | with_reducible refine mo_ex (fun _ => ?_) | with_reducible refine mo_all (fun _ => ?_) | intro _
theorem mq_11_mayBeSoLate_b3  {Q Q9 : Int32 → Mem → Prop} (HQ : ∀ x0 x1, Q x0 x1 → Q9 x0 x1) : ∀ (y0 : Nat) (y1 : Int32) (y2 : Int32) (y3 : Int32) (y4 : Int32) (y5 : Mem), wp_11_mayBeSoLate_b3 Q y0 y1 y2 y3 y4 y5 → wp_11_mayBeSoLate_b3 Q9 y0 y1 y2 y3 y4 y5 := by
  intro n
  induction n with
  | zero => exact fun _ _ _ _ _ h => h
  | succ n ih =>
    intro y1 y2 y3 y4 y5
    unfold wp_11_mayBeSoLate_b3
    repeat' first | with_reducible exact HQ | with_reducible exact HQ _ _ | with_reducible exact ih | with_reducible exact ih _ _ _ _ _ | with_reducible exact fun h => h | with_reducible refine mo_and ?_ ?_ | with_reducible refine mo_ex (fun _ => ?_) | with_reducible refine mq_0_blow ?_ | with_reducible refine mq_0_reachOf ?_ | with_reducible refine mq_11_mayBeSoLate_b82 ?_ ?_ | with_reducible refine mo_all (fun _ => ?_) | intro _
theorem mq_11_mayBeSoLate {a1 : Int32} {a2 : Int32} {a3 : Int32} {w : Mem} {Q Q9 : Int32 → Mem → Prop} (HQ : ∀ x0 x1, Q x0 x1 → Q9 x0 x1) : wp_11_mayBeSoLate a1 a2 a3 w Q → wp_11_mayBeSoLate a1 a2 a3 w Q9 := by
  unfold wp_11_mayBeSoLate
  repeat' first | with_reducible exact HQ | with_reducible exact HQ _ _ | with_reducible exact fun h => h | with_reducible refine mo_and ?_ ?_ | with_reducible refine mo_ex (fun _ => ?_) | with_reducible refine mq_11_mayBeSoLate_b3 ?_ _ _ _ _ _ _ | with_reducible refine mo_all (fun _ => ?_) | intro _
theorem mq_11_slips_b73 {l1 : Int32} {l2 : Int32} {l3 : Int32} {l4 : Int32} {l5 : Int32} {w : Mem} {Q Q9 : Int32 → Mem → Prop} {L37 L379 : Int32 → Int32 → Int32 → Int32 → Int32 → Mem → Prop} (HQ : ∀ x0 x1, Q x0 x1 → Q9 x0 x1) (HL37 : ∀ x0 x1 x2 x3 x4 x5, L37 x0 x1 x2 x3 x4 x5 → L379 x0 x1 x2 x3 x4 x5) : wp_11_slips_b73 Q L37 l1 l2 l3 l4 l5 w → wp_11_slips_b73 Q9 L379 l1 l2 l3 l4 l5 w := by
  unfold wp_11_slips_b73
  repeat' first | with_reducible exact HQ | with_reducible exact HQ _ _ | with_reducible exact HL37 | with_reducible exact HL37 _ _ _ _ _ _ | with_reducible exact fun h => h | with_reducible refine mo_and ?_ ?_ | with_reducible refine mo_ex (fun _ => ?_) | with_reducible refine mo_all (fun _ => ?_) | intro _
theorem mq_11_slips_b37  {Q Q9 : Int32 → Mem → Prop} (HQ : ∀ x0 x1, Q x0 x1 → Q9 x0 x1) : ∀ (y0 : Nat) (y1 : Int32) (y2 : Int32) (y3 : Int32) (y4 : Int32) (y5 : Int32) (y6 : Mem), wp_11_slips_b37 Q y0 y1 y2 y3 y4 y5 y6 → wp_11_slips_b37 Q9 y0 y1 y2 y3 y4 y5 y6 := by
  intro n
  induction n with
  | zero => exact fun _ _ _ _ _ _ h => h
  | succ n ih =>
    intro y1 y2 y3 y4 y5 y6
    unfold wp_11_slips_b37
    repeat' first | with_reducible exact HQ | with_reducible exact HQ _ _ | with_reducible exact ih | with_reducible exact ih _ _ _ _ _ _ | with_reducible exact fun h => h | with_reducible refine mo_and ?_ ?_ | with_reducible refine mo_ex (fun _ => ?_) | with_reducible refine mq_11_mayBeSoLate ?_ | with_reducible refine mq_11_slips_b73 ?_ ?_ | with_reducible refine mo_all (fun _ => ?_) | intro _
theorem mq_11_slips {a1 : Int32} {a2 : Int32} {a3 : Int32} {w : Mem} {Q Q9 : Int32 → Mem → Prop} (HQ : ∀ x0 x1, Q x0 x1 → Q9 x0 x1) : wp_11_slips a1 a2 a3 w Q → wp_11_slips a1 a2 a3 w Q9 := by
  unfold wp_11_slips
  repeat' first | with_reducible exact HQ | with_reducible exact HQ _ _ | with_reducible exact fun h => h | with_reducible refine mo_and ?_ ?_ | with_reducible refine mo_ex (fun _ => ?_) | with_reducible refine mq_11_isMan ?_ | with_reducible refine mq_11_within ?_ | with_reducible refine mq_11_slips_b37 ?_ _ _ _ _ _ _ _ | with_reducible refine mo_all (fun _ => ?_) | intro _
theorem mq_11_hold {a1 : Int32} {w : Mem} {Q Q9 : Int32 → Mem → Prop} (HQ : ∀ x0 x1, Q x0 x1 → Q9 x0 x1) : wp_11_hold a1 w Q → wp_11_hold a1 w Q9 := by
  unfold wp_11_hold
  repeat' first | with_reducible exact HQ | with_reducible exact HQ _ _ | with_reducible exact fun h => h | with_reducible refine mo_and ?_ ?_ | with_reducible refine mo_ex (fun _ => ?_) | with_reducible refine mq_6_putInto ?_ | with_reducible refine mo_all (fun _ => ?_) | intro _
theorem mq_11_restore {a1 : Int32} {w : Mem} {Q Q9 : Int32 → Mem → Prop} (HQ : ∀ x0 x1, Q x0 x1 → Q9 x0 x1) : wp_11_restore a1 w Q → wp_11_restore a1 w Q9 := by
  unfold wp_11_restore
  repeat' first | with_reducible exact HQ | with_reducible exact HQ _ _ | with_reducible exact fun h => h | with_reducible refine mo_and ?_ ?_ | with_reducible refine mo_ex (fun _ => ?_) | with_reducible refine mq_6_giveBack ?_ | with_reducible refine mq_1_clear ?_ | with_reducible refine mo_all (fun _ => ?_) | intro _
theorem mq_11_count {a1 : Int32} {w : Mem} {Q Q9 : Int32 → Mem → Prop} (HQ : ∀ x0 x1, Q x0 x1 → Q9 x0 x1) : wp_11_count a1 w Q → wp_11_count a1 w Q9 := by
  unfold wp_11_count
  repeat' first | with_reducible exact HQ | with_reducible exact HQ _ _ | with_reducible exact fun h => h | with_reducible refine mo_and ?_ ?_ | with_reducible refine mo_ex (fun _ => ?_) | with_reducible refine mq_5_jumpsBeyond ?_ | with_reducible refine mq_6_countHeld ?_ | with_reducible refine mq_5_longest ?_ | with_reducible refine mo_all (fun _ => ?_) | intro _
theorem mq_12_put_b3  {Q Q9 : Mem → MemL → Prop} (HQ : ∀ x0 x1, Q x0 x1 → Q9 x0 x1) : ∀ (y0 : Nat) (y1 : Int32) (y2 : Int32) (y3 : Mem) (y4 : MemL), wp_12_put_b3 Q y0 y1 y2 y3 y4 → wp_12_put_b3 Q9 y0 y1 y2 y3 y4 := by
  intro n
  induction n with
  | zero => exact fun _ _ _ _ h => h
  | succ n ih =>
    intro y1 y2 y3 y4
    unfold wp_12_put_b3
    repeat' first | with_reducible exact HQ | with_reducible exact HQ _ _ | with_reducible exact ih | with_reducible exact ih _ _ _ _ | with_reducible exact fun h => h | with_reducible refine mo_and ?_ ?_ | with_reducible refine mo_ex (fun _ => ?_) | with_reducible refine mo_all (fun _ => ?_) | intro _
theorem mq_12_put {a1 : Int32} {w : Mem} {wl : MemL} {Q Q9 : Mem → MemL → Prop} (HQ : ∀ x0 x1, Q x0 x1 → Q9 x0 x1) : wp_12_put a1 w wl Q → wp_12_put a1 w wl Q9 := by
  unfold wp_12_put
  repeat' first | with_reducible exact HQ | with_reducible exact HQ _ _ | with_reducible exact fun h => h | with_reducible refine mo_and ?_ ?_ | with_reducible refine mo_ex (fun _ => ?_) | with_reducible refine mq_12_put_b3 ?_ _ _ _ _ _ | with_reducible refine mo_all (fun _ => ?_) | intro _
theorem mq_12_feed {a1 : Int32} {a2 : Int32} {a3 : Int32} {a4 : Int32} {a5 : Int32} {w : Mem} {wl : MemL} {Q Q9 : Int32 → Mem → MemL → Prop} (HQ : ∀ x0 x1 x2, Q x0 x1 x2 → Q9 x0 x1 x2) : wp_12_feed a1 a2 a3 a4 a5 w wl Q → wp_12_feed a1 a2 a3 a4 a5 w wl Q9 := by
  unfold wp_12_feed
  repeat' first | with_reducible exact HQ | with_reducible exact HQ _ _ _ | with_reducible exact fun h => h | with_reducible refine mo_and ?_ ?_ | with_reducible refine mo_ex (fun _ => ?_) | with_reducible refine mq_12_put ?_ | with_reducible refine mo_all (fun _ => ?_) | intro _
theorem mq_12_back {a1 : Int32} {w : Mem} {wl : MemL} {Q Q9 : Int32 → Mem → MemL → Prop} (HQ : ∀ x0 x1 x2, Q x0 x1 x2 → Q9 x0 x1 x2) : wp_12_back a1 w wl Q → wp_12_back a1 w wl Q9 := by
  unfold wp_12_back
  repeat' first | with_reducible exact HQ | with_reducible exact HQ _ _ _ | with_reducible exact fun h => h | with_reducible refine mo_and ?_ ?_ | with_reducible refine mo_ex (fun _ => ?_) | with_reducible refine mo_all (fun _ => ?_) | intro _
theorem mq_12_tell0 {a1 : Int32} {w : Mem} {wl : MemL} {Q Q9 : Int32 → Mem → MemL → Prop} (HQ : ∀ x0 x1 x2, Q x0 x1 x2 → Q9 x0 x1 x2) : wp_12_tell0 a1 w wl Q → wp_12_tell0 a1 w wl Q9 := by
  unfold wp_12_tell0
  repeat' first | with_reducible exact HQ | with_reducible exact HQ _ _ _ | with_reducible exact fun h => h | with_reducible refine mo_and ?_ ?_ | with_reducible refine mo_ex (fun _ => ?_) | with_reducible refine mo_all (fun _ => ?_) | intro _
theorem mq_12_plainly {w : Mem} {wl : MemL} {Q Q9 : Mem → MemL → Prop} (HQ : ∀ x0 x1, Q x0 x1 → Q9 x0 x1) : wp_12_plainly w wl Q → wp_12_plainly w wl Q9 := by
  unfold wp_12_plainly
  repeat' first | with_reducible exact HQ | with_reducible exact HQ _ _ | with_reducible exact fun h => h | with_reducible refine mo_and ?_ ?_ | with_reducible refine mo_ex (fun _ => ?_) | with_reducible refine mq_12_tell0 ?_ | with_reducible refine mo_all (fun _ => ?_) | intro _
theorem mq_12_begins_b2  {Q Q9 : Mem → MemL → Prop} (HQ : ∀ x0 x1, Q x0 x1 → Q9 x0 x1) : ∀ (y0 : Nat) (y1 : Int32) (y2 : Mem) (y3 : MemL), wp_12_begins_b2 Q y0 y1 y2 y3 → wp_12_begins_b2 Q9 y0 y1 y2 y3 := by
  intro n
  induction n with
  | zero => exact fun _ _ _ h => h
  | succ n ih =>
    intro y1 y2 y3
    unfold wp_12_begins_b2
    repeat' first | with_reducible exact HQ | with_reducible exact HQ _ _ | with_reducible exact ih | with_reducible exact ih _ _ _ | with_reducible exact fun h => h | with_reducible refine mo_and ?_ ?_ | with_reducible refine mo_ex (fun _ => ?_) | with_reducible refine mq_12_tell0 ?_ | with_reducible refine mq_12_plainly ?_ | with_reducible refine mo_all (fun _ => ?_) | intro _
theorem mq_12_begins {w : Mem} {wl : MemL} {Q Q9 : Mem → MemL → Prop} (HQ : ∀ x0 x1, Q x0 x1 → Q9 x0 x1) : wp_12_begins w wl Q → wp_12_begins w wl Q9 := by
  unfold wp_12_begins
  repeat' first | with_reducible exact HQ | with_reducible exact HQ _ _ | with_reducible exact fun h => h | with_reducible refine mo_and ?_ ?_ | with_reducible refine mo_ex (fun _ => ?_) | with_reducible refine mq_12_begins_b2 ?_ _ _ _ _ | with_reducible refine mo_all (fun _ => ?_) | intro _
theorem mq_12_keepsRow_b2  {Q Q9 : Mem → MemL → Prop} (HQ : ∀ x0 x1, Q x0 x1 → Q9 x0 x1) : ∀ (y0 : Nat) (y1 : Int32) (y2 : Mem) (y3 : MemL), wp_12_keepsRow_b2 Q y0 y1 y2 y3 → wp_12_keepsRow_b2 Q9 y0 y1 y2 y3 := by
  intro n
  induction n with
  | zero => exact fun _ _ _ h => h
  | succ n ih =>
    intro y1 y2 y3
    unfold wp_12_keepsRow_b2
    repeat' first | with_reducible exact HQ | with_reducible exact HQ _ _ | with_reducible exact ih | with_reducible exact ih _ _ _ | with_reducible exact fun h => h | with_reducible refine mo_and ?_ ?_ | with_reducible refine mo_ex (fun _ => ?_) | with_reducible refine mo_all (fun _ => ?_) | intro _
theorem mq_12_keepsRow {w : Mem} {wl : MemL} {Q Q9 : Mem → MemL → Prop} (HQ : ∀ x0 x1, Q x0 x1 → Q9 x0 x1) : wp_12_keepsRow w wl Q → wp_12_keepsRow w wl Q9 := by
  unfold wp_12_keepsRow
  repeat' first | with_reducible exact HQ | with_reducible exact HQ _ _ | with_reducible exact fun h => h | with_reducible refine mo_and ?_ ?_ | with_reducible refine mo_ex (fun _ => ?_) | with_reducible refine mq_12_keepsRow_b2 ?_ _ _ _ _ | with_reducible refine mo_all (fun _ => ?_) | intro _
theorem mq_12_place {w : Mem} {wl : MemL} {Q Q9 : Int32 → Mem → MemL → Prop} (HQ : ∀ x0 x1 x2, Q x0 x1 x2 → Q9 x0 x1 x2) : wp_12_place w wl Q → wp_12_place w wl Q9 := by
  unfold wp_12_place
  repeat' first | with_reducible exact HQ | with_reducible exact HQ _ _ _ | with_reducible exact fun h => h | with_reducible refine mo_and ?_ ?_ | with_reducible refine mo_ex (fun _ => ?_) | with_reducible refine mo_all (fun _ => ?_) | intro _
theorem mq_12_termOf_b159 {l2 : Int32} {l3 : Int32} {l4 : Int32} {w : Mem} {wl : MemL} {Q Q9 : Int32 → Mem → MemL → Prop} {L5 L59 : Int32 → Int32 → Int32 → Mem → MemL → Prop} (HQ : ∀ x0 x1 x2, Q x0 x1 x2 → Q9 x0 x1 x2) (HL5 : ∀ x0 x1 x2 x3 x4, L5 x0 x1 x2 x3 x4 → L59 x0 x1 x2 x3 x4) : wp_12_termOf_b159 Q L5 l2 l3 l4 w wl → wp_12_termOf_b159 Q9 L59 l2 l3 l4 w wl := by
  unfold wp_12_termOf_b159
  repeat' first | with_reducible exact HQ | with_reducible exact HQ _ _ _ | with_reducible exact HL5 | with_reducible exact HL5 _ _ _ _ _ | with_reducible exact fun h => h | with_reducible refine mo_and ?_ ?_ | with_reducible refine mo_ex (fun _ => ?_) | with_reducible refine mo_all (fun _ => ?_) | intro _
theorem mq_12_termOf_b158 {l2 : Int32} {l3 : Int32} {l4 : Int32} {s1 : Int32} {s2 : Int32} {w : Mem} {wl : MemL} {Q Q9 : Int32 → Mem → MemL → Prop} {L5 L59 : Int32 → Int32 → Int32 → Mem → MemL → Prop} (HQ : ∀ x0 x1 x2, Q x0 x1 x2 → Q9 x0 x1 x2) (HL5 : ∀ x0 x1 x2 x3 x4, L5 x0 x1 x2 x3 x4 → L59 x0 x1 x2 x3 x4) : wp_12_termOf_b158 Q L5 l2 l3 l4 s1 s2 w wl → wp_12_termOf_b158 Q9 L59 l2 l3 l4 s1 s2 w wl := by
  unfold wp_12_termOf_b158
  repeat' first | with_reducible exact HQ | with_reducible exact HQ _ _ _ | with_reducible exact HL5 | with_reducible exact HL5 _ _ _ _ _ | with_reducible exact fun h => h | with_reducible refine mo_and ?_ ?_ | with_reducible refine mo_ex (fun _ => ?_) | with_reducible refine mq_12_termOf_b159 ?_ ?_ | with_reducible refine mo_all (fun _ => ?_) | intro _
theorem mq_12_termOf_b104 {l2 : Int32} {l3 : Int32} {l4 : Int32} {l5 : Int32} {l6 : Int32} {l7 : Int32} {w : Mem} {wl : MemL} {Q Q9 : Int32 → Mem → MemL → Prop} {L5 L59 : Int32 → Int32 → Int32 → Mem → MemL → Prop} (HQ : ∀ x0 x1 x2, Q x0 x1 x2 → Q9 x0 x1 x2) (HL5 : ∀ x0 x1 x2 x3 x4, L5 x0 x1 x2 x3 x4 → L59 x0 x1 x2 x3 x4) : wp_12_termOf_b104 Q L5 l2 l3 l4 l5 l6 l7 w wl → wp_12_termOf_b104 Q9 L59 l2 l3 l4 l5 l6 l7 w wl := by
  unfold wp_12_termOf_b104
  repeat' first | with_reducible exact HQ | with_reducible exact HQ _ _ _ | with_reducible exact HL5 | with_reducible exact HL5 _ _ _ _ _ | with_reducible exact fun h => h | with_reducible refine mo_and ?_ ?_ | with_reducible refine mo_ex (fun _ => ?_) | with_reducible refine mq_12_termOf_b158 ?_ ?_ | with_reducible refine mo_all (fun _ => ?_) | intro _
theorem mq_12_termOf_b58 {l2 : Int32} {l3 : Int32} {l4 : Int32} {s1 : Int32} {s2 : Int32} {w : Mem} {wl : MemL} {Q Q9 : Int32 → Mem → MemL → Prop} {L5 L59 : Int32 → Int32 → Int32 → Mem → MemL → Prop} (HQ : ∀ x0 x1 x2, Q x0 x1 x2 → Q9 x0 x1 x2) (HL5 : ∀ x0 x1 x2 x3 x4, L5 x0 x1 x2 x3 x4 → L59 x0 x1 x2 x3 x4) : wp_12_termOf_b58 Q L5 l2 l3 l4 s1 s2 w wl → wp_12_termOf_b58 Q9 L59 l2 l3 l4 s1 s2 w wl := by
  unfold wp_12_termOf_b58
  repeat' first | with_reducible exact HQ | with_reducible exact HQ _ _ _ | with_reducible exact HL5 | with_reducible exact HL5 _ _ _ _ _ | with_reducible exact fun h => h | with_reducible refine mo_and ?_ ?_ | with_reducible refine mo_ex (fun _ => ?_) | with_reducible refine mq_12_termOf_b159 ?_ ?_ | with_reducible refine mo_all (fun _ => ?_) | intro _
theorem mq_12_termOf_b5  {Q Q9 : Int32 → Mem → MemL → Prop} (HQ : ∀ x0 x1 x2, Q x0 x1 x2 → Q9 x0 x1 x2) : ∀ (y0 : Nat) (y1 : Int32) (y2 : Int32) (y3 : Int32) (y4 : Mem) (y5 : MemL), wp_12_termOf_b5 Q y0 y1 y2 y3 y4 y5 → wp_12_termOf_b5 Q9 y0 y1 y2 y3 y4 y5 := by
  intro n
  induction n with
  | zero => exact fun _ _ _ _ _ h => h
  | succ n ih =>
    intro y1 y2 y3 y4 y5
    unfold wp_12_termOf_b5
    repeat' first | with_reducible exact HQ | with_reducible exact HQ _ _ _ | with_reducible exact ih | with_reducible exact ih _ _ _ _ _ | with_reducible exact fun h => h | with_reducible refine mo_and ?_ ?_ | with_reducible refine mo_ex (fun _ => ?_) | with_reducible refine mq_12_termOf_b104 ?_ ?_ | with_reducible refine mq_12_termOf_b58 ?_ ?_ | with_reducible refine mo_all (fun _ => ?_) | intro _
theorem mq_12_termOf {a1 : Int32} {a2 : Int32} {w : Mem} {wl : MemL} {Q Q9 : Int32 → Mem → MemL → Prop} (HQ : ∀ x0 x1 x2, Q x0 x1 x2 → Q9 x0 x1 x2) : wp_12_termOf a1 a2 w wl Q → wp_12_termOf a1 a2 w wl Q9 := by
  unfold wp_12_termOf
  repeat' first | with_reducible exact HQ | with_reducible exact HQ _ _ _ | with_reducible exact fun h => h | with_reducible refine mo_and ?_ ?_ | with_reducible refine mo_ex (fun _ => ?_) | with_reducible refine mq_12_termOf_b5 ?_ _ _ _ _ _ _ | with_reducible refine mo_all (fun _ => ?_) | intro _
theorem mq_12_in_b14 {w : Mem} {wl : MemL} {Q Q9 : Int32 → Mem → MemL → Prop} (HQ : ∀ x0 x1 x2, Q x0 x1 x2 → Q9 x0 x1 x2) : wp_12_in_b14 Q w wl → wp_12_in_b14 Q9 w wl := by
  unfold wp_12_in_b14
  repeat' first | with_reducible exact HQ | with_reducible exact HQ _ _ _ | with_reducible exact fun h => h | with_reducible refine mo_and ?_ ?_ | with_reducible refine mo_ex (fun _ => ?_) | with_reducible refine mo_all (fun _ => ?_) | intro _
theorem mq_12_in {a1 : Int32} {a2 : Int32} {a3 : Int32} {w : Mem} {wl : MemL} {Q Q9 : Int32 → Mem → MemL → Prop} (HQ : ∀ x0 x1 x2, Q x0 x1 x2 → Q9 x0 x1 x2) : wp_12_in a1 a2 a3 w wl Q → wp_12_in a1 a2 a3 w wl Q9 := by
  unfold wp_12_in
  repeat' first | with_reducible exact HQ | with_reducible exact HQ _ _ _ | with_reducible exact fun h => h | with_reducible refine mo_and ?_ ?_ | with_reducible refine mo_ex (fun _ => ?_) | with_reducible refine mq_12_in_b14 ?_ | with_reducible refine mo_all (fun _ => ?_) | intro _
theorem mq_12_isMan {a1 : Int32} {w : Mem} {wl : MemL} {Q Q9 : Int32 → Mem → MemL → Prop} (HQ : ∀ x0 x1 x2, Q x0 x1 x2 → Q9 x0 x1 x2) : wp_12_isMan a1 w wl Q → wp_12_isMan a1 w wl Q9 := by
  unfold wp_12_isMan
  repeat' first | with_reducible exact HQ | with_reducible exact HQ _ _ _ | with_reducible exact fun h => h | with_reducible refine mo_and ?_ ?_ | with_reducible refine mo_ex (fun _ => ?_) | with_reducible refine mq_12_in ?_ | with_reducible refine mo_all (fun _ => ?_) | intro _
theorem mq_12_isJudge {a1 : Int32} {w : Mem} {wl : MemL} {Q Q9 : Int32 → Mem → MemL → Prop} (HQ : ∀ x0 x1 x2, Q x0 x1 x2 → Q9 x0 x1 x2) : wp_12_isJudge a1 w wl Q → wp_12_isJudge a1 w wl Q9 := by
  unfold wp_12_isJudge
  repeat' first | with_reducible exact HQ | with_reducible exact HQ _ _ _ | with_reducible exact fun h => h | with_reducible refine mo_and ?_ ?_ | with_reducible refine mo_ex (fun _ => ?_) | with_reducible refine mq_12_in ?_ | with_reducible refine mo_all (fun _ => ?_) | intro _
theorem mq_12_copies_b2  {Q Q9 : Mem → MemL → Prop} (HQ : ∀ x0 x1, Q x0 x1 → Q9 x0 x1) : ∀ (y0 : Nat) (y1 : Int32) (y2 : Mem) (y3 : MemL), wp_12_copies_b2 Q y0 y1 y2 y3 → wp_12_copies_b2 Q9 y0 y1 y2 y3 := by
  intro n
  induction n with
  | zero => exact fun _ _ _ h => h
  | succ n ih =>
    intro y1 y2 y3
    unfold wp_12_copies_b2
    repeat' first | with_reducible exact HQ | with_reducible exact HQ _ _ | with_reducible exact ih | with_reducible exact ih _ _ _ | with_reducible exact fun h => h | with_reducible refine mo_and ?_ ?_ | with_reducible refine mo_ex (fun _ => ?_) | with_reducible refine mq_12_plainly ?_ | with_reducible refine mo_all (fun _ => ?_) | intro _
theorem mq_12_copies {w : Mem} {wl : MemL} {Q Q9 : Mem → MemL → Prop} (HQ : ∀ x0 x1, Q x0 x1 → Q9 x0 x1) : wp_12_copies w wl Q → wp_12_copies w wl Q9 := by
  unfold wp_12_copies
  repeat' first | with_reducible exact HQ | with_reducible exact HQ _ _ | with_reducible exact fun h => h | with_reducible refine mo_and ?_ ?_ | with_reducible refine mo_ex (fun _ => ?_) | with_reducible refine mq_12_copies_b2 ?_ _ _ _ _ | with_reducible refine mo_all (fun _ => ?_) | intro _
theorem mq_12_mixed {a1 : Int32} {a2 : Int32} {w : Mem} {wl : MemL} {Q Q9 : Int32 → Mem → MemL → Prop} (HQ : ∀ x0 x1 x2, Q x0 x1 x2 → Q9 x0 x1 x2) : wp_12_mixed a1 a2 w wl Q → wp_12_mixed a1 a2 w wl Q9 := by
  unfold wp_12_mixed
  repeat' first | with_reducible exact HQ | with_reducible exact HQ _ _ _ | with_reducible exact fun h => h | with_reducible refine mo_and ?_ ?_ | with_reducible refine mo_ex (fun _ => ?_) | with_reducible refine mo_all (fun _ => ?_) | intro _
theorem mq_12_lotOf {a1 : Int32} {a2 : Int32} {w : Mem} {wl : MemL} {Q Q9 : Int32 → Mem → MemL → Prop} (HQ : ∀ x0 x1 x2, Q x0 x1 x2 → Q9 x0 x1 x2) : wp_12_lotOf a1 a2 w wl Q → wp_12_lotOf a1 a2 w wl Q9 := by
  unfold wp_12_lotOf
  repeat' first | with_reducible exact HQ | with_reducible exact HQ _ _ _ | with_reducible exact fun h => h | with_reducible refine mo_and ?_ ?_ | with_reducible refine mo_ex (fun _ => ?_) | with_reducible refine mq_12_mixed ?_ | with_reducible refine mo_all (fun _ => ?_) | intro _
theorem mq_12_held {a1 : Int32} {a2 : Int32} {a3 : Int32} {w : Mem} {wl : MemL} {Q Q9 : Int32 → Mem → MemL → Prop} (HQ : ∀ x0 x1 x2, Q x0 x1 x2 → Q9 x0 x1 x2) : wp_12_held a1 a2 a3 w wl Q → wp_12_held a1 a2 a3 w wl Q9 := by
  unfold wp_12_held
  repeat' first | with_reducible exact HQ | with_reducible exact HQ _ _ _ | with_reducible exact fun h => h | with_reducible refine mo_and ?_ ?_ | with_reducible refine mo_ex (fun _ => ?_) | with_reducible refine mo_all (fun _ => ?_) | intro _
theorem mq_12_tells_b169 {l3 : Int32} {l4 : Int32} {s0 : Int32} {w : Mem} {wl : MemL} {Q Q9 : Int32 → Mem → MemL → Prop} (HQ : ∀ x0 x1 x2, Q x0 x1 x2 → Q9 x0 x1 x2) : wp_12_tells_b169 Q l3 l4 s0 w wl → wp_12_tells_b169 Q9 l3 l4 s0 w wl := by
  unfold wp_12_tells_b169
  repeat' first | with_reducible exact HQ | with_reducible exact HQ _ _ _ | with_reducible exact fun h => h | with_reducible refine mo_and ?_ ?_ | with_reducible refine mo_ex (fun _ => ?_) | with_reducible refine mq_12_held ?_ | with_reducible refine mo_all (fun _ => ?_) | intro _
theorem mq_12_tells_b136 {l3 : Int32} {l4 : Int32} {l6 : Int32} {w : Mem} {wl : MemL} {Q Q9 : Int32 → Mem → MemL → Prop} (HQ : ∀ x0 x1 x2, Q x0 x1 x2 → Q9 x0 x1 x2) : wp_12_tells_b136 Q l3 l4 l6 w wl → wp_12_tells_b136 Q9 l3 l4 l6 w wl := by
  unfold wp_12_tells_b136
  repeat' first | with_reducible exact HQ | with_reducible exact HQ _ _ _ | with_reducible exact fun h => h | with_reducible refine mo_and ?_ ?_ | with_reducible refine mo_ex (fun _ => ?_) | with_reducible refine mq_12_termOf ?_ | with_reducible refine mq_12_tells_b169 ?_ | with_reducible refine mo_all (fun _ => ?_) | intro _
theorem mq_12_tells_b49  {Q Q9 : Int32 → Mem → MemL → Prop} (HQ : ∀ x0 x1 x2, Q x0 x1 x2 → Q9 x0 x1 x2) : ∀ (y0 : Nat) (y1 : Int32) (y2 : Int32) (y3 : Int32) (y4 : Int32) (y5 : Mem) (y6 : MemL), wp_12_tells_b49 Q y0 y1 y2 y3 y4 y5 y6 → wp_12_tells_b49 Q9 y0 y1 y2 y3 y4 y5 y6 := by
  intro n
  induction n with
  | zero => exact fun _ _ _ _ _ _ h => h
  | succ n ih =>
    intro y1 y2 y3 y4 y5 y6
    unfold wp_12_tells_b49
    repeat' first | with_reducible exact HQ | with_reducible exact HQ _ _ _ | with_reducible exact ih | with_reducible exact ih _ _ _ _ _ _ | with_reducible exact fun h => h | with_reducible refine mo_and ?_ ?_ | with_reducible refine mo_ex (fun _ => ?_) | with_reducible refine mq_12_tells_b136 ?_ | with_reducible refine mq_12_termOf ?_ | with_reducible refine mq_12_held ?_ | with_reducible refine mo_all (fun _ => ?_) | intro _
theorem mq_12_tells {a1 : Int32} {a2 : Int32} {a3 : Int32} {a4 : Int32} {w : Mem} {wl : MemL} {Q Q9 : Int32 → Mem → MemL → Prop} (HQ : ∀ x0 x1 x2, Q x0 x1 x2 → Q9 x0 x1 x2) : wp_12_tells a1 a2 a3 a4 w wl Q → wp_12_tells a1 a2 a3 a4 w wl Q9 := by
  unfold wp_12_tells
  repeat' first | with_reducible exact HQ | with_reducible exact HQ _ _ _ | with_reducible exact fun h => h | with_reducible refine mo_and ?_ ?_ | with_reducible refine mo_ex (fun _ => ?_) | with_reducible refine mq_12_tells_b49 ?_ _ _ _ _ _ _ _ | with_reducible refine mq_12_held ?_ | with_reducible refine mo_all (fun _ => ?_) | intro _
theorem mq_12_clears_b2  {Q Q9 : Mem → MemL → Prop} (HQ : ∀ x0 x1, Q x0 x1 → Q9 x0 x1) : ∀ (y0 : Nat) (y1 : Int32) (y2 : Mem) (y3 : MemL), wp_12_clears_b2 Q y0 y1 y2 y3 → wp_12_clears_b2 Q9 y0 y1 y2 y3 := by
  intro n
  induction n with
  | zero => exact fun _ _ _ h => h
  | succ n ih =>
    intro y1 y2 y3
    unfold wp_12_clears_b2
    repeat' first | with_reducible exact HQ | with_reducible exact HQ _ _ | with_reducible exact ih | with_reducible exact ih _ _ _ | with_reducible exact fun h => h | with_reducible refine mo_and ?_ ?_ | with_reducible refine mo_ex (fun _ => ?_) | with_reducible refine mo_all (fun _ => ?_) | intro _
theorem mq_12_clears {w : Mem} {wl : MemL} {Q Q9 : Mem → MemL → Prop} (HQ : ∀ x0 x1, Q x0 x1 → Q9 x0 x1) : wp_12_clears w wl Q → wp_12_clears w wl Q9 := by
  unfold wp_12_clears
  repeat' first | with_reducible exact HQ | with_reducible exact HQ _ _ | with_reducible exact fun h => h | with_reducible refine mo_and ?_ ?_ | with_reducible refine mo_ex (fun _ => ?_) | with_reducible refine mq_12_clears_b2 ?_ _ _ _ _ | with_reducible refine mo_all (fun _ => ?_) | intro _
theorem mq_12_windOf {a1 : Int32} {a2 : Int32} {w : Mem} {wl : MemL} {Q Q9 : Int32 → Mem → MemL → Prop} (HQ : ∀ x0 x1 x2, Q x0 x1 x2 → Q9 x0 x1 x2) : wp_12_windOf a1 a2 w wl Q → wp_12_windOf a1 a2 w wl Q9 := by
  unfold wp_12_windOf
  repeat' first | with_reducible exact HQ | with_reducible exact HQ _ _ _ | with_reducible exact fun h => h | with_reducible refine mo_and ?_ ?_ | with_reducible refine mo_ex (fun _ => ?_) | with_reducible refine mq_12_clears ?_ | with_reducible refine mq_12_tell0 ?_ | with_reducible refine mq_12_tells ?_ | with_reducible refine mq_12_lotOf ?_ | with_reducible refine mo_all (fun _ => ?_) | intro _
theorem mq_12_meanOf_b4  {Q Q9 : Int32 → Mem → MemL → Prop} (HQ : ∀ x0 x1 x2, Q x0 x1 x2 → Q9 x0 x1 x2) : ∀ (y0 : Nat) (y1 : Int32) (y2 : Int32) (y3 : Int32) (y4 : Mem) (y5 : MemL), wp_12_meanOf_b4 Q y0 y1 y2 y3 y4 y5 → wp_12_meanOf_b4 Q9 y0 y1 y2 y3 y4 y5 := by
  intro n
  induction n with
  | zero => exact fun _ _ _ _ _ h => h
  | succ n ih =>
    intro y1 y2 y3 y4 y5
    unfold wp_12_meanOf_b4
    repeat' first | with_reducible exact HQ | with_reducible exact HQ _ _ _ | with_reducible exact ih | with_reducible exact ih _ _ _ _ _ | with_reducible exact fun h => h | with_reducible refine mo_and ?_ ?_ | with_reducible refine mo_ex (fun _ => ?_) | with_reducible refine mq_12_windOf ?_ | with_reducible refine mo_all (fun _ => ?_) | intro _
theorem mq_12_meanOf {a1 : Int32} {w : Mem} {wl : MemL} {Q Q9 : Int32 → Mem → MemL → Prop} (HQ : ∀ x0 x1 x2, Q x0 x1 x2 → Q9 x0 x1 x2) : wp_12_meanOf a1 w wl Q → wp_12_meanOf a1 w wl Q9 := by
  unfold wp_12_meanOf
  repeat' first | with_reducible exact HQ | with_reducible exact HQ _ _ _ | with_reducible exact fun h => h | with_reducible refine mo_and ?_ ?_ | with_reducible refine mo_ex (fun _ => ?_) | with_reducible refine mq_12_meanOf_b4 ?_ _ _ _ _ _ _ | with_reducible refine mo_all (fun _ => ?_) | intro _
theorem mq_12_trueOf_b7  {Q Q9 : Int32 → Mem → MemL → Prop} (HQ : ∀ x0 x1 x2, Q x0 x1 x2 → Q9 x0 x1 x2) : ∀ (y0 : Nat) (y1 : Int32) (y2 : Int32) (y3 : Int32) (y4 : Int32) (y5 : Mem) (y6 : MemL), wp_12_trueOf_b7 Q y0 y1 y2 y3 y4 y5 y6 → wp_12_trueOf_b7 Q9 y0 y1 y2 y3 y4 y5 y6 := by
  intro n
  induction n with
  | zero => exact fun _ _ _ _ _ _ h => h
  | succ n ih =>
    intro y1 y2 y3 y4 y5 y6
    unfold wp_12_trueOf_b7
    repeat' first | with_reducible exact HQ | with_reducible exact HQ _ _ _ | with_reducible exact ih | with_reducible exact ih _ _ _ _ _ _ | with_reducible exact fun h => h | with_reducible refine mo_and ?_ ?_ | with_reducible refine mo_ex (fun _ => ?_) | with_reducible refine mq_12_tell0 ?_ | with_reducible refine mq_12_windOf ?_ | with_reducible refine mo_all (fun _ => ?_) | intro _
theorem mq_12_trueOf {a1 : Int32} {w : Mem} {wl : MemL} {Q Q9 : Int32 → Mem → MemL → Prop} (HQ : ∀ x0 x1 x2, Q x0 x1 x2 → Q9 x0 x1 x2) : wp_12_trueOf a1 w wl Q → wp_12_trueOf a1 w wl Q9 := by
  unfold wp_12_trueOf
  repeat' first | with_reducible exact HQ | with_reducible exact HQ _ _ _ | with_reducible exact fun h => h | with_reducible refine mo_and ?_ ?_ | with_reducible refine mo_ex (fun _ => ?_) | with_reducible refine mq_12_trueOf_b7 ?_ _ _ _ _ _ _ _ | with_reducible refine mo_all (fun _ => ?_) | intro _
theorem mq_12_setsStyle_b115 {s1 : Int32} {w : Mem} {wl : MemL} {Q Q9 : Mem → MemL → Prop} (HQ : ∀ x0 x1, Q x0 x1 → Q9 x0 x1) : wp_12_setsStyle_b115 Q s1 w wl → wp_12_setsStyle_b115 Q9 s1 w wl := by
  unfold wp_12_setsStyle_b115
  repeat' first | with_reducible exact HQ | with_reducible exact HQ _ _ | with_reducible exact fun h => h | with_reducible refine mo_and ?_ ?_ | with_reducible refine mo_ex (fun _ => ?_) | with_reducible refine mo_all (fun _ => ?_) | intro _
theorem mq_12_setsStyle_b93 {l1 : Int32} {l2 : Int32} {l3 : Int32} {l4 : Int32} {l5 : Int32} {w : Mem} {wl : MemL} {Q Q9 : Mem → MemL → Prop} {L14 L149 : Int32 → Int32 → Int32 → Int32 → Int32 → Mem → MemL → Prop} (HQ : ∀ x0 x1, Q x0 x1 → Q9 x0 x1) (HL14 : ∀ x0 x1 x2 x3 x4 x5 x6, L14 x0 x1 x2 x3 x4 x5 x6 → L149 x0 x1 x2 x3 x4 x5 x6) : wp_12_setsStyle_b93 Q L14 l1 l2 l3 l4 l5 w wl → wp_12_setsStyle_b93 Q9 L149 l1 l2 l3 l4 l5 w wl := by
  unfold wp_12_setsStyle_b93
  repeat' first | with_reducible exact HQ | with_reducible exact HQ _ _ | with_reducible exact HL14 | with_reducible exact HL14 _ _ _ _ _ _ _ | with_reducible exact fun h => h | with_reducible refine mo_and ?_ ?_ | with_reducible refine mo_ex (fun _ => ?_) | with_reducible refine mo_all (fun _ => ?_) | intro _
theorem mq_12_setsStyle_b72 {l1 : Int32} {l2 : Int32} {l3 : Int32} {l4 : Int32} {l5 : Int32} {w : Mem} {wl : MemL} {Q Q9 : Mem → MemL → Prop} {L14 L149 : Int32 → Int32 → Int32 → Int32 → Int32 → Mem → MemL → Prop} (HQ : ∀ x0 x1, Q x0 x1 → Q9 x0 x1) (HL14 : ∀ x0 x1 x2 x3 x4 x5 x6, L14 x0 x1 x2 x3 x4 x5 x6 → L149 x0 x1 x2 x3 x4 x5 x6) : wp_12_setsStyle_b72 Q L14 l1 l2 l3 l4 l5 w wl → wp_12_setsStyle_b72 Q9 L149 l1 l2 l3 l4 l5 w wl := by
  unfold wp_12_setsStyle_b72
  repeat' first | with_reducible exact HQ | with_reducible exact HQ _ _ | with_reducible exact HL14 | with_reducible exact HL14 _ _ _ _ _ _ _ | with_reducible exact fun h => h | with_reducible refine mo_and ?_ ?_ | with_reducible refine mo_ex (fun _ => ?_) | with_reducible refine mq_12_setsStyle_b93 ?_ ?_ | with_reducible refine mo_all (fun _ => ?_) | intro _
theorem mq_12_setsStyle_b14  {Q Q9 : Mem → MemL → Prop} (HQ : ∀ x0 x1, Q x0 x1 → Q9 x0 x1) : ∀ (y0 : Nat) (y1 : Int32) (y2 : Int32) (y3 : Int32) (y4 : Int32) (y5 : Int32) (y6 : Mem) (y7 : MemL), wp_12_setsStyle_b14 Q y0 y1 y2 y3 y4 y5 y6 y7 → wp_12_setsStyle_b14 Q9 y0 y1 y2 y3 y4 y5 y6 y7 := by
  intro n
  induction n with
  | zero => exact fun _ _ _ _ _ _ _ h => h
  | succ n ih =>
    intro y1 y2 y3 y4 y5 y6 y7
    unfold wp_12_setsStyle_b14
    repeat' first | with_reducible exact HQ | with_reducible exact HQ _ _ | with_reducible exact ih | with_reducible exact ih _ _ _ _ _ _ _ | with_reducible exact fun h => h | with_reducible refine mo_and ?_ ?_ | with_reducible refine mo_ex (fun _ => ?_) | with_reducible refine mq_12_setsStyle_b115 ?_ | with_reducible refine mq_12_setsStyle_b72 ?_ ?_ | with_reducible refine mq_12_setsStyle_b93 ?_ ?_ | with_reducible refine mo_all (fun _ => ?_) | intro _
theorem mq_12_setsStyle {w : Mem} {wl : MemL} {Q Q9 : Mem → MemL → Prop} (HQ : ∀ x0 x1, Q x0 x1 → Q9 x0 x1) : wp_12_setsStyle w wl Q → wp_12_setsStyle w wl Q9 := by
  unfold wp_12_setsStyle
  repeat' first | with_reducible exact HQ | with_reducible exact HQ _ _ | with_reducible exact fun h => h | with_reducible refine mo_and ?_ ?_ | with_reducible refine mo_ex (fun _ => ?_) | with_reducible refine mq_12_setsStyle_b14 ?_ _ _ _ _ _ _ _ _ | with_reducible refine mo_all (fun _ => ?_) | intro _
theorem mq_12_setsPoints_b87 {s1 : Int32} {w : Mem} {wl : MemL} {Q Q9 : Mem → MemL → Prop} (HQ : ∀ x0 x1, Q x0 x1 → Q9 x0 x1) : wp_12_setsPoints_b87 Q s1 w wl → wp_12_setsPoints_b87 Q9 s1 w wl := by
  unfold wp_12_setsPoints_b87
  repeat' first | with_reducible exact HQ | with_reducible exact HQ _ _ | with_reducible exact fun h => h | with_reducible refine mo_and ?_ ?_ | with_reducible refine mo_ex (fun _ => ?_) | with_reducible refine mo_all (fun _ => ?_) | intro _
theorem mq_12_setsPoints {w : Mem} {wl : MemL} {Q Q9 : Mem → MemL → Prop} (HQ : ∀ x0 x1, Q x0 x1 → Q9 x0 x1) : wp_12_setsPoints w wl Q → wp_12_setsPoints w wl Q9 := by
  unfold wp_12_setsPoints
  repeat' first | with_reducible exact HQ | with_reducible exact HQ _ _ | with_reducible exact fun h => h | with_reducible refine mo_and ?_ ?_ | with_reducible refine mo_ex (fun _ => ?_) | with_reducible refine mq_12_clears ?_ | with_reducible refine mq_12_tells ?_ | with_reducible refine mq_12_tell0 ?_ | with_reducible refine mq_12_setsPoints_b87 ?_ | with_reducible refine mo_all (fun _ => ?_) | intro _
theorem mq_12_marksAll_b116 {l1 : Int32} {s1 : Int32} {s2 : Int32} {w : Mem} {wl : MemL} {Q Q9 : Mem → MemL → Prop} {L2 L29 : Int32 → Mem → MemL → Prop} (HQ : ∀ x0 x1, Q x0 x1 → Q9 x0 x1) (HL2 : ∀ x0 x1 x2, L2 x0 x1 x2 → L29 x0 x1 x2) : wp_12_marksAll_b116 Q L2 l1 s1 s2 w wl → wp_12_marksAll_b116 Q9 L29 l1 s1 s2 w wl := by
  unfold wp_12_marksAll_b116
  repeat' first | with_reducible exact HQ | with_reducible exact HQ _ _ | with_reducible exact HL2 | with_reducible exact HL2 _ _ _ | with_reducible exact fun h => h | with_reducible refine mo_and ?_ ?_ | with_reducible refine mo_ex (fun _ => ?_) | with_reducible refine mq_12_tells ?_ | with_reducible refine mo_all (fun _ => ?_) | intro _
theorem mq_12_marksAll_b2  {Q Q9 : Mem → MemL → Prop} (HQ : ∀ x0 x1, Q x0 x1 → Q9 x0 x1) : ∀ (y0 : Nat) (y1 : Int32) (y2 : Mem) (y3 : MemL), wp_12_marksAll_b2 Q y0 y1 y2 y3 → wp_12_marksAll_b2 Q9 y0 y1 y2 y3 := by
  intro n
  induction n with
  | zero => exact fun _ _ _ h => h
  | succ n ih =>
    intro y1 y2 y3
    unfold wp_12_marksAll_b2
    repeat' first | with_reducible exact HQ | with_reducible exact HQ _ _ | with_reducible exact ih | with_reducible exact ih _ _ _ | with_reducible exact fun h => h | with_reducible refine mo_and ?_ ?_ | with_reducible refine mo_ex (fun _ => ?_) | with_reducible refine mq_12_setsStyle ?_ | with_reducible refine mq_12_setsPoints ?_ | with_reducible refine mq_12_clears ?_ | with_reducible refine mq_12_marksAll_b116 ?_ ?_ | with_reducible refine mo_all (fun _ => ?_) | intro _
theorem mq_12_marksAll {w : Mem} {wl : MemL} {Q Q9 : Mem → MemL → Prop} (HQ : ∀ x0 x1, Q x0 x1 → Q9 x0 x1) : wp_12_marksAll w wl Q → wp_12_marksAll w wl Q9 := by
  unfold wp_12_marksAll
  repeat' first | with_reducible exact HQ | with_reducible exact HQ _ _ | with_reducible exact fun h => h | with_reducible refine mo_and ?_ ?_ | with_reducible refine mo_ex (fun _ => ?_) | with_reducible refine mq_12_marksAll_b2 ?_ _ _ _ _ | with_reducible refine mo_all (fun _ => ?_) | intro _
theorem mq_12_jumps {w : Mem} {wl : MemL} {Q Q9 : Mem → MemL → Prop} (HQ : ∀ x0 x1, Q x0 x1 → Q9 x0 x1) : wp_12_jumps w wl Q → wp_12_jumps w wl Q9 := by
  unfold wp_12_jumps
  repeat' first | with_reducible exact HQ | with_reducible exact HQ _ _ | with_reducible exact fun h => h | with_reducible refine mo_and ?_ ?_ | with_reducible refine mo_ex (fun _ => ?_) | with_reducible refine mq_12_clears ?_ | with_reducible refine mq_12_tell0 ?_ | with_reducible refine mq_12_tells ?_ | with_reducible refine mq_12_marksAll ?_ | with_reducible refine mo_all (fun _ => ?_) | intro _
theorem mq_12_setsJump {a1 : Int32} {a2 : Int32} {a3 : Int32} {a4 : Int32} {a5 : Int32} {w : Mem} {wl : MemL} {Q Q9 : Mem → MemL → Prop} (HQ : ∀ x0 x1, Q x0 x1 → Q9 x0 x1) : wp_12_setsJump a1 a2 a3 a4 a5 w wl Q → wp_12_setsJump a1 a2 a3 a4 a5 w wl Q9 := by
  unfold wp_12_setsJump
  repeat' first | with_reducible exact HQ | with_reducible exact HQ _ _ | with_reducible exact fun h => h | with_reducible refine mo_and ?_ ?_ | with_reducible refine mo_ex (fun _ => ?_) | with_reducible refine mq_12_trueOf ?_ | with_reducible refine mq_12_meanOf ?_ | with_reducible refine mq_12_jumps ?_ | with_reducible refine mo_all (fun _ => ?_) | intro _
theorem mq_12_cell {a1 : Int32} {a2 : Int32} {a3 : Int32} {w : Mem} {wl : MemL} {Q Q9 : Int32 → Mem → MemL → Prop} (HQ : ∀ x0 x1 x2, Q x0 x1 x2 → Q9 x0 x1 x2) : wp_12_cell a1 a2 a3 w wl Q → wp_12_cell a1 a2 a3 w wl Q9 := by
  unfold wp_12_cell
  repeat' first | with_reducible exact HQ | with_reducible exact HQ _ _ _ | with_reducible exact fun h => h | with_reducible refine mo_and ?_ ?_ | with_reducible refine mo_ex (fun _ => ?_) | with_reducible refine mo_all (fun _ => ?_) | intro _
theorem mq_12_pointsOf {a1 : Int32} {w : Mem} {wl : MemL} {Q Q9 : Int32 → Mem → MemL → Prop} (HQ : ∀ x0 x1 x2, Q x0 x1 x2 → Q9 x0 x1 x2) : wp_12_pointsOf a1 w wl Q → wp_12_pointsOf a1 w wl Q9 := by
  unfold wp_12_pointsOf
  repeat' first | with_reducible exact HQ | with_reducible exact HQ _ _ _ | with_reducible exact fun h => h | with_reducible refine mo_and ?_ ?_ | with_reducible refine mo_ex (fun _ => ?_) | with_reducible refine mq_12_cell ?_ | with_reducible refine mo_all (fun _ => ?_) | intro _
theorem mq_12_rankBy_b88 {l1 : Int32} {l2 : Int32} {l3 : Int32} {l4 : Int32} {w : Mem} {wl : MemL} {Q Q9 : Int32 → Mem → MemL → Prop} {L5 L59 : Int32 → Int32 → Int32 → Int32 → Mem → MemL → Prop} (HQ : ∀ x0 x1 x2, Q x0 x1 x2 → Q9 x0 x1 x2) (HL5 : ∀ x0 x1 x2 x3 x4 x5, L5 x0 x1 x2 x3 x4 x5 → L59 x0 x1 x2 x3 x4 x5) : wp_12_rankBy_b88 Q L5 l1 l2 l3 l4 w wl → wp_12_rankBy_b88 Q9 L59 l1 l2 l3 l4 w wl := by
  unfold wp_12_rankBy_b88
  repeat' first | with_reducible exact HQ | with_reducible exact HQ _ _ _ | with_reducible exact HL5 | with_reducible exact HL5 _ _ _ _ _ _ | with_reducible exact fun h => h | with_reducible refine mo_and ?_ ?_ | with_reducible refine mo_ex (fun _ => ?_) | with_reducible refine mo_all (fun _ => ?_) | intro _
theorem mq_12_rankBy_b85 {l1 : Int32} {l2 : Int32} {l3 : Int32} {l4 : Int32} {w : Mem} {wl : MemL} {Q Q9 : Int32 → Mem → MemL → Prop} {L5 L59 : Int32 → Int32 → Int32 → Int32 → Mem → MemL → Prop} (HQ : ∀ x0 x1 x2, Q x0 x1 x2 → Q9 x0 x1 x2) (HL5 : ∀ x0 x1 x2 x3 x4 x5, L5 x0 x1 x2 x3 x4 x5 → L59 x0 x1 x2 x3 x4 x5) : wp_12_rankBy_b85 Q L5 l1 l2 l3 l4 w wl → wp_12_rankBy_b85 Q9 L59 l1 l2 l3 l4 w wl := by
  unfold wp_12_rankBy_b85
  repeat' first | with_reducible exact HQ | with_reducible exact HQ _ _ _ | with_reducible exact HL5 | with_reducible exact HL5 _ _ _ _ _ _ | with_reducible exact fun h => h | with_reducible refine mo_and ?_ ?_ | with_reducible refine mo_ex (fun _ => ?_) | with_reducible refine mq_12_rankBy_b88 ?_ ?_ | with_reducible refine mo_all (fun _ => ?_) | intro _
theorem mq_12_rankBy_b67 {l1 : Int32} {l2 : Int32} {l3 : Int32} {l4 : Int32} {s0 : Int32} {w : Mem} {wl : MemL} {Q Q9 : Int32 → Mem → MemL → Prop} {L5 L59 : Int32 → Int32 → Int32 → Int32 → Mem → MemL → Prop} (HQ : ∀ x0 x1 x2, Q x0 x1 x2 → Q9 x0 x1 x2) (HL5 : ∀ x0 x1 x2 x3 x4 x5, L5 x0 x1 x2 x3 x4 x5 → L59 x0 x1 x2 x3 x4 x5) : wp_12_rankBy_b67 Q L5 l1 l2 l3 l4 s0 w wl → wp_12_rankBy_b67 Q9 L59 l1 l2 l3 l4 s0 w wl := by
  unfold wp_12_rankBy_b67
  repeat' first | with_reducible exact HQ | with_reducible exact HQ _ _ _ | with_reducible exact HL5 | with_reducible exact HL5 _ _ _ _ _ _ | with_reducible exact fun h => h | with_reducible refine mo_and ?_ ?_ | with_reducible refine mo_ex (fun _ => ?_) | with_reducible refine mq_12_rankBy_b85 ?_ ?_ | with_reducible refine mq_12_rankBy_b88 ?_ ?_ | with_reducible refine mo_all (fun _ => ?_) | intro _
theorem mq_12_rankBy_b5  {Q Q9 : Int32 → Mem → MemL → Prop} (HQ : ∀ x0 x1 x2, Q x0 x1 x2 → Q9 x0 x1 x2) : ∀ (y0 : Nat) (y1 : Int32) (y2 : Int32) (y3 : Int32) (y4 : Int32) (y5 : Mem) (y6 : MemL), wp_12_rankBy_b5 Q y0 y1 y2 y3 y4 y5 y6 → wp_12_rankBy_b5 Q9 y0 y1 y2 y3 y4 y5 y6 := by
  intro n
  induction n with
  | zero => exact fun _ _ _ _ _ _ h => h
  | succ n ih =>
    intro y1 y2 y3 y4 y5 y6
    unfold wp_12_rankBy_b5
    repeat' first | with_reducible exact HQ | with_reducible exact HQ _ _ _ | with_reducible exact ih | with_reducible exact ih _ _ _ _ _ _ | with_reducible exact fun h => h | with_reducible refine mo_and ?_ ?_ | with_reducible refine mo_ex (fun _ => ?_) | with_reducible refine mq_12_pointsOf ?_ | with_reducible refine mq_12_rankBy_b67 ?_ ?_ | with_reducible refine mq_12_cell ?_ | with_reducible refine mo_all (fun _ => ?_) | intro _
theorem mq_12_rankBy {a1 : Int32} {a2 : Int32} {w : Mem} {wl : MemL} {Q Q9 : Int32 → Mem → MemL → Prop} (HQ : ∀ x0 x1 x2, Q x0 x1 x2 → Q9 x0 x1 x2) : wp_12_rankBy a1 a2 w wl Q → wp_12_rankBy a1 a2 w wl Q9 := by
  unfold wp_12_rankBy
  repeat' first | with_reducible exact HQ | with_reducible exact HQ _ _ _ | with_reducible exact fun h => h | with_reducible refine mo_and ?_ ?_ | with_reducible refine mo_ex (fun _ => ?_) | with_reducible refine mq_12_rankBy_b5 ?_ _ _ _ _ _ _ _ | with_reducible refine mo_all (fun _ => ?_) | intro _
theorem mq_12_inSecond {w : Mem} {wl : MemL} {Q Q9 : Int32 → Mem → MemL → Prop} (HQ : ∀ x0 x1 x2, Q x0 x1 x2 → Q9 x0 x1 x2) : wp_12_inSecond w wl Q → wp_12_inSecond w wl Q9 := by
  unfold wp_12_inSecond
  repeat' first | with_reducible exact HQ | with_reducible exact HQ _ _ _ | with_reducible exact fun h => h | with_reducible refine mo_and ?_ ?_ | with_reducible refine mo_ex (fun _ => ?_) | with_reducible refine mq_12_tell0 ?_ | with_reducible refine mo_all (fun _ => ?_) | intro _
theorem mq_12_nextOne_b72  {Q Q9 : Int32 → Mem → MemL → Prop} (HQ : ∀ x0 x1 x2, Q x0 x1 x2 → Q9 x0 x1 x2) : ∀ (y0 : Nat) (y1 : Int32) (y2 : Mem) (y3 : MemL), wp_12_nextOne_b72 Q y0 y1 y2 y3 → wp_12_nextOne_b72 Q9 y0 y1 y2 y3 := by
  intro n
  induction n with
  | zero => exact fun _ _ _ h => h
  | succ n ih =>
    intro y1 y2 y3
    unfold wp_12_nextOne_b72
    repeat' first | with_reducible exact HQ | with_reducible exact HQ _ _ _ | with_reducible exact ih | with_reducible exact ih _ _ _ | with_reducible exact fun h => h | with_reducible refine mo_and ?_ ?_ | with_reducible refine mo_ex (fun _ => ?_) | with_reducible refine mq_12_rankBy ?_ | with_reducible refine mq_12_inSecond ?_ | with_reducible refine mo_all (fun _ => ?_) | intro _
theorem mq_12_nextOne {w : Mem} {wl : MemL} {Q Q9 : Int32 → Mem → MemL → Prop} (HQ : ∀ x0 x1 x2, Q x0 x1 x2 → Q9 x0 x1 x2) : wp_12_nextOne w wl Q → wp_12_nextOne w wl Q9 := by
  unfold wp_12_nextOne
  repeat' first | with_reducible exact HQ | with_reducible exact HQ _ _ _ | with_reducible exact fun h => h | with_reducible refine mo_and ?_ ?_ | with_reducible refine mo_ex (fun _ => ?_) | with_reducible refine mq_12_nextOne_b72 ?_ _ _ _ _ | with_reducible refine mo_all (fun _ => ?_) | intro _
theorem mq_12_letsGo_b318 {s0 : Int32} {s1 : Int32} {w : Mem} {wl : MemL} {Q Q9 : Mem → MemL → Prop} (HQ : ∀ x0 x1, Q x0 x1 → Q9 x0 x1) : wp_12_letsGo_b318 Q s0 s1 w wl → wp_12_letsGo_b318 Q9 s0 s1 w wl := by
  unfold wp_12_letsGo_b318
  repeat' first | with_reducible exact HQ | with_reducible exact HQ _ _ | with_reducible exact fun h => h | with_reducible refine mo_and ?_ ?_ | with_reducible refine mo_ex (fun _ => ?_) | with_reducible refine mo_all (fun _ => ?_) | intro _
theorem mq_12_letsGo_b218  {Q Q9 : Mem → MemL → Prop} (HQ : ∀ x0 x1, Q x0 x1 → Q9 x0 x1) : ∀ (y0 : Nat) (y1 : Int32) (y2 : Int32) (y3 : Int32) (y4 : Int32) (y5 : Mem) (y6 : MemL), wp_12_letsGo_b218 Q y0 y1 y2 y3 y4 y5 y6 → wp_12_letsGo_b218 Q9 y0 y1 y2 y3 y4 y5 y6 := by
  intro n
  induction n with
  | zero => exact fun _ _ _ _ _ _ h => h
  | succ n ih =>
    intro y1 y2 y3 y4 y5 y6
    unfold wp_12_letsGo_b218
    repeat' first | with_reducible exact HQ | with_reducible exact HQ _ _ | with_reducible exact ih | with_reducible exact ih _ _ _ _ _ _ | with_reducible exact fun h => h | with_reducible refine mo_and ?_ ?_ | with_reducible refine mo_ex (fun _ => ?_) | with_reducible refine mq_12_tell0 ?_ | with_reducible refine mq_12_inSecond ?_ | with_reducible refine mq_12_letsGo_b318 ?_ | with_reducible refine mo_all (fun _ => ?_) | intro _
theorem mq_12_letsGo {a1 : Int32} {a2 : Int32} {w : Mem} {wl : MemL} {Q Q9 : Mem → MemL → Prop} (HQ : ∀ x0 x1, Q x0 x1 → Q9 x0 x1) : wp_12_letsGo a1 a2 w wl Q → wp_12_letsGo a1 a2 w wl Q9 := by
  unfold wp_12_letsGo
  repeat' first | with_reducible exact HQ | with_reducible exact HQ _ _ | with_reducible exact fun h => h | with_reducible refine mo_and ?_ ?_ | with_reducible refine mo_ex (fun _ => ?_) | with_reducible refine mq_12_lotOf ?_ | with_reducible refine mq_12_setsJump ?_ | with_reducible refine mq_12_cell ?_ | with_reducible refine mq_12_letsGo_b218 ?_ _ _ _ _ _ _ _ | with_reducible refine mo_all (fun _ => ?_) | intro _
theorem mq_12_isLetGo {a1 : Int32} {a2 : Int32} {w : Mem} {wl : MemL} {Q Q9 : Int32 → Mem → MemL → Prop} (HQ : ∀ x0 x1 x2, Q x0 x1 x2 → Q9 x0 x1 x2) : wp_12_isLetGo a1 a2 w wl Q → wp_12_isLetGo a1 a2 w wl Q9 := by
  unfold wp_12_isLetGo
  repeat' first | with_reducible exact HQ | with_reducible exact HQ _ _ _ | with_reducible exact fun h => h | with_reducible refine mo_and ?_ ?_ | with_reducible refine mo_ex (fun _ => ?_) | with_reducible refine mq_12_meanOf ?_ | with_reducible refine mq_12_clears ?_ | with_reducible refine mq_12_tells ?_ | with_reducible refine mo_all (fun _ => ?_) | intro _
theorem mq_12_starts_b32 {l1 : Int32} {l2 : Int32} {w : Mem} {wl : MemL} {Q Q9 : Mem → MemL → Prop} (HQ : ∀ x0 x1, Q x0 x1 → Q9 x0 x1) : wp_12_starts_b32 Q l1 l2 w wl → wp_12_starts_b32 Q9 l1 l2 w wl := by
  unfold wp_12_starts_b32
  repeat' first | with_reducible exact HQ | with_reducible exact HQ _ _ | with_reducible exact fun h => h | with_reducible refine mo_and ?_ ?_ | with_reducible refine mo_ex (fun _ => ?_) | with_reducible refine mq_12_letsGo ?_ | with_reducible refine mo_all (fun _ => ?_) | intro _
theorem mq_12_starts_b7  {Q Q9 : Mem → MemL → Prop} (HQ : ∀ x0 x1, Q x0 x1 → Q9 x0 x1) : ∀ (y0 : Nat) (y1 : Int32) (y2 : Int32) (y3 : Mem) (y4 : MemL), wp_12_starts_b7 Q y0 y1 y2 y3 y4 → wp_12_starts_b7 Q9 y0 y1 y2 y3 y4 := by
  intro n
  induction n with
  | zero => exact fun _ _ _ _ h => h
  | succ n ih =>
    intro y1 y2 y3 y4
    unfold wp_12_starts_b7
    repeat' first | with_reducible exact HQ | with_reducible exact HQ _ _ | with_reducible exact ih | with_reducible exact ih _ _ _ _ | with_reducible exact fun h => h | with_reducible refine mo_and ?_ ?_ | with_reducible refine mo_ex (fun _ => ?_) | with_reducible refine mq_12_tell0 ?_ | with_reducible refine mq_12_starts_b32 ?_ | with_reducible refine mq_12_isLetGo ?_ | with_reducible refine mo_all (fun _ => ?_) | intro _
theorem mq_12_starts {w : Mem} {wl : MemL} {Q Q9 : Mem → MemL → Prop} (HQ : ∀ x0 x1, Q x0 x1 → Q9 x0 x1) : wp_12_starts w wl Q → wp_12_starts w wl Q9 := by
  unfold wp_12_starts
  repeat' first | with_reducible exact HQ | with_reducible exact HQ _ _ | with_reducible exact fun h => h | with_reducible refine mo_and ?_ ?_ | with_reducible refine mo_ex (fun _ => ?_) | with_reducible refine mq_12_nextOne ?_ | with_reducible refine mq_12_starts_b7 ?_ _ _ _ _ _ | with_reducible refine mo_all (fun _ => ?_) | intro _
theorem mq_12_now {a1 : Int32} {w : Mem} {wl : MemL} {Q Q9 : Int32 → Mem → MemL → Prop} (HQ : ∀ x0 x1 x2, Q x0 x1 x2 → Q9 x0 x1 x2) : wp_12_now a1 w wl Q → wp_12_now a1 w wl Q9 := by
  unfold wp_12_now
  repeat' first | with_reducible exact HQ | with_reducible exact HQ _ _ _ | with_reducible exact fun h => h | with_reducible refine mo_and ?_ ?_ | with_reducible refine mo_ex (fun _ => ?_) | with_reducible refine mq_12_copies ?_ | with_reducible refine mq_12_nextOne ?_ | with_reducible refine mq_12_meanOf ?_ | with_reducible refine mq_12_trueOf ?_ | with_reducible refine mo_all (fun _ => ?_) | intro _
theorem mq_12_wind {a1 : Int32} {a2 : Int32} {w : Mem} {wl : MemL} {Q Q9 : Int32 → Mem → MemL → Prop} (HQ : ∀ x0 x1 x2, Q x0 x1 x2 → Q9 x0 x1 x2) : wp_12_wind a1 a2 w wl Q → wp_12_wind a1 a2 w wl Q9 := by
  unfold wp_12_wind
  repeat' first | with_reducible exact HQ | with_reducible exact HQ _ _ _ | with_reducible exact fun h => h | with_reducible refine mo_and ?_ ?_ | with_reducible refine mo_ex (fun _ => ?_) | with_reducible refine mq_12_in ?_ | with_reducible refine mq_12_copies ?_ | with_reducible refine mq_12_windOf ?_ | with_reducible refine mo_all (fun _ => ?_) | intro _
theorem mq_12_hasJump_b39 {w : Mem} {wl : MemL} {Q Q9 : Int32 → Mem → MemL → Prop} (HQ : ∀ x0 x1 x2, Q x0 x1 x2 → Q9 x0 x1 x2) : wp_12_hasJump_b39 Q w wl → wp_12_hasJump_b39 Q9 w wl := by
  unfold wp_12_hasJump_b39
  repeat' first | with_reducible exact HQ | with_reducible exact HQ _ _ _ | with_reducible exact fun h => h | with_reducible refine mo_and ?_ ?_ | with_reducible refine mo_ex (fun _ => ?_) | with_reducible refine mo_all (fun _ => ?_) | intro _
theorem mq_12_hasJump {a1 : Int32} {a2 : Int32} {w : Mem} {wl : MemL} {Q Q9 : Int32 → Mem → MemL → Prop} (HQ : ∀ x0 x1 x2, Q x0 x1 x2 → Q9 x0 x1 x2) : wp_12_hasJump a1 a2 w wl Q → wp_12_hasJump a1 a2 w wl Q9 := by
  unfold wp_12_hasJump
  repeat' first | with_reducible exact HQ | with_reducible exact HQ _ _ _ | with_reducible exact fun h => h | with_reducible refine mo_and ?_ ?_ | with_reducible refine mo_ex (fun _ => ?_) | with_reducible refine mq_12_isMan ?_ | with_reducible refine mq_12_hasJump_b39 ?_ | with_reducible refine mq_12_in ?_ | with_reducible refine mq_12_cell ?_ | with_reducible refine mo_all (fun _ => ?_) | intro _
theorem mq_12_jump {a1 : Int32} {a2 : Int32} {a3 : Int32} {w : Mem} {wl : MemL} {Q Q9 : Int32 → Mem → MemL → Prop} (HQ : ∀ x0 x1 x2, Q x0 x1 x2 → Q9 x0 x1 x2) : wp_12_jump a1 a2 a3 w wl Q → wp_12_jump a1 a2 a3 w wl Q9 := by
  unfold wp_12_jump
  repeat' first | with_reducible exact HQ | with_reducible exact HQ _ _ _ | with_reducible exact fun h => h | with_reducible refine mo_and ?_ ?_ | with_reducible refine mo_ex (fun _ => ?_) | with_reducible refine mq_12_hasJump ?_ | with_reducible refine mq_12_in ?_ | with_reducible refine mq_12_cell ?_ | with_reducible refine mo_all (fun _ => ?_) | intro _
theorem mq_12_mark_b42 {w : Mem} {wl : MemL} {Q Q9 : Int32 → Mem → MemL → Prop} (HQ : ∀ x0 x1 x2, Q x0 x1 x2 → Q9 x0 x1 x2) : wp_12_mark_b42 Q w wl → wp_12_mark_b42 Q9 w wl := by
  unfold wp_12_mark_b42
  repeat' first | with_reducible exact HQ | with_reducible exact HQ _ _ _ | with_reducible exact fun h => h | with_reducible refine mo_and ?_ ?_ | with_reducible refine mo_ex (fun _ => ?_) | with_reducible refine mo_all (fun _ => ?_) | intro _
theorem mq_12_mark {a1 : Int32} {a2 : Int32} {a3 : Int32} {w : Mem} {wl : MemL} {Q Q9 : Int32 → Mem → MemL → Prop} (HQ : ∀ x0 x1 x2, Q x0 x1 x2 → Q9 x0 x1 x2) : wp_12_mark a1 a2 a3 w wl Q → wp_12_mark a1 a2 a3 w wl Q9 := by
  unfold wp_12_mark
  repeat' first | with_reducible exact HQ | with_reducible exact HQ _ _ _ | with_reducible exact fun h => h | with_reducible refine mo_and ?_ ?_ | with_reducible refine mo_ex (fun _ => ?_) | with_reducible refine mq_12_hasJump ?_ | with_reducible refine mq_12_mark_b42 ?_ | with_reducible refine mq_12_isJudge ?_ | with_reducible refine mo_all (fun _ => ?_) | intro _
theorem mq_12_points {a1 : Int32} {w : Mem} {wl : MemL} {Q Q9 : Int32 → Mem → MemL → Prop} (HQ : ∀ x0 x1 x2, Q x0 x1 x2 → Q9 x0 x1 x2) : wp_12_points a1 w wl Q → wp_12_points a1 w wl Q9 := by
  unfold wp_12_points
  repeat' first | with_reducible exact HQ | with_reducible exact HQ _ _ _ | with_reducible exact fun h => h | with_reducible refine mo_and ?_ ?_ | with_reducible refine mo_ex (fun _ => ?_) | with_reducible refine mq_12_isMan ?_ | with_reducible refine mq_12_copies ?_ | with_reducible refine mq_12_pointsOf ?_ | with_reducible refine mo_all (fun _ => ?_) | intro _
theorem mq_12_rank {a1 : Int32} {w : Mem} {wl : MemL} {Q Q9 : Int32 → Mem → MemL → Prop} (HQ : ∀ x0 x1 x2, Q x0 x1 x2 → Q9 x0 x1 x2) : wp_12_rank a1 w wl Q → wp_12_rank a1 w wl Q9 := by
  unfold wp_12_rank
  repeat' first | with_reducible exact HQ | with_reducible exact HQ _ _ _ | with_reducible exact fun h => h | with_reducible refine mo_and ?_ ?_ | with_reducible refine mo_ex (fun _ => ?_) | with_reducible refine mq_12_isMan ?_ | with_reducible refine mq_12_copies ?_ | with_reducible refine mq_12_rankBy ?_ | with_reducible refine mo_all (fun _ => ?_) | intro _
theorem mq_12_ranked_b16  {Q Q9 : Int32 → Mem → MemL → Prop} (HQ : ∀ x0 x1 x2, Q x0 x1 x2 → Q9 x0 x1 x2) : ∀ (y0 : Nat) (y1 : Int32) (y2 : Int32) (y3 : Mem) (y4 : MemL), wp_12_ranked_b16 Q y0 y1 y2 y3 y4 → wp_12_ranked_b16 Q9 y0 y1 y2 y3 y4 := by
  intro n
  induction n with
  | zero => exact fun _ _ _ _ h => h
  | succ n ih =>
    intro y1 y2 y3 y4
    unfold wp_12_ranked_b16
    repeat' first | with_reducible exact HQ | with_reducible exact HQ _ _ _ | with_reducible exact ih | with_reducible exact ih _ _ _ _ | with_reducible exact fun h => h | with_reducible refine mo_and ?_ ?_ | with_reducible refine mo_ex (fun _ => ?_) | with_reducible refine mq_12_rankBy ?_ | with_reducible refine mo_all (fun _ => ?_) | intro _
theorem mq_12_ranked {a1 : Int32} {w : Mem} {wl : MemL} {Q Q9 : Int32 → Mem → MemL → Prop} (HQ : ∀ x0 x1 x2, Q x0 x1 x2 → Q9 x0 x1 x2) : wp_12_ranked a1 w wl Q → wp_12_ranked a1 w wl Q9 := by
  unfold wp_12_ranked
  repeat' first | with_reducible exact HQ | with_reducible exact HQ _ _ _ | with_reducible exact fun h => h | with_reducible refine mo_and ?_ ?_ | with_reducible refine mo_ex (fun _ => ?_) | with_reducible refine mq_12_isMan ?_ | with_reducible refine mq_12_copies ?_ | with_reducible refine mq_12_ranked_b16 ?_ _ _ _ _ _ | with_reducible refine mo_all (fun _ => ?_) | intro _
theorem mq_12_keeps_b52  {Q Q9 : Mem → MemL → Prop} (HQ : ∀ x0 x1, Q x0 x1 → Q9 x0 x1) : ∀ (y0 : Nat) (y1 : Int32) (y2 : Mem) (y3 : MemL), wp_12_keeps_b52 Q y0 y1 y2 y3 → wp_12_keeps_b52 Q9 y0 y1 y2 y3 := by
  intro n
  induction n with
  | zero => exact fun _ _ _ h => h
  | succ n ih =>
    intro y1 y2 y3
    unfold wp_12_keeps_b52
    repeat' first | with_reducible exact HQ | with_reducible exact HQ _ _ | with_reducible exact ih | with_reducible exact ih _ _ _ | with_reducible exact fun h => h | with_reducible refine mo_and ?_ ?_ | with_reducible refine mo_ex (fun _ => ?_) | with_reducible refine mq_12_keepsRow ?_ | with_reducible refine mo_all (fun _ => ?_) | intro _
theorem mq_12_keeps_b50 {w : Mem} {wl : MemL} {Q Q9 : Mem → MemL → Prop} (HQ : ∀ x0 x1, Q x0 x1 → Q9 x0 x1) : wp_12_keeps_b50 Q w wl → wp_12_keeps_b50 Q9 w wl := by
  unfold wp_12_keeps_b50
  repeat' first | with_reducible exact HQ | with_reducible exact HQ _ _ | with_reducible exact fun h => h | with_reducible refine mo_and ?_ ?_ | with_reducible refine mo_ex (fun _ => ?_) | with_reducible refine mq_12_keeps_b52 ?_ _ _ _ _ | with_reducible refine mo_all (fun _ => ?_) | intro _
theorem mq_12_keeps_b11  {Q Q9 : Mem → MemL → Prop} (HQ : ∀ x0 x1, Q x0 x1 → Q9 x0 x1) : ∀ (y0 : Nat) (y1 : Int32) (y2 : Mem) (y3 : MemL), wp_12_keeps_b11 Q y0 y1 y2 y3 → wp_12_keeps_b11 Q9 y0 y1 y2 y3 := by
  intro n
  induction n with
  | zero => exact fun _ _ _ h => h
  | succ n ih =>
    intro y1 y2 y3
    unfold wp_12_keeps_b11
    repeat' first | with_reducible exact HQ | with_reducible exact HQ _ _ | with_reducible exact ih | with_reducible exact ih _ _ _ | with_reducible exact fun h => h | with_reducible refine mo_and ?_ ?_ | with_reducible refine mo_ex (fun _ => ?_) | with_reducible refine mq_12_keeps_b50 ?_ | with_reducible refine mo_all (fun _ => ?_) | intro _
theorem mq_12_keeps {w : Mem} {wl : MemL} {Q Q9 : Mem → MemL → Prop} (HQ : ∀ x0 x1, Q x0 x1 → Q9 x0 x1) : wp_12_keeps w wl Q → wp_12_keeps w wl Q9 := by
  unfold wp_12_keeps
  repeat' first | with_reducible exact HQ | with_reducible exact HQ _ _ | with_reducible exact fun h => h | with_reducible refine mo_and ?_ ?_ | with_reducible refine mo_ex (fun _ => ?_) | with_reducible refine mq_12_keeps_b50 ?_ | with_reducible refine mq_12_keeps_b11 ?_ _ _ _ _ | with_reducible refine mo_all (fun _ => ?_) | intro _
theorem mq_12_start_b40 {l2 : Int32} {w : Mem} {wl : MemL} {Q Q9 : Int32 → Mem → MemL → Prop} (HQ : ∀ x0 x1 x2, Q x0 x1 x2 → Q9 x0 x1 x2) : wp_12_start_b40 Q l2 w wl → wp_12_start_b40 Q9 l2 w wl := by
  unfold wp_12_start_b40
  repeat' first | with_reducible exact HQ | with_reducible exact HQ _ _ _ | with_reducible exact fun h => h | with_reducible refine mo_and ?_ ?_ | with_reducible refine mo_ex (fun _ => ?_) | with_reducible refine mq_12_keeps ?_ | with_reducible refine mo_all (fun _ => ?_) | intro _
theorem mq_12_start_b18  {Q Q9 : Int32 → Mem → MemL → Prop} (HQ : ∀ x0 x1 x2, Q x0 x1 x2 → Q9 x0 x1 x2) : ∀ (y0 : Nat) (y1 : Int32) (y2 : Int32) (y3 : Mem) (y4 : MemL), wp_12_start_b18 Q y0 y1 y2 y3 y4 → wp_12_start_b18 Q9 y0 y1 y2 y3 y4 := by
  intro n
  induction n with
  | zero => exact fun _ _ _ _ h => h
  | succ n ih =>
    intro y1 y2 y3 y4
    unfold wp_12_start_b18
    repeat' first | with_reducible exact HQ | with_reducible exact HQ _ _ _ | with_reducible exact ih | with_reducible exact ih _ _ _ _ | with_reducible exact fun h => h | with_reducible refine mo_and ?_ ?_ | with_reducible refine mo_ex (fun _ => ?_) | with_reducible refine mq_12_start_b40 ?_ | with_reducible refine mq_12_nextOne ?_ | with_reducible refine mq_12_starts ?_ | with_reducible refine mo_all (fun _ => ?_) | intro _
theorem mq_12_start {a1 : Int32} {w : Mem} {wl : MemL} {Q Q9 : Int32 → Mem → MemL → Prop} (HQ : ∀ x0 x1 x2, Q x0 x1 x2 → Q9 x0 x1 x2) : wp_12_start a1 w wl Q → wp_12_start a1 w wl Q9 := by
  unfold wp_12_start
  repeat' first | with_reducible exact HQ | with_reducible exact HQ _ _ _ | with_reducible exact fun h => h | with_reducible refine mo_and ?_ ?_ | with_reducible refine mo_ex (fun _ => ?_) | with_reducible refine mq_12_in ?_ | with_reducible refine mq_12_copies ?_ | with_reducible refine mq_12_start_b18 ?_ _ _ _ _ _ | with_reducible refine mo_all (fun _ => ?_) | intro _
theorem mq_12_letGo {a1 : Int32} {w : Mem} {wl : MemL} {Q Q9 : Int32 → Mem → MemL → Prop} (HQ : ∀ x0 x1 x2, Q x0 x1 x2 → Q9 x0 x1 x2) : wp_12_letGo a1 w wl Q → wp_12_letGo a1 w wl Q9 := by
  unfold wp_12_letGo
  repeat' first | with_reducible exact HQ | with_reducible exact HQ _ _ _ | with_reducible exact fun h => h | with_reducible refine mo_and ?_ ?_ | with_reducible refine mo_ex (fun _ => ?_) | with_reducible refine mq_12_tell0 ?_ | with_reducible refine mq_12_in ?_ | with_reducible refine mq_12_copies ?_ | with_reducible refine mq_12_nextOne ?_ | with_reducible refine mq_12_letsGo ?_ | with_reducible refine mq_12_keeps ?_ | with_reducible refine mo_all (fun _ => ?_) | intro _
theorem mq_12_gate {a1 : Int32} {w : Mem} {wl : MemL} {Q Q9 : Int32 → Mem → MemL → Prop} (HQ : ∀ x0 x1 x2, Q x0 x1 x2 → Q9 x0 x1 x2) : wp_12_gate a1 w wl Q → wp_12_gate a1 w wl Q9 := by
  unfold wp_12_gate
  repeat' first | with_reducible exact HQ | with_reducible exact HQ _ _ _ | with_reducible exact fun h => h | with_reducible refine mo_and ?_ ?_ | with_reducible refine mo_ex (fun _ => ?_) | with_reducible refine mq_12_in ?_ | with_reducible refine mq_12_copies ?_ | with_reducible refine mq_12_keeps ?_ | with_reducible refine mo_all (fun _ => ?_) | intro _
theorem mq_12_pause {a1 : Int32} {w : Mem} {wl : MemL} {Q Q9 : Int32 → Mem → MemL → Prop} (HQ : ∀ x0 x1 x2, Q x0 x1 x2 → Q9 x0 x1 x2) : wp_12_pause a1 w wl Q → wp_12_pause a1 w wl Q9 := by
  unfold wp_12_pause
  repeat' first | with_reducible exact HQ | with_reducible exact HQ _ _ _ | with_reducible exact fun h => h | with_reducible refine mo_and ?_ ?_ | with_reducible refine mo_ex (fun _ => ?_) | with_reducible refine mq_12_in ?_ | with_reducible refine mq_12_copies ?_ | with_reducible refine mq_12_keeps ?_ | with_reducible refine mo_all (fun _ => ?_) | intro _
theorem mq_12_undo_b21  {Q Q9 : Int32 → Mem → MemL → Prop} (HQ : ∀ x0 x1 x2, Q x0 x1 x2 → Q9 x0 x1 x2) : ∀ (y0 : Nat) (y1 : Int32) (y2 : Mem) (y3 : MemL), wp_12_undo_b21 Q y0 y1 y2 y3 → wp_12_undo_b21 Q9 y0 y1 y2 y3 := by
  intro n
  induction n with
  | zero => exact fun _ _ _ h => h
  | succ n ih =>
    intro y1 y2 y3
    unfold wp_12_undo_b21
    repeat' first | with_reducible exact HQ | with_reducible exact HQ _ _ _ | with_reducible exact ih | with_reducible exact ih _ _ _ | with_reducible exact fun h => h | with_reducible refine mo_and ?_ ?_ | with_reducible refine mo_ex (fun _ => ?_) | with_reducible refine mo_all (fun _ => ?_) | intro _
theorem mq_12_undo {w : Mem} {wl : MemL} {Q Q9 : Int32 → Mem → MemL → Prop} (HQ : ∀ x0 x1 x2, Q x0 x1 x2 → Q9 x0 x1 x2) : wp_12_undo w wl Q → wp_12_undo w wl Q9 := by
  unfold wp_12_undo
  repeat' first | with_reducible exact HQ | with_reducible exact HQ _ _ _ | with_reducible exact fun h => h | with_reducible refine mo_and ?_ ?_ | with_reducible refine mo_ex (fun _ => ?_) | with_reducible refine mq_12_undo_b21 ?_ _ _ _ _ | with_reducible refine mo_all (fun _ => ?_) | intro _
theorem mq_12_tries {a1 : Int32} {a2 : Int32} {a3 : Int32} {w : Mem} {wl : MemL} {Q Q9 : Mem → MemL → Prop} (HQ : ∀ x0 x1, Q x0 x1 → Q9 x0 x1) : wp_12_tries a1 a2 a3 w wl Q → wp_12_tries a1 a2 a3 w wl Q9 := by
  unfold wp_12_tries
  repeat' first | with_reducible exact HQ | with_reducible exact HQ _ _ | with_reducible exact fun h => h | with_reducible refine mo_and ?_ ?_ | with_reducible refine mo_ex (fun _ => ?_) | with_reducible refine mq_12_copies ?_ | with_reducible refine mq_12_setsJump ?_ | with_reducible refine mo_all (fun _ => ?_) | intro _
theorem mq_12_attempt {a1 : Int32} {a2 : Int32} {a3 : Int32} {a4 : Int32} {w : Mem} {wl : MemL} {Q Q9 : Int32 → Mem → MemL → Prop} (HQ : ∀ x0 x1 x2, Q x0 x1 x2 → Q9 x0 x1 x2) : wp_12_attempt a1 a2 a3 a4 w wl Q → wp_12_attempt a1 a2 a3 a4 w wl Q9 := by
  unfold wp_12_attempt
  repeat' first | with_reducible exact HQ | with_reducible exact HQ _ _ _ | with_reducible exact fun h => h | with_reducible refine mo_and ?_ ?_ | with_reducible refine mo_ex (fun _ => ?_) | with_reducible refine mq_12_isMan ?_ | with_reducible refine mq_12_in ?_ | with_reducible refine mq_12_tries ?_ | with_reducible refine mo_all (fun _ => ?_) | intro _
theorem mq_12_wait_b89 {l1 : Int32} {l2 : Int32} {l3 : Int32} {l4 : Int32} {l5 : Int32} {l6 : Int32} {l7 : Int32} {w : Mem} {wl : MemL} {Q Q9 : Int32 → Mem → MemL → Prop} {L33 L339 : Int32 → Int32 → Int32 → Int32 → Int32 → Int32 → Int32 → Mem → MemL → Prop} (HQ : ∀ x0 x1 x2, Q x0 x1 x2 → Q9 x0 x1 x2) (HL33 : ∀ x0 x1 x2 x3 x4 x5 x6 x7 x8, L33 x0 x1 x2 x3 x4 x5 x6 x7 x8 → L339 x0 x1 x2 x3 x4 x5 x6 x7 x8) : wp_12_wait_b89 Q L33 l1 l2 l3 l4 l5 l6 l7 w wl → wp_12_wait_b89 Q9 L339 l1 l2 l3 l4 l5 l6 l7 w wl := by
  unfold wp_12_wait_b89
  repeat' first | with_reducible exact HQ | with_reducible exact HQ _ _ _ | with_reducible exact HL33 | with_reducible exact HL33 _ _ _ _ _ _ _ _ _ | with_reducible exact fun h => h | with_reducible refine mo_and ?_ ?_ | with_reducible refine mo_ex (fun _ => ?_) | with_reducible refine mo_all (fun _ => ?_) | intro _
theorem mq_12_wait_b70 {l1 : Int32} {l2 : Int32} {l3 : Int32} {l4 : Int32} {l5 : Int32} {l6 : Int32} {l7 : Int32} {w : Mem} {wl : MemL} {Q Q9 : Int32 → Mem → MemL → Prop} {L33 L339 : Int32 → Int32 → Int32 → Int32 → Int32 → Int32 → Int32 → Mem → MemL → Prop} (HQ : ∀ x0 x1 x2, Q x0 x1 x2 → Q9 x0 x1 x2) (HL33 : ∀ x0 x1 x2 x3 x4 x5 x6 x7 x8, L33 x0 x1 x2 x3 x4 x5 x6 x7 x8 → L339 x0 x1 x2 x3 x4 x5 x6 x7 x8) : wp_12_wait_b70 Q L33 l1 l2 l3 l4 l5 l6 l7 w wl → wp_12_wait_b70 Q9 L339 l1 l2 l3 l4 l5 l6 l7 w wl := by
  unfold wp_12_wait_b70
  repeat' first | with_reducible exact HQ | with_reducible exact HQ _ _ _ | with_reducible exact HL33 | with_reducible exact HL33 _ _ _ _ _ _ _ _ _ | with_reducible exact fun h => h | with_reducible refine mo_and ?_ ?_ | with_reducible refine mo_ex (fun _ => ?_) | with_reducible refine mq_12_wait_b89 ?_ ?_ | with_reducible refine mo_all (fun _ => ?_) | intro _
theorem mq_12_wait_b33  {Q Q9 : Int32 → Mem → MemL → Prop} (HQ : ∀ x0 x1 x2, Q x0 x1 x2 → Q9 x0 x1 x2) : ∀ (y0 : Nat) (y1 : Int32) (y2 : Int32) (y3 : Int32) (y4 : Int32) (y5 : Int32) (y6 : Int32) (y7 : Int32) (y8 : Mem) (y9 : MemL), wp_12_wait_b33 Q y0 y1 y2 y3 y4 y5 y6 y7 y8 y9 → wp_12_wait_b33 Q9 y0 y1 y2 y3 y4 y5 y6 y7 y8 y9 := by
  intro n
  induction n with
  | zero => exact fun _ _ _ _ _ _ _ _ _ h => h
  | succ n ih =>
    intro y1 y2 y3 y4 y5 y6 y7 y8 y9
    unfold wp_12_wait_b33
    repeat' first | with_reducible exact HQ | with_reducible exact HQ _ _ _ | with_reducible exact ih | with_reducible exact ih _ _ _ _ _ _ _ _ _ | with_reducible exact fun h => h | with_reducible refine mo_and ?_ ?_ | with_reducible refine mo_ex (fun _ => ?_) | with_reducible refine mq_12_tell0 ?_ | with_reducible refine mq_12_tries ?_ | with_reducible refine mq_12_wait_b70 ?_ ?_ | with_reducible refine mo_all (fun _ => ?_) | intro _
theorem mq_12_wait {a1 : Int32} {a2 : Int32} {w : Mem} {wl : MemL} {Q Q9 : Int32 → Mem → MemL → Prop} (HQ : ∀ x0 x1 x2, Q x0 x1 x2 → Q9 x0 x1 x2) : wp_12_wait a1 a2 w wl Q → wp_12_wait a1 a2 w wl Q9 := by
  unfold wp_12_wait
  repeat' first | with_reducible exact HQ | with_reducible exact HQ _ _ _ | with_reducible exact fun h => h | with_reducible refine mo_and ?_ ?_ | with_reducible refine mo_ex (fun _ => ?_) | with_reducible refine mq_12_isMan ?_ | with_reducible refine mq_12_in ?_ | with_reducible refine mq_12_wait_b33 ?_ _ _ _ _ _ _ _ _ _ _ | with_reducible refine mo_all (fun _ => ?_) | intro _
theorem mq_12_cost_b45 {l1 : Int32} {l2 : Int32} {l3 : Int32} {s0 : Int32} {w : Mem} {wl : MemL} {Q Q9 : Int32 → Mem → MemL → Prop} (HQ : ∀ x0 x1 x2, Q x0 x1 x2 → Q9 x0 x1 x2) : wp_12_cost_b45 Q l1 l2 l3 s0 w wl → wp_12_cost_b45 Q9 l1 l2 l3 s0 w wl := by
  unfold wp_12_cost_b45
  repeat' first | with_reducible exact HQ | with_reducible exact HQ _ _ _ | with_reducible exact fun h => h | with_reducible refine mo_and ?_ ?_ | with_reducible refine mo_ex (fun _ => ?_) | with_reducible refine mq_12_tries ?_ | with_reducible refine mo_all (fun _ => ?_) | intro _
theorem mq_12_cost {a1 : Int32} {a2 : Int32} {a3 : Int32} {w : Mem} {wl : MemL} {Q Q9 : Int32 → Mem → MemL → Prop} (HQ : ∀ x0 x1 x2, Q x0 x1 x2 → Q9 x0 x1 x2) : wp_12_cost a1 a2 a3 w wl Q → wp_12_cost a1 a2 a3 w wl Q9 := by
  unfold wp_12_cost
  repeat' first | with_reducible exact HQ | with_reducible exact HQ _ _ _ | with_reducible exact fun h => h | with_reducible refine mo_and ?_ ?_ | with_reducible refine mo_ex (fun _ => ?_) | with_reducible refine mq_12_isMan ?_ | with_reducible refine mq_12_in ?_ | with_reducible refine mq_12_tries ?_ | with_reducible refine mq_12_cost_b45 ?_ | with_reducible refine mo_all (fun _ => ?_) | intro _
theorem mq_12_pound {a1 : Int32} {a2 : Int32} {a3 : Int32} {w : Mem} {wl : MemL} {Q Q9 : Int32 → Mem → MemL → Prop} (HQ : ∀ x0 x1 x2, Q x0 x1 x2 → Q9 x0 x1 x2) : wp_12_pound a1 a2 a3 w wl Q → wp_12_pound a1 a2 a3 w wl Q9 := by
  unfold wp_12_pound
  repeat' first | with_reducible exact HQ | with_reducible exact HQ _ _ _ | with_reducible exact fun h => h | with_reducible refine mo_and ?_ ?_ | with_reducible refine mo_ex (fun _ => ?_) | with_reducible refine mq_12_isMan ?_ | with_reducible refine mq_12_in ?_ | with_reducible refine mq_12_tries ?_ | with_reducible refine mq_12_jumps ?_ | with_reducible refine mo_all (fun _ => ?_) | intro _
theorem mq_12_gain {a1 : Int32} {w : Mem} {wl : MemL} {Q Q9 : Int32 → Mem → MemL → Prop} (HQ : ∀ x0 x1 x2, Q x0 x1 x2 → Q9 x0 x1 x2) : wp_12_gain a1 w wl Q → wp_12_gain a1 w wl Q9 := by
  unfold wp_12_gain
  repeat' first | with_reducible exact HQ | with_reducible exact HQ _ _ _ | with_reducible exact fun h => h | with_reducible refine mo_and ?_ ?_ | with_reducible refine mo_ex (fun _ => ?_) | with_reducible refine mq_12_isMan ?_ | with_reducible refine mq_12_tries ?_ | with_reducible refine mq_12_jumps ?_ | with_reducible refine mo_all (fun _ => ?_) | intro _
theorem mq_12_number {a1 : Int32} {w : Mem} {wl : MemL} {Q Q9 : Int32 → Mem → MemL → Prop} (HQ : ∀ x0 x1 x2, Q x0 x1 x2 → Q9 x0 x1 x2) : wp_12_number a1 w wl Q → wp_12_number a1 w wl Q9 := by
  unfold wp_12_number
  repeat' first | with_reducible exact HQ | with_reducible exact HQ _ _ _ | with_reducible exact fun h => h | with_reducible refine mo_and ?_ ?_ | with_reducible refine mo_ex (fun _ => ?_) | with_reducible refine mq_12_isMan ?_ | with_reducible refine mq_12_tries ?_ | with_reducible refine mq_12_jumps ?_ | with_reducible refine mo_all (fun _ => ?_) | intro _
theorem mq_12_isSafe_b17  {Q Q9 : Int32 → Mem → MemL → Prop} {L2 L29 : Int32 → Int32 → Mem → MemL → Prop} (HQ : ∀ x0 x1 x2, Q x0 x1 x2 → Q9 x0 x1 x2) (HL2 : ∀ x0 x1 x2 x3, L2 x0 x1 x2 x3 → L29 x0 x1 x2 x3) : ∀ (y0 : Nat) (y1 : Int32) (y2 : Int32) (y3 : Int32) (y4 : Mem) (y5 : MemL), wp_12_isSafe_b17 Q L2 y0 y1 y2 y3 y4 y5 → wp_12_isSafe_b17 Q9 L29 y0 y1 y2 y3 y4 y5 := by
  intro n
  induction n with
  | zero => exact fun _ _ _ _ _ h => h
  | succ n ih =>
    intro y1 y2 y3 y4 y5
    unfold wp_12_isSafe_b17
    repeat' first | with_reducible exact HQ | with_reducible exact HQ _ _ _ | with_reducible exact HL2 | with_reducible exact HL2 _ _ _ _ | with_reducible exact ih | with_reducible exact ih _ _ _ _ _ | with_reducible exact fun h => h | with_reducible refine mo_and ?_ ?_ | with_reducible refine mo_ex (fun _ => ?_) | with_reducible refine mq_12_setsJump ?_ | with_reducible refine mq_12_tell0 ?_ | with_reducible refine mo_all (fun _ => ?_) | intro _
theorem mq_12_isSafe_b2  {Q Q9 : Int32 → Mem → MemL → Prop} (HQ : ∀ x0 x1 x2, Q x0 x1 x2 → Q9 x0 x1 x2) : ∀ (y0 : Nat) (y1 : Int32) (y2 : Int32) (y3 : Mem) (y4 : MemL), wp_12_isSafe_b2 Q y0 y1 y2 y3 y4 → wp_12_isSafe_b2 Q9 y0 y1 y2 y3 y4 := by
  intro n
  induction n with
  | zero => exact fun _ _ _ _ h => h
  | succ n ih =>
    intro y1 y2 y3 y4
    unfold wp_12_isSafe_b2
    repeat' first | with_reducible exact HQ | with_reducible exact HQ _ _ _ | with_reducible exact ih | with_reducible exact ih _ _ _ _ | with_reducible exact fun h => h | with_reducible refine mo_and ?_ ?_ | with_reducible refine mo_ex (fun _ => ?_) | with_reducible refine mq_12_isSafe_b17 ?_ ?_ _ _ _ _ _ _ | with_reducible refine mo_all (fun _ => ?_) | intro _
theorem mq_12_isSafe {a1 : Int32} {w : Mem} {wl : MemL} {Q Q9 : Int32 → Mem → MemL → Prop} (HQ : ∀ x0 x1 x2, Q x0 x1 x2 → Q9 x0 x1 x2) : wp_12_isSafe a1 w wl Q → wp_12_isSafe a1 w wl Q9 := by
  unfold wp_12_isSafe
  repeat' first | with_reducible exact HQ | with_reducible exact HQ _ _ _ | with_reducible exact fun h => h | with_reducible refine mo_and ?_ ?_ | with_reducible refine mo_ex (fun _ => ?_) | with_reducible refine mq_12_isSafe_b2 ?_ _ _ _ _ _ | with_reducible refine mo_all (fun _ => ?_) | intro _
theorem mq_12_gates_b54  {Q Q9 : Int32 → Mem → MemL → Prop} (HQ : ∀ x0 x1 x2, Q x0 x1 x2 → Q9 x0 x1 x2) : ∀ (y0 : Nat) (y1 : Int32) (y2 : Int32) (y3 : Int32) (y4 : Mem) (y5 : MemL), wp_12_gates_b54 Q y0 y1 y2 y3 y4 y5 → wp_12_gates_b54 Q9 y0 y1 y2 y3 y4 y5 := by
  intro n
  induction n with
  | zero => exact fun _ _ _ _ _ h => h
  | succ n ih =>
    intro y1 y2 y3 y4 y5
    unfold wp_12_gates_b54
    repeat' first | with_reducible exact HQ | with_reducible exact HQ _ _ _ | with_reducible exact ih | with_reducible exact ih _ _ _ _ _ | with_reducible exact fun h => h | with_reducible refine mo_and ?_ ?_ | with_reducible refine mo_ex (fun _ => ?_) | with_reducible refine mq_12_setsJump ?_ | with_reducible refine mo_all (fun _ => ?_) | intro _
theorem mq_12_gates_b36 {l1 : Int32} {l2 : Int32} {w : Mem} {wl : MemL} {Q Q9 : Int32 → Mem → MemL → Prop} (HQ : ∀ x0 x1 x2, Q x0 x1 x2 → Q9 x0 x1 x2) : wp_12_gates_b36 Q l1 l2 w wl → wp_12_gates_b36 Q9 l1 l2 w wl := by
  unfold wp_12_gates_b36
  repeat' first | with_reducible exact HQ | with_reducible exact HQ _ _ _ | with_reducible exact fun h => h | with_reducible refine mo_and ?_ ?_ | with_reducible refine mo_ex (fun _ => ?_) | with_reducible refine mq_12_gates_b54 ?_ _ _ _ _ _ _ | with_reducible refine mo_all (fun _ => ?_) | intro _
theorem mq_12_gates_b18  {Q Q9 : Int32 → Mem → MemL → Prop} (HQ : ∀ x0 x1 x2, Q x0 x1 x2 → Q9 x0 x1 x2) : ∀ (y0 : Nat) (y1 : Int32) (y2 : Int32) (y3 : Mem) (y4 : MemL), wp_12_gates_b18 Q y0 y1 y2 y3 y4 → wp_12_gates_b18 Q9 y0 y1 y2 y3 y4 := by
  intro n
  induction n with
  | zero => exact fun _ _ _ _ h => h
  | succ n ih =>
    intro y1 y2 y3 y4
    unfold wp_12_gates_b18
    repeat' first | with_reducible exact HQ | with_reducible exact HQ _ _ _ | with_reducible exact ih | with_reducible exact ih _ _ _ _ | with_reducible exact fun h => h | with_reducible refine mo_and ?_ ?_ | with_reducible refine mo_ex (fun _ => ?_) | with_reducible refine mq_12_gates_b36 ?_ | with_reducible refine mq_12_isSafe ?_ | with_reducible refine mo_all (fun _ => ?_) | intro _
theorem mq_12_gates {a1 : Int32} {w : Mem} {wl : MemL} {Q Q9 : Int32 → Mem → MemL → Prop} (HQ : ∀ x0 x1 x2, Q x0 x1 x2 → Q9 x0 x1 x2) : wp_12_gates a1 w wl Q → wp_12_gates a1 w wl Q9 := by
  unfold wp_12_gates
  repeat' first | with_reducible exact HQ | with_reducible exact HQ _ _ _ | with_reducible exact fun h => h | with_reducible refine mo_and ?_ ?_ | with_reducible refine mo_ex (fun _ => ?_) | with_reducible refine mq_12_in ?_ | with_reducible refine mq_12_copies ?_ | with_reducible refine mq_12_gates_b18 ?_ _ _ _ _ _ | with_reducible refine mo_all (fun _ => ?_) | intro _
theorem mq_12_startsAll_b0  {Q Q9 : Mem → MemL → Prop} (HQ : ∀ x0 x1, Q x0 x1 → Q9 x0 x1) : ∀ (y0 : Nat) (y1 : Mem) (y2 : MemL), wp_12_startsAll_b0 Q y0 y1 y2 → wp_12_startsAll_b0 Q9 y0 y1 y2 := by
  intro n
  induction n with
  | zero => exact fun _ _ h => h
  | succ n ih =>
    intro y1 y2
    unfold wp_12_startsAll_b0
    repeat' first | with_reducible exact HQ | with_reducible exact HQ _ _ | with_reducible exact ih | with_reducible exact ih _ _ | with_reducible exact fun h => h | with_reducible refine mo_and ?_ ?_ | with_reducible refine mo_ex (fun _ => ?_) | with_reducible refine mq_12_nextOne ?_ | with_reducible refine mq_12_starts ?_ | with_reducible refine mo_all (fun _ => ?_) | intro _
theorem mq_12_startsAll {w : Mem} {wl : MemL} {Q Q9 : Mem → MemL → Prop} (HQ : ∀ x0 x1, Q x0 x1 → Q9 x0 x1) : wp_12_startsAll w wl Q → wp_12_startsAll w wl Q9 := by
  unfold wp_12_startsAll
  repeat' first | with_reducible exact HQ | with_reducible exact HQ _ _ | with_reducible exact fun h => h | with_reducible refine mo_and ?_ ?_ | with_reducible refine mo_ex (fun _ => ?_) | with_reducible refine mq_12_startsAll_b0 ?_ _ _ _ | with_reducible refine mo_all (fun _ => ?_) | intro _
theorem mq_12_crown_b62 {l1 : Int32} {l2 : Int32} {l3 : Int32} {l4 : Int32} {w : Mem} {wl : MemL} {Q Q9 : Int32 → Mem → MemL → Prop} {L25 L259 : Int32 → Int32 → Int32 → Int32 → Mem → MemL → Prop} (HQ : ∀ x0 x1 x2, Q x0 x1 x2 → Q9 x0 x1 x2) (HL25 : ∀ x0 x1 x2 x3 x4 x5, L25 x0 x1 x2 x3 x4 x5 → L259 x0 x1 x2 x3 x4 x5) : wp_12_crown_b62 Q L25 l1 l2 l3 l4 w wl → wp_12_crown_b62 Q9 L259 l1 l2 l3 l4 w wl := by
  unfold wp_12_crown_b62
  repeat' first | with_reducible exact HQ | with_reducible exact HQ _ _ _ | with_reducible exact HL25 | with_reducible exact HL25 _ _ _ _ _ _ | with_reducible exact fun h => h | with_reducible refine mo_and ?_ ?_ | with_reducible refine mo_ex (fun _ => ?_) | with_reducible refine mo_all (fun _ => ?_) | intro _
theorem mq_12_crown_b25  {Q Q9 : Int32 → Mem → MemL → Prop} (HQ : ∀ x0 x1 x2, Q x0 x1 x2 → Q9 x0 x1 x2) : ∀ (y0 : Nat) (y1 : Int32) (y2 : Int32) (y3 : Int32) (y4 : Int32) (y5 : Mem) (y6 : MemL), wp_12_crown_b25 Q y0 y1 y2 y3 y4 y5 y6 → wp_12_crown_b25 Q9 y0 y1 y2 y3 y4 y5 y6 := by
  intro n
  induction n with
  | zero => exact fun _ _ _ _ _ _ h => h
  | succ n ih =>
    intro y1 y2 y3 y4 y5 y6
    unfold wp_12_crown_b25
    repeat' first | with_reducible exact HQ | with_reducible exact HQ _ _ _ | with_reducible exact ih | with_reducible exact ih _ _ _ _ _ _ | with_reducible exact fun h => h | with_reducible refine mo_and ?_ ?_ | with_reducible refine mo_ex (fun _ => ?_) | with_reducible refine mq_12_copies ?_ | with_reducible refine mq_12_startsAll ?_ | with_reducible refine mq_12_rankBy ?_ | with_reducible refine mq_12_crown_b62 ?_ ?_ | with_reducible refine mo_all (fun _ => ?_) | intro _
theorem mq_12_crown {a1 : Int32} {a2 : Int32} {w : Mem} {wl : MemL} {Q Q9 : Int32 → Mem → MemL → Prop} (HQ : ∀ x0 x1 x2, Q x0 x1 x2 → Q9 x0 x1 x2) : wp_12_crown a1 a2 w wl Q → wp_12_crown a1 a2 w wl Q9 := by
  unfold wp_12_crown
  repeat' first | with_reducible exact HQ | with_reducible exact HQ _ _ _ | with_reducible exact fun h => h | with_reducible refine mo_and ?_ ?_ | with_reducible refine mo_ex (fun _ => ?_) | with_reducible refine mq_12_isMan ?_ | with_reducible refine mq_12_in ?_ | with_reducible refine mq_12_crown_b25 ?_ _ _ _ _ _ _ _ | with_reducible refine mo_all (fun _ => ?_) | intro _
theorem mq_12_reversed {a1 : Int32} {w : Mem} {wl : MemL} {Q Q9 : Int32 → Mem → MemL → Prop} (HQ : ∀ x0 x1 x2, Q x0 x1 x2 → Q9 x0 x1 x2) : wp_12_reversed a1 w wl Q → wp_12_reversed a1 w wl Q9 := by
  unfold wp_12_reversed
  repeat' first | with_reducible exact HQ | with_reducible exact HQ _ _ _ | with_reducible exact fun h => h | with_reducible refine mo_and ?_ ?_ | with_reducible refine mo_ex (fun _ => ?_) | with_reducible refine mq_12_isMan ?_ | with_reducible refine mq_12_begins ?_ | with_reducible refine mq_12_startsAll ?_ | with_reducible refine mq_12_rankBy ?_ | with_reducible refine mo_all (fun _ => ?_) | intro _
theorem mq_12_pointsWithout {a1 : Int32} {a2 : Int32} {a3 : Int32} {w : Mem} {wl : MemL} {Q Q9 : Int32 → Mem → MemL → Prop} (HQ : ∀ x0 x1 x2, Q x0 x1 x2 → Q9 x0 x1 x2) : wp_12_pointsWithout a1 a2 a3 w wl Q → wp_12_pointsWithout a1 a2 a3 w wl Q9 := by
  unfold wp_12_pointsWithout
  repeat' first | with_reducible exact HQ | with_reducible exact HQ _ _ _ | with_reducible exact fun h => h | with_reducible refine mo_and ?_ ?_ | with_reducible refine mo_ex (fun _ => ?_) | with_reducible refine mq_12_cell ?_ | with_reducible refine mq_12_setsJump ?_ | with_reducible refine mq_12_setsStyle ?_ | with_reducible refine mq_12_setsPoints ?_ | with_reducible refine mo_all (fun _ => ?_) | intro _
theorem mq_12_without_b40  {Q Q9 : Int32 → Mem → MemL → Prop} {L24 L249 : Int32 → Int32 → Int32 → Mem → MemL → Prop} (HQ : ∀ x0 x1 x2, Q x0 x1 x2 → Q9 x0 x1 x2) (HL24 : ∀ x0 x1 x2 x3 x4, L24 x0 x1 x2 x3 x4 → L249 x0 x1 x2 x3 x4) : ∀ (y0 : Nat) (y1 : Int32) (y2 : Int32) (y3 : Int32) (y4 : Int32) (y5 : Mem) (y6 : MemL), wp_12_without_b40 Q L24 y0 y1 y2 y3 y4 y5 y6 → wp_12_without_b40 Q9 L249 y0 y1 y2 y3 y4 y5 y6 := by
  intro n
  induction n with
  | zero => exact fun _ _ _ _ _ _ h => h
  | succ n ih =>
    intro y1 y2 y3 y4 y5 y6
    unfold wp_12_without_b40
    repeat' first | with_reducible exact HQ | with_reducible exact HQ _ _ _ | with_reducible exact HL24 | with_reducible exact HL24 _ _ _ _ _ | with_reducible exact ih | with_reducible exact ih _ _ _ _ _ _ | with_reducible exact fun h => h | with_reducible refine mo_and ?_ ?_ | with_reducible refine mo_ex (fun _ => ?_) | with_reducible refine mq_12_cell ?_ | with_reducible refine mq_12_pointsWithout ?_ | with_reducible refine mo_all (fun _ => ?_) | intro _
theorem mq_12_without_b24  {Q Q9 : Int32 → Mem → MemL → Prop} (HQ : ∀ x0 x1 x2, Q x0 x1 x2 → Q9 x0 x1 x2) : ∀ (y0 : Nat) (y1 : Int32) (y2 : Int32) (y3 : Int32) (y4 : Mem) (y5 : MemL), wp_12_without_b24 Q y0 y1 y2 y3 y4 y5 → wp_12_without_b24 Q9 y0 y1 y2 y3 y4 y5 := by
  intro n
  induction n with
  | zero => exact fun _ _ _ _ _ h => h
  | succ n ih =>
    intro y1 y2 y3 y4 y5
    unfold wp_12_without_b24
    repeat' first | with_reducible exact HQ | with_reducible exact HQ _ _ _ | with_reducible exact ih | with_reducible exact ih _ _ _ _ _ | with_reducible exact fun h => h | with_reducible refine mo_and ?_ ?_ | with_reducible refine mo_ex (fun _ => ?_) | with_reducible refine mq_12_rankBy ?_ | with_reducible refine mq_12_without_b40 ?_ ?_ _ _ _ _ _ _ _ | with_reducible refine mo_all (fun _ => ?_) | intro _
theorem mq_12_without {a1 : Int32} {a2 : Int32} {w : Mem} {wl : MemL} {Q Q9 : Int32 → Mem → MemL → Prop} (HQ : ∀ x0 x1 x2, Q x0 x1 x2 → Q9 x0 x1 x2) : wp_12_without a1 a2 w wl Q → wp_12_without a1 a2 w wl Q9 := by
  unfold wp_12_without
  repeat' first | with_reducible exact HQ | with_reducible exact HQ _ _ _ | with_reducible exact fun h => h | with_reducible refine mo_and ?_ ?_ | with_reducible refine mo_ex (fun _ => ?_) | with_reducible refine mq_12_isMan ?_ | with_reducible refine mq_12_isJudge ?_ | with_reducible refine mq_12_copies ?_ | with_reducible refine mq_12_without_b24 ?_ _ _ _ _ _ _ | with_reducible refine mo_all (fun _ => ?_) | intro _
theorem mq_12_hasLeft_b58 {w : Mem} {wl : MemL} {Q Q9 : Int32 → Mem → MemL → Prop} (HQ : ∀ x0 x1 x2, Q x0 x1 x2 → Q9 x0 x1 x2) : wp_12_hasLeft_b58 Q w wl → wp_12_hasLeft_b58 Q9 w wl := by
  unfold wp_12_hasLeft_b58
  repeat' first | with_reducible exact HQ | with_reducible exact HQ _ _ _ | with_reducible exact fun h => h | with_reducible refine mo_and ?_ ?_ | with_reducible refine mo_ex (fun _ => ?_) | with_reducible refine mo_all (fun _ => ?_) | intro _
theorem mq_12_hasLeft {a1 : Int32} {w : Mem} {wl : MemL} {Q Q9 : Int32 → Mem → MemL → Prop} (HQ : ∀ x0 x1 x2, Q x0 x1 x2 → Q9 x0 x1 x2) : wp_12_hasLeft a1 w wl Q → wp_12_hasLeft a1 w wl Q9 := by
  unfold wp_12_hasLeft
  repeat' first | with_reducible exact HQ | with_reducible exact HQ _ _ _ | with_reducible exact fun h => h | with_reducible refine mo_and ?_ ?_ | with_reducible refine mo_ex (fun _ => ?_) | with_reducible refine mq_12_cell ?_ | with_reducible refine mq_12_hasLeft_b58 ?_ | with_reducible refine mq_12_rankBy ?_ | with_reducible refine mq_12_inSecond ?_ | with_reducible refine mo_all (fun _ => ?_) | intro _
theorem mq_12_needs_b130  {Q Q9 : Int32 → Mem → MemL → Prop} (HQ : ∀ x0 x1 x2, Q x0 x1 x2 → Q9 x0 x1 x2) : ∀ (y0 : Nat) (y1 : Int32) (y2 : Int32) (y3 : Int32) (y4 : Mem) (y5 : MemL), wp_12_needs_b130 Q y0 y1 y2 y3 y4 y5 → wp_12_needs_b130 Q9 y0 y1 y2 y3 y4 y5 := by
  intro n
  induction n with
  | zero => exact fun _ _ _ _ _ h => h
  | succ n ih =>
    intro y1 y2 y3 y4 y5
    unfold wp_12_needs_b130
    repeat' first | with_reducible exact HQ | with_reducible exact HQ _ _ _ | with_reducible exact ih | with_reducible exact ih _ _ _ _ _ | with_reducible exact fun h => h | with_reducible refine mo_and ?_ ?_ | with_reducible refine mo_ex (fun _ => ?_) | with_reducible refine mq_12_marksAll ?_ | with_reducible refine mo_all (fun _ => ?_) | intro _
theorem mq_12_needs_b121 {l1 : Int32} {l2 : Int32} {l3 : Int32} {l4 : Int32} {w : Mem} {wl : MemL} {Q Q9 : Int32 → Mem → MemL → Prop} {L69 L699 : Int32 → Int32 → Int32 → Int32 → Mem → MemL → Prop} (HQ : ∀ x0 x1 x2, Q x0 x1 x2 → Q9 x0 x1 x2) (HL69 : ∀ x0 x1 x2 x3 x4 x5, L69 x0 x1 x2 x3 x4 x5 → L699 x0 x1 x2 x3 x4 x5) : wp_12_needs_b121 Q L69 l1 l2 l3 l4 w wl → wp_12_needs_b121 Q9 L699 l1 l2 l3 l4 w wl := by
  unfold wp_12_needs_b121
  repeat' first | with_reducible exact HQ | with_reducible exact HQ _ _ _ | with_reducible exact HL69 | with_reducible exact HL69 _ _ _ _ _ _ | with_reducible exact fun h => h | with_reducible refine mo_and ?_ ?_ | with_reducible refine mo_ex (fun _ => ?_) | with_reducible refine mo_all (fun _ => ?_) | intro _
theorem mq_12_needs_b109 {l1 : Int32} {l2 : Int32} {l3 : Int32} {l4 : Int32} {s0 : Int32} {s1 : Int32} {w : Mem} {wl : MemL} {Q Q9 : Int32 → Mem → MemL → Prop} {L69 L699 : Int32 → Int32 → Int32 → Int32 → Mem → MemL → Prop} (HQ : ∀ x0 x1 x2, Q x0 x1 x2 → Q9 x0 x1 x2) (HL69 : ∀ x0 x1 x2 x3 x4 x5, L69 x0 x1 x2 x3 x4 x5 → L699 x0 x1 x2 x3 x4 x5) : wp_12_needs_b109 Q L69 l1 l2 l3 l4 s0 s1 w wl → wp_12_needs_b109 Q9 L699 l1 l2 l3 l4 s0 s1 w wl := by
  unfold wp_12_needs_b109
  repeat' first | with_reducible exact HQ | with_reducible exact HQ _ _ _ | with_reducible exact HL69 | with_reducible exact HL69 _ _ _ _ _ _ | with_reducible exact fun h => h | with_reducible refine mo_and ?_ ?_ | with_reducible refine mo_ex (fun _ => ?_) | with_reducible refine mq_12_needs_b121 ?_ ?_ | with_reducible refine mo_all (fun _ => ?_) | intro _
theorem mq_12_needs_b69  {Q Q9 : Int32 → Mem → MemL → Prop} (HQ : ∀ x0 x1 x2, Q x0 x1 x2 → Q9 x0 x1 x2) : ∀ (y0 : Nat) (y1 : Int32) (y2 : Int32) (y3 : Int32) (y4 : Int32) (y5 : Mem) (y6 : MemL), wp_12_needs_b69 Q y0 y1 y2 y3 y4 y5 y6 → wp_12_needs_b69 Q9 y0 y1 y2 y3 y4 y5 y6 := by
  intro n
  induction n with
  | zero => exact fun _ _ _ _ _ _ h => h
  | succ n ih =>
    intro y1 y2 y3 y4 y5 y6
    unfold wp_12_needs_b69
    repeat' first | with_reducible exact HQ | with_reducible exact HQ _ _ _ | with_reducible exact ih | with_reducible exact ih _ _ _ _ _ _ | with_reducible exact fun h => h | with_reducible refine mo_and ?_ ?_ | with_reducible refine mo_ex (fun _ => ?_) | with_reducible refine mq_12_needs_b130 ?_ _ _ _ _ _ _ | with_reducible refine mq_12_pointsOf ?_ | with_reducible refine mq_12_needs_b109 ?_ ?_ | with_reducible refine mq_12_needs_b121 ?_ ?_ | with_reducible refine mo_all (fun _ => ?_) | intro _
theorem mq_12_needs {a1 : Int32} {w : Mem} {wl : MemL} {Q Q9 : Int32 → Mem → MemL → Prop} (HQ : ∀ x0 x1 x2, Q x0 x1 x2 → Q9 x0 x1 x2) : wp_12_needs a1 w wl Q → wp_12_needs a1 w wl Q9 := by
  unfold wp_12_needs
  repeat' first | with_reducible exact HQ | with_reducible exact HQ _ _ _ | with_reducible exact fun h => h | with_reducible refine mo_and ?_ ?_ | with_reducible refine mo_ex (fun _ => ?_) | with_reducible refine mq_12_isMan ?_ | with_reducible refine mq_12_copies ?_ | with_reducible refine mq_12_hasLeft ?_ | with_reducible refine mq_12_setsJump ?_ | with_reducible refine mq_12_pointsOf ?_ | with_reducible refine mq_12_needs_b69 ?_ _ _ _ _ _ _ _ | with_reducible refine mo_all (fun _ => ?_) | intro _
theorem mq_12_spread_b64 {l1 : Int32} {l2 : Int32} {l3 : Int32} {l4 : Int32} {w : Mem} {wl : MemL} {Q Q9 : Int32 → Mem → MemL → Prop} {L19 L199 : Int32 → Int32 → Int32 → Int32 → Mem → MemL → Prop} (HQ : ∀ x0 x1 x2, Q x0 x1 x2 → Q9 x0 x1 x2) (HL19 : ∀ x0 x1 x2 x3 x4 x5, L19 x0 x1 x2 x3 x4 x5 → L199 x0 x1 x2 x3 x4 x5) : wp_12_spread_b64 Q L19 l1 l2 l3 l4 w wl → wp_12_spread_b64 Q9 L199 l1 l2 l3 l4 w wl := by
  unfold wp_12_spread_b64
  repeat' first | with_reducible exact HQ | with_reducible exact HQ _ _ _ | with_reducible exact HL19 | with_reducible exact HL19 _ _ _ _ _ _ | with_reducible exact fun h => h | with_reducible refine mo_and ?_ ?_ | with_reducible refine mo_ex (fun _ => ?_) | with_reducible refine mo_all (fun _ => ?_) | intro _
theorem mq_12_spread_b51 {l1 : Int32} {l2 : Int32} {l3 : Int32} {l4 : Int32} {w : Mem} {wl : MemL} {Q Q9 : Int32 → Mem → MemL → Prop} {L19 L199 : Int32 → Int32 → Int32 → Int32 → Mem → MemL → Prop} (HQ : ∀ x0 x1 x2, Q x0 x1 x2 → Q9 x0 x1 x2) (HL19 : ∀ x0 x1 x2 x3 x4 x5, L19 x0 x1 x2 x3 x4 x5 → L199 x0 x1 x2 x3 x4 x5) : wp_12_spread_b51 Q L19 l1 l2 l3 l4 w wl → wp_12_spread_b51 Q9 L199 l1 l2 l3 l4 w wl := by
  unfold wp_12_spread_b51
  repeat' first | with_reducible exact HQ | with_reducible exact HQ _ _ _ | with_reducible exact HL19 | with_reducible exact HL19 _ _ _ _ _ _ | with_reducible exact fun h => h | with_reducible refine mo_and ?_ ?_ | with_reducible refine mo_ex (fun _ => ?_) | with_reducible refine mq_12_spread_b64 ?_ ?_ | with_reducible refine mo_all (fun _ => ?_) | intro _
theorem mq_12_spread_b19  {Q Q9 : Int32 → Mem → MemL → Prop} (HQ : ∀ x0 x1 x2, Q x0 x1 x2 → Q9 x0 x1 x2) : ∀ (y0 : Nat) (y1 : Int32) (y2 : Int32) (y3 : Int32) (y4 : Int32) (y5 : Mem) (y6 : MemL), wp_12_spread_b19 Q y0 y1 y2 y3 y4 y5 y6 → wp_12_spread_b19 Q9 y0 y1 y2 y3 y4 y5 y6 := by
  intro n
  induction n with
  | zero => exact fun _ _ _ _ _ _ h => h
  | succ n ih =>
    intro y1 y2 y3 y4 y5 y6
    unfold wp_12_spread_b19
    repeat' first | with_reducible exact HQ | with_reducible exact HQ _ _ _ | with_reducible exact ih | with_reducible exact ih _ _ _ _ _ _ | with_reducible exact fun h => h | with_reducible refine mo_and ?_ ?_ | with_reducible refine mo_ex (fun _ => ?_) | with_reducible refine mq_12_tell0 ?_ | with_reducible refine mq_12_tries ?_ | with_reducible refine mq_12_spread_b51 ?_ ?_ | with_reducible refine mo_all (fun _ => ?_) | intro _
theorem mq_12_spread {a1 : Int32} {w : Mem} {wl : MemL} {Q Q9 : Int32 → Mem → MemL → Prop} (HQ : ∀ x0 x1 x2, Q x0 x1 x2 → Q9 x0 x1 x2) : wp_12_spread a1 w wl Q → wp_12_spread a1 w wl Q9 := by
  unfold wp_12_spread
  repeat' first | with_reducible exact HQ | with_reducible exact HQ _ _ _ | with_reducible exact fun h => h | with_reducible refine mo_and ?_ ?_ | with_reducible refine mo_ex (fun _ => ?_) | with_reducible refine mq_12_isMan ?_ | with_reducible refine mq_12_spread_b19 ?_ _ _ _ _ _ _ _ | with_reducible refine mo_all (fun _ => ?_) | intro _
theorem mq_12_atGate {a1 : Int32} {a2 : Int32} {a3 : Int32} {w : Mem} {wl : MemL} {Q Q9 : Int32 → Mem → MemL → Prop} (HQ : ∀ x0 x1 x2, Q x0 x1 x2 → Q9 x0 x1 x2) : wp_12_atGate a1 a2 a3 w wl Q → wp_12_atGate a1 a2 a3 w wl Q9 := by
  unfold wp_12_atGate
  repeat' first | with_reducible exact HQ | with_reducible exact HQ _ _ _ | with_reducible exact fun h => h | with_reducible refine mo_and ?_ ?_ | with_reducible refine mo_ex (fun _ => ?_) | with_reducible refine mq_12_isMan ?_ | with_reducible refine mq_12_in ?_ | with_reducible refine mq_12_copies ?_ | with_reducible refine mq_12_setsJump ?_ | with_reducible refine mo_all (fun _ => ?_) | intro _
theorem mq_12_lead_b53 {l1 : Int32} {l2 : Int32} {l3 : Int32} {w : Mem} {wl : MemL} {Q Q9 : Int32 → Mem → MemL → Prop} {L20 L209 : Int32 → Int32 → Int32 → Mem → MemL → Prop} (HQ : ∀ x0 x1 x2, Q x0 x1 x2 → Q9 x0 x1 x2) (HL20 : ∀ x0 x1 x2 x3 x4, L20 x0 x1 x2 x3 x4 → L209 x0 x1 x2 x3 x4) : wp_12_lead_b53 Q L20 l1 l2 l3 w wl → wp_12_lead_b53 Q9 L209 l1 l2 l3 w wl := by
  unfold wp_12_lead_b53
  repeat' first | with_reducible exact HQ | with_reducible exact HQ _ _ _ | with_reducible exact HL20 | with_reducible exact HL20 _ _ _ _ _ | with_reducible exact fun h => h | with_reducible refine mo_and ?_ ?_ | with_reducible refine mo_ex (fun _ => ?_) | with_reducible refine mo_all (fun _ => ?_) | intro _
theorem mq_12_lead_b20  {Q Q9 : Int32 → Mem → MemL → Prop} (HQ : ∀ x0 x1 x2, Q x0 x1 x2 → Q9 x0 x1 x2) : ∀ (y0 : Nat) (y1 : Int32) (y2 : Int32) (y3 : Int32) (y4 : Mem) (y5 : MemL), wp_12_lead_b20 Q y0 y1 y2 y3 y4 y5 → wp_12_lead_b20 Q9 y0 y1 y2 y3 y4 y5 := by
  intro n
  induction n with
  | zero => exact fun _ _ _ _ _ h => h
  | succ n ih =>
    intro y1 y2 y3 y4 y5
    unfold wp_12_lead_b20
    repeat' first | with_reducible exact HQ | with_reducible exact HQ _ _ _ | with_reducible exact ih | with_reducible exact ih _ _ _ _ _ | with_reducible exact fun h => h | with_reducible refine mo_and ?_ ?_ | with_reducible refine mo_ex (fun _ => ?_) | with_reducible refine mq_12_pointsOf ?_ | with_reducible refine mq_12_lead_b53 ?_ ?_ | with_reducible refine mo_all (fun _ => ?_) | intro _
theorem mq_12_lead {a1 : Int32} {w : Mem} {wl : MemL} {Q Q9 : Int32 → Mem → MemL → Prop} (HQ : ∀ x0 x1 x2, Q x0 x1 x2 → Q9 x0 x1 x2) : wp_12_lead a1 w wl Q → wp_12_lead a1 w wl Q9 := by
  unfold wp_12_lead
  repeat' first | with_reducible exact HQ | with_reducible exact HQ _ _ _ | with_reducible exact fun h => h | with_reducible refine mo_and ?_ ?_ | with_reducible refine mo_ex (fun _ => ?_) | with_reducible refine mq_12_isMan ?_ | with_reducible refine mq_12_copies ?_ | with_reducible refine mq_12_lead_b20 ?_ _ _ _ _ _ _ | with_reducible refine mo_all (fun _ => ?_) | intro _
theorem mq_12_gaveInAll_b40 {l1 : Int32} {l2 : Int32} {l3 : Int32} {w : Mem} {wl : MemL} {Q Q9 : Int32 → Mem → MemL → Prop} {L4 L49 : Int32 → Int32 → Int32 → Mem → MemL → Prop} (HQ : ∀ x0 x1 x2, Q x0 x1 x2 → Q9 x0 x1 x2) (HL4 : ∀ x0 x1 x2 x3 x4, L4 x0 x1 x2 x3 x4 → L49 x0 x1 x2 x3 x4) : wp_12_gaveInAll_b40 Q L4 l1 l2 l3 w wl → wp_12_gaveInAll_b40 Q9 L49 l1 l2 l3 w wl := by
  unfold wp_12_gaveInAll_b40
  repeat' first | with_reducible exact HQ | with_reducible exact HQ _ _ _ | with_reducible exact HL4 | with_reducible exact HL4 _ _ _ _ _ | with_reducible exact fun h => h | with_reducible refine mo_and ?_ ?_ | with_reducible refine mo_ex (fun _ => ?_) | with_reducible refine mo_all (fun _ => ?_) | intro _
theorem mq_12_gaveInAll_b4  {Q Q9 : Int32 → Mem → MemL → Prop} (HQ : ∀ x0 x1 x2, Q x0 x1 x2 → Q9 x0 x1 x2) : ∀ (y0 : Nat) (y1 : Int32) (y2 : Int32) (y3 : Int32) (y4 : Mem) (y5 : MemL), wp_12_gaveInAll_b4 Q y0 y1 y2 y3 y4 y5 → wp_12_gaveInAll_b4 Q9 y0 y1 y2 y3 y4 y5 := by
  intro n
  induction n with
  | zero => exact fun _ _ _ _ _ h => h
  | succ n ih =>
    intro y1 y2 y3 y4 y5
    unfold wp_12_gaveInAll_b4
    repeat' first | with_reducible exact HQ | with_reducible exact HQ _ _ _ | with_reducible exact ih | with_reducible exact ih _ _ _ _ _ | with_reducible exact fun h => h | with_reducible refine mo_and ?_ ?_ | with_reducible refine mo_ex (fun _ => ?_) | with_reducible refine mq_12_gaveInAll_b40 ?_ ?_ | with_reducible refine mo_all (fun _ => ?_) | intro _
theorem mq_12_gaveInAll {a1 : Int32} {w : Mem} {wl : MemL} {Q Q9 : Int32 → Mem → MemL → Prop} (HQ : ∀ x0 x1 x2, Q x0 x1 x2 → Q9 x0 x1 x2) : wp_12_gaveInAll a1 w wl Q → wp_12_gaveInAll a1 w wl Q9 := by
  unfold wp_12_gaveInAll
  repeat' first | with_reducible exact HQ | with_reducible exact HQ _ _ _ | with_reducible exact fun h => h | with_reducible refine mo_and ?_ ?_ | with_reducible refine mo_ex (fun _ => ?_) | with_reducible refine mq_12_gaveInAll_b4 ?_ _ _ _ _ _ _ | with_reducible refine mo_all (fun _ => ?_) | intro _
theorem mq_12_harsh_b83 {l1 : Int32} {l2 : Int32} {l3 : Int32} {l4 : Int32} {w : Mem} {wl : MemL} {Q Q9 : Int32 → Mem → MemL → Prop} {L31 L319 : Int32 → Int32 → Int32 → Int32 → Mem → MemL → Prop} (HQ : ∀ x0 x1 x2, Q x0 x1 x2 → Q9 x0 x1 x2) (HL31 : ∀ x0 x1 x2 x3 x4 x5, L31 x0 x1 x2 x3 x4 x5 → L319 x0 x1 x2 x3 x4 x5) : wp_12_harsh_b83 Q L31 l1 l2 l3 l4 w wl → wp_12_harsh_b83 Q9 L319 l1 l2 l3 l4 w wl := by
  unfold wp_12_harsh_b83
  repeat' first | with_reducible exact HQ | with_reducible exact HQ _ _ _ | with_reducible exact HL31 | with_reducible exact HL31 _ _ _ _ _ _ | with_reducible exact fun h => h | with_reducible refine mo_and ?_ ?_ | with_reducible refine mo_ex (fun _ => ?_) | with_reducible refine mo_all (fun _ => ?_) | intro _
theorem mq_12_harsh_b80 {l1 : Int32} {l2 : Int32} {l4 : Int32} {w : Mem} {wl : MemL} {Q Q9 : Int32 → Mem → MemL → Prop} {L31 L319 : Int32 → Int32 → Int32 → Int32 → Mem → MemL → Prop} (HQ : ∀ x0 x1 x2, Q x0 x1 x2 → Q9 x0 x1 x2) (HL31 : ∀ x0 x1 x2 x3 x4 x5, L31 x0 x1 x2 x3 x4 x5 → L319 x0 x1 x2 x3 x4 x5) : wp_12_harsh_b80 Q L31 l1 l2 l4 w wl → wp_12_harsh_b80 Q9 L319 l1 l2 l4 w wl := by
  unfold wp_12_harsh_b80
  repeat' first | with_reducible exact HQ | with_reducible exact HQ _ _ _ | with_reducible exact HL31 | with_reducible exact HL31 _ _ _ _ _ _ | with_reducible exact fun h => h | with_reducible refine mo_and ?_ ?_ | with_reducible refine mo_ex (fun _ => ?_) | with_reducible refine mq_12_harsh_b83 ?_ ?_ | with_reducible refine mo_all (fun _ => ?_) | intro _
theorem mq_12_harsh_b31  {Q Q9 : Int32 → Mem → MemL → Prop} (HQ : ∀ x0 x1 x2, Q x0 x1 x2 → Q9 x0 x1 x2) : ∀ (y0 : Nat) (y1 : Int32) (y2 : Int32) (y3 : Int32) (y4 : Int32) (y5 : Mem) (y6 : MemL), wp_12_harsh_b31 Q y0 y1 y2 y3 y4 y5 y6 → wp_12_harsh_b31 Q9 y0 y1 y2 y3 y4 y5 y6 := by
  intro n
  induction n with
  | zero => exact fun _ _ _ _ _ _ h => h
  | succ n ih =>
    intro y1 y2 y3 y4 y5 y6
    unfold wp_12_harsh_b31
    repeat' first | with_reducible exact HQ | with_reducible exact HQ _ _ _ | with_reducible exact ih | with_reducible exact ih _ _ _ _ _ _ | with_reducible exact fun h => h | with_reducible refine mo_and ?_ ?_ | with_reducible refine mo_ex (fun _ => ?_) | with_reducible refine mq_12_gaveInAll ?_ | with_reducible refine mq_12_harsh_b83 ?_ ?_ | with_reducible refine mq_12_harsh_b80 ?_ ?_ | with_reducible refine mo_all (fun _ => ?_) | intro _
theorem mq_12_harsh {a1 : Int32} {a2 : Int32} {w : Mem} {wl : MemL} {Q Q9 : Int32 → Mem → MemL → Prop} (HQ : ∀ x0 x1 x2, Q x0 x1 x2 → Q9 x0 x1 x2) : wp_12_harsh a1 a2 w wl Q → wp_12_harsh a1 a2 w wl Q9 := by
  unfold wp_12_harsh
  repeat' first | with_reducible exact HQ | with_reducible exact HQ _ _ _ | with_reducible exact fun h => h | with_reducible refine mo_and ?_ ?_ | with_reducible refine mo_ex (fun _ => ?_) | with_reducible refine mq_12_in ?_ | with_reducible refine mq_12_harsh_b31 ?_ _ _ _ _ _ _ _ | with_reducible refine mo_all (fun _ => ?_) | intro _
theorem mq_12_plainly0 {a1 : Int32} {w : Mem} {wl : MemL} {Q Q9 : Int32 → Mem → MemL → Prop} (HQ : ∀ x0 x1 x2, Q x0 x1 x2 → Q9 x0 x1 x2) : wp_12_plainly0 a1 w wl Q → wp_12_plainly0 a1 w wl Q9 := by
  unfold wp_12_plainly0
  repeat' first | with_reducible exact HQ | with_reducible exact HQ _ _ _ | with_reducible exact fun h => h | with_reducible refine mo_and ?_ ?_ | with_reducible refine mo_ex (fun _ => ?_) | with_reducible refine mo_all (fun _ => ?_) | intro _
theorem mq_12_calm_b89 {l1 : Int32} {l2 : Int32} {l3 : Int32} {l4 : Int32} {l5 : Int32} {w : Mem} {wl : MemL} {Q Q9 : Int32 → Mem → MemL → Prop} {L45 L459 : Int32 → Int32 → Int32 → Int32 → Int32 → Mem → MemL → Prop} (HQ : ∀ x0 x1 x2, Q x0 x1 x2 → Q9 x0 x1 x2) (HL45 : ∀ x0 x1 x2 x3 x4 x5 x6, L45 x0 x1 x2 x3 x4 x5 x6 → L459 x0 x1 x2 x3 x4 x5 x6) : wp_12_calm_b89 Q L45 l1 l2 l3 l4 l5 w wl → wp_12_calm_b89 Q9 L459 l1 l2 l3 l4 l5 w wl := by
  unfold wp_12_calm_b89
  repeat' first | with_reducible exact HQ | with_reducible exact HQ _ _ _ | with_reducible exact HL45 | with_reducible exact HL45 _ _ _ _ _ _ _ | with_reducible exact fun h => h | with_reducible refine mo_and ?_ ?_ | with_reducible refine mo_ex (fun _ => ?_) | with_reducible refine mo_all (fun _ => ?_) | intro _
theorem mq_12_calm_b45  {Q Q9 : Int32 → Mem → MemL → Prop} (HQ : ∀ x0 x1 x2, Q x0 x1 x2 → Q9 x0 x1 x2) : ∀ (y0 : Nat) (y1 : Int32) (y2 : Int32) (y3 : Int32) (y4 : Int32) (y5 : Int32) (y6 : Mem) (y7 : MemL), wp_12_calm_b45 Q y0 y1 y2 y3 y4 y5 y6 y7 → wp_12_calm_b45 Q9 y0 y1 y2 y3 y4 y5 y6 y7 := by
  intro n
  induction n with
  | zero => exact fun _ _ _ _ _ _ _ h => h
  | succ n ih =>
    intro y1 y2 y3 y4 y5 y6 y7
    unfold wp_12_calm_b45
    repeat' first | with_reducible exact HQ | with_reducible exact HQ _ _ _ | with_reducible exact ih | with_reducible exact ih _ _ _ _ _ _ _ | with_reducible exact fun h => h | with_reducible refine mo_and ?_ ?_ | with_reducible refine mo_ex (fun _ => ?_) | with_reducible refine mq_12_meanOf ?_ | with_reducible refine mq_12_plainly0 ?_ | with_reducible refine mq_12_calm_b89 ?_ ?_ | with_reducible refine mo_all (fun _ => ?_) | intro _
theorem mq_12_calm {a1 : Int32} {a2 : Int32} {w : Mem} {wl : MemL} {Q Q9 : Int32 → Mem → MemL → Prop} (HQ : ∀ x0 x1 x2, Q x0 x1 x2 → Q9 x0 x1 x2) : wp_12_calm a1 a2 w wl Q → wp_12_calm a1 a2 w wl Q9 := by
  unfold wp_12_calm
  repeat' first | with_reducible exact HQ | with_reducible exact HQ _ _ _ | with_reducible exact fun h => h | with_reducible refine mo_and ?_ ?_ | with_reducible refine mo_ex (fun _ => ?_) | with_reducible refine mq_12_in ?_ | with_reducible refine mq_12_copies ?_ | with_reducible refine mq_12_meanOf ?_ | with_reducible refine mq_12_calm_b45 ?_ _ _ _ _ _ _ _ _ | with_reducible refine mo_all (fun _ => ?_) | intro _
theorem mq_12_windiest_b49 {l1 : Int32} {l2 : Int32} {l3 : Int32} {w : Mem} {wl : MemL} {Q Q9 : Int32 → Mem → MemL → Prop} {L21 L219 : Int32 → Int32 → Int32 → Mem → MemL → Prop} (HQ : ∀ x0 x1 x2, Q x0 x1 x2 → Q9 x0 x1 x2) (HL21 : ∀ x0 x1 x2 x3 x4, L21 x0 x1 x2 x3 x4 → L219 x0 x1 x2 x3 x4) : wp_12_windiest_b49 Q L21 l1 l2 l3 w wl → wp_12_windiest_b49 Q9 L219 l1 l2 l3 w wl := by
  unfold wp_12_windiest_b49
  repeat' first | with_reducible exact HQ | with_reducible exact HQ _ _ _ | with_reducible exact HL21 | with_reducible exact HL21 _ _ _ _ _ | with_reducible exact fun h => h | with_reducible refine mo_and ?_ ?_ | with_reducible refine mo_ex (fun _ => ?_) | with_reducible refine mo_all (fun _ => ?_) | intro _
theorem mq_12_windiest_b21  {Q Q9 : Int32 → Mem → MemL → Prop} (HQ : ∀ x0 x1 x2, Q x0 x1 x2 → Q9 x0 x1 x2) : ∀ (y0 : Nat) (y1 : Int32) (y2 : Int32) (y3 : Int32) (y4 : Mem) (y5 : MemL), wp_12_windiest_b21 Q y0 y1 y2 y3 y4 y5 → wp_12_windiest_b21 Q9 y0 y1 y2 y3 y4 y5 := by
  intro n
  induction n with
  | zero => exact fun _ _ _ _ _ h => h
  | succ n ih =>
    intro y1 y2 y3 y4 y5
    unfold wp_12_windiest_b21
    repeat' first | with_reducible exact HQ | with_reducible exact HQ _ _ _ | with_reducible exact ih | with_reducible exact ih _ _ _ _ _ | with_reducible exact fun h => h | with_reducible refine mo_and ?_ ?_ | with_reducible refine mo_ex (fun _ => ?_) | with_reducible refine mq_12_windOf ?_ | with_reducible refine mq_12_plainly0 ?_ | with_reducible refine mq_12_windiest_b49 ?_ ?_ | with_reducible refine mo_all (fun _ => ?_) | intro _
theorem mq_12_windiest {a1 : Int32} {w : Mem} {wl : MemL} {Q Q9 : Int32 → Mem → MemL → Prop} (HQ : ∀ x0 x1 x2, Q x0 x1 x2 → Q9 x0 x1 x2) : wp_12_windiest a1 w wl Q → wp_12_windiest a1 w wl Q9 := by
  unfold wp_12_windiest
  repeat' first | with_reducible exact HQ | with_reducible exact HQ _ _ _ | with_reducible exact fun h => h | with_reducible refine mo_and ?_ ?_ | with_reducible refine mo_ex (fun _ => ?_) | with_reducible refine mq_12_in ?_ | with_reducible refine mq_12_copies ?_ | with_reducible refine mq_12_windiest_b21 ?_ _ _ _ _ _ _ | with_reducible refine mo_all (fun _ => ?_) | intro _
theorem mq_12_progress_b48 {w : Mem} {wl : MemL} {Q Q9 : Int32 → Mem → MemL → Prop} (HQ : ∀ x0 x1 x2, Q x0 x1 x2 → Q9 x0 x1 x2) : wp_12_progress_b48 Q w wl → wp_12_progress_b48 Q9 w wl := by
  unfold wp_12_progress_b48
  repeat' first | with_reducible exact HQ | with_reducible exact HQ _ _ _ | with_reducible exact fun h => h | with_reducible refine mo_and ?_ ?_ | with_reducible refine mo_ex (fun _ => ?_) | with_reducible refine mo_all (fun _ => ?_) | intro _
theorem mq_12_progress {a1 : Int32} {w : Mem} {wl : MemL} {Q Q9 : Int32 → Mem → MemL → Prop} (HQ : ∀ x0 x1 x2, Q x0 x1 x2 → Q9 x0 x1 x2) : wp_12_progress a1 w wl Q → wp_12_progress a1 w wl Q9 := by
  unfold wp_12_progress
  repeat' first | with_reducible exact HQ | with_reducible exact HQ _ _ _ | with_reducible exact fun h => h | with_reducible refine mo_and ?_ ?_ | with_reducible refine mo_ex (fun _ => ?_) | with_reducible refine mq_12_hasJump ?_ | with_reducible refine mq_12_progress_b48 ?_ | with_reducible refine mq_12_cell ?_ | with_reducible refine mo_all (fun _ => ?_) | intro _
theorem mq_12_himself_b173 {l1 : Int32} {l2 : Int32} {l3 : Int32} {l4 : Int32} {l5 : Int32} {l6 : Int32} {w : Mem} {wl : MemL} {Q Q9 : Int32 → Mem → MemL → Prop} {L30 L309 : Int32 → Int32 → Int32 → Int32 → Int32 → Mem → MemL → Prop} {L47 L479 : Int32 → Int32 → Int32 → Int32 → Int32 → Int32 → Mem → MemL → Prop} (HQ : ∀ x0 x1 x2, Q x0 x1 x2 → Q9 x0 x1 x2) (HL30 : ∀ x0 x1 x2 x3 x4 x5 x6, L30 x0 x1 x2 x3 x4 x5 x6 → L309 x0 x1 x2 x3 x4 x5 x6) (HL47 : ∀ x0 x1 x2 x3 x4 x5 x6 x7, L47 x0 x1 x2 x3 x4 x5 x6 x7 → L479 x0 x1 x2 x3 x4 x5 x6 x7) : wp_12_himself_b173 Q L30 L47 l1 l2 l3 l4 l5 l6 w wl → wp_12_himself_b173 Q9 L309 L479 l1 l2 l3 l4 l5 l6 w wl := by
  unfold wp_12_himself_b173
  repeat' first | with_reducible exact HQ | with_reducible exact HQ _ _ _ | with_reducible exact HL30 | with_reducible exact HL30 _ _ _ _ _ _ _ | with_reducible exact HL47 | with_reducible exact HL47 _ _ _ _ _ _ _ _ | with_reducible exact fun h => h | with_reducible refine mo_and ?_ ?_ | with_reducible refine mo_ex (fun _ => ?_) | with_reducible refine mo_all (fun _ => ?_) | intro _
theorem mq_12_himself_b161 {l1 : Int32} {l5 : Int32} {l6 : Int32} {l7 : Int32} {w : Mem} {wl : MemL} {Q Q9 : Int32 → Mem → MemL → Prop} {L30 L309 : Int32 → Int32 → Int32 → Int32 → Int32 → Mem → MemL → Prop} {L47 L479 : Int32 → Int32 → Int32 → Int32 → Int32 → Int32 → Mem → MemL → Prop} (HQ : ∀ x0 x1 x2, Q x0 x1 x2 → Q9 x0 x1 x2) (HL30 : ∀ x0 x1 x2 x3 x4 x5 x6, L30 x0 x1 x2 x3 x4 x5 x6 → L309 x0 x1 x2 x3 x4 x5 x6) (HL47 : ∀ x0 x1 x2 x3 x4 x5 x6 x7, L47 x0 x1 x2 x3 x4 x5 x6 x7 → L479 x0 x1 x2 x3 x4 x5 x6 x7) : wp_12_himself_b161 Q L30 L47 l1 l5 l6 l7 w wl → wp_12_himself_b161 Q9 L309 L479 l1 l5 l6 l7 w wl := by
  unfold wp_12_himself_b161
  repeat' first | with_reducible exact HQ | with_reducible exact HQ _ _ _ | with_reducible exact HL30 | with_reducible exact HL30 _ _ _ _ _ _ _ | with_reducible exact HL47 | with_reducible exact HL47 _ _ _ _ _ _ _ _ | with_reducible exact fun h => h | with_reducible refine mo_and ?_ ?_ | with_reducible refine mo_ex (fun _ => ?_) | with_reducible refine mq_12_himself_b173 ?_ ?_ ?_ | with_reducible refine mo_all (fun _ => ?_) | intro _
theorem mq_12_himself_b47  {Q Q9 : Int32 → Mem → MemL → Prop} {L30 L309 : Int32 → Int32 → Int32 → Int32 → Int32 → Mem → MemL → Prop} (HQ : ∀ x0 x1 x2, Q x0 x1 x2 → Q9 x0 x1 x2) (HL30 : ∀ x0 x1 x2 x3 x4 x5 x6, L30 x0 x1 x2 x3 x4 x5 x6 → L309 x0 x1 x2 x3 x4 x5 x6) : ∀ (y0 : Nat) (y1 : Int32) (y2 : Int32) (y3 : Int32) (y4 : Int32) (y5 : Int32) (y6 : Int32) (y7 : Mem) (y8 : MemL), wp_12_himself_b47 Q L30 y0 y1 y2 y3 y4 y5 y6 y7 y8 → wp_12_himself_b47 Q9 L309 y0 y1 y2 y3 y4 y5 y6 y7 y8 := by
  intro n
  induction n with
  | zero => exact fun _ _ _ _ _ _ _ _ h => h
  | succ n ih =>
    intro y1 y2 y3 y4 y5 y6 y7 y8
    unfold wp_12_himself_b47
    repeat' first | with_reducible exact HQ | with_reducible exact HQ _ _ _ | with_reducible exact HL30 | with_reducible exact HL30 _ _ _ _ _ _ _ | with_reducible exact ih | with_reducible exact ih _ _ _ _ _ _ _ _ | with_reducible exact fun h => h | with_reducible refine mo_and ?_ ?_ | with_reducible refine mo_ex (fun _ => ?_) | with_reducible refine mq_12_cell ?_ | with_reducible refine mq_12_setsJump ?_ | with_reducible refine mq_12_himself_b161 ?_ ?_ ?_ | with_reducible refine mq_12_himself_b173 ?_ ?_ ?_ | with_reducible refine mo_all (fun _ => ?_) | intro _
theorem mq_12_himself_b30  {Q Q9 : Int32 → Mem → MemL → Prop} (HQ : ∀ x0 x1 x2, Q x0 x1 x2 → Q9 x0 x1 x2) : ∀ (y0 : Nat) (y1 : Int32) (y2 : Int32) (y3 : Int32) (y4 : Int32) (y5 : Int32) (y6 : Mem) (y7 : MemL), wp_12_himself_b30 Q y0 y1 y2 y3 y4 y5 y6 y7 → wp_12_himself_b30 Q9 y0 y1 y2 y3 y4 y5 y6 y7 := by
  intro n
  induction n with
  | zero => exact fun _ _ _ _ _ _ _ h => h
  | succ n ih =>
    intro y1 y2 y3 y4 y5 y6 y7
    unfold wp_12_himself_b30
    repeat' first | with_reducible exact HQ | with_reducible exact HQ _ _ _ | with_reducible exact ih | with_reducible exact ih _ _ _ _ _ _ _ | with_reducible exact fun h => h | with_reducible refine mo_and ?_ ?_ | with_reducible refine mo_ex (fun _ => ?_) | with_reducible refine mq_12_himself_b47 ?_ ?_ _ _ _ _ _ _ _ _ _ | with_reducible refine mo_all (fun _ => ?_) | intro _
theorem mq_12_himself {a1 : Int32} {w : Mem} {wl : MemL} {Q Q9 : Int32 → Mem → MemL → Prop} (HQ : ∀ x0 x1 x2, Q x0 x1 x2 → Q9 x0 x1 x2) : wp_12_himself a1 w wl Q → wp_12_himself a1 w wl Q9 := by
  unfold wp_12_himself
  repeat' first | with_reducible exact HQ | with_reducible exact HQ _ _ _ | with_reducible exact fun h => h | with_reducible refine mo_and ?_ ?_ | with_reducible refine mo_ex (fun _ => ?_) | with_reducible refine mq_12_in ?_ | with_reducible refine mq_12_copies ?_ | with_reducible refine mq_12_himself_b30 ?_ _ _ _ _ _ _ _ _ | with_reducible refine mo_all (fun _ => ?_) | intro _
theorem mq_12_tell {a1 : Int32} {a2 : Int32} {a3 : Int32} {w : Mem} {wl : MemL} {Q Q9 : Int32 → Mem → MemL → Prop} (HQ : ∀ x0 x1 x2, Q x0 x1 x2 → Q9 x0 x1 x2) : wp_12_tell a1 a2 a3 w wl Q → wp_12_tell a1 a2 a3 w wl Q9 := by
  unfold wp_12_tell
  repeat' first | with_reducible exact HQ | with_reducible exact HQ _ _ _ | with_reducible exact fun h => h | with_reducible refine mo_and ?_ ?_ | with_reducible refine mo_ex (fun _ => ?_) | with_reducible refine mq_12_isMan ?_ | with_reducible refine mq_12_in ?_ | with_reducible refine mo_all (fun _ => ?_) | intro _
theorem mq_12_forget {w : Mem} {wl : MemL} {Q Q9 : Int32 → Mem → MemL → Prop} (HQ : ∀ x0 x1 x2, Q x0 x1 x2 → Q9 x0 x1 x2) : wp_12_forget w wl Q → wp_12_forget w wl Q9 := by
  unfold wp_12_forget
  repeat' first | with_reducible exact HQ | with_reducible exact HQ _ _ _ | with_reducible exact fun h => h | with_reducible refine mo_and ?_ ?_ | with_reducible refine mo_ex (fun _ => ?_) | with_reducible refine mo_all (fun _ => ?_) | intro _
theorem mq_12_isSo_b59 {l1 : Int32} {l2 : Int32} {l3 : Int32} {l4 : Int32} {w : Mem} {wl : MemL} {Q Q9 : Int32 → Mem → MemL → Prop} {L3 L39 : Int32 → Int32 → Int32 → Int32 → Mem → MemL → Prop} (HQ : ∀ x0 x1 x2, Q x0 x1 x2 → Q9 x0 x1 x2) (HL3 : ∀ x0 x1 x2 x3 x4 x5, L3 x0 x1 x2 x3 x4 x5 → L39 x0 x1 x2 x3 x4 x5) : wp_12_isSo_b59 Q L3 l1 l2 l3 l4 w wl → wp_12_isSo_b59 Q9 L39 l1 l2 l3 l4 w wl := by
  unfold wp_12_isSo_b59
  repeat' first | with_reducible exact HQ | with_reducible exact HQ _ _ _ | with_reducible exact HL3 | with_reducible exact HL3 _ _ _ _ _ _ | with_reducible exact fun h => h | with_reducible refine mo_and ?_ ?_ | with_reducible refine mo_ex (fun _ => ?_) | with_reducible refine mo_all (fun _ => ?_) | intro _
theorem mq_12_isSo_b3  {Q Q9 : Int32 → Mem → MemL → Prop} (HQ : ∀ x0 x1 x2, Q x0 x1 x2 → Q9 x0 x1 x2) : ∀ (y0 : Nat) (y1 : Int32) (y2 : Int32) (y3 : Int32) (y4 : Int32) (y5 : Mem) (y6 : MemL), wp_12_isSo_b3 Q y0 y1 y2 y3 y4 y5 y6 → wp_12_isSo_b3 Q9 y0 y1 y2 y3 y4 y5 y6 := by
  intro n
  induction n with
  | zero => exact fun _ _ _ _ _ _ h => h
  | succ n ih =>
    intro y1 y2 y3 y4 y5 y6
    unfold wp_12_isSo_b3
    repeat' first | with_reducible exact HQ | with_reducible exact HQ _ _ _ | with_reducible exact ih | with_reducible exact ih _ _ _ _ _ _ | with_reducible exact fun h => h | with_reducible refine mo_and ?_ ?_ | with_reducible refine mo_ex (fun _ => ?_) | with_reducible refine mq_12_tell0 ?_ | with_reducible refine mq_12_setsJump ?_ | with_reducible refine mq_12_isSo_b59 ?_ ?_ | with_reducible refine mo_all (fun _ => ?_) | intro _
theorem mq_12_isSo {a1 : Int32} {a2 : Int32} {a3 : Int32} {w : Mem} {wl : MemL} {Q Q9 : Int32 → Mem → MemL → Prop} (HQ : ∀ x0 x1 x2, Q x0 x1 x2 → Q9 x0 x1 x2) : wp_12_isSo a1 a2 a3 w wl Q → wp_12_isSo a1 a2 a3 w wl Q9 := by
  unfold wp_12_isSo
  repeat' first | with_reducible exact HQ | with_reducible exact HQ _ _ _ | with_reducible exact fun h => h | with_reducible refine mo_and ?_ ?_ | with_reducible refine mo_ex (fun _ => ?_) | with_reducible refine mq_12_isSo_b3 ?_ _ _ _ _ _ _ _ | with_reducible refine mo_all (fun _ => ?_) | intro _
theorem mq_12_slips_b73 {l1 : Int32} {l2 : Int32} {l3 : Int32} {l4 : Int32} {l5 : Int32} {w : Mem} {wl : MemL} {Q Q9 : Int32 → Mem → MemL → Prop} {L37 L379 : Int32 → Int32 → Int32 → Int32 → Int32 → Mem → MemL → Prop} (HQ : ∀ x0 x1 x2, Q x0 x1 x2 → Q9 x0 x1 x2) (HL37 : ∀ x0 x1 x2 x3 x4 x5 x6, L37 x0 x1 x2 x3 x4 x5 x6 → L379 x0 x1 x2 x3 x4 x5 x6) : wp_12_slips_b73 Q L37 l1 l2 l3 l4 l5 w wl → wp_12_slips_b73 Q9 L379 l1 l2 l3 l4 l5 w wl := by
  unfold wp_12_slips_b73
  repeat' first | with_reducible exact HQ | with_reducible exact HQ _ _ _ | with_reducible exact HL37 | with_reducible exact HL37 _ _ _ _ _ _ _ | with_reducible exact fun h => h | with_reducible refine mo_and ?_ ?_ | with_reducible refine mo_ex (fun _ => ?_) | with_reducible refine mo_all (fun _ => ?_) | intro _
theorem mq_12_slips_b37  {Q Q9 : Int32 → Mem → MemL → Prop} (HQ : ∀ x0 x1 x2, Q x0 x1 x2 → Q9 x0 x1 x2) : ∀ (y0 : Nat) (y1 : Int32) (y2 : Int32) (y3 : Int32) (y4 : Int32) (y5 : Int32) (y6 : Mem) (y7 : MemL), wp_12_slips_b37 Q y0 y1 y2 y3 y4 y5 y6 y7 → wp_12_slips_b37 Q9 y0 y1 y2 y3 y4 y5 y6 y7 := by
  intro n
  induction n with
  | zero => exact fun _ _ _ _ _ _ _ h => h
  | succ n ih =>
    intro y1 y2 y3 y4 y5 y6 y7
    unfold wp_12_slips_b37
    repeat' first | with_reducible exact HQ | with_reducible exact HQ _ _ _ | with_reducible exact ih | with_reducible exact ih _ _ _ _ _ _ _ | with_reducible exact fun h => h | with_reducible refine mo_and ?_ ?_ | with_reducible refine mo_ex (fun _ => ?_) | with_reducible refine mq_12_isSo ?_ | with_reducible refine mq_12_slips_b73 ?_ ?_ | with_reducible refine mo_all (fun _ => ?_) | intro _
theorem mq_12_slips {a1 : Int32} {a2 : Int32} {a3 : Int32} {w : Mem} {wl : MemL} {Q Q9 : Int32 → Mem → MemL → Prop} (HQ : ∀ x0 x1 x2, Q x0 x1 x2 → Q9 x0 x1 x2) : wp_12_slips a1 a2 a3 w wl Q → wp_12_slips a1 a2 a3 w wl Q9 := by
  unfold wp_12_slips
  repeat' first | with_reducible exact HQ | with_reducible exact HQ _ _ _ | with_reducible exact fun h => h | with_reducible refine mo_and ?_ ?_ | with_reducible refine mo_ex (fun _ => ?_) | with_reducible refine mq_12_isMan ?_ | with_reducible refine mq_12_in ?_ | with_reducible refine mq_12_plainly ?_ | with_reducible refine mq_12_slips_b37 ?_ _ _ _ _ _ _ _ _ | with_reducible refine mo_all (fun _ => ?_) | intro _
theorem mq_12_hold_b20  {Q Q9 : Int32 → Mem → MemL → Prop} (HQ : ∀ x0 x1 x2, Q x0 x1 x2 → Q9 x0 x1 x2) : ∀ (y0 : Nat) (y1 : Int32) (y2 : Int32) (y3 : Mem) (y4 : MemL), wp_12_hold_b20 Q y0 y1 y2 y3 y4 → wp_12_hold_b20 Q9 y0 y1 y2 y3 y4 := by
  intro n
  induction n with
  | zero => exact fun _ _ _ _ h => h
  | succ n ih =>
    intro y1 y2 y3 y4
    unfold wp_12_hold_b20
    repeat' first | with_reducible exact HQ | with_reducible exact HQ _ _ _ | with_reducible exact ih | with_reducible exact ih _ _ _ _ | with_reducible exact fun h => h | with_reducible refine mo_and ?_ ?_ | with_reducible refine mo_ex (fun _ => ?_) | with_reducible refine mo_all (fun _ => ?_) | intro _
theorem mq_12_hold {a1 : Int32} {w : Mem} {wl : MemL} {Q Q9 : Int32 → Mem → MemL → Prop} (HQ : ∀ x0 x1 x2, Q x0 x1 x2 → Q9 x0 x1 x2) : wp_12_hold a1 w wl Q → wp_12_hold a1 w wl Q9 := by
  unfold wp_12_hold
  repeat' first | with_reducible exact HQ | with_reducible exact HQ _ _ _ | with_reducible exact fun h => h | with_reducible refine mo_and ?_ ?_ | with_reducible refine mo_ex (fun _ => ?_) | with_reducible refine mq_12_in ?_ | with_reducible refine mq_12_hold_b20 ?_ _ _ _ _ _ | with_reducible refine mo_all (fun _ => ?_) | intro _
theorem mq_12_restore_b22  {Q Q9 : Int32 → Mem → MemL → Prop} (HQ : ∀ x0 x1 x2, Q x0 x1 x2 → Q9 x0 x1 x2) : ∀ (y0 : Nat) (y1 : Int32) (y2 : Int32) (y3 : Mem) (y4 : MemL), wp_12_restore_b22 Q y0 y1 y2 y3 y4 → wp_12_restore_b22 Q9 y0 y1 y2 y3 y4 := by
  intro n
  induction n with
  | zero => exact fun _ _ _ _ h => h
  | succ n ih =>
    intro y1 y2 y3 y4
    unfold wp_12_restore_b22
    repeat' first | with_reducible exact HQ | with_reducible exact HQ _ _ _ | with_reducible exact ih | with_reducible exact ih _ _ _ _ | with_reducible exact fun h => h | with_reducible refine mo_and ?_ ?_ | with_reducible refine mo_ex (fun _ => ?_) | with_reducible refine mo_all (fun _ => ?_) | intro _
theorem mq_12_restore {a1 : Int32} {w : Mem} {wl : MemL} {Q Q9 : Int32 → Mem → MemL → Prop} (HQ : ∀ x0 x1 x2, Q x0 x1 x2 → Q9 x0 x1 x2) : wp_12_restore a1 w wl Q → wp_12_restore a1 w wl Q9 := by
  unfold wp_12_restore
  repeat' first | with_reducible exact HQ | with_reducible exact HQ _ _ _ | with_reducible exact fun h => h | with_reducible refine mo_and ?_ ?_ | with_reducible refine mo_ex (fun _ => ?_) | with_reducible refine mq_12_in ?_ | with_reducible refine mq_12_restore_b22 ?_ _ _ _ _ _ | with_reducible refine mo_all (fun _ => ?_) | intro _
theorem mq_12_count_b265 {l2 : Int32} {l3 : Int32} {w : Mem} {wl : MemL} {Q Q9 : Int32 → Mem → MemL → Prop} {L224 L2249 : Int32 → Int32 → Mem → MemL → Prop} (HQ : ∀ x0 x1 x2, Q x0 x1 x2 → Q9 x0 x1 x2) (HL224 : ∀ x0 x1 x2 x3, L224 x0 x1 x2 x3 → L2249 x0 x1 x2 x3) : wp_12_count_b265 Q L224 l2 l3 w wl → wp_12_count_b265 Q9 L2249 l2 l3 w wl := by
  unfold wp_12_count_b265
  repeat' first | with_reducible exact HQ | with_reducible exact HQ _ _ _ | with_reducible exact HL224 | with_reducible exact HL224 _ _ _ _ | with_reducible exact fun h => h | with_reducible refine mo_and ?_ ?_ | with_reducible refine mo_ex (fun _ => ?_) | with_reducible refine mo_all (fun _ => ?_) | intro _
theorem mq_12_count_b224  {Q Q9 : Int32 → Mem → MemL → Prop} (HQ : ∀ x0 x1 x2, Q x0 x1 x2 → Q9 x0 x1 x2) : ∀ (y0 : Nat) (y1 : Int32) (y2 : Int32) (y3 : Mem) (y4 : MemL), wp_12_count_b224 Q y0 y1 y2 y3 y4 → wp_12_count_b224 Q9 y0 y1 y2 y3 y4 := by
  intro n
  induction n with
  | zero => exact fun _ _ _ _ h => h
  | succ n ih =>
    intro y1 y2 y3 y4
    unfold wp_12_count_b224
    repeat' first | with_reducible exact HQ | with_reducible exact HQ _ _ _ | with_reducible exact ih | with_reducible exact ih _ _ _ _ | with_reducible exact fun h => h | with_reducible refine mo_and ?_ ?_ | with_reducible refine mo_ex (fun _ => ?_) | with_reducible refine mq_12_count_b265 ?_ ?_ | with_reducible refine mo_all (fun _ => ?_) | intro _
theorem mq_12_count_b203 {s0 : Int32} {s1 : Int32} {w : Mem} {wl : MemL} {Q Q9 : Int32 → Mem → MemL → Prop} (HQ : ∀ x0 x1 x2, Q x0 x1 x2 → Q9 x0 x1 x2) : wp_12_count_b203 Q s0 s1 w wl → wp_12_count_b203 Q9 s0 s1 w wl := by
  unfold wp_12_count_b203
  repeat' first | with_reducible exact HQ | with_reducible exact HQ _ _ _ | with_reducible exact fun h => h | with_reducible refine mo_and ?_ ?_ | with_reducible refine mo_ex (fun _ => ?_) | with_reducible refine mo_all (fun _ => ?_) | intro _
theorem mq_12_count_b189 {s0 : Int32} {w : Mem} {wl : MemL} {Q Q9 : Int32 → Mem → MemL → Prop} (HQ : ∀ x0 x1 x2, Q x0 x1 x2 → Q9 x0 x1 x2) : wp_12_count_b189 Q s0 w wl → wp_12_count_b189 Q9 s0 w wl := by
  unfold wp_12_count_b189
  repeat' first | with_reducible exact HQ | with_reducible exact HQ _ _ _ | with_reducible exact fun h => h | with_reducible refine mo_and ?_ ?_ | with_reducible refine mo_ex (fun _ => ?_) | with_reducible refine mq_12_count_b203 ?_ | with_reducible refine mo_all (fun _ => ?_) | intro _
theorem mq_12_count_b152 {l2 : Int32} {l3 : Int32} {w : Mem} {wl : MemL} {Q Q9 : Int32 → Mem → MemL → Prop} {L114 L1149 : Int32 → Int32 → Mem → MemL → Prop} (HQ : ∀ x0 x1 x2, Q x0 x1 x2 → Q9 x0 x1 x2) (HL114 : ∀ x0 x1 x2 x3, L114 x0 x1 x2 x3 → L1149 x0 x1 x2 x3) : wp_12_count_b152 Q L114 l2 l3 w wl → wp_12_count_b152 Q9 L1149 l2 l3 w wl := by
  unfold wp_12_count_b152
  repeat' first | with_reducible exact HQ | with_reducible exact HQ _ _ _ | with_reducible exact HL114 | with_reducible exact HL114 _ _ _ _ | with_reducible exact fun h => h | with_reducible refine mo_and ?_ ?_ | with_reducible refine mo_ex (fun _ => ?_) | with_reducible refine mo_all (fun _ => ?_) | intro _
theorem mq_12_count_b114  {Q Q9 : Int32 → Mem → MemL → Prop} (HQ : ∀ x0 x1 x2, Q x0 x1 x2 → Q9 x0 x1 x2) : ∀ (y0 : Nat) (y1 : Int32) (y2 : Int32) (y3 : Mem) (y4 : MemL), wp_12_count_b114 Q y0 y1 y2 y3 y4 → wp_12_count_b114 Q9 y0 y1 y2 y3 y4 := by
  intro n
  induction n with
  | zero => exact fun _ _ _ _ h => h
  | succ n ih =>
    intro y1 y2 y3 y4
    unfold wp_12_count_b114
    repeat' first | with_reducible exact HQ | with_reducible exact HQ _ _ _ | with_reducible exact ih | with_reducible exact ih _ _ _ _ | with_reducible exact fun h => h | with_reducible refine mo_and ?_ ?_ | with_reducible refine mo_ex (fun _ => ?_) | with_reducible refine mq_12_count_b152 ?_ ?_ | with_reducible refine mq_12_tell0 ?_ | with_reducible refine mo_all (fun _ => ?_) | intro _
theorem mq_12_count {a1 : Int32} {w : Mem} {wl : MemL} {Q Q9 : Int32 → Mem → MemL → Prop} (HQ : ∀ x0 x1 x2, Q x0 x1 x2 → Q9 x0 x1 x2) : wp_12_count a1 w wl Q → wp_12_count a1 w wl Q9 := by
  unfold wp_12_count
  repeat' first | with_reducible exact HQ | with_reducible exact HQ _ _ _ | with_reducible exact fun h => h | with_reducible refine mo_and ?_ ?_ | with_reducible refine mo_ex (fun _ => ?_) | with_reducible refine mq_12_tell0 ?_ | with_reducible refine mq_12_count_b114 ?_ _ _ _ _ _ | with_reducible refine mq_12_count_b189 ?_ | with_reducible refine mq_12_count_b224 ?_ _ _ _ _ _ | with_reducible refine mo_all (fun _ => ?_) | intro _
