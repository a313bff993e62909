set_option maxHeartbeats 4000000 in
set_option maxRecDepth 100000 in
theorem Bg_101_0 {x0 : Nat} {x1 : Int32} {nr : Nat} {h : XH} {Q : Value → XH → Prop} (hs : Sh h) (rx0 : Ar h x0 nr) (k : (((Int32.ofNat nr) < x1) → Ev 101 12 [.null, .int x1, .int 1, .int 0] [] h Q) ∧ (¬ ((Int32.ofNat nr) < x1) → Q (.ref x0) h)) : Ev 101 0 (x_ini 101 [.ref x0, .int x1]) [] h Q := by
  rw [show x_ini 101 [.ref x0, .int x1] = [.ref x0, .int x1, .null, .null] from x_inid ml_101 rfl]
  refine e_al o_101_0 rfl ?_
  refine e_len (n := nr) o_101_1 (by rw [show _ = _ from (rx0).1]; decide) ((rx0).2.1) ?_
  refine e_il o_101_2 rfl ?_
  refine e_if_2 o_101_3 (fun z => ?_) (fun z => ?_)
  · have k := k.1 z
    refine e_c 1 o_101_8 rfl ?_
    refine e_is (ls' := [.ref x0, .int x1, .int 1, .null]) o_101_9 (Nat.le_of_ble_eq_true rfl) rfl ?_
    refine e_c 0 o_101_10 rfl ?_
    refine e_is (ls' := [.ref x0, .int x1, .int 1, .int 0]) o_101_11 (Nat.le_of_ble_eq_true rfl) rfl ?_
    exact Ev.less (ls := [.null, .int x1, .int 1, .int 0]) ⟨Or.inl rfl, Or.inr rfl, Or.inr rfl, Or.inr rfl, trivial⟩ k
  · have k := k.2 z
    refine e_al o_101_6 rfl ?_
    exact e_retR o_101_7 k
set_option maxHeartbeats 4000000 in
set_option maxRecDepth 100000 in
theorem Bg_101_12 {x1 : Int32} {x2 : Int32} {x3 : Int32} {nr : Nat} {h : XH} {Q : Value → XH → Prop} (hs : Sh h) (k : ((20 ≤ x3) → ¬ (x2 < 0 ∨ 60000000 < (x2).toNatClampNeg) ∧ (Q (.ref (xT h)) (xnew h 1 (tn x2)))) ∧ (¬ (20 ≤ x3) → ((x1 ≤ x2) → ¬ (x2 < 0 ∨ 60000000 < (x2).toNatClampNeg) ∧ (Q (.ref (xT h)) (xnew h 1 (tn x2)))) ∧ (¬ (x1 ≤ x2) → Ev 101 12 [.null, .int x1, .int (x2 * 2), .int (x3 + 1)] [] h Q))) : Ev 101 12 [.null, .int x1, .int x2, .int x3] [] h Q := by
  refine e_il o_101_12 rfl ?_
  refine e_c 20 o_101_13 rfl ?_
  refine e_if_3 o_101_15 (fun z => ?_) (fun z => ?_)
  · have k := k.1 z
    refine e_il o_101_33 rfl ?_
    obtain ⟨q, k⟩ := k
    refine e_na o_101_34 q ?_
    exact e_retR o_101_36 k
  · have k := k.2 z
    refine e_il o_101_18 rfl ?_
    refine e_il o_101_19 rfl ?_
    refine e_if_3 o_101_20 (fun z => ?_) (fun z => ?_)
    · have k := k.1 z
      refine e_il o_101_33 rfl ?_
      obtain ⟨q, k⟩ := k
      refine e_na o_101_34 q ?_
      exact e_retR o_101_36 k
    · have k := k.2 z
      refine e_il o_101_23 rfl ?_
      refine e_c 2 o_101_24 rfl ?_
      refine e_bin o_101_25 rfl ?_
      refine e_is (ls' := [.null, .int x1, .int (x2 * 2), .int x3]) o_101_26 (Nat.le_of_ble_eq_true rfl) rfl ?_
      refine e_inc (ls' := [.null, .int x1, .int (x2 * 2), .int (x3 + 1)]) o_101_27 rfl rfl rfl ?_
      refine e_go o_101_30 ?_
      exact Ev.less (ls := [.null, .int x1, .int (x2 * 2), .int (x3 + 1)]) ⟨Or.inl rfl, Or.inr rfl, Or.inr rfl, Or.inr rfl, trivial⟩ k
