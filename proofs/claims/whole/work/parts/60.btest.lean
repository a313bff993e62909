set_option maxHeartbeats 4000000 in
theorem B_10_0 {x1 : Int32} {x2 : Int32} {x3 : Int32} {x4 : Int32} {x5 : Int32} {h : XH} {Q : Value → XH → Prop} (hs : Sh h) (k : ((((xI h 4 1) + 20) ≤ 2000) → ClV 11 [.ref 4, .int x1] h (fun h1 => Sh h1 ∧ (ClV 11 [.ref 4, .int x2] h1 (fun h3 => Sh h3 ∧ (ClV 11 [.ref 4, .int x3] h3 (fun h5 => Sh h5 ∧ (ClV 11 [.ref 4, .int x4] h5 (fun h7 => Sh h7 ∧ (ClV 11 [.ref 4, .int x5] h7 (fun h9 => Sh h9 ∧ (Q (.int (xI h9 4 1)) h9))))))))))) ∧ (¬ (((xI h 4 1) + 20) ≤ 2000) → Q (.int (-1)) h)) : Ev 10 0 (x_ini 10 [.ref 4, .int x1, .int x2, .int x3, .int x4, .int x5]) [] h Q := by
  rw [show x_ini 10 [.ref 4, .int x1, .int x2, .int x3, .int x4, .int x5] = [.ref 4, .int x1, .int x2, .int x3, .int x4, .int x5] from x_inid ml_10 rfl]
  refine e_al o_10_0 rfl ?_
  refine e_gI o_10_1 (sk_4 hs) ?_
  refine e_c 20 o_10_4 rfl ?_
  refine e_bin o_10_6 rfl ?_
  refine e_c 2000 o_10_7 rfl ?_
  refine e_if (P := ((xI h 4 1) + 20) ≤ 2000) o_10_10 rfl (fun z => ?_) (fun z => ?_)
  · have k := k.1 z
    refine e_al o_10_15 rfl ?_
    refine e_il o_10_16 rfl ?_
    refine e_clV (as := [.ref 4, .int x1]) (rest := []) o_10_17 rfl rfl (x_okd cl_10_11 ml_11 (Nat.le_of_ble_eq_true rfl) (Nat.le_of_ble_eq_true rfl)) (x_rc0 (sk_4 hs) mo_11) k ?_
    rintro h1 ⟨sh1, k⟩
    refine e_al o_10_20 rfl ?_
    refine e_il o_10_21 rfl ?_
    refine e_clV (as := [.ref 4, .int x2]) (rest := []) o_10_22 rfl rfl (x_okd cl_10_11 ml_11 (Nat.le_of_ble_eq_true rfl) (Nat.le_of_ble_eq_true rfl)) (x_rc0 (sk_4 sh1) mo_11) k ?_
    rintro h3 ⟨sh3, k⟩
    refine e_al o_10_25 rfl ?_
    refine e_il o_10_26 rfl ?_
    refine e_clV (as := [.ref 4, .int x3]) (rest := []) o_10_27 rfl rfl (x_okd cl_10_11 ml_11 (Nat.le_of_ble_eq_true rfl) (Nat.le_of_ble_eq_true rfl)) (x_rc0 (sk_4 sh3) mo_11) k ?_
    rintro h5 ⟨sh5, k⟩
    refine e_al o_10_30 rfl ?_
    refine e_il o_10_31 rfl ?_
    refine e_clV (as := [.ref 4, .int x4]) (rest := []) o_10_33 rfl rfl (x_okd cl_10_11 ml_11 (Nat.le_of_ble_eq_true rfl) (Nat.le_of_ble_eq_true rfl)) (x_rc0 (sk_4 sh5) mo_11) k ?_
    rintro h7 ⟨sh7, k⟩
    refine e_al o_10_36 rfl ?_
    refine e_il o_10_37 rfl ?_
    refine e_clV (as := [.ref 4, .int x5]) (rest := []) o_10_39 rfl rfl (x_okd cl_10_11 ml_11 (Nat.le_of_ble_eq_true rfl) (Nat.le_of_ble_eq_true rfl)) (x_rc0 (sk_4 sh7) mo_11) k ?_
    rintro h9 ⟨sh9, k⟩
    refine e_al o_10_42 rfl ?_
    refine e_gI o_10_43 (sk_4 sh9) ?_
    exact e_retI o_10_46 k
  · have k := k.2 z
    refine e_c (-1) o_10_13 rfl ?_
    exact e_retI o_10_14 k
set_option maxHeartbeats 4000000 in
theorem B_11_0 {x1 : Int32} {h : XH} {Q : Value → XH → Prop} (hs : Sh h) (k : Ev 11 3 [.ref 4, .int x1, .int 24] [] h Q) : Ev 11 0 (x_ini 11 [.ref 4, .int x1]) [] h Q := by
  rw [show x_ini 11 [.ref 4, .int x1] = [.ref 4, .int x1, .null] from x_inid ml_11 rfl]
  refine e_c 24 o_11_0 rfl ?_
  refine e_is (ls' := [.ref 4, .int x1, .int 24]) o_11_2 (by decide) rfl ?_
  exact Ev.less (ls := [.ref 4, .int x1, .int 24]) ⟨Or.inr rfl, Or.inr rfl, Or.inr rfl, trivial⟩ k
set_option maxHeartbeats 4000000 in
theorem B_11_3 {x1 : Int32} {x2 : Int32} {h : XH} {Q : Value → XH → Prop} (hs : Sh h) (k : ((x2 < 0) → Q .null h) ∧ (¬ (x2 < 0) → ((2000 ≤ (xI h 4 1)) → Q .null h) ∧ (¬ (2000 ≤ (xI h 4 1)) → InB (xI h 4 1) 2000 ∧ (Ev 11 3 [.ref 4, .int x1, .int (x2 + (-8))] [] (xsI (xsI h 5 (tn (xI h 4 1)) (((x1 >>> (x2 &&& 31))).toInt8.toInt32).toInt8.toInt32) 4 1 ((xI (xsI h 5 (tn (xI h 4 1)) (((x1 >>> (x2 &&& 31))).toInt8.toInt32).toInt8.toInt32) 4 1) + 1)) Q)))) : Ev 11 3 [.ref 4, .int x1, .int x2] [] h Q := by
  refine e_il o_11_3 rfl ?_
  refine e_if0 (P := x2 < 0) o_11_4 rfl (fun z => ?_) (fun z => ?_)
  · have k := k.1 z
    exact e_ret0 o_11_46 k
  · have k := k.2 z
    refine e_al o_11_7 rfl ?_
    refine e_gI o_11_8 (sk_4 hs) ?_
    refine e_c 2000 o_11_11 rfl ?_
    refine e_if (P := 2000 ≤ (xI h 4 1)) o_11_14 rfl (fun z => ?_) (fun z => ?_)
    · have k := k.1 z
      exact e_ret0 o_11_46 k
    · have k := k.2 z
      refine e_al o_11_17 rfl ?_
      refine e_gR (r := 5) o_11_18 (sk_4 hs) (sr_4_0 hs) (by decide) ?_
      refine e_al o_11_21 rfl ?_
      refine e_gI o_11_22 (sk_4 hs) ?_
      refine e_il o_11_25 rfl ?_
      refine e_il o_11_26 rfl ?_
      refine e_bin o_11_27 rfl ?_
      refine e_i2b o_11_28 ?_
      obtain ⟨q, k⟩ := k
      refine e_bas (n := 2000) o_11_29 (sk_5 hs) (sn_5 hs) q ?_
      refine e_al o_11_30 rfl ?_
      refine e_dup o_11_31 rfl ?_
      refine e_gI o_11_32 (sk_4 hs) ?_
      refine e_c 1 o_11_35 rfl ?_
      refine e_bin o_11_36 rfl ?_
      refine e_pI o_11_37 (sk_4 hs) ?_
      refine e_inc (ls' := [.ref 4, .int x1, .int (x2 + (-8))]) o_11_40 rfl rfl rfl ?_
      refine e_go o_11_43 ?_
      exact Ev.less (ls := [.ref 4, .int x1, .int (x2 + (-8))]) ⟨Or.inr rfl, Or.inr rfl, Or.inr rfl, trivial⟩ k
set_option maxHeartbeats 4000000 in
theorem B_12_0 {x1 : Int32} {h : XH} {Q : Value → XH → Prop} (hs : Sh h) (k : ((x1 < 0) → Q (.int (-1)) h) ∧ (¬ (x1 < 0) → ((x1 ≤ (xI h 4 1)) → Q (.int (xI (xsI h 4 1 ((xI h 4 1) - x1)) 4 1)) (xsI h 4 1 ((xI h 4 1) - x1))) ∧ (¬ (x1 ≤ (xI h 4 1)) → Q (.int (-1)) h))) : Ev 12 0 (x_ini 12 [.ref 4, .int x1]) [] h Q := by
  rw [show x_ini 12 [.ref 4, .int x1] = [.ref 4, .int x1] from x_inid ml_12 rfl]
  refine e_il o_12_0 rfl ?_
  refine e_if0 (P := x1 < 0) o_12_1 rfl (fun z => ?_) (fun z => ?_)
  · have k := k.1 z
    refine e_c (-1) o_12_12 rfl ?_
    exact e_retI o_12_13 k
  · have k := k.2 z
    refine e_il o_12_4 rfl ?_
    refine e_al o_12_5 rfl ?_
    refine e_gI o_12_6 (sk_4 hs) ?_
    refine e_if (P := x1 ≤ (xI h 4 1)) o_12_9 rfl (fun z => ?_) (fun z => ?_)
    · have k := k.1 z
      refine e_al o_12_14 rfl ?_
      refine e_dup o_12_15 rfl ?_
      refine e_gI o_12_16 (sk_4 hs) ?_
      refine e_il o_12_19 rfl ?_
      refine e_bin o_12_20 rfl ?_
      refine e_pI o_12_21 (sk_4 hs) ?_
      refine e_al o_12_24 rfl ?_
      refine e_gI o_12_25 (sk_4 hs) ?_
      exact e_retI o_12_28 k
    · have k := k.2 z
      refine e_c (-1) o_12_12 rfl ?_
      exact e_retI o_12_13 k
set_option maxHeartbeats 4000000 in
theorem B_52_0 {x0 : Nat} {x1 : Nat} {nr : Nat} {h : XH} {Q : Value → XH → Prop} (hs : Sh h) (hx0 : x0 = 14 ∨ x0 = 24) (rx1 : Ar h x1 nr) (k : Ev 52 4 [.ref x0, .ref x1, .int 0, .int 0] [] h Q) : Ev 52 0 (x_ini 52 [.ref x0, .ref x1]) [] h Q := by
  rw [show x_ini 52 [.ref x0, .ref x1] = [.ref x0, .ref x1, .null, .null] from x_inid ml_52 rfl]
  refine e_c 0 o_52_0 rfl ?_
  refine e_is (ls' := [.ref x0, .ref x1, .int 0, .null]) o_52_1 (by decide) rfl ?_
  refine e_c 0 o_52_2 rfl ?_
  refine e_is (ls' := [.ref x0, .ref x1, .int 0, .int 0]) o_52_3 (by decide) rfl ?_
  exact Ev.less (ls := [.ref x0, .ref x1, .int 0, .int 0]) ⟨Or.inr rfl, Or.inr rfl, Or.inr rfl, Or.inr rfl, trivial⟩ k
set_option maxHeartbeats 4000000 in
theorem B_52_4 {x0 : Nat} {x1 : Nat} {x2 : Int32} {x3 : Int32} {nr : Nat} {h : XH} {Q : Value → XH → Prop} (hs : Sh h) (hx0 : x0 = 14 ∨ x0 = 24) (rx1 : Ar h x1 nr) (k : (((xI h x0 0) ≤ x3) → Q (.int x2) h) ∧ (¬ ((xI h x0 0) ≤ x3) → InB x3 nr ∧ (InB x3 8 ∧ (Ev 52 4 [.ref x0, .ref x1, .int (x2 + ((xI h x1 (tn x3)) * (xI h (x0 + 3) (tn x3)))), .int (x3 + 1)] [] h Q)))) : Ev 52 4 [.ref x0, .ref x1, .int x2, .int x3] [] h Q := by
  refine e_il o_52_4 rfl ?_
  refine e_al o_52_5 rfl ?_
  refine e_gI o_52_6 (sc_k hs hx0) ?_
  refine e_if (P := (xI h x0 0) ≤ x3) o_52_9 rfl (fun z => ?_) (fun z => ?_)
  · have k := k.1 z
    refine e_il o_52_31 rfl ?_
    exact e_retI o_52_32 k
  · have k := k.2 z
    refine e_il o_52_12 rfl ?_
    refine e_al o_52_13 rfl ?_
    refine e_il o_52_14 rfl ?_
    obtain ⟨q, k⟩ := k
    refine e_ia (n := nr) o_52_15 ((rx1).1) ((rx1).2.1) q ?_
    refine e_al o_52_16 rfl ?_
    refine e_gR (r := (x0 + 3)) o_52_17 (sc_k hs hx0) (sc_r11 hs hx0) (by omega) ?_
    refine e_il o_52_20 rfl ?_
    obtain ⟨q, k⟩ := k
    refine e_ia (n := 8) o_52_21 ((sc_a3 hs hx0).1) ((sc_a3 hs hx0).2.1) q ?_
    refine e_bin o_52_22 rfl ?_
    refine e_bin o_52_23 rfl ?_
    refine e_is (ls' := [.ref x0, .ref x1, .int (x2 + ((xI h x1 (tn x3)) * (xI h (x0 + 3) (tn x3)))), .int x3]) o_52_24 (by decide) rfl ?_
    refine e_inc (ls' := [.ref x0, .ref x1, .int (x2 + ((xI h x1 (tn x3)) * (xI h (x0 + 3) (tn x3)))), .int (x3 + 1)]) o_52_25 rfl rfl rfl ?_
    refine e_go o_52_28 ?_
    exact Ev.less (ls := [.ref x0, .ref x1, .int (x2 + ((xI h x1 (tn x3)) * (xI h (x0 + 3) (tn x3)))), .int (x3 + 1)]) ⟨Or.inr rfl, Or.inr rfl, Or.inr rfl, Or.inr rfl, trivial⟩ k
set_option maxHeartbeats 4000000 in
theorem B_55_0 {x1 : Nat} {h : XH} {Q : Value → XH → Prop} (hs : Sh h) (rx1 : Ar h x1 20) (k : ClV 56 [.ref 34, .ref x1] h (fun h1 => Sh h1 ∧ Ar h1 x1 20 ∧ (ClI 58 [.ref x1] h1 (fun v4 h3 => Sh h3 ∧ Ar h3 x1 20 ∧ (InB 0 301 ∧ (Ev 55 17 [.ref 34, .ref x1, .int 1, .null, .null] [] (xsI h3 36 (tn 0) v4) Q)))))) : Ev 55 0 (x_ini 55 [.ref 34, .ref x1]) [] h Q := by
  rw [show x_ini 55 [.ref 34, .ref x1] = [.ref 34, .ref x1, .null, .null, .null] from x_inid ml_55 rfl]
  refine e_al o_55_0 rfl ?_
  refine e_al o_55_1 rfl ?_
  refine e_clV (as := [.ref 34, .ref x1]) (rest := []) o_55_2 rfl rfl (x_okd cl_55_56 ml_56 (Nat.le_of_ble_eq_true rfl) (Nat.le_of_ble_eq_true rfl)) (x_rc0 (sk_34 hs) mo_56) k ?_
  rintro h1 ⟨sh1, r_x1_h1, k⟩
  refine e_al o_55_5 rfl ?_
  refine e_gR (r := 36) o_55_6 (sk_34 sh1) (sr_34_2 sh1) (by decide) ?_
  refine e_c 0 o_55_9 rfl ?_
  refine e_al o_55_10 rfl ?_
  refine e_clI (as := [.ref x1]) (rest := [.int 0, .ref 36]) o_55_11 rfl rfl (x_okd cl_55_58 ml_58 (Nat.le_of_ble_eq_true rfl) (Nat.le_of_ble_eq_true rfl)) (rfl) k ?_
  rintro v4 h3 ⟨sh3, r_x1_h3, k⟩
  obtain ⟨q, k⟩ := k
  refine e_ias (n := 301) o_55_14 (sk_36 sh3) (by decide) (sn_36 sh3) q ?_
  refine e_c 1 o_55_15 rfl ?_
  refine e_is (ls' := [.ref 34, .ref x1, .int 1, .null, .null]) o_55_16 (by decide) rfl ?_
  exact Ev.less (ls := [.ref 34, .ref x1, .int 1, .null, .null]) ⟨Or.inr rfl, Or.inr rfl, Or.inr rfl, Or.inl rfl, Or.inl rfl, trivial⟩ k
set_option maxHeartbeats 4000000 in
theorem B_55_17 {x1 : Nat} {x2 : Int32} {h : XH} {Q : Value → XH → Prop} (hs : Sh h) (rx1 : Ar h x1 20) (k : ((300 < x2) → ClV 61 [.ref x1, .int 2, .int 300, .int 0, .int 0] h (fun h1 => Sh h1 ∧ Ar h1 x1 20 ∧ (Q .null h1))) ∧ (¬ (300 < x2) → Ev 55 37 [.ref 34, .ref x1, .int x2, .int 0, .int ((xI h (xR h 34 0) 1) - 1)] [] h Q)) : Ev 55 17 [.ref 34, .ref x1, .int x2, .null, .null] [] h Q := by
  refine e_il o_55_17 rfl ?_
  refine e_c 300 o_55_18 rfl ?_
  refine e_if (P := 300 < x2) o_55_21 rfl (fun z => ?_) (fun z => ?_)
  · have k := k.1 z
    refine e_al o_55_146 rfl ?_
    refine e_c 2 o_55_147 rfl ?_
    refine e_c 300 o_55_148 rfl ?_
    refine e_c 0 o_55_151 rfl ?_
    refine e_c 0 o_55_152 rfl ?_
    refine e_clV (as := [.ref x1, .int 2, .int 300, .int 0, .int 0]) (rest := []) o_55_153 rfl rfl (x_okd cl_55_61 ml_61 (Nat.le_of_ble_eq_true rfl) (Nat.le_of_ble_eq_true rfl)) (rfl) k ?_
    rintro h1 ⟨sh1, r_x1_h1, k⟩
    exact e_ret0 o_55_156 k
  · have k := k.2 z
    refine e_c 0 o_55_24 rfl ?_
    refine e_is (ls' := [.ref 34, .ref x1, .int x2, .int 0, .null]) o_55_25 (by decide) rfl ?_
    refine e_al o_55_26 rfl ?_
    refine e_gR (r := (xR h 34 0)) o_55_27 (sk_34 hs) (rfl) (by rcases (ss_p hs) with q | q <;> omega) ?_
    refine e_gI o_55_30 (sc_k hs (ss_p hs)) ?_
    refine e_c 1 o_55_33 rfl ?_
    refine e_bin o_55_34 rfl ?_
    refine e_is (ls' := [.ref 34, .ref x1, .int x2, .int 0, .int ((xI h (xR h 34 0) 1) - 1)]) o_55_35 (by decide) rfl ?_
    exact Ev.less (ls := [.ref 34, .ref x1, .int x2, .int 0, .int ((xI h (xR h 34 0) 1) - 1)]) ⟨Or.inr rfl, Or.inr rfl, Or.inr rfl, Or.inr rfl, Or.inr rfl, trivial⟩ k
set_option maxHeartbeats 4000000 in
theorem B_55_37 {x1 : Nat} {x2 : Int32} {x3 : Int32} {x4 : Int32} {h : XH} {Q : Value → XH → Prop} (hs : Sh h) (rx1 : Ar h x1 20) (k : ((x4 < 0) → InB (x2 - 1) 301 ∧ (((¬ x3 = (xI h 36 (tn (x2 - 1)))) → ClV 62 [.ref x1, .int x3] h (fun h1 => Sh h1 ∧ Ar h1 x1 20 ∧ (Ev 55 93 [.ref 34, .ref x1, .int x2, .int x3, .int (x2 - 2)] [] h1 Q))) ∧ (¬ (¬ x3 = (xI h 36 (tn (x2 - 1)))) → ClV 61 [.ref x1, .int 0, .int (x2 - 1), .int 0, .int 0] h (fun h3 => Sh h3 ∧ Ar h3 x1 20 ∧ (Q .null h3))))) ∧ (¬ (x4 < 0) → ClI 59 [.ref 34, .int x4, .ref x1] h (fun v6 h5 => Sh h5 ∧ Ar h5 x1 20 ∧ (Ev 55 37 [.ref 34, .ref x1, .int x2, .int ((x3 * 5) + v6), .int (x4 + (-1))] [] h5 Q)))) : Ev 55 37 [.ref 34, .ref x1, .int x2, .int x3, .int x4] [] h Q := by
  refine e_il o_55_37 rfl ?_
  refine e_if0 (P := x4 < 0) o_55_39 rfl (fun z => ?_) (fun z => ?_)
  · have k := k.1 z
    refine e_il o_55_60 rfl ?_
    refine e_al o_55_61 rfl ?_
    refine e_gR (r := 36) o_55_62 (sk_34 hs) (sr_34_2 hs) (by decide) ?_
    refine e_il o_55_65 rfl ?_
    refine e_c 1 o_55_66 rfl ?_
    refine e_bin o_55_67 rfl ?_
    obtain ⟨q, k⟩ := k
    refine e_ia (n := 301) o_55_68 (sk_36 hs) (sn_36 hs) q ?_
    refine e_if (P := ¬ x3 = (xI h 36 (tn (x2 - 1)))) o_55_69 rfl (fun z => ?_) (fun z => ?_)
    · have k := k.1 z
      refine e_al o_55_83 rfl ?_
      refine e_il o_55_84 rfl ?_
      refine e_clV (as := [.ref x1, .int x3]) (rest := []) o_55_85 rfl rfl (x_okd cl_55_62 ml_62 (Nat.le_of_ble_eq_true rfl) (Nat.le_of_ble_eq_true rfl)) (rfl) k ?_
      rintro h1 ⟨sh1, r_x1_h1, k⟩
      refine e_il o_55_88 rfl ?_
      refine e_c 2 o_55_89 rfl ?_
      refine e_bin o_55_90 rfl ?_
      refine e_is (ls' := [.ref 34, .ref x1, .int x2, .int x3, .int (x2 - 2)]) o_55_91 (by decide) rfl ?_
      exact Ev.less (ls := [.ref 34, .ref x1, .int x2, .int x3, .int (x2 - 2)]) ⟨Or.inr rfl, Or.inr rfl, Or.inr rfl, Or.inr rfl, Or.inr rfl, trivial⟩ k
    · have k := k.2 z
      refine e_al o_55_72 rfl ?_
      refine e_c 0 o_55_73 rfl ?_
      refine e_il o_55_74 rfl ?_
      refine e_c 1 o_55_75 rfl ?_
      refine e_bin o_55_76 rfl ?_
      refine e_c 0 o_55_77 rfl ?_
      refine e_c 0 o_55_78 rfl ?_
      refine e_clV (as := [.ref x1, .int 0, .int (x2 - 1), .int 0, .int 0]) (rest := []) o_55_79 rfl rfl (x_okd cl_55_61 ml_61 (Nat.le_of_ble_eq_true rfl) (Nat.le_of_ble_eq_true rfl)) (rfl) k ?_
      rintro h3 ⟨sh3, r_x1_h3, k⟩
      exact e_ret0 o_55_82 k
  · have k := k.2 z
    refine e_il o_55_42 rfl ?_
    refine e_c 5 o_55_43 rfl ?_
    refine e_bin o_55_44 rfl ?_
    refine e_al o_55_45 rfl ?_
    refine e_il o_55_46 rfl ?_
    refine e_al o_55_48 rfl ?_
    refine e_clI (as := [.ref 34, .int x4, .ref x1]) (rest := [.int (x3 * 5)]) o_55_49 rfl rfl (x_okd cl_55_59 ml_59 (Nat.le_of_ble_eq_true rfl) (Nat.le_of_ble_eq_true rfl)) (x_rc0 (sk_34 hs) mo_59) k ?_
    rintro v6 h5 ⟨sh5, r_x1_h5, k⟩
    refine e_bin o_55_52 rfl ?_
    refine e_is (ls' := [.ref 34, .ref x1, .int x2, .int ((x3 * 5) + v6), .int x4]) o_55_53 (by decide) rfl ?_
    refine e_inc (ls' := [.ref 34, .ref x1, .int x2, .int ((x3 * 5) + v6), .int (x4 + (-1))]) o_55_54 rfl rfl rfl ?_
    refine e_go o_55_57 ?_
    exact Ev.less (ls := [.ref 34, .ref x1, .int x2, .int ((x3 * 5) + v6), .int (x4 + (-1))]) ⟨Or.inr rfl, Or.inr rfl, Or.inr rfl, Or.inr rfl, Or.inr rfl, trivial⟩ k
set_option maxHeartbeats 4000000 in
theorem B_55_93 {x1 : Nat} {x2 : Int32} {x3 : Int32} {x4 : Int32} {h : XH} {Q : Value → XH → Prop} (hs : Sh h) (rx1 : Ar h x1 20) (k : ((x4 < 0) → InB x2 301 ∧ (Ev 55 17 [.ref 34, .ref x1, .int (x2 + 1), .null, .null] [] (xsI h 36 (tn x2) x3) Q)) ∧ (¬ (x4 < 0) → InB x4 301 ∧ (((¬ (xI h 36 (tn x4)) = x3) → Ev 55 93 [.ref 34, .ref x1, .int x2, .int x3, .int (x4 + (-1))] [] h Q) ∧ (¬ (¬ (xI h 36 (tn x4)) = x3) → ClI 63 [.ref 34, .int x4, .int x2] h (fun v2 h1 => Sh h1 ∧ Ar h1 x1 20 ∧ (ClV 61 [.ref x1, .int 1, .int x2, .int (x2 - x4), .int v2] h1 (fun h3 => Sh h3 ∧ Ar h3 x1 20 ∧ (Q .null h3)))))))) : Ev 55 93 [.ref 34, .ref x1, .int x2, .int x3, .int x4] [] h Q := by
  refine e_il o_55_93 rfl ?_
  refine e_if0 (P := x4 < 0) o_55_95 rfl (fun z => ?_) (fun z => ?_)
  · have k := k.1 z
    refine e_al o_55_133 rfl ?_
    refine e_gR (r := 36) o_55_134 (sk_34 hs) (sr_34_2 hs) (by decide) ?_
    refine e_il o_55_137 rfl ?_
    refine e_il o_55_138 rfl ?_
    obtain ⟨q, k⟩ := k
    refine e_ias (n := 301) o_55_139 (sk_36 hs) (by decide) (sn_36 hs) q ?_
    refine e_inc (ls' := [.ref 34, .ref x1, .int (x2 + 1), .int x3, .int x4]) o_55_140 rfl rfl rfl ?_
    refine e_go o_55_143 ?_
    exact Ev.less (ls := [.ref 34, .ref x1, .int (x2 + 1), .null, .null]) ⟨Or.inr rfl, Or.inr rfl, Or.inr rfl, Or.inl rfl, Or.inl rfl, trivial⟩ k
  · have k := k.2 z
    refine e_al o_55_98 rfl ?_
    refine e_gR (r := 36) o_55_99 (sk_34 hs) (sr_34_2 hs) (by decide) ?_
    refine e_il o_55_102 rfl ?_
    obtain ⟨q, k⟩ := k
    refine e_ia (n := 301) o_55_104 (sk_36 hs) (sn_36 hs) q ?_
    refine e_il o_55_105 rfl ?_
    refine e_if (P := ¬ (xI h 36 (tn x4)) = x3) o_55_106 rfl (fun z => ?_) (fun z => ?_)
    · have k := k.1 z
      refine e_inc (ls' := [.ref 34, .ref x1, .int x2, .int x3, .int (x4 + (-1))]) o_55_127 rfl rfl rfl ?_
      refine e_go o_55_130 ?_
      exact Ev.less (ls := [.ref 34, .ref x1, .int x2, .int x3, .int (x4 + (-1))]) ⟨Or.inr rfl, Or.inr rfl, Or.inr rfl, Or.inr rfl, Or.inr rfl, trivial⟩ k
    · have k := k.2 z
      refine e_al o_55_109 rfl ?_
      refine e_c 1 o_55_110 rfl ?_
      refine e_il o_55_111 rfl ?_
      refine e_il o_55_112 rfl ?_
      refine e_il o_55_113 rfl ?_
      refine e_bin o_55_115 rfl ?_
      refine e_al o_55_116 rfl ?_
      refine e_il o_55_117 rfl ?_
      refine e_il o_55_119 rfl ?_
      refine e_clI (as := [.ref 34, .int x4, .int x2]) (rest := [.int (x2 - x4), .int x2, .int 1, .ref x1]) o_55_120 rfl rfl (x_okd cl_55_63 ml_63 (Nat.le_of_ble_eq_true rfl) (Nat.le_of_ble_eq_true rfl)) (x_rc0 (sk_34 hs) mo_63) k ?_
      rintro v2 h1 ⟨sh1, r_x1_h1, k⟩
      refine e_clV (as := [.ref x1, .int 1, .int x2, .int (x2 - x4), .int v2]) (rest := []) o_55_123 rfl rfl (x_okd cl_55_61 ml_61 (Nat.le_of_ble_eq_true rfl) (Nat.le_of_ble_eq_true rfl)) (rfl) k ?_
      rintro h3 ⟨sh3, r_x1_h3, k⟩
      exact e_ret0 o_55_126 k
set_option maxHeartbeats 4000000 in
theorem B_57_0 {x1 : Int32} {x2 : Nat} {h : XH} {Q : Value → XH → Prop} (hs : Sh h) (rx2 : Ar h x2 20) (k : Ev 57 23 [.ref 34, .null, .ref x2, .ref ((xR h 34 0) + 9), .int (xI h (xR h 34 0) 7), .int 0, .int x1, .null, .null, .null, .null] [] h Q) : Ev 57 0 (x_ini 57 [.ref 34, .int x1, .ref x2]) [] h Q := by
  rw [show x_ini 57 [.ref 34, .int x1, .ref x2] = [.ref 34, .int x1, .ref x2, .null, .null, .null, .null, .null, .null, .null, .null] from x_inid ml_57 rfl]
  refine e_al o_57_0 rfl ?_
  refine e_gR (r := (xR h 34 0)) o_57_1 (sk_34 hs) (rfl) (by rcases (ss_p hs) with q | q <;> omega) ?_
  refine e_gR (r := ((xR h 34 0) + 9)) o_57_4 (sc_k hs (ss_p hs)) (sc_r17 hs (ss_p hs)) (by omega) ?_
  refine e_as (ls' := [.ref 34, .int x1, .ref x2, .ref ((xR h 34 0) + 9), .null, .null, .null, .null, .null, .null, .null]) o_57_7 (by decide) rfl ?_
  refine e_al o_57_8 rfl ?_
  refine e_gR (r := (xR h 34 0)) o_57_9 (sk_34 hs) (rfl) (by rcases (ss_p hs) with q | q <;> omega) ?_
  refine e_gI o_57_12 (sc_k hs (ss_p hs)) ?_
  refine e_is (ls' := [.ref 34, .int x1, .ref x2, .ref ((xR h 34 0) + 9), .int (xI h (xR h 34 0) 7), .null, .null, .null, .null, .null, .null]) o_57_15 (by decide) rfl ?_
  refine e_c 0 o_57_17 rfl ?_
  refine e_is (ls' := [.ref 34, .int x1, .ref x2, .ref ((xR h 34 0) + 9), .int (xI h (xR h 34 0) 7), .int 0, .null, .null, .null, .null, .null]) o_57_18 (by decide) rfl ?_
  refine e_il o_57_20 rfl ?_
  refine e_is (ls' := [.ref 34, .int x1, .ref x2, .ref ((xR h 34 0) + 9), .int (xI h (xR h 34 0) 7), .int 0, .int x1, .null, .null, .null, .null]) o_57_21 (by decide) rfl ?_
  exact Ev.less (ls := [.ref 34, .null, .ref x2, .ref ((xR h 34 0) + 9), .int (xI h (xR h 34 0) 7), .int 0, .int x1, .null, .null, .null, .null]) ⟨Or.inr rfl, Or.inl rfl, Or.inr rfl, Or.inr rfl, Or.inr rfl, Or.inr rfl, Or.inr rfl, Or.inl rfl, Or.inl rfl, Or.inl rfl, Or.inl rfl, trivial⟩ k
set_option maxHeartbeats 4000000 in
theorem B_57_23 {x2 : Nat} {x3 : Nat} {x4 : Int32} {x5 : Int32} {x6 : Int32} {h : XH} {Q : Value → XH → Prop} (hs : Sh h) (rx2 : Ar h x2 20) (rx3 : Ar h x3 512) (k : ((x6 < 0) → Ev 57 375 [.null, .null, .null, .null, .null, .null, .null, .null, .null, .null, .null] [] h Q) ∧ (¬ (x6 < 0) → ((x4 ≤ x6) → Ev 57 375 [.null, .null, .null, .null, .null, .null, .null, .null, .null, .null, .null] [] h Q) ∧ (¬ (x4 ≤ x6) → InB x6 512 ∧ (InB x6 512 ∧ (((1 < ((xI h x3 (tn x6)) &&& 15)) → ((1 ≤ x5) → InB (x5 + (-1)) 32 ∧ (((¬ ((xI h x3 (tn x6)) &&& 15) = 10) → ((¬ ((xI h x3 (tn x6)) &&& 15) = 9) → (((x5 + (-1)) < 1) → Ev 57 179 [.null, .null, .null, .null, .null, .null, .null, .null, .null, .null, .null] [] h Q) ∧ (¬ ((x5 + (-1)) < 1) → ((¬ ((xI h x3 (tn x6)) &&& 15) = 5) → Ev 57 181 [.ref 34, .null, .ref x2, .ref x3, .int x4, .int (x5 + (-1)), .int x6, .int ((xI h x3 (tn x6)) &&& 15), .null, .int (xI h 35 (tn (x5 + (-1)))), .null] [] h Q) ∧ (¬ (¬ ((xI h x3 (tn x6)) &&& 15) = 5) → ((¬ (xI h 35 (tn (x5 + (-1)))) = 0) → Ev 57 181 [.ref 34, .null, .ref x2, .ref x3, .int x4, .int (x5 + (-1)), .int x6, .int ((xI h x3 (tn x6)) &&& 15), .null, .int (xI h 35 (tn (x5 + (-1)))), .null] [] h Q) ∧ (¬ (¬ (xI h 35 (tn (x5 + (-1)))) = 0) → Ev 57 179 [.null, .null, .null, .null, .null, .null, .null, .null, .null, .null, .null] [] h Q)))) ∧ (¬ (¬ ((xI h x3 (tn x6)) &&& 15) = 9) → ((¬ (xI h 35 (tn (x5 + (-1)))) = 0) → Ev 57 155 [.ref 34, .null, .ref x2, .ref x3, .int x4, .int (x5 + (-1)), .int x6, .null, .null, .null, .null] [] h Q) ∧ (¬ (¬ (xI h 35 (tn (x5 + (-1)))) = 0) → ((((xI h x3 (tn x6)) >>> (4 &&& 31)) ≤ x6) → Ev 57 155 [.ref 34, .null, .ref x2, .ref x3, .int x4, .int (x5 + (-1)), .int x6, .null, .null, .null, .null] [] h Q) ∧ (¬ (((xI h x3 (tn x6)) >>> (4 &&& 31)) ≤ x6) → Ev 57 369 [.ref 34, .null, .ref x2, .ref x3, .int x4, .int (x5 + (-1)), .int (((xI h x3 (tn x6)) >>> (4 &&& 31)) - 1), .null, .null, .null, .null] [] h Q)))) ∧ (¬ (¬ ((xI h x3 (tn x6)) &&& 15) = 10) → Q (.int 1) (xsI h 34 5 (xI h 35 (tn (x5 + (-1)))))))) ∧ (¬ (1 ≤ x5) → Q (.int 0) h)) ∧ (¬ (1 < ((xI h x3 (tn x6)) &&& 15)) → ((x5 < 32) → ((¬ ((xI h x3 (tn x6)) &&& 15) = 0) → InB ((xI h x3 (tn x6)) >>> (4 &&& 31)) 20 ∧ (InB x5 32 ∧ (Ev 57 369 [.ref 34, .null, .ref x2, .ref x3, .int x4, .int (x5 + 1), .int x6, .null, .null, .null, .null] [] (xsI h 35 (tn x5) (xI h x2 (tn ((xI h x3 (tn x6)) >>> (4 &&& 31))))) Q))) ∧ (¬ (¬ ((xI h x3 (tn x6)) &&& 15) = 0) → InB x5 32 ∧ (Ev 57 369 [.ref 34, .null, .ref x2, .ref x3, .int x4, .int (x5 + 1), .int x6, .null, .null, .null, .null] [] (xsI h 35 (tn x5) ((xI h x3 (tn x6)) >>> (4 &&& 31))) Q))) ∧ (¬ (x5 < 32) → Q (.int 0) h))))))) : Ev 57 23 [.ref 34, .null, .ref x2, .ref x3, .int x4, .int x5, .int x6, .null, .null, .null, .null] [] h Q := by
  refine e_il o_57_23 rfl ?_
  refine e_if0 (P := x6 < 0) o_57_25 rfl (fun z => ?_) (fun z => ?_)
  · have k := k.1 z
    exact Ev.less (ls := [.null, .null, .null, .null, .null, .null, .null, .null, .null, .null, .null]) ⟨Or.inl rfl, Or.inl rfl, Or.inl rfl, Or.inl rfl, Or.inl rfl, Or.inl rfl, Or.inl rfl, Or.inl rfl, Or.inl rfl, Or.inl rfl, Or.inl rfl, trivial⟩ k
  · have k := k.2 z
    refine e_il o_57_28 rfl ?_
    refine e_il o_57_30 rfl ?_
    refine e_if (P := x4 ≤ x6) o_57_32 rfl (fun z => ?_) (fun z => ?_)
    · have k := k.1 z
      exact Ev.less (ls := [.null, .null, .null, .null, .null, .null, .null, .null, .null, .null, .null]) ⟨Or.inl rfl, Or.inl rfl, Or.inl rfl, Or.inl rfl, Or.inl rfl, Or.inl rfl, Or.inl rfl, Or.inl rfl, Or.inl rfl, Or.inl rfl, Or.inl rfl, trivial⟩ k
    · have k := k.2 z
      refine e_al o_57_35 rfl ?_
      refine e_il o_57_36 rfl ?_
      obtain ⟨q, k⟩ := k
      refine e_ia (n := 512) o_57_38 ((rx3).1) ((rx3).2.1) q ?_
      refine e_c 15 o_57_39 rfl ?_
      refine e_bin o_57_41 rfl ?_
      refine e_is (ls' := [.ref 34, .null, .ref x2, .ref x3, .int x4, .int x5, .int x6, .int ((xI h x3 (tn x6)) &&& 15), .null, .null, .null]) o_57_42 (by decide) rfl ?_
      refine e_al o_57_44 rfl ?_
      refine e_il o_57_45 rfl ?_
      obtain ⟨q, k⟩ := k
      refine e_ia (n := 512) o_57_47 ((rx3).1) ((rx3).2.1) q ?_
      refine e_c 4 o_57_48 rfl ?_
      refine e_bin o_57_49 rfl ?_
      refine e_is (ls' := [.ref 34, .null, .ref x2, .ref x3, .int x4, .int x5, .int x6, .int ((xI h x3 (tn x6)) &&& 15), .int ((xI h x3 (tn x6)) >>> (4 &&& 31)), .null, .null]) o_57_50 (by decide) rfl ?_
      refine e_il o_57_52 rfl ?_
      refine e_c 1 o_57_54 rfl ?_
      refine e_if (P := 1 < ((xI h x3 (tn x6)) &&& 15)) o_57_55 rfl (fun z => ?_) (fun z => ?_)
      · have k := k.1 z
        refine e_il o_57_94 rfl ?_
        refine e_c 1 o_57_96 rfl ?_
        refine e_if (P := 1 ≤ x5) o_57_97 rfl (fun z => ?_) (fun z => ?_)
        · have k := k.1 z
          refine e_inc (ls' := [.ref 34, .null, .ref x2, .ref x3, .int x4, .int (x5 + (-1)), .int x6, .int ((xI h x3 (tn x6)) &&& 15), .int ((xI h x3 (tn x6)) >>> (4 &&& 31)), .null, .null]) o_57_102 rfl rfl rfl ?_
          refine e_al o_57_105 rfl ?_
          refine e_gR (r := 35) o_57_106 (sk_34 hs) (sr_34_1 hs) (by decide) ?_
          refine e_il o_57_109 rfl ?_
          obtain ⟨q, k⟩ := k
          refine e_ia (n := 32) o_57_111 (sk_35 hs) (sn_35 hs) q ?_
          refine e_is (ls' := [.ref 34, .null, .ref x2, .ref x3, .int x4, .int (x5 + (-1)), .int x6, .int ((xI h x3 (tn x6)) &&& 15), .int ((xI h x3 (tn x6)) >>> (4 &&& 31)), .int (xI h 35 (tn (x5 + (-1)))), .null]) o_57_112 (by decide) rfl ?_
          refine e_il o_57_114 rfl ?_
          refine e_c 10 o_57_116 rfl ?_
          refine e_if (P := ¬ ((xI h x3 (tn x6)) &&& 15) = 10) o_57_118 rfl (fun z => ?_) (fun z => ?_)
          · have k := k.1 z
            refine e_il o_57_129 rfl ?_
            refine e_c 9 o_57_131 rfl ?_
            refine e_if (P := ¬ ((xI h x3 (tn x6)) &&& 15) = 9) o_57_133 rfl (fun z => ?_) (fun z => ?_)
            · have k := k.1 z
              refine e_il o_57_162 rfl ?_
              refine e_c 1 o_57_164 rfl ?_
              refine e_if (P := (x5 + (-1)) < 1) o_57_165 rfl (fun z => ?_) (fun z => ?_)
              · have k := k.1 z
                exact Ev.less (ls := [.null, .null, .null, .null, .null, .null, .null, .null, .null, .null, .null]) ⟨Or.inl rfl, Or.inl rfl, Or.inl rfl, Or.inl rfl, Or.inl rfl, Or.inl rfl, Or.inl rfl, Or.inl rfl, Or.inl rfl, Or.inl rfl, Or.inl rfl, trivial⟩ k
              · have k := k.2 z
                refine e_il o_57_168 rfl ?_
                refine e_c 5 o_57_170 rfl ?_
                refine e_if (P := ¬ ((xI h x3 (tn x6)) &&& 15) = 5) o_57_171 rfl (fun z => ?_) (fun z => ?_)
                · have k := k.1 z
                  exact Ev.less (ls := [.ref 34, .null, .ref x2, .ref x3, .int x4, .int (x5 + (-1)), .int x6, .int ((xI h x3 (tn x6)) &&& 15), .null, .int (xI h 35 (tn (x5 + (-1)))), .null]) ⟨Or.inr rfl, Or.inl rfl, Or.inr rfl, Or.inr rfl, Or.inr rfl, Or.inr rfl, Or.inr rfl, Or.inr rfl, Or.inl rfl, Or.inr rfl, Or.inl rfl, trivial⟩ k
                · have k := k.2 z
                  refine e_il o_57_174 rfl ?_
                  refine e_if0 (P := ¬ (xI h 35 (tn (x5 + (-1)))) = 0) o_57_176 rfl (fun z => ?_) (fun z => ?_)
                  · have k := k.1 z
                    exact Ev.less (ls := [.ref 34, .null, .ref x2, .ref x3, .int x4, .int (x5 + (-1)), .int x6, .int ((xI h x3 (tn x6)) &&& 15), .null, .int (xI h 35 (tn (x5 + (-1)))), .null]) ⟨Or.inr rfl, Or.inl rfl, Or.inr rfl, Or.inr rfl, Or.inr rfl, Or.inr rfl, Or.inr rfl, Or.inr rfl, Or.inl rfl, Or.inr rfl, Or.inl rfl, trivial⟩ k
                  · have k := k.2 z
                    exact Ev.less (ls := [.null, .null, .null, .null, .null, .null, .null, .null, .null, .null, .null]) ⟨Or.inl rfl, Or.inl rfl, Or.inl rfl, Or.inl rfl, Or.inl rfl, Or.inl rfl, Or.inl rfl, Or.inl rfl, Or.inl rfl, Or.inl rfl, Or.inl rfl, trivial⟩ k
            · have k := k.2 z
              refine e_il o_57_136 rfl ?_
              refine e_if0 (P := ¬ (xI h 35 (tn (x5 + (-1)))) = 0) o_57_138 rfl (fun z => ?_) (fun z => ?_)
              · have k := k.1 z
                exact Ev.less (ls := [.ref 34, .null, .ref x2, .ref x3, .int x4, .int (x5 + (-1)), .int x6, .null, .null, .null, .null]) ⟨Or.inr rfl, Or.inl rfl, Or.inr rfl, Or.inr rfl, Or.inr rfl, Or.inr rfl, Or.inr rfl, Or.inl rfl, Or.inl rfl, Or.inl rfl, Or.inl rfl, trivial⟩ k
              · have k := k.2 z
                refine e_il o_57_141 rfl ?_
                refine e_il o_57_143 rfl ?_
                refine e_if (P := ((xI h x3 (tn x6)) >>> (4 &&& 31)) ≤ x6) o_57_145 rfl (fun z => ?_) (fun z => ?_)
                · have k := k.1 z
                  exact Ev.less (ls := [.ref 34, .null, .ref x2, .ref x3, .int x4, .int (x5 + (-1)), .int x6, .null, .null, .null, .null]) ⟨Or.inr rfl, Or.inl rfl, Or.inr rfl, Or.inr rfl, Or.inr rfl, Or.inr rfl, Or.inr rfl, Or.inl rfl, Or.inl rfl, Or.inl rfl, Or.inl rfl, trivial⟩ k
                · have k := k.2 z
                  refine e_il o_57_148 rfl ?_
                  refine e_c 1 o_57_150 rfl ?_
                  refine e_bin o_57_151 rfl ?_
                  refine e_go o_57_152 ?_
                  refine e_is (ls' := [.ref 34, .null, .ref x2, .ref x3, .int x4, .int (x5 + (-1)), .int (((xI h x3 (tn x6)) >>> (4 &&& 31)) - 1), .int ((xI h x3 (tn x6)) &&& 15), .int ((xI h x3 (tn x6)) >>> (4 &&& 31)), .int (xI h 35 (tn (x5 + (-1)))), .null]) o_57_157 (by decide) rfl ?_
                  refine e_go o_57_159 ?_
                  exact Ev.less (ls := [.ref 34, .null, .ref x2, .ref x3, .int x4, .int (x5 + (-1)), .int (((xI h x3 (tn x6)) >>> (4 &&& 31)) - 1), .null, .null, .null, .null]) ⟨Or.inr rfl, Or.inl rfl, Or.inr rfl, Or.inr rfl, Or.inr rfl, Or.inr rfl, Or.inr rfl, Or.inl rfl, Or.inl rfl, Or.inl rfl, Or.inl rfl, trivial⟩ k
          · have k := k.2 z
            refine e_al o_57_121 rfl ?_
            refine e_il o_57_122 rfl ?_
            refine e_pI o_57_124 (sk_34 hs) ?_
            refine e_c 1 o_57_127 rfl ?_
            exact e_retZ o_57_128 (by decide) k
        · have k := k.2 z
          refine e_c 0 o_57_100 rfl ?_
          exact e_retZ o_57_101 (by decide) k
      · have k := k.2 z
        refine e_il o_57_58 rfl ?_
        refine e_c 32 o_57_60 rfl ?_
        refine e_if (P := x5 < 32) o_57_62 rfl (fun z => ?_) (fun z => ?_)
        · have k := k.1 z
          refine e_al o_57_67 rfl ?_
          refine e_gR (r := 35) o_57_68 (sk_34 hs) (sr_34_1 hs) (by decide) ?_
          refine e_il o_57_71 rfl ?_
          refine e_il o_57_73 rfl ?_
          refine e_if0 (P := ¬ ((xI h x3 (tn x6)) &&& 15) = 0) o_57_75 rfl (fun z => ?_) (fun z => ?_)
          · have k := k.1 z
            refine e_al o_57_83 rfl ?_
            refine e_il o_57_84 rfl ?_
            obtain ⟨q, k⟩ := k
            refine e_ia (n := 20) o_57_86 ((rx2).1) ((rx2).2.1) q ?_
            obtain ⟨q, k⟩ := k
            refine e_ias (n := 32) o_57_87 (sk_35 hs) (by decide) (sn_35 hs) q ?_
            refine e_inc (ls' := [.ref 34, .null, .ref x2, .ref x3, .int x4, .int (x5 + 1), .int x6, .int ((xI h x3 (tn x6)) &&& 15), .int ((xI h x3 (tn x6)) >>> (4 &&& 31)), .null, .null]) o_57_88 rfl rfl rfl ?_
            refine e_go o_57_91 ?_
            exact Ev.less (ls := [.ref 34, .null, .ref x2, .ref x3, .int x4, .int (x5 + 1), .int x6, .null, .null, .null, .null]) ⟨Or.inr rfl, Or.inl rfl, Or.inr rfl, Or.inr rfl, Or.inr rfl, Or.inr rfl, Or.inr rfl, Or.inl rfl, Or.inl rfl, Or.inl rfl, Or.inl rfl, trivial⟩ k
          · have k := k.2 z
            refine e_il o_57_78 rfl ?_
            refine e_go o_57_80 ?_
            obtain ⟨q, k⟩ := k
            refine e_ias (n := 32) o_57_87 (sk_35 hs) (by decide) (sn_35 hs) q ?_
            refine e_inc (ls' := [.ref 34, .null, .ref x2, .ref x3, .int x4, .int (x5 + 1), .int x6, .int ((xI h x3 (tn x6)) &&& 15), .int ((xI h x3 (tn x6)) >>> (4 &&& 31)), .null, .null]) o_57_88 rfl rfl rfl ?_
            refine e_go o_57_91 ?_
            exact Ev.less (ls := [.ref 34, .null, .ref x2, .ref x3, .int x4, .int (x5 + 1), .int x6, .null, .null, .null, .null]) ⟨Or.inr rfl, Or.inl rfl, Or.inr rfl, Or.inr rfl, Or.inr rfl, Or.inr rfl, Or.inr rfl, Or.inl rfl, Or.inl rfl, Or.inl rfl, Or.inl rfl, trivial⟩ k
        · have k := k.2 z
          refine e_c 0 o_57_65 rfl ?_
          exact e_retZ o_57_66 (by decide) k
set_option maxHeartbeats 4000000 in
theorem B_57_155 {x2 : Nat} {x3 : Nat} {x4 : Int32} {x5 : Int32} {x6 : Int32} {h : XH} {Q : Value → XH → Prop} (hs : Sh h) (rx2 : Ar h x2 20) (rx3 : Ar h x3 512) (k : Ev 57 369 [.ref 34, .null, .ref x2, .ref x3, .int x4, .int x5, .int x6, .null, .null, .null, .null] [] h Q) : Ev 57 155 [.ref 34, .null, .ref x2, .ref x3, .int x4, .int x5, .int x6, .null, .null, .null, .null] [] h Q := by
  refine e_il o_57_155 rfl ?_
  refine e_is (ls' := [.ref 34, .null, .ref x2, .ref x3, .int x4, .int x5, .int x6, .null, .null, .null, .null]) o_57_157 (by decide) rfl ?_
  refine e_go o_57_159 ?_
  exact Ev.less (ls := [.ref 34, .null, .ref x2, .ref x3, .int x4, .int x5, .int x6, .null, .null, .null, .null]) ⟨Or.inr rfl, Or.inl rfl, Or.inr rfl, Or.inr rfl, Or.inr rfl, Or.inr rfl, Or.inr rfl, Or.inl rfl, Or.inl rfl, Or.inl rfl, Or.inl rfl, trivial⟩ k
set_option maxHeartbeats 4000000 in
theorem B_57_179  {h : XH} {Q : Value → XH → Prop} (hs : Sh h) (k : Q (.int 0) h) : Ev 57 179 [.null, .null, .null, .null, .null, .null, .null, .null, .null, .null, .null] [] h Q := by
  refine e_c 0 o_57_179 rfl ?_
  exact e_retZ o_57_180 (by decide) k
set_option maxHeartbeats 4000000 in
theorem B_57_181 {x2 : Nat} {x3 : Nat} {x4 : Int32} {x5 : Int32} {x6 : Int32} {x7 : Int32} {x9 : Int32} {h : XH} {Q : Value → XH → Prop} (hs : Sh h) (rx2 : Ar h x2 20) (rx3 : Ar h x3 512) (k : InB (x5 - 1) 32 ∧ (((x7 = 2) → InB (x5 - 1) 32 ∧ (Ev 57 369 [.ref 34, .null, .ref x2, .ref x3, .int x4, .int x5, .int x6, .null, .null, .null, .null] [] (xsI h 35 (tn (x5 - 1)) ((xI h 35 (tn (x5 - 1))) + x9)) Q)) ∧ (¬ (x7 = 2) → ((x7 = 3) → InB (x5 - 1) 32 ∧ (Ev 57 369 [.ref 34, .null, .ref x2, .ref x3, .int x4, .int x5, .int x6, .null, .null, .null, .null] [] (xsI h 35 (tn (x5 - 1)) ((xI h 35 (tn (x5 - 1))) - x9)) Q)) ∧ (¬ (x7 = 3) → ((x7 = 4) → InB (x5 - 1) 32 ∧ (Ev 57 369 [.ref 34, .null, .ref x2, .ref x3, .int x4, .int x5, .int x6, .null, .null, .null, .null] [] (xsI h 35 (tn (x5 - 1)) ((xI h 35 (tn (x5 - 1))) * x9)) Q)) ∧ (¬ (x7 = 4) → ((x7 = 5) → ¬ x9 = 0 ∧ (InB (x5 - 1) 32 ∧ (Ev 57 369 [.ref 34, .null, .ref x2, .ref x3, .int x4, .int x5, .int x6, .null, .null, .null, .null] [] (xsI h 35 (tn (x5 - 1)) ((xI h 35 (tn (x5 - 1))) / x9)) Q))) ∧ (¬ (x7 = 5) → ((x7 = 6) → ((x9 ≤ (xI h 35 (tn (x5 - 1)))) → InB (x5 - 1) 32 ∧ (Ev 57 369 [.ref 34, .null, .ref x2, .ref x3, .int x4, .int x5, .int x6, .null, .null, .null, .null] [] (xsI h 35 (tn (x5 - 1)) 0) Q)) ∧ (¬ (x9 ≤ (xI h 35 (tn (x5 - 1)))) → InB (x5 - 1) 32 ∧ (Ev 57 369 [.ref 34, .null, .ref x2, .ref x3, .int x4, .int x5, .int x6, .null, .null, .null, .null] [] (xsI h 35 (tn (x5 - 1)) 1) Q))) ∧ (¬ (x7 = 6) → ((x7 = 7) → ((¬ (xI h 35 (tn (x5 - 1))) = x9) → InB (x5 - 1) 32 ∧ (Ev 57 369 [.ref 34, .null, .ref x2, .ref x3, .int x4, .int x5, .int x6, .null, .null, .null, .null] [] (xsI h 35 (tn (x5 - 1)) 0) Q)) ∧ (¬ (¬ (xI h 35 (tn (x5 - 1))) = x9) → InB (x5 - 1) 32 ∧ (Ev 57 369 [.ref 34, .null, .ref x2, .ref x3, .int x4, .int x5, .int x6, .null, .null, .null, .null] [] (xsI h 35 (tn (x5 - 1)) 1) Q))) ∧ (¬ (x7 = 7) → (((xI h 35 (tn (x5 - 1))) ≤ x9) → InB (x5 - 1) 32 ∧ (Ev 57 369 [.ref 34, .null, .ref x2, .ref x3, .int x4, .int x5, .int x6, .null, .null, .null, .null] [] (xsI h 35 (tn (x5 - 1)) 0) Q)) ∧ (¬ ((xI h 35 (tn (x5 - 1))) ≤ x9) → InB (x5 - 1) 32 ∧ (Ev 57 369 [.ref 34, .null, .ref x2, .ref x3, .int x4, .int x5, .int x6, .null, .null, .null, .null] [] (xsI h 35 (tn (x5 - 1)) 1) Q)))))))))) : Ev 57 181 [.ref 34, .null, .ref x2, .ref x3, .int x4, .int x5, .int x6, .int x7, .null, .int x9, .null] [] h Q := by
  refine e_al o_57_181 rfl ?_
  refine e_gR (r := 35) o_57_182 (sk_34 hs) (sr_34_1 hs) (by decide) ?_
  refine e_il o_57_185 rfl ?_
  refine e_c 1 o_57_187 rfl ?_
  refine e_bin o_57_188 rfl ?_
  obtain ⟨q, k⟩ := k
  refine e_ia (n := 32) o_57_189 (sk_35 hs) (sn_35 hs) q ?_
  refine e_is (ls' := [.ref 34, .null, .ref x2, .ref x3, .int x4, .int x5, .int x6, .int x7, .null, .int x9, .int (xI h 35 (tn (x5 - 1)))]) o_57_190 (by decide) rfl ?_
  refine e_il o_57_192 rfl ?_
  refine e_swc o_57_194 (by decide) ?_
  refine ⟨fun z => ?_, fun z => ?_⟩
  · have k := k.1 z
    refine e_al o_57_232 rfl ?_
    refine e_gR (r := 35) o_57_233 (sk_34 hs) (sr_34_1 hs) (by decide) ?_
    refine e_il o_57_236 rfl ?_
    refine e_c 1 o_57_238 rfl ?_
    refine e_bin o_57_239 rfl ?_
    refine e_il o_57_240 rfl ?_
    refine e_il o_57_242 rfl ?_
    refine e_bin o_57_244 rfl ?_
    obtain ⟨q, k⟩ := k
    refine e_ias (n := 32) o_57_245 (sk_35 hs) (by decide) (sn_35 hs) q ?_
    refine e_go o_57_246 ?_
    exact Ev.less (ls := [.ref 34, .null, .ref x2, .ref x3, .int x4, .int x5, .int x6, .null, .null, .null, .null]) ⟨Or.inr rfl, Or.inl rfl, Or.inr rfl, Or.inr rfl, Or.inr rfl, Or.inr rfl, Or.inr rfl, Or.inl rfl, Or.inl rfl, Or.inl rfl, Or.inl rfl, trivial⟩ k
  · have k := k.2 z
    refine ⟨fun z => ?_, fun z => ?_⟩
    · have k := k.1 z
      refine e_al o_57_249 rfl ?_
      refine e_gR (r := 35) o_57_250 (sk_34 hs) (sr_34_1 hs) (by decide) ?_
      refine e_il o_57_253 rfl ?_
      refine e_c 1 o_57_255 rfl ?_
      refine e_bin o_57_256 rfl ?_
      refine e_il o_57_257 rfl ?_
      refine e_il o_57_259 rfl ?_
      refine e_bin o_57_261 rfl ?_
      obtain ⟨q, k⟩ := k
      refine e_ias (n := 32) o_57_262 (sk_35 hs) (by decide) (sn_35 hs) q ?_
      refine e_go o_57_263 ?_
      exact Ev.less (ls := [.ref 34, .null, .ref x2, .ref x3, .int x4, .int x5, .int x6, .null, .null, .null, .null]) ⟨Or.inr rfl, Or.inl rfl, Or.inr rfl, Or.inr rfl, Or.inr rfl, Or.inr rfl, Or.inr rfl, Or.inl rfl, Or.inl rfl, Or.inl rfl, Or.inl rfl, trivial⟩ k
    · have k := k.2 z
      refine ⟨fun z => ?_, fun z => ?_⟩
      · have k := k.1 z
        refine e_al o_57_266 rfl ?_
        refine e_gR (r := 35) o_57_267 (sk_34 hs) (sr_34_1 hs) (by decide) ?_
        refine e_il o_57_270 rfl ?_
        refine e_c 1 o_57_272 rfl ?_
        refine e_bin o_57_273 rfl ?_
        refine e_il o_57_274 rfl ?_
        refine e_il o_57_276 rfl ?_
        refine e_bin o_57_278 rfl ?_
        obtain ⟨q, k⟩ := k
        refine e_ias (n := 32) o_57_279 (sk_35 hs) (by decide) (sn_35 hs) q ?_
        refine e_go o_57_280 ?_
        exact Ev.less (ls := [.ref 34, .null, .ref x2, .ref x3, .int x4, .int x5, .int x6, .null, .null, .null, .null]) ⟨Or.inr rfl, Or.inl rfl, Or.inr rfl, Or.inr rfl, Or.inr rfl, Or.inr rfl, Or.inr rfl, Or.inl rfl, Or.inl rfl, Or.inl rfl, Or.inl rfl, trivial⟩ k
      · have k := k.2 z
        refine ⟨fun z => ?_, fun z => ?_⟩
        · have k := k.1 z
          refine e_al o_57_283 rfl ?_
          refine e_gR (r := 35) o_57_284 (sk_34 hs) (sr_34_1 hs) (by decide) ?_
          refine e_il o_57_287 rfl ?_
          refine e_c 1 o_57_289 rfl ?_
          refine e_bin o_57_290 rfl ?_
          refine e_il o_57_291 rfl ?_
          refine e_il o_57_293 rfl ?_
          obtain ⟨q, k⟩ := k
          refine e_div o_57_295 q ?_
          obtain ⟨q, k⟩ := k
          refine e_ias (n := 32) o_57_296 (sk_35 hs) (by decide) (sn_35 hs) q ?_
          refine e_go o_57_297 ?_
          exact Ev.less (ls := [.ref 34, .null, .ref x2, .ref x3, .int x4, .int x5, .int x6, .null, .null, .null, .null]) ⟨Or.inr rfl, Or.inl rfl, Or.inr rfl, Or.inr rfl, Or.inr rfl, Or.inr rfl, Or.inr rfl, Or.inl rfl, Or.inl rfl, Or.inl rfl, Or.inl rfl, trivial⟩ k
        · have k := k.2 z
          refine ⟨fun z => ?_, fun z => ?_⟩
          · have k := k.1 z
            refine e_al o_57_300 rfl ?_
            refine e_gR (r := 35) o_57_301 (sk_34 hs) (sr_34_1 hs) (by decide) ?_
            refine e_il o_57_304 rfl ?_
            refine e_c 1 o_57_306 rfl ?_
            refine e_bin o_57_307 rfl ?_
            refine e_il o_57_308 rfl ?_
            refine e_il o_57_310 rfl ?_
            refine e_if (P := x9 ≤ (xI h 35 (tn (x5 - 1)))) o_57_312 rfl (fun z => ?_) (fun z => ?_)
            · have k := k.1 z
              refine e_c 0 o_57_319 rfl ?_
              obtain ⟨q, k⟩ := k
              refine e_ias (n := 32) o_57_320 (sk_35 hs) (by decide) (sn_35 hs) q ?_
              refine e_go o_57_321 ?_
              exact Ev.less (ls := [.ref 34, .null, .ref x2, .ref x3, .int x4, .int x5, .int x6, .null, .null, .null, .null]) ⟨Or.inr rfl, Or.inl rfl, Or.inr rfl, Or.inr rfl, Or.inr rfl, Or.inr rfl, Or.inr rfl, Or.inl rfl, Or.inl rfl, Or.inl rfl, Or.inl rfl, trivial⟩ k
            · have k := k.2 z
              refine e_c 1 o_57_315 rfl ?_
              refine e_go o_57_316 ?_
              obtain ⟨q, k⟩ := k
              refine e_ias (n := 32) o_57_320 (sk_35 hs) (by decide) (sn_35 hs) q ?_
              refine e_go o_57_321 ?_
              exact Ev.less (ls := [.ref 34, .null, .ref x2, .ref x3, .int x4, .int x5, .int x6, .null, .null, .null, .null]) ⟨Or.inr rfl, Or.inl rfl, Or.inr rfl, Or.inr rfl, Or.inr rfl, Or.inr rfl, Or.inr rfl, Or.inl rfl, Or.inl rfl, Or.inl rfl, Or.inl rfl, trivial⟩ k
          · have k := k.2 z
            refine ⟨fun z => ?_, fun z => ?_⟩
            · have k := k.1 z
              refine e_al o_57_324 rfl ?_
              refine e_gR (r := 35) o_57_325 (sk_34 hs) (sr_34_1 hs) (by decide) ?_
              refine e_il o_57_328 rfl ?_
              refine e_c 1 o_57_330 rfl ?_
              refine e_bin o_57_331 rfl ?_
              refine e_il o_57_332 rfl ?_
              refine e_il o_57_334 rfl ?_
              refine e_if (P := ¬ (xI h 35 (tn (x5 - 1))) = x9) o_57_336 rfl (fun z => ?_) (fun z => ?_)
              · have k := k.1 z
                refine e_c 0 o_57_343 rfl ?_
                obtain ⟨q, k⟩ := k
                refine e_ias (n := 32) o_57_344 (sk_35 hs) (by decide) (sn_35 hs) q ?_
                refine e_go o_57_345 ?_
                exact Ev.less (ls := [.ref 34, .null, .ref x2, .ref x3, .int x4, .int x5, .int x6, .null, .null, .null, .null]) ⟨Or.inr rfl, Or.inl rfl, Or.inr rfl, Or.inr rfl, Or.inr rfl, Or.inr rfl, Or.inr rfl, Or.inl rfl, Or.inl rfl, Or.inl rfl, Or.inl rfl, trivial⟩ k
              · have k := k.2 z
                refine e_c 1 o_57_339 rfl ?_
                refine e_go o_57_340 ?_
                obtain ⟨q, k⟩ := k
                refine e_ias (n := 32) o_57_344 (sk_35 hs) (by decide) (sn_35 hs) q ?_
                refine e_go o_57_345 ?_
                exact Ev.less (ls := [.ref 34, .null, .ref x2, .ref x3, .int x4, .int x5, .int x6, .null, .null, .null, .null]) ⟨Or.inr rfl, Or.inl rfl, Or.inr rfl, Or.inr rfl, Or.inr rfl, Or.inr rfl, Or.inr rfl, Or.inl rfl, Or.inl rfl, Or.inl rfl, Or.inl rfl, trivial⟩ k
            · have k := k.2 z
              refine e_al o_57_348 rfl ?_
              refine e_gR (r := 35) o_57_349 (sk_34 hs) (sr_34_1 hs) (by decide) ?_
              refine e_il o_57_352 rfl ?_
              refine e_c 1 o_57_354 rfl ?_
              refine e_bin o_57_355 rfl ?_
              refine e_il o_57_356 rfl ?_
              refine e_il o_57_358 rfl ?_
              refine e_if (P := (xI h 35 (tn (x5 - 1))) ≤ x9) o_57_360 rfl (fun z => ?_) (fun z => ?_)
              · have k := k.1 z
                refine e_c 0 o_57_367 rfl ?_
                obtain ⟨q, k⟩ := k
                refine e_ias (n := 32) o_57_368 (sk_35 hs) (by decide) (sn_35 hs) q ?_
                exact Ev.less (ls := [.ref 34, .null, .ref x2, .ref x3, .int x4, .int x5, .int x6, .null, .null, .null, .null]) ⟨Or.inr rfl, Or.inl rfl, Or.inr rfl, Or.inr rfl, Or.inr rfl, Or.inr rfl, Or.inr rfl, Or.inl rfl, Or.inl rfl, Or.inl rfl, Or.inl rfl, trivial⟩ k
              · have k := k.2 z
                refine e_c 1 o_57_363 rfl ?_
                refine e_go o_57_364 ?_
                obtain ⟨q, k⟩ := k
                refine e_ias (n := 32) o_57_368 (sk_35 hs) (by decide) (sn_35 hs) q ?_
                exact Ev.less (ls := [.ref 34, .null, .ref x2, .ref x3, .int x4, .int x5, .int x6, .null, .null, .null, .null]) ⟨Or.inr rfl, Or.inl rfl, Or.inr rfl, Or.inr rfl, Or.inr rfl, Or.inr rfl, Or.inr rfl, Or.inl rfl, Or.inl rfl, Or.inl rfl, Or.inl rfl, trivial⟩ k
set_option maxHeartbeats 4000000 in
theorem B_57_369 {x2 : Nat} {x3 : Nat} {x4 : Int32} {x5 : Int32} {x6 : Int32} {h : XH} {Q : Value → XH → Prop} (hs : Sh h) (rx2 : Ar h x2 20) (rx3 : Ar h x3 512) (k : Ev 57 23 [.ref 34, .null, .ref x2, .ref x3, .int x4, .int x5, .int (x6 + 1), .null, .null, .null, .null] [] h Q) : Ev 57 369 [.ref 34, .null, .ref x2, .ref x3, .int x4, .int x5, .int x6, .null, .null, .null, .null] [] h Q := by
  refine e_inc (ls' := [.ref 34, .null, .ref x2, .ref x3, .int x4, .int x5, .int (x6 + 1), .null, .null, .null, .null]) o_57_369 rfl rfl rfl ?_
  refine e_go o_57_372 ?_
  exact Ev.less (ls := [.ref 34, .null, .ref x2, .ref x3, .int x4, .int x5, .int (x6 + 1), .null, .null, .null, .null]) ⟨Or.inr rfl, Or.inl rfl, Or.inr rfl, Or.inr rfl, Or.inr rfl, Or.inr rfl, Or.inr rfl, Or.inl rfl, Or.inl rfl, Or.inl rfl, Or.inl rfl, trivial⟩ k
set_option maxHeartbeats 4000000 in
theorem B_57_375  {h : XH} {Q : Value → XH → Prop} (hs : Sh h) (k : Q (.int 0) h) : Ev 57 375 [.null, .null, .null, .null, .null, .null, .null, .null, .null, .null, .null] [] h Q := by
  refine e_c 0 o_57_375 rfl ?_
  exact e_retZ o_57_376 (by decide) k
set_option maxHeartbeats 4000000 in
theorem B_60_0 {x1 : Int32} {x2 : Int32} {h : XH} {Q : Value → XH → Prop} (hs : Sh h) (k : InB x1 6 ∧ (InB x1 6 ∧ ((((xI h ((xR h 34 0) + 5) (tn x1)) = 0) → ((¬ x2 = (xI h ((xR h 34 0) + 6) (tn x1))) → Q (.int 0) h) ∧ (¬ (¬ x2 = (xI h ((xR h 34 0) + 6) (tn x1))) → Q (.int 4) h)) ∧ (¬ ((xI h ((xR h 34 0) + 5) (tn x1)) = 0) → (((xI h ((xR h 34 0) + 5) (tn x1)) = 1) → ((x2 ≤ 0) → Q (.int 0) h) ∧ (¬ (x2 ≤ 0) → Q (.int 4) h)) ∧ (¬ ((xI h ((xR h 34 0) + 5) (tn x1)) = 1) → (((xI h ((xR h 34 0) + 6) (tn x1)) ≤ 0) → Q (.int 0) h) ∧ (¬ ((xI h ((xR h 34 0) + 6) (tn x1)) ≤ 0) → ¬ (xI h ((xR h 34 0) + 6) (tn x1)) = 0 ∧ (Q (.int ((4 * x2) / (xI h ((xR h 34 0) + 6) (tn x1)))) h))))))) : Ev 60 0 (x_ini 60 [.ref 34, .int x1, .int x2]) [] h Q := by
  rw [show x_ini 60 [.ref 34, .int x1, .int x2] = [.ref 34, .int x1, .int x2, .null] from x_inid ml_60 rfl]
  refine e_al o_60_0 rfl ?_
  refine e_gR (r := (xR h 34 0)) o_60_1 (sk_34 hs) (rfl) (by rcases (ss_p hs) with q | q <;> omega) ?_
  refine e_gR (r := ((xR h 34 0) + 6)) o_60_4 (sc_k hs (ss_p hs)) (sc_r14 hs (ss_p hs)) (by omega) ?_
  refine e_il o_60_7 rfl ?_
  obtain ⟨q, k⟩ := k
  refine e_ia (n := 6) o_60_8 ((sc_a6 hs (ss_p hs)).1) ((sc_a6 hs (ss_p hs)).2.1) q ?_
  refine e_is (ls' := [.ref 34, .int x1, .int x2, .int (xI h ((xR h 34 0) + 6) (tn x1))]) o_60_9 (by decide) rfl ?_
  refine e_al o_60_10 rfl ?_
  refine e_gR (r := (xR h 34 0)) o_60_11 (sk_34 hs) (rfl) (by rcases (ss_p hs) with q | q <;> omega) ?_
  refine e_gR (r := ((xR h 34 0) + 5)) o_60_14 (sc_k hs (ss_p hs)) (sc_r13 hs (ss_p hs)) (by omega) ?_
  refine e_il o_60_17 rfl ?_
  obtain ⟨q, k⟩ := k
  refine e_ia (n := 6) o_60_18 ((sc_a5 hs (ss_p hs)).1) ((sc_a5 hs (ss_p hs)).2.1) q ?_
  refine e_swc o_60_19 (by decide) ?_
  refine ⟨fun z => ?_, fun z => ?_⟩
  · have k := k.1 z
    refine e_il o_60_44 rfl ?_
    refine e_il o_60_45 rfl ?_
    refine e_if (P := ¬ x2 = (xI h ((xR h 34 0) + 6) (tn x1))) o_60_46 rfl (fun z => ?_) (fun z => ?_)
    · have k := k.1 z
      refine e_c 0 o_60_53 rfl ?_
      exact e_retI o_60_54 k
    · have k := k.2 z
      refine e_c 4 o_60_49 rfl ?_
      refine e_go o_60_50 ?_
      exact e_retI o_60_54 k
  · have k := k.2 z
    refine ⟨fun z => ?_, fun z => ?_⟩
    · have k := k.1 z
      refine e_il o_60_55 rfl ?_
      refine e_if0 (P := x2 ≤ 0) o_60_56 rfl (fun z => ?_) (fun z => ?_)
      · have k := k.1 z
        refine e_c 0 o_60_63 rfl ?_
        exact e_retI o_60_64 k
      · have k := k.2 z
        refine e_c 4 o_60_59 rfl ?_
        refine e_go o_60_60 ?_
        exact e_retI o_60_64 k
    · have k := k.2 z
      refine e_il o_60_65 rfl ?_
      refine e_if0 (P := (xI h ((xR h 34 0) + 6) (tn x1)) ≤ 0) o_60_66 rfl (fun z => ?_) (fun z => ?_)
      · have k := k.1 z
        refine e_c 0 o_60_77 rfl ?_
        exact e_retI o_60_78 k
      · have k := k.2 z
        refine e_c 4 o_60_69 rfl ?_
        refine e_il o_60_70 rfl ?_
        refine e_bin o_60_71 rfl ?_
        refine e_il o_60_72 rfl ?_
        obtain ⟨q, k⟩ := k
        refine e_div o_60_73 q ?_
        refine e_go o_60_74 ?_
        exact e_retI o_60_78 k
set_option maxHeartbeats 4000000 in
theorem B_69_0 {x1 : Int32} {h : XH} {Q : Value → XH → Prop} (hs : Sh h) (k : ClI 70 [.ref 4, .int x1] h (fun v2 h1 => Sh h1 ∧ (((v2 = 0) → Q (.int (-1)) h1) ∧ (¬ (v2 = 0) → InB x1 20 ∧ (Q (.int (xI h1 39 (tn x1))) h1))))) : Ev 69 0 (x_ini 69 [.ref 4, .int x1]) [] h Q := by
  rw [show x_ini 69 [.ref 4, .int x1] = [.ref 4, .int x1] from x_inid ml_69 rfl]
  refine e_al o_69_0 rfl ?_
  refine e_il o_69_1 rfl ?_
  refine e_clI (as := [.ref 4, .int x1]) (rest := []) o_69_2 rfl rfl (x_okd cl_69_70 ml_70 (Nat.le_of_ble_eq_true rfl) (Nat.le_of_ble_eq_true rfl)) (x_rc0 (sk_4 hs) mo_70) k ?_
  rintro v2 h1 ⟨sh1, k⟩
  refine e_if0 (P := v2 = 0) o_69_5 rfl (fun z => ?_) (fun z => ?_)
  · have k := k.1 z
    refine e_c (-1) o_69_17 rfl ?_
    exact e_retI o_69_18 k
  · have k := k.2 z
    refine e_al o_69_8 rfl ?_
    refine e_gR (r := 39) o_69_9 (sk_4 sh1) (sr_4_7 sh1) (by decide) ?_
    refine e_il o_69_12 rfl ?_
    obtain ⟨q, k⟩ := k
    refine e_ia (n := 20) o_69_13 (sk_39 sh1) (sn_39 sh1) q ?_
    refine e_go o_69_14 ?_
    exact e_retI o_69_18 k
set_option maxHeartbeats 4000000 in
theorem B_72_0 {x1 : Int32} {h : XH} {Q : Value → XH → Prop} (hs : Sh h) (k : ((x1 < 0) → Q (.int 0) h) ∧ (¬ (x1 < 0) → (((xI h (xR h 34 0) 1) ≤ x1) → Q (.int 0) h) ∧ (¬ ((xI h (xR h 34 0) 1) ≤ x1) → Q (.int 1) h))) : Ev 72 0 (x_ini 72 [.ref 4, .int x1]) [] h Q := by
  rw [show x_ini 72 [.ref 4, .int x1] = [.ref 4, .int x1] from x_inid ml_72 rfl]
  refine e_il o_72_0 rfl ?_
  refine e_if0 (P := x1 < 0) o_72_1 rfl (fun z => ?_) (fun z => ?_)
  · have k := k.1 z
    refine e_c 0 o_72_19 rfl ?_
    exact e_retZ o_72_20 (by decide) k
  · have k := k.2 z
    refine e_il o_72_4 rfl ?_
    refine e_al o_72_5 rfl ?_
    refine e_gR (r := (xR h 34 0)) o_72_6 (sk_4 hs) (ss_e hs) (by rcases (ss_p hs) with q | q <;> omega) ?_
    refine e_gI o_72_9 (sc_k hs (ss_p hs)) ?_
    refine e_if (P := (xI h (xR h 34 0) 1) ≤ x1) o_72_12 rfl (fun z => ?_) (fun z => ?_)
    · have k := k.1 z
      refine e_c 0 o_72_19 rfl ?_
      exact e_retZ o_72_20 (by decide) k
    · have k := k.2 z
      refine e_c 1 o_72_15 rfl ?_
      refine e_go o_72_16 ?_
      exact e_retZ o_72_20 (by decide) k
set_option maxHeartbeats 4000000 in
theorem B_76_0 {x1 : Int32} {h : XH} {Q : Value → XH → Prop} (hs : Sh h) (k : ((x1 = 0) → InB 17 20 ∧ (Q (.int (xI h 39 (tn 17))) h)) ∧ (¬ (x1 = 0) → ((x1 = 1) → InB 18 20 ∧ (Q (.int (xI h 39 (tn 18))) h)) ∧ (¬ (x1 = 1) → ((x1 = 2) → InB 19 20 ∧ (Q (.int (xI h 39 (tn 19))) h)) ∧ (¬ (x1 = 2) → Q (.int (-1)) h)))) : Ev 76 0 (x_ini 76 [.ref 4, .int x1]) [] h Q := by
  rw [show x_ini 76 [.ref 4, .int x1] = [.ref 4, .int x1] from x_inid ml_76 rfl]
  refine e_il o_76_0 rfl ?_
  refine e_swc o_76_1 (by decide) ?_
  refine ⟨fun z => ?_, fun z => ?_⟩
  · have k := k.1 z
    refine e_al o_76_28 rfl ?_
    refine e_gR (r := 39) o_76_29 (sk_4 hs) (sr_4_7 hs) (by decide) ?_
    refine e_c 17 o_76_32 rfl ?_
    obtain ⟨q, k⟩ := k
    refine e_ia (n := 20) o_76_34 (sk_39 hs) (sn_39 hs) q ?_
    exact e_retI o_76_35 k
  · have k := k.2 z
    refine ⟨fun z => ?_, fun z => ?_⟩
    · have k := k.1 z
      refine e_al o_76_36 rfl ?_
      refine e_gR (r := 39) o_76_37 (sk_4 hs) (sr_4_7 hs) (by decide) ?_
      refine e_c 18 o_76_40 rfl ?_
      obtain ⟨q, k⟩ := k
      refine e_ia (n := 20) o_76_42 (sk_39 hs) (sn_39 hs) q ?_
      exact e_retI o_76_43 k
    · have k := k.2 z
      refine ⟨fun z => ?_, fun z => ?_⟩
      · have k := k.1 z
        refine e_al o_76_44 rfl ?_
        refine e_gR (r := 39) o_76_45 (sk_4 hs) (sr_4_7 hs) (by decide) ?_
        refine e_c 19 o_76_48 rfl ?_
        obtain ⟨q, k⟩ := k
        refine e_ia (n := 20) o_76_50 (sk_39 hs) (sn_39 hs) q ?_
        exact e_retI o_76_51 k
      · have k := k.2 z
        refine e_c (-1) o_76_52 rfl ?_
        exact e_retI o_76_53 k
set_option maxHeartbeats 4000000 in
theorem B_78_0  {h : XH} {Q : Value → XH → Prop} (hs : Sh h) (k : (39 ≠ 41 ∧ ¬ 0 < 0 ∧ ¬ ((xI h 40 1) * 20) < 0 ∧ ¬ 20 < 0 ∧ tn 0 + tn 20 ≤ 20 ∧ tn ((xI h 40 1) * 20) + tn 20 ≤ 1000) ∧ (Q .null (xsI (xsI (xsA h 41 (va_cpy (xI h 39) (xI h 41) (tn 0) (tn ((xI h 40 1) * 20)) (tn 20))) 40 1 (((xI (xsA h 41 (va_cpy (xI h 39) (xI h 41) (tn 0) (tn ((xI h 40 1) * 20)) (tn 20))) 40 1) + 1) - ((xI (xsA h 41 (va_cpy (xI h 39) (xI h 41) (tn 0) (tn ((xI h 40 1) * 20)) (tn 20))) 40 1) + 1) / 50 * 50)) 40 0 (if 50 < ((xI (xsI (xsA h 41 (va_cpy (xI h 39) (xI h 41) (tn 0) (tn ((xI h 40 1) * 20)) (tn 20))) 40 1 (((xI (xsA h 41 (va_cpy (xI h 39) (xI h 41) (tn 0) (tn ((xI h 40 1) * 20)) (tn 20))) 40 1) + 1) - ((xI (xsA h 41 (va_cpy (xI h 39) (xI h 41) (tn 0) (tn ((xI h 40 1) * 20)) (tn 20))) 40 1) + 1) / 50 * 50)) 40 0) + 1) then 50 else ((xI (xsI (xsA h 41 (va_cpy (xI h 39) (xI h 41) (tn 0) (tn ((xI h 40 1) * 20)) (tn 20))) 40 1 (((xI (xsA h 41 (va_cpy (xI h 39) (xI h 41) (tn 0) (tn ((xI h 40 1) * 20)) (tn 20))) 40 1) + 1) - ((xI (xsA h 41 (va_cpy (xI h 39) (xI h 41) (tn 0) (tn ((xI h 40 1) * 20)) (tn 20))) 40 1) + 1) / 50 * 50)) 40 0) + 1))))) : Ev 78 0 (x_ini 78 [.ref 40, .ref 39]) [] h Q := by
  rw [show x_ini 78 [.ref 40, .ref 39] = [.ref 40, .ref 39] from x_inid ml_78 rfl]
  refine e_al o_78_0 rfl ?_
  refine e_c 0 o_78_1 rfl ?_
  refine e_al o_78_2 rfl ?_
  refine e_gR (r := 41) o_78_3 (sk_40 hs) (sr_40_2 hs) (by decide) ?_
  refine e_al o_78_6 rfl ?_
  refine e_gI o_78_7 (sk_40 hs) ?_
  refine e_c 20 o_78_10 rfl ?_
  refine e_bin o_78_12 rfl ?_
  refine e_c 20 o_78_13 rfl ?_
  obtain ⟨q, k⟩ := k
  refine e_cp (ns := 20) (nd := 1000) o_78_15 ⟨sk_39 hs, sk_41 hs, by decide, by decide, q.1⟩ (sn_39 hs) (sn_41 hs) q.2 (Nat.le_of_ble_eq_true rfl) ?_
  refine e_al o_78_18 rfl ?_
  refine e_al o_78_19 rfl ?_
  refine e_gI o_78_20 (sk_40 hs) ?_
  refine e_c 1 o_78_23 rfl ?_
  refine e_bin o_78_24 rfl ?_
  refine e_c 50 o_78_25 rfl ?_
  refine e_rem o_78_27 (by decide) ?_
  refine e_pI o_78_28 (sk_40 hs) ?_
  refine e_al o_78_31 rfl ?_
  refine e_al o_78_32 rfl ?_
  refine e_gI o_78_33 (sk_40 hs) ?_
  refine e_c 1 o_78_36 rfl ?_
  refine e_bin o_78_37 rfl ?_
  refine e_c 50 o_78_38 rfl ?_
  refine e_min o_78_40 (Nat.le_of_ble_eq_true rfl) ?_
  refine e_pI o_78_43 (sk_40 hs) ?_
  exact e_ret0 o_78_46 k
