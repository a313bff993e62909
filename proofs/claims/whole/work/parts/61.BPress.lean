set_option maxHeartbeats 4000000 in
set_option maxRecDepth 100000 in
theorem B_22_0 {x0 : Nat} {h : XH} {Q : Value → XH → Prop} (hs : Sh h) (hx0 : x0 = 14 ∨ x0 = 24) (k : ClV 23 [.ref (x0 + 6), .int 0] (xsI (xsI (xsI (xsI (xsI (xsI (xsI (xsI (xsI h x0 0 0) x0 1 0) x0 2 0) x0 3 0) x0 4 0) x0 5 0) x0 6 1) x0 7 0) x0 8 1) (fun h1 => Sh h1 ∧ (ClV 23 [.ref (x0 + 7), .int 0] h1 (fun h3 => Sh h3 ∧ (ClV 23 [.ref (x0 + 4), .int (-1)] h3 (fun h5 => Sh h5 ∧ (Q .null h5))))))) : Ev 22 0 (x_ini 22 [.ref x0]) [] h Q := by
  rw [show x_ini 22 [.ref x0] = [.ref x0] from x_inid ml_22 rfl]
  refine e_al o_22_0 rfl ?_
  refine e_c 0 o_22_1 rfl ?_
  refine e_pI o_22_2 (sc_k (h := h) hs hx0) ?_
  refine e_al o_22_5 rfl ?_
  refine e_c 0 o_22_6 rfl ?_
  refine e_pI o_22_7 (sc_k (h := h) hs hx0) ?_
  refine e_al o_22_10 rfl ?_
  refine e_c 0 o_22_11 rfl ?_
  refine e_pI o_22_12 (sc_k (h := h) hs hx0) ?_
  refine e_al o_22_15 rfl ?_
  refine e_c 0 o_22_16 rfl ?_
  refine e_pI o_22_17 (sc_k (h := h) hs hx0) ?_
  refine e_al o_22_20 rfl ?_
  refine e_c 0 o_22_21 rfl ?_
  refine e_pI o_22_22 (sc_k (h := h) hs hx0) ?_
  refine e_al o_22_25 rfl ?_
  refine e_c 0 o_22_26 rfl ?_
  refine e_pI o_22_27 (sc_k (h := h) hs hx0) ?_
  refine e_al o_22_30 rfl ?_
  refine e_c 1 o_22_31 rfl ?_
  refine e_pI o_22_32 (sc_k (h := h) hs hx0) ?_
  refine e_al o_22_35 rfl ?_
  refine e_c 0 o_22_36 rfl ?_
  refine e_pI o_22_37 (sc_k (h := h) hs hx0) ?_
  refine e_al o_22_40 rfl ?_
  refine e_c 1 o_22_41 rfl ?_
  refine e_pZ o_22_42 (sc_k (h := h) hs hx0) (by decide) ?_
  refine e_al o_22_45 rfl ?_
  refine e_gR (r := (x0 + 6)) o_22_46 (sc_k (h := h) hs hx0) (sc_r14 (h := h) hs hx0) (by omega) ?_
  refine e_c 0 o_22_49 rfl ?_
  refine e_clV (as := [.ref (x0 + 6), .int 0]) (rest := []) o_22_50 rfl rfl (x_okd cl_22_23 ml_23 (Nat.le_of_ble_eq_true rfl) (Nat.le_of_ble_eq_true rfl)) (rfl) k ?_
  rintro h1 ⟨sh1, k⟩
  refine e_al o_22_53 rfl ?_
  refine e_gR (r := (x0 + 7)) o_22_54 (sc_k (h := h1) sh1 hx0) (sc_r15 (h := h1) sh1 hx0) (by omega) ?_
  refine e_c 0 o_22_57 rfl ?_
  refine e_clV (as := [.ref (x0 + 7), .int 0]) (rest := []) o_22_58 rfl rfl (x_okd cl_22_23 ml_23 (Nat.le_of_ble_eq_true rfl) (Nat.le_of_ble_eq_true rfl)) (rfl) k ?_
  rintro h3 ⟨sh3, k⟩
  refine e_al o_22_61 rfl ?_
  refine e_gR (r := (x0 + 4)) o_22_62 (sc_k (h := h3) sh3 hx0) (sc_r12 (h := h3) sh3 hx0) (by omega) ?_
  refine e_c (-1) o_22_65 rfl ?_
  refine e_clV (as := [.ref (x0 + 4), .int (-1)]) (rest := []) o_22_66 rfl rfl (x_okd cl_22_23 ml_23 (Nat.le_of_ble_eq_true rfl) (Nat.le_of_ble_eq_true rfl)) (rfl) k ?_
  rintro h5 ⟨sh5, k⟩
  exact e_ret0 o_22_69 k
set_option maxHeartbeats 4000000 in
set_option maxRecDepth 100000 in
theorem B_51_0 {x0 : Nat} {h : XH} {Q : Value → XH → Prop} (hs : Sh h) (hx0 : x0 = 14 ∨ x0 = 24) (k : ClI 52 [.ref x0, .ref (x0 + 2)] h (fun v2 h1 => Sh h1 ∧ (Q (.int v2) h1))) : Ev 51 0 (x_ini 51 [.ref x0]) [] h Q := by
  rw [show x_ini 51 [.ref x0] = [.ref x0] from x_inid ml_51 rfl]
  refine e_al o_51_0 rfl ?_
  refine e_al o_51_1 rfl ?_
  refine e_gR (r := (x0 + 2)) o_51_2 (sc_k (h := h) hs hx0) (sc_r10 (h := h) hs hx0) (by omega) ?_
  refine e_clI (as := [.ref x0, .ref (x0 + 2)]) (rest := []) o_51_5 rfl rfl (x_okd cl_51_52 ml_52 (Nat.le_of_ble_eq_true rfl) (Nat.le_of_ble_eq_true rfl)) (x_rc0 (ci := 5) (sc_k (h := h) hs hx0) mo_52) k ?_
  rintro v2 h1 ⟨sh1, k⟩
  exact e_retI o_51_8 k
set_option maxHeartbeats 4000000 in
set_option maxRecDepth 100000 in
theorem B_52_0 {x0 : Nat} {x1 : Nat} {nr : Nat} {h : XH} {Q : Value → XH → Prop} (hs : Sh h) (hx0 : x0 = 14 ∨ x0 = 24) (rx1 : Ar h x1 nr) (k : Ev 52 4 [.ref x0, .ref x1, .int 0, .int 0] [] h Q) : Ev 52 0 (x_ini 52 [.ref x0, .ref x1]) [] h Q := by
  rw [show x_ini 52 [.ref x0, .ref x1] = [.ref x0, .ref x1, .null, .null] from x_inid ml_52 rfl]
  refine e_c 0 o_52_0 rfl ?_
  refine e_is (ls' := [.ref x0, .ref x1, .int 0, .null]) o_52_1 (Nat.le_of_ble_eq_true rfl) rfl ?_
  refine e_c 0 o_52_2 rfl ?_
  refine e_is (ls' := [.ref x0, .ref x1, .int 0, .int 0]) o_52_3 (Nat.le_of_ble_eq_true rfl) rfl ?_
  exact Ev.less (ls := [.ref x0, .ref x1, .int 0, .int 0]) ⟨Or.inr rfl, Or.inr rfl, Or.inr rfl, Or.inr rfl, trivial⟩ k
set_option maxHeartbeats 4000000 in
set_option maxRecDepth 100000 in
theorem B_52_4 {x0 : Nat} {x1 : Nat} {x2 : Int32} {x3 : Int32} {nr : Nat} {h : XH} {Q : Value → XH → Prop} (hs : Sh h) (hx0 : x0 = 14 ∨ x0 = 24) (rx1 : Ar h x1 nr) (k : (((xI h x0 0) ≤ x3) → Q (.int x2) h) ∧ (¬ ((xI h x0 0) ≤ x3) → InB x3 nr ∧ (InB x3 8 ∧ (Ev 52 4 [.ref x0, .ref x1, .int (x2 + ((xI h x1 (tn x3)) * (xI h (x0 + 3) (tn x3)))), .int (x3 + 1)] [] h Q)))) : Ev 52 4 [.ref x0, .ref x1, .int x2, .int x3] [] h Q := by
  refine e_il o_52_4 rfl ?_
  refine e_al o_52_5 rfl ?_
  refine e_gI o_52_6 (sc_k (h := h) hs hx0) ?_
  refine e_if_3 o_52_9 (fun z => ?_) (fun z => ?_)
  · have k := k.1 z
    refine e_il o_52_31 rfl ?_
    exact e_retI o_52_32 k
  · have k := k.2 z
    refine e_il o_52_12 rfl ?_
    refine e_al o_52_13 rfl ?_
    refine e_il o_52_14 rfl ?_
    obtain ⟨q, k⟩ := k
    refine e_ia (n := nr) o_52_15 ((rx1).1) ((rx1).2.1) q ?_
    refine e_al o_52_16 rfl ?_
    refine e_gR (r := (x0 + 3)) o_52_17 (sc_k (h := h) hs hx0) (sc_r11 (h := h) hs hx0) (by omega) ?_
    refine e_il o_52_20 rfl ?_
    obtain ⟨q, k⟩ := k
    refine e_ia (n := 8) o_52_21 ((sc_a3 (h := h) hs hx0).1) ((sc_a3 (h := h) hs hx0).2.1) q ?_
    refine e_bin o_52_22 rfl ?_
    refine e_bin o_52_23 rfl ?_
    refine e_is (ls' := [.ref x0, .ref x1, .int (x2 + ((xI h x1 (tn x3)) * (xI h (x0 + 3) (tn x3)))), .int x3]) o_52_24 (Nat.le_of_ble_eq_true rfl) rfl ?_
    refine e_inc (ls' := [.ref x0, .ref x1, .int (x2 + ((xI h x1 (tn x3)) * (xI h (x0 + 3) (tn x3)))), .int (x3 + 1)]) o_52_25 rfl rfl rfl ?_
    refine e_go o_52_28 ?_
    exact Ev.less (ls := [.ref x0, .ref x1, .int (x2 + ((xI h x1 (tn x3)) * (xI h (x0 + 3) (tn x3)))), .int (x3 + 1)]) ⟨Or.inr rfl, Or.inr rfl, Or.inr rfl, Or.inr rfl, trivial⟩ k
set_option maxHeartbeats 4000000 in
set_option maxRecDepth 100000 in
theorem B_53_0 {x1 : Nat} {x2 : Int32} {h : XH} {Q : Value → XH → Prop} (hs : Sh h) (rx1 : Ar h x1 20) (k : ClV 23 [.ref x1, .int 0] h (fun h1 => Sh h1 ∧ Ar h1 x1 20 ∧ (ClV 54 [.ref (xR h1 34 0), .ref x1, .int x2] h1 (fun h3 => Sh h3 ∧ Ar h3 x1 20 ∧ (ClV 55 [.ref 34, .ref x1] h3 (fun h5 => Sh h5 ∧ Ar h5 x1 20 ∧ (Q .null h5))))))) : Ev 53 0 (x_ini 53 [.ref 34, .ref x1, .int x2]) [] h Q := by
  rw [show x_ini 53 [.ref 34, .ref x1, .int x2] = [.ref 34, .ref x1, .int x2] from x_inid ml_53 rfl]
  refine e_al o_53_0 rfl ?_
  refine e_c 0 o_53_1 rfl ?_
  refine e_clV (as := [.ref x1, .int 0]) (rest := []) o_53_2 rfl rfl (x_okd cl_53_23 ml_23 (Nat.le_of_ble_eq_true rfl) (Nat.le_of_ble_eq_true rfl)) (rfl) k ?_
  rintro h1 ⟨sh1, r_x1_h1, k⟩
  refine e_al o_53_5 rfl ?_
  refine e_gR (r := (xR h1 34 0)) o_53_6 (sk_34 (h := h1) sh1) (rfl) (by rcases (ss_p sh1) with q | q <;> omega) ?_
  refine e_al o_53_9 rfl ?_
  refine e_il o_53_10 rfl ?_
  refine e_clV (as := [.ref (xR h1 34 0), .ref x1, .int x2]) (rest := []) o_53_11 rfl rfl (x_okd cl_53_54 ml_54 (Nat.le_of_ble_eq_true rfl) (Nat.le_of_ble_eq_true rfl)) (x_rc0 (ci := 5) (sc_k (h := h1) sh1 (ss_p sh1)) mo_54) k ?_
  rintro h3 ⟨sh3, r_x1_h3, k⟩
  refine e_al o_53_14 rfl ?_
  refine e_al o_53_15 rfl ?_
  refine e_clV (as := [.ref 34, .ref x1]) (rest := []) o_53_16 rfl rfl (x_okd cl_53_55 ml_55 (Nat.le_of_ble_eq_true rfl) (Nat.le_of_ble_eq_true rfl)) (x_rc0 (ci := 3) (sk_34 (h := h3) sh3) mo_55) k ?_
  rintro h5 ⟨sh5, r_x1_h5, k⟩
  exact e_ret0 o_53_19 k
set_option maxHeartbeats 4000000 in
set_option maxRecDepth 100000 in
theorem B_54_0 {x0 : Nat} {x1 : Nat} {x2 : Int32} {nr : Nat} {h : XH} {Q : Value → XH → Prop} (hs : Sh h) (hx0 : x0 = 14 ∨ x0 = 24) (rx1 : Ar h x1 nr) (k : Ev 54 5 [.ref x0, .ref x1, .null, .int x2, .int 0, .null] [] h Q) : Ev 54 0 (x_ini 54 [.ref x0, .ref x1, .int x2]) [] h Q := by
  rw [show x_ini 54 [.ref x0, .ref x1, .int x2] = [.ref x0, .ref x1, .int x2, .null, .null, .null] from x_inid ml_54 rfl]
  refine e_il o_54_0 rfl ?_
  refine e_is (ls' := [.ref x0, .ref x1, .int x2, .int x2, .null, .null]) o_54_1 (Nat.le_of_ble_eq_true rfl) rfl ?_
  refine e_c 0 o_54_2 rfl ?_
  refine e_is (ls' := [.ref x0, .ref x1, .int x2, .int x2, .int 0, .null]) o_54_3 (Nat.le_of_ble_eq_true rfl) rfl ?_
  exact Ev.less (ls := [.ref x0, .ref x1, .null, .int x2, .int 0, .null]) ⟨Or.inr rfl, Or.inr rfl, Or.inl rfl, Or.inr rfl, Or.inr rfl, Or.inl rfl, trivial⟩ k
set_option maxHeartbeats 4000000 in
set_option maxRecDepth 100000 in
theorem B_54_5 {x0 : Nat} {x1 : Nat} {x3 : Int32} {x4 : Int32} {nr : Nat} {h : XH} {Q : Value → XH → Prop} (hs : Sh h) (hx0 : x0 = 14 ∨ x0 = 24) (rx1 : Ar h x1 nr) (k : (((xI h x0 0) ≤ x4) → Q .null h) ∧ (¬ ((xI h x0 0) ≤ x4) → InB x4 8 ∧ (¬ ((xI h (x0 + 1) (tn x4)) + 1) = 0 ∧ (InB x4 nr ∧ (¬ ((xI h (x0 + 1) (tn x4)) + 1) = 0 ∧ (Ev 54 5 [.ref x0, .ref x1, .null, .int (x3 / ((xI h (x0 + 1) (tn x4)) + 1)), .int (x4 + 1), .null] [] (xsI h x1 (tn x4) (x3 - x3 / ((xI h (x0 + 1) (tn x4)) + 1) * ((xI h (x0 + 1) (tn x4)) + 1))) Q)))))) : Ev 54 5 [.ref x0, .ref x1, .null, .int x3, .int x4, .null] [] h Q := by
  refine e_il o_54_5 rfl ?_
  refine e_al o_54_7 rfl ?_
  refine e_gI o_54_8 (sc_k (h := h) hs hx0) ?_
  refine e_if_3 o_54_11 (fun z => ?_) (fun z => ?_)
  · have k := k.1 z
    exact e_ret0 o_54_44 k
  · have k := k.2 z
    refine e_al o_54_14 rfl ?_
    refine e_gR (r := (x0 + 1)) o_54_15 (sc_k (h := h) hs hx0) (sc_r9 (h := h) hs hx0) (by omega) ?_
    refine e_il o_54_18 rfl ?_
    obtain ⟨q, k⟩ := k
    refine e_ia (n := 8) o_54_20 ((sc_a1 (h := h) hs hx0).1) ((sc_a1 (h := h) hs hx0).2.1) q ?_
    refine e_c 1 o_54_21 rfl ?_
    refine e_bin o_54_22 rfl ?_
    refine e_is (ls' := [.ref x0, .ref x1, .null, .int x3, .int x4, .int ((xI h (x0 + 1) (tn x4)) + 1)]) o_54_23 (Nat.le_of_ble_eq_true rfl) rfl ?_
    refine e_al o_54_25 rfl ?_
    refine e_il o_54_26 rfl ?_
    refine e_il o_54_28 rfl ?_
    refine e_il o_54_29 rfl ?_
    obtain ⟨q, k⟩ := k
    refine e_rem o_54_31 q ?_
    obtain ⟨q, k⟩ := k
    refine e_ias (n := nr) o_54_32 ((rx1).1) ((rx1).2.2) ((rx1).2.1) q ?_
    refine e_il o_54_33 rfl ?_
    refine e_il o_54_34 rfl ?_
    obtain ⟨q, k⟩ := k
    refine e_div o_54_36 q ?_
    refine e_is (ls' := [.ref x0, .ref x1, .null, .int (x3 / ((xI h (x0 + 1) (tn x4)) + 1)), .int x4, .int ((xI h (x0 + 1) (tn x4)) + 1)]) o_54_37 (Nat.le_of_ble_eq_true rfl) rfl ?_
    refine e_inc (ls' := [.ref x0, .ref x1, .null, .int (x3 / ((xI h (x0 + 1) (tn x4)) + 1)), .int (x4 + 1), .int ((xI h (x0 + 1) (tn x4)) + 1)]) o_54_38 rfl rfl rfl ?_
    refine e_go o_54_41 ?_
    exact Ev.less (ls := [.ref x0, .ref x1, .null, .int (x3 / ((xI h (x0 + 1) (tn x4)) + 1)), .int (x4 + 1), .null]) ⟨Or.inr rfl, Or.inr rfl, Or.inl rfl, Or.inr rfl, Or.inr rfl, Or.inl rfl, trivial⟩ k
set_option maxHeartbeats 4000000 in
set_option maxRecDepth 100000 in
theorem B_55_0 {x1 : Nat} {h : XH} {Q : Value → XH → Prop} (hs : Sh h) (rx1 : Ar h x1 20) (k : ClV 56 [.ref 34, .ref x1] h (fun h1 => Sh h1 ∧ Ar h1 x1 20 ∧ (ClI 58 [.ref x1] h1 (fun v4 h3 => Sh h3 ∧ Ar h3 x1 20 ∧ (InB 0 301 ∧ (Ev 55 17 [.ref 34, .ref x1, .int 1, .null, .null] [] (xsI h3 36 (tn 0) v4) Q)))))) : Ev 55 0 (x_ini 55 [.ref 34, .ref x1]) [] h Q := by
  rw [show x_ini 55 [.ref 34, .ref x1] = [.ref 34, .ref x1, .null, .null, .null] from x_inid ml_55 rfl]
  refine e_al o_55_0 rfl ?_
  refine e_al o_55_1 rfl ?_
  refine e_clV (as := [.ref 34, .ref x1]) (rest := []) o_55_2 rfl rfl (x_okd cl_55_56 ml_56 (Nat.le_of_ble_eq_true rfl) (Nat.le_of_ble_eq_true rfl)) (x_rc0 (ci := 3) (sk_34 (h := h) hs) mo_56) k ?_
  rintro h1 ⟨sh1, r_x1_h1, k⟩
  refine e_al o_55_5 rfl ?_
  refine e_gR (r := 36) o_55_6 (sk_34 (h := h1) sh1) (sr_34_2 (h := h1) sh1) (by decide) ?_
  refine e_c 0 o_55_9 rfl ?_
  refine e_al o_55_10 rfl ?_
  refine e_clI (as := [.ref x1]) (rest := [.int 0, .ref 36]) o_55_11 rfl rfl (x_okd cl_55_58 ml_58 (Nat.le_of_ble_eq_true rfl) (Nat.le_of_ble_eq_true rfl)) (rfl) k ?_
  rintro v4 h3 ⟨sh3, r_x1_h3, k⟩
  obtain ⟨q, k⟩ := k
  refine e_ias (n := 301) o_55_14 (sk_36 (h := h3) sh3) (by decide) (sn_36 (h := h3) sh3) q ?_
  refine e_c 1 o_55_15 rfl ?_
  refine e_is (ls' := [.ref 34, .ref x1, .int 1, .null, .null]) o_55_16 (Nat.le_of_ble_eq_true rfl) rfl ?_
  exact Ev.less (ls := [.ref 34, .ref x1, .int 1, .null, .null]) ⟨Or.inr rfl, Or.inr rfl, Or.inr rfl, Or.inl rfl, Or.inl rfl, trivial⟩ k
set_option maxHeartbeats 4000000 in
set_option maxRecDepth 100000 in
theorem B_55_17 {x1 : Nat} {x2 : Int32} {h : XH} {Q : Value → XH → Prop} (hs : Sh h) (rx1 : Ar h x1 20) (k : ((300 < x2) → ClV 61 [.ref x1, .int 2, .int 300, .int 0, .int 0] h (fun h1 => Sh h1 ∧ Ar h1 x1 20 ∧ (Q .null h1))) ∧ (¬ (300 < x2) → Ev 55 37 [.ref 34, .ref x1, .int x2, .int 0, .int ((xI h (xR h 34 0) 1) - 1)] [] h Q)) : Ev 55 17 [.ref 34, .ref x1, .int x2, .null, .null] [] h Q := by
  refine e_il o_55_17 rfl ?_
  refine e_c 300 o_55_18 rfl ?_
  refine e_if_4 o_55_21 (fun z => ?_) (fun z => ?_)
  · have k := k.1 z
    refine e_al o_55_146 rfl ?_
    refine e_c 2 o_55_147 rfl ?_
    refine e_c 300 o_55_148 rfl ?_
    refine e_c 0 o_55_151 rfl ?_
    refine e_c 0 o_55_152 rfl ?_
    refine e_clV (as := [.ref x1, .int 2, .int 300, .int 0, .int 0]) (rest := []) o_55_153 rfl rfl (x_okd cl_55_61 ml_61 (Nat.le_of_ble_eq_true rfl) (Nat.le_of_ble_eq_true rfl)) (rfl) k ?_
    rintro h1 ⟨sh1, r_x1_h1, k⟩
    exact e_ret0 o_55_156 k
  · have k := k.2 z
    refine e_c 0 o_55_24 rfl ?_
    refine e_is (ls' := [.ref 34, .ref x1, .int x2, .int 0, .null]) o_55_25 (Nat.le_of_ble_eq_true rfl) rfl ?_
    refine e_al o_55_26 rfl ?_
    refine e_gR (r := (xR h 34 0)) o_55_27 (sk_34 (h := h) hs) (rfl) (by rcases (ss_p hs) with q | q <;> omega) ?_
    refine e_gI o_55_30 (sc_k (h := h) hs (ss_p hs)) ?_
    refine e_c 1 o_55_33 rfl ?_
    refine e_bin o_55_34 rfl ?_
    refine e_is (ls' := [.ref 34, .ref x1, .int x2, .int 0, .int ((xI h (xR h 34 0) 1) - 1)]) o_55_35 (Nat.le_of_ble_eq_true rfl) rfl ?_
    exact Ev.less (ls := [.ref 34, .ref x1, .int x2, .int 0, .int ((xI h (xR h 34 0) 1) - 1)]) ⟨Or.inr rfl, Or.inr rfl, Or.inr rfl, Or.inr rfl, Or.inr rfl, trivial⟩ k
set_option maxHeartbeats 4000000 in
set_option maxRecDepth 100000 in
theorem B_55_37 {x1 : Nat} {x2 : Int32} {x3 : Int32} {x4 : Int32} {h : XH} {Q : Value → XH → Prop} (hs : Sh h) (rx1 : Ar h x1 20) (k : ((x4 < 0) → InB (x2 - 1) 301 ∧ (((¬ x3 = (xI h 36 (tn (x2 - 1)))) → ClV 62 [.ref x1, .int x3] h (fun h1 => Sh h1 ∧ Ar h1 x1 20 ∧ (Ev 55 93 [.ref 34, .ref x1, .int x2, .int x3, .int (x2 - 2)] [] h1 Q))) ∧ (¬ (¬ x3 = (xI h 36 (tn (x2 - 1)))) → ClV 61 [.ref x1, .int 0, .int (x2 - 1), .int 0, .int 0] h (fun h3 => Sh h3 ∧ Ar h3 x1 20 ∧ (Q .null h3))))) ∧ (¬ (x4 < 0) → ClI 59 [.ref 34, .int x4, .ref x1] h (fun v6 h5 => Sh h5 ∧ Ar h5 x1 20 ∧ (Ev 55 37 [.ref 34, .ref x1, .int x2, .int ((x3 * 5) + v6), .int (x4 + (-1))] [] h5 Q)))) : Ev 55 37 [.ref 34, .ref x1, .int x2, .int x3, .int x4] [] h Q := by
  refine e_il o_55_37 rfl ?_
  refine e_i0_2 o_55_39 (fun z => ?_) (fun z => ?_)
  · have k := k.1 z
    refine e_il o_55_60 rfl ?_
    refine e_al o_55_61 rfl ?_
    refine e_gR (r := 36) o_55_62 (sk_34 (h := h) hs) (sr_34_2 (h := h) hs) (by decide) ?_
    refine e_il o_55_65 rfl ?_
    refine e_c 1 o_55_66 rfl ?_
    refine e_bin o_55_67 rfl ?_
    obtain ⟨q, k⟩ := k
    refine e_ia (n := 301) o_55_68 (sk_36 (h := h) hs) (sn_36 (h := h) hs) q ?_
    refine e_if_1 o_55_69 (fun z => ?_) (fun z => ?_)
    · have k := k.1 z
      refine e_al o_55_83 rfl ?_
      refine e_il o_55_84 rfl ?_
      refine e_clV (as := [.ref x1, .int x3]) (rest := []) o_55_85 rfl rfl (x_okd cl_55_62 ml_62 (Nat.le_of_ble_eq_true rfl) (Nat.le_of_ble_eq_true rfl)) (rfl) k ?_
      rintro h1 ⟨sh1, r_x1_h1, k⟩
      refine e_il o_55_88 rfl ?_
      refine e_c 2 o_55_89 rfl ?_
      refine e_bin o_55_90 rfl ?_
      refine e_is (ls' := [.ref 34, .ref x1, .int x2, .int x3, .int (x2 - 2)]) o_55_91 (Nat.le_of_ble_eq_true rfl) rfl ?_
      exact Ev.less (ls := [.ref 34, .ref x1, .int x2, .int x3, .int (x2 - 2)]) ⟨Or.inr rfl, Or.inr rfl, Or.inr rfl, Or.inr rfl, Or.inr rfl, trivial⟩ k
    · have k := k.2 z
      refine e_al o_55_72 rfl ?_
      refine e_c 0 o_55_73 rfl ?_
      refine e_il o_55_74 rfl ?_
      refine e_c 1 o_55_75 rfl ?_
      refine e_bin o_55_76 rfl ?_
      refine e_c 0 o_55_77 rfl ?_
      refine e_c 0 o_55_78 rfl ?_
      refine e_clV (as := [.ref x1, .int 0, .int (x2 - 1), .int 0, .int 0]) (rest := []) o_55_79 rfl rfl (x_okd cl_55_61 ml_61 (Nat.le_of_ble_eq_true rfl) (Nat.le_of_ble_eq_true rfl)) (rfl) k ?_
      rintro h3 ⟨sh3, r_x1_h3, k⟩
      exact e_ret0 o_55_82 k
  · have k := k.2 z
    refine e_il o_55_42 rfl ?_
    refine e_c 5 o_55_43 rfl ?_
    refine e_bin o_55_44 rfl ?_
    refine e_al o_55_45 rfl ?_
    refine e_il o_55_46 rfl ?_
    refine e_al o_55_48 rfl ?_
    refine e_clI (as := [.ref 34, .int x4, .ref x1]) (rest := [.int (x3 * 5)]) o_55_49 rfl rfl (x_okd cl_55_59 ml_59 (Nat.le_of_ble_eq_true rfl) (Nat.le_of_ble_eq_true rfl)) (x_rc0 (ci := 3) (sk_34 (h := h) hs) mo_59) k ?_
    rintro v6 h5 ⟨sh5, r_x1_h5, k⟩
    refine e_bin o_55_52 rfl ?_
    refine e_is (ls' := [.ref 34, .ref x1, .int x2, .int ((x3 * 5) + v6), .int x4]) o_55_53 (Nat.le_of_ble_eq_true rfl) rfl ?_
    refine e_inc (ls' := [.ref 34, .ref x1, .int x2, .int ((x3 * 5) + v6), .int (x4 + (-1))]) o_55_54 rfl rfl rfl ?_
    refine e_go o_55_57 ?_
    exact Ev.less (ls := [.ref 34, .ref x1, .int x2, .int ((x3 * 5) + v6), .int (x4 + (-1))]) ⟨Or.inr rfl, Or.inr rfl, Or.inr rfl, Or.inr rfl, Or.inr rfl, trivial⟩ k
set_option maxHeartbeats 4000000 in
set_option maxRecDepth 100000 in
theorem B_55_93 {x1 : Nat} {x2 : Int32} {x3 : Int32} {x4 : Int32} {h : XH} {Q : Value → XH → Prop} (hs : Sh h) (rx1 : Ar h x1 20) (k : ((x4 < 0) → InB x2 301 ∧ (Ev 55 17 [.ref 34, .ref x1, .int (x2 + 1), .null, .null] [] (xsI h 36 (tn x2) x3) Q)) ∧ (¬ (x4 < 0) → InB x4 301 ∧ (((¬ (xI h 36 (tn x4)) = x3) → Ev 55 93 [.ref 34, .ref x1, .int x2, .int x3, .int (x4 + (-1))] [] h Q) ∧ (¬ (¬ (xI h 36 (tn x4)) = x3) → ClI 63 [.ref 34, .int x4, .int x2] h (fun v2 h1 => Sh h1 ∧ Ar h1 x1 20 ∧ (ClV 61 [.ref x1, .int 1, .int x2, .int (x2 - x4), .int v2] h1 (fun h3 => Sh h3 ∧ Ar h3 x1 20 ∧ (Q .null h3)))))))) : Ev 55 93 [.ref 34, .ref x1, .int x2, .int x3, .int x4] [] h Q := by
  refine e_il o_55_93 rfl ?_
  refine e_i0_2 o_55_95 (fun z => ?_) (fun z => ?_)
  · have k := k.1 z
    refine e_al o_55_133 rfl ?_
    refine e_gR (r := 36) o_55_134 (sk_34 (h := h) hs) (sr_34_2 (h := h) hs) (by decide) ?_
    refine e_il o_55_137 rfl ?_
    refine e_il o_55_138 rfl ?_
    obtain ⟨q, k⟩ := k
    refine e_ias (n := 301) o_55_139 (sk_36 (h := h) hs) (by decide) (sn_36 (h := h) hs) q ?_
    refine e_inc (ls' := [.ref 34, .ref x1, .int (x2 + 1), .int x3, .int x4]) o_55_140 rfl rfl rfl ?_
    refine e_go o_55_143 ?_
    exact Ev.less (ls := [.ref 34, .ref x1, .int (x2 + 1), .null, .null]) ⟨Or.inr rfl, Or.inr rfl, Or.inr rfl, Or.inl rfl, Or.inl rfl, trivial⟩ k
  · have k := k.2 z
    refine e_al o_55_98 rfl ?_
    refine e_gR (r := 36) o_55_99 (sk_34 (h := h) hs) (sr_34_2 (h := h) hs) (by decide) ?_
    refine e_il o_55_102 rfl ?_
    obtain ⟨q, k⟩ := k
    refine e_ia (n := 301) o_55_104 (sk_36 (h := h) hs) (sn_36 (h := h) hs) q ?_
    refine e_il o_55_105 rfl ?_
    refine e_if_1 o_55_106 (fun z => ?_) (fun z => ?_)
    · have k := k.1 z
      refine e_inc (ls' := [.ref 34, .ref x1, .int x2, .int x3, .int (x4 + (-1))]) o_55_127 rfl rfl rfl ?_
      refine e_go o_55_130 ?_
      exact Ev.less (ls := [.ref 34, .ref x1, .int x2, .int x3, .int (x4 + (-1))]) ⟨Or.inr rfl, Or.inr rfl, Or.inr rfl, Or.inr rfl, Or.inr rfl, trivial⟩ k
    · have k := k.2 z
      refine e_al o_55_109 rfl ?_
      refine e_c 1 o_55_110 rfl ?_
      refine e_il o_55_111 rfl ?_
      refine e_il o_55_112 rfl ?_
      refine e_il o_55_113 rfl ?_
      refine e_bin o_55_115 rfl ?_
      refine e_al o_55_116 rfl ?_
      refine e_il o_55_117 rfl ?_
      refine e_il o_55_119 rfl ?_
      refine e_clI (as := [.ref 34, .int x4, .int x2]) (rest := [.int (x2 - x4), .int x2, .int 1, .ref x1]) o_55_120 rfl rfl (x_okd cl_55_63 ml_63 (Nat.le_of_ble_eq_true rfl) (Nat.le_of_ble_eq_true rfl)) (x_rc0 (ci := 3) (sk_34 (h := h) hs) mo_63) k ?_
      rintro v2 h1 ⟨sh1, r_x1_h1, k⟩
      refine e_clV (as := [.ref x1, .int 1, .int x2, .int (x2 - x4), .int v2]) (rest := []) o_55_123 rfl rfl (x_okd cl_55_61 ml_61 (Nat.le_of_ble_eq_true rfl) (Nat.le_of_ble_eq_true rfl)) (rfl) k ?_
      rintro h3 ⟨sh3, r_x1_h3, k⟩
      exact e_ret0 o_55_126 k
set_option maxHeartbeats 4000000 in
set_option maxRecDepth 100000 in
theorem B_56_0 {x1 : Nat} {h : XH} {Q : Value → XH → Prop} (hs : Sh h) (rx1 : Ar h x1 20) (k : Ev 56 2 [.ref 34, .ref x1, .int 0, .null, .null] [] h Q) : Ev 56 0 (x_ini 56 [.ref 34, .ref x1]) [] h Q := by
  rw [show x_ini 56 [.ref 34, .ref x1] = [.ref 34, .ref x1, .null, .null, .null] from x_inid ml_56 rfl]
  refine e_c 0 o_56_0 rfl ?_
  refine e_is (ls' := [.ref 34, .ref x1, .int 0, .null, .null]) o_56_1 (Nat.le_of_ble_eq_true rfl) rfl ?_
  exact Ev.less (ls := [.ref 34, .ref x1, .int 0, .null, .null]) ⟨Or.inr rfl, Or.inr rfl, Or.inr rfl, Or.inl rfl, Or.inl rfl, trivial⟩ k
set_option maxHeartbeats 4000000 in
set_option maxRecDepth 100000 in
theorem B_56_2 {x1 : Nat} {x2 : Int32} {h : XH} {Q : Value → XH → Prop} (hs : Sh h) (rx1 : Ar h x1 20) (k : (((xI h (xR h 34 0) 1) ≤ x2) → Q .null h) ∧ (¬ ((xI h (xR h 34 0) 1) ≤ x2) → InB x2 6 ∧ (Ev 56 22 [.ref 34, .ref x1, .int x2, .int 0, .null] [] (xsI h 38 (tn x2) 0) Q))) : Ev 56 2 [.ref 34, .ref x1, .int x2, .null, .null] [] h Q := by
  refine e_il o_56_2 rfl ?_
  refine e_al o_56_3 rfl ?_
  refine e_gR (r := (xR h 34 0)) o_56_4 (sk_34 (h := h) hs) (rfl) (by rcases (ss_p hs) with q | q <;> omega) ?_
  refine e_gI o_56_7 (sc_k (h := h) hs (ss_p hs)) ?_
  refine e_if_3 o_56_10 (fun z => ?_) (fun z => ?_)
  · have k := k.1 z
    exact e_ret0 o_56_114 k
  · have k := k.2 z
    refine e_al o_56_13 rfl ?_
    refine e_gR (r := 38) o_56_14 (sk_34 (h := h) hs) (sr_34_4 (h := h) hs) (by decide) ?_
    refine e_il o_56_17 rfl ?_
    refine e_c 0 o_56_18 rfl ?_
    obtain ⟨q, k⟩ := k
    refine e_ias (n := 6) o_56_19 (sk_38 (h := h) hs) (by decide) (sn_38 (h := h) hs) q ?_
    refine e_c 0 o_56_20 rfl ?_
    refine e_is (ls' := [.ref 34, .ref x1, .int x2, .int 0, .null]) o_56_21 (Nat.le_of_ble_eq_true rfl) rfl ?_
    exact Ev.less (ls := [.ref 34, .ref x1, .int x2, .int 0, .null]) ⟨Or.inr rfl, Or.inr rfl, Or.inr rfl, Or.inr rfl, Or.inl rfl, trivial⟩ k
set_option maxHeartbeats 4000000 in
set_option maxRecDepth 100000 in
theorem B_56_22 {x1 : Nat} {x2 : Int32} {x3 : Int32} {h : XH} {Q : Value → XH → Prop} (hs : Sh h) (rx1 : Ar h x1 20) (k : InB x2 6 ∧ ((((xI h ((xR h 34 0) + 6) (tn x2)) ≤ x3) → Ev 56 2 [.ref 34, .ref x1, .int (x2 + 1), .null, .null] [] h Q) ∧ (¬ ((xI h ((xR h 34 0) + 6) (tn x2)) ≤ x3) → InB x2 6 ∧ (((¬ (((xI h ((xR h 34 0) + 7) (tn x2)) >>> (x3 &&& 31)) &&& 1) = (0 : Int32)) → (((0 : Int32) = 0) → Ev 56 22 [.ref 34, .ref x1, .int x2, .int (x3 + 1), .null] [] h Q) ∧ (¬ ((0 : Int32) = 0) → InB ((x2 * 6) + x3) 36 ∧ (ClI 57 [.ref 34, .int (xI h ((xR h 34 0) + 8) (tn ((x2 * 6) + x3))), .ref x1] h (fun v2 h1 => Sh h1 ∧ Ar h1 x1 20 ∧ (((v2 = 0) → Ev 56 22 [.ref 34, .ref x1, .int x2, .int (x3 + 1), .null] [] h1 Q) ∧ (¬ (v2 = 0) → (((xI h1 34 5) = 0) → Ev 56 22 [.ref 34, .ref x1, .int x2, .int (x3 + 1), .null] [] h1 Q) ∧ (¬ ((xI h1 34 5) = 0) → InB x2 6 ∧ (InB x2 6 ∧ (Ev 56 22 [.ref 34, .ref x1, .int x2, .int (x3 + 1), .null] [] (xsI h1 38 (tn x2) ((xI h1 38 (tn x2)) + 1)) Q))))))))) ∧ (¬ (¬ (((xI h ((xR h 34 0) + 7) (tn x2)) >>> (x3 &&& 31)) &&& 1) = (0 : Int32)) → (((1 : Int32) = 0) → Ev 56 22 [.ref 34, .ref x1, .int x2, .int (x3 + 1), .null] [] h Q) ∧ (¬ ((1 : Int32) = 0) → InB ((x2 * 6) + x3) 36 ∧ (ClI 57 [.ref 34, .int (xI h ((xR h 34 0) + 8) (tn ((x2 * 6) + x3))), .ref x1] h (fun v4 h3 => Sh h3 ∧ Ar h3 x1 20 ∧ (((v4 = 0) → Ev 56 22 [.ref 34, .ref x1, .int x2, .int (x3 + 1), .null] [] h3 Q) ∧ (¬ (v4 = 0) → (((xI h3 34 5) = 0) → Ev 56 22 [.ref 34, .ref x1, .int x2, .int (x3 + 1), .null] [] h3 Q) ∧ (¬ ((xI h3 34 5) = 0) → InB x2 6 ∧ (InB x2 6 ∧ (Ev 56 22 [.ref 34, .ref x1, .int x2, .int (x3 + 1), .null] [] (xsI h3 38 (tn x2) ((xI h3 38 (tn x2)) + 1)) Q))))))))))))) : Ev 56 22 [.ref 34, .ref x1, .int x2, .int x3, .null] [] h Q := by
  refine e_il o_56_22 rfl ?_
  refine e_al o_56_23 rfl ?_
  refine e_gR (r := (xR h 34 0)) o_56_24 (sk_34 (h := h) hs) (rfl) (by rcases (ss_p hs) with q | q <;> omega) ?_
  refine e_gR (r := ((xR h 34 0) + 6)) o_56_27 (sc_k (h := h) hs (ss_p hs)) (sc_r14 (h := h) hs (ss_p hs)) (by omega) ?_
  refine e_il o_56_30 rfl ?_
  obtain ⟨q, k⟩ := k
  refine e_ia (n := 6) o_56_31 ((sc_a6 (h := h) hs (ss_p hs)).1) ((sc_a6 (h := h) hs (ss_p hs)).2.1) q ?_
  refine e_if_3 o_56_32 (fun z => ?_) (fun z => ?_)
  · have k := k.1 z
    refine e_inc (ls' := [.ref 34, .ref x1, .int (x2 + 1), .int x3, .null]) o_56_108 rfl rfl rfl ?_
    refine e_go o_56_111 ?_
    exact Ev.less (ls := [.ref 34, .ref x1, .int (x2 + 1), .null, .null]) ⟨Or.inr rfl, Or.inr rfl, Or.inr rfl, Or.inl rfl, Or.inl rfl, trivial⟩ k
  · have k := k.2 z
    refine e_al o_56_35 rfl ?_
    refine e_gR (r := (xR h 34 0)) o_56_36 (sk_34 (h := h) hs) (rfl) (by rcases (ss_p hs) with q | q <;> omega) ?_
    refine e_gR (r := ((xR h 34 0) + 7)) o_56_39 (sc_k (h := h) hs (ss_p hs)) (sc_r15 (h := h) hs (ss_p hs)) (by omega) ?_
    refine e_il o_56_42 rfl ?_
    obtain ⟨q, k⟩ := k
    refine e_ia (n := 6) o_56_43 ((sc_a7 (h := h) hs (ss_p hs)).1) ((sc_a7 (h := h) hs (ss_p hs)).2.1) q ?_
    refine e_il o_56_44 rfl ?_
    refine e_bin o_56_45 rfl ?_
    refine e_c 1 o_56_46 rfl ?_
    refine e_bin o_56_47 rfl ?_
    refine e_i0_1 o_56_48 (fun z => ?_) (fun z => ?_)
    · have k := k.1 z
      refine e_c 0 o_56_55 rfl ?_
      refine e_is (ls' := [.ref 34, .ref x1, .int x2, .int x3, .int 0]) o_56_56 (Nat.le_of_ble_eq_true rfl) rfl ?_
      refine e_il o_56_58 rfl ?_
      refine e_i0_0 o_56_60 (fun z => ?_) (fun z => ?_)
      · have k := k.1 z
        refine e_inc (ls' := [.ref 34, .ref x1, .int x2, .int (x3 + 1), .int 0]) o_56_102 rfl rfl rfl ?_
        refine e_go o_56_105 ?_
        exact Ev.less (ls := [.ref 34, .ref x1, .int x2, .int (x3 + 1), .null]) ⟨Or.inr rfl, Or.inr rfl, Or.inr rfl, Or.inr rfl, Or.inl rfl, trivial⟩ k
      · have k := k.2 z
        refine e_al o_56_63 rfl ?_
        refine e_al o_56_64 rfl ?_
        refine e_gR (r := (xR h 34 0)) o_56_65 (sk_34 (h := h) hs) (rfl) (by rcases (ss_p hs) with q | q <;> omega) ?_
        refine e_gR (r := ((xR h 34 0) + 8)) o_56_68 (sc_k (h := h) hs (ss_p hs)) (sc_r16 (h := h) hs (ss_p hs)) (by omega) ?_
        refine e_il o_56_71 rfl ?_
        refine e_c 6 o_56_72 rfl ?_
        refine e_bin o_56_74 rfl ?_
        refine e_il o_56_75 rfl ?_
        refine e_bin o_56_76 rfl ?_
        obtain ⟨q, k⟩ := k
        refine e_ia (n := 36) o_56_77 ((sc_a8 (h := h) hs (ss_p hs)).1) ((sc_a8 (h := h) hs (ss_p hs)).2.1) q ?_
        refine e_al o_56_78 rfl ?_
        refine e_clI (as := [.ref 34, .int (xI h ((xR h 34 0) + 8) (tn ((x2 * 6) + x3))), .ref x1]) (rest := []) o_56_79 rfl rfl (x_okd cl_56_57 ml_57 (Nat.le_of_ble_eq_true rfl) (Nat.le_of_ble_eq_true rfl)) (x_rc0 (ci := 3) (sk_34 (h := h) hs) mo_57) k ?_
        rintro v2 h1 ⟨sh1, r_x1_h1, k⟩
        refine e_i0_0 o_56_82 (fun z => ?_) (fun z => ?_)
        · have k := k.1 z
          refine e_inc (ls' := [.ref 34, .ref x1, .int x2, .int (x3 + 1), .int 0]) o_56_102 rfl rfl rfl ?_
          refine e_go o_56_105 ?_
          exact Ev.less (ls := [.ref 34, .ref x1, .int x2, .int (x3 + 1), .null]) ⟨Or.inr rfl, Or.inr rfl, Or.inr rfl, Or.inr rfl, Or.inl rfl, trivial⟩ k
        · have k := k.2 z
          refine e_al o_56_85 rfl ?_
          refine e_gI o_56_86 (sk_34 (h := h1) sh1) ?_
          refine e_i0_0 o_56_89 (fun z => ?_) (fun z => ?_)
          · have k := k.1 z
            refine e_inc (ls' := [.ref 34, .ref x1, .int x2, .int (x3 + 1), .int 0]) o_56_102 rfl rfl rfl ?_
            refine e_go o_56_105 ?_
            exact Ev.less (ls := [.ref 34, .ref x1, .int x2, .int (x3 + 1), .null]) ⟨Or.inr rfl, Or.inr rfl, Or.inr rfl, Or.inr rfl, Or.inl rfl, trivial⟩ k
          · have k := k.2 z
            refine e_al o_56_92 rfl ?_
            refine e_gR (r := 38) o_56_93 (sk_34 (h := h1) sh1) (sr_34_4 (h := h1) sh1) (by decide) ?_
            refine e_il o_56_96 rfl ?_
            refine e_dup2 o_56_97 ⟨rfl, rfl⟩ ?_
            obtain ⟨q, k⟩ := k
            refine e_ia (n := 6) o_56_98 (sk_38 (h := h1) sh1) (sn_38 (h := h1) sh1) q ?_
            refine e_c 1 o_56_99 rfl ?_
            refine e_bin o_56_100 rfl ?_
            obtain ⟨q, k⟩ := k
            refine e_ias (n := 6) o_56_101 (sk_38 (h := h1) sh1) (by decide) (sn_38 (h := h1) sh1) q ?_
            refine e_inc (ls' := [.ref 34, .ref x1, .int x2, .int (x3 + 1), .int 0]) o_56_102 rfl rfl rfl ?_
            refine e_go o_56_105 ?_
            exact Ev.less (ls := [.ref 34, .ref x1, .int x2, .int (x3 + 1), .null]) ⟨Or.inr rfl, Or.inr rfl, Or.inr rfl, Or.inr rfl, Or.inl rfl, trivial⟩ k
    · have k := k.2 z
      refine e_c 1 o_56_51 rfl ?_
      refine e_go o_56_52 ?_
      refine e_is (ls' := [.ref 34, .ref x1, .int x2, .int x3, .int 1]) o_56_56 (Nat.le_of_ble_eq_true rfl) rfl ?_
      refine e_il o_56_58 rfl ?_
      refine e_i0_0 o_56_60 (fun z => ?_) (fun z => ?_)
      · have k := k.1 z
        refine e_inc (ls' := [.ref 34, .ref x1, .int x2, .int (x3 + 1), .int 1]) o_56_102 rfl rfl rfl ?_
        refine e_go o_56_105 ?_
        exact Ev.less (ls := [.ref 34, .ref x1, .int x2, .int (x3 + 1), .null]) ⟨Or.inr rfl, Or.inr rfl, Or.inr rfl, Or.inr rfl, Or.inl rfl, trivial⟩ k
      · have k := k.2 z
        refine e_al o_56_63 rfl ?_
        refine e_al o_56_64 rfl ?_
        refine e_gR (r := (xR h 34 0)) o_56_65 (sk_34 (h := h) hs) (rfl) (by rcases (ss_p hs) with q | q <;> omega) ?_
        refine e_gR (r := ((xR h 34 0) + 8)) o_56_68 (sc_k (h := h) hs (ss_p hs)) (sc_r16 (h := h) hs (ss_p hs)) (by omega) ?_
        refine e_il o_56_71 rfl ?_
        refine e_c 6 o_56_72 rfl ?_
        refine e_bin o_56_74 rfl ?_
        refine e_il o_56_75 rfl ?_
        refine e_bin o_56_76 rfl ?_
        obtain ⟨q, k⟩ := k
        refine e_ia (n := 36) o_56_77 ((sc_a8 (h := h) hs (ss_p hs)).1) ((sc_a8 (h := h) hs (ss_p hs)).2.1) q ?_
        refine e_al o_56_78 rfl ?_
        refine e_clI (as := [.ref 34, .int (xI h ((xR h 34 0) + 8) (tn ((x2 * 6) + x3))), .ref x1]) (rest := []) o_56_79 rfl rfl (x_okd cl_56_57 ml_57 (Nat.le_of_ble_eq_true rfl) (Nat.le_of_ble_eq_true rfl)) (x_rc0 (ci := 3) (sk_34 (h := h) hs) mo_57) k ?_
        rintro v4 h3 ⟨sh3, r_x1_h3, k⟩
        refine e_i0_0 o_56_82 (fun z => ?_) (fun z => ?_)
        · have k := k.1 z
          refine e_inc (ls' := [.ref 34, .ref x1, .int x2, .int (x3 + 1), .int 1]) o_56_102 rfl rfl rfl ?_
          refine e_go o_56_105 ?_
          exact Ev.less (ls := [.ref 34, .ref x1, .int x2, .int (x3 + 1), .null]) ⟨Or.inr rfl, Or.inr rfl, Or.inr rfl, Or.inr rfl, Or.inl rfl, trivial⟩ k
        · have k := k.2 z
          refine e_al o_56_85 rfl ?_
          refine e_gI o_56_86 (sk_34 (h := h3) sh3) ?_
          refine e_i0_0 o_56_89 (fun z => ?_) (fun z => ?_)
          · have k := k.1 z
            refine e_inc (ls' := [.ref 34, .ref x1, .int x2, .int (x3 + 1), .int 1]) o_56_102 rfl rfl rfl ?_
            refine e_go o_56_105 ?_
            exact Ev.less (ls := [.ref 34, .ref x1, .int x2, .int (x3 + 1), .null]) ⟨Or.inr rfl, Or.inr rfl, Or.inr rfl, Or.inr rfl, Or.inl rfl, trivial⟩ k
          · have k := k.2 z
            refine e_al o_56_92 rfl ?_
            refine e_gR (r := 38) o_56_93 (sk_34 (h := h3) sh3) (sr_34_4 (h := h3) sh3) (by decide) ?_
            refine e_il o_56_96 rfl ?_
            refine e_dup2 o_56_97 ⟨rfl, rfl⟩ ?_
            obtain ⟨q, k⟩ := k
            refine e_ia (n := 6) o_56_98 (sk_38 (h := h3) sh3) (sn_38 (h := h3) sh3) q ?_
            refine e_c 1 o_56_99 rfl ?_
            refine e_bin o_56_100 rfl ?_
            obtain ⟨q, k⟩ := k
            refine e_ias (n := 6) o_56_101 (sk_38 (h := h3) sh3) (by decide) (sn_38 (h := h3) sh3) q ?_
            refine e_inc (ls' := [.ref 34, .ref x1, .int x2, .int (x3 + 1), .int 1]) o_56_102 rfl rfl rfl ?_
            refine e_go o_56_105 ?_
            exact Ev.less (ls := [.ref 34, .ref x1, .int x2, .int (x3 + 1), .null]) ⟨Or.inr rfl, Or.inr rfl, Or.inr rfl, Or.inr rfl, Or.inl rfl, trivial⟩ k
set_option maxHeartbeats 4000000 in
set_option maxRecDepth 100000 in
theorem B_57_0 {x1 : Int32} {x2 : Nat} {h : XH} {Q : Value → XH → Prop} (hs : Sh h) (rx2 : Ar h x2 20) (k : Ev 57 23 [.ref 34, .null, .ref x2, .ref ((xR h 34 0) + 9), .int (xI h (xR h 34 0) 7), .int 0, .int x1, .null, .null, .null, .null] [] h Q) : Ev 57 0 (x_ini 57 [.ref 34, .int x1, .ref x2]) [] h Q := by
  rw [show x_ini 57 [.ref 34, .int x1, .ref x2] = [.ref 34, .int x1, .ref x2, .null, .null, .null, .null, .null, .null, .null, .null] from x_inid ml_57 rfl]
  refine e_al o_57_0 rfl ?_
  refine e_gR (r := (xR h 34 0)) o_57_1 (sk_34 (h := h) hs) (rfl) (by rcases (ss_p hs) with q | q <;> omega) ?_
  refine e_gR (r := ((xR h 34 0) + 9)) o_57_4 (sc_k (h := h) hs (ss_p hs)) (sc_r17 (h := h) hs (ss_p hs)) (by omega) ?_
  refine e_as (ls' := [.ref 34, .int x1, .ref x2, .ref ((xR h 34 0) + 9), .null, .null, .null, .null, .null, .null, .null]) o_57_7 (Nat.le_of_ble_eq_true rfl) rfl ?_
  refine e_al o_57_8 rfl ?_
  refine e_gR (r := (xR h 34 0)) o_57_9 (sk_34 (h := h) hs) (rfl) (by rcases (ss_p hs) with q | q <;> omega) ?_
  refine e_gI o_57_12 (sc_k (h := h) hs (ss_p hs)) ?_
  refine e_is (ls' := [.ref 34, .int x1, .ref x2, .ref ((xR h 34 0) + 9), .int (xI h (xR h 34 0) 7), .null, .null, .null, .null, .null, .null]) o_57_15 (Nat.le_of_ble_eq_true rfl) rfl ?_
  refine e_c 0 o_57_17 rfl ?_
  refine e_is (ls' := [.ref 34, .int x1, .ref x2, .ref ((xR h 34 0) + 9), .int (xI h (xR h 34 0) 7), .int 0, .null, .null, .null, .null, .null]) o_57_18 (Nat.le_of_ble_eq_true rfl) rfl ?_
  refine e_il o_57_20 rfl ?_
  refine e_is (ls' := [.ref 34, .int x1, .ref x2, .ref ((xR h 34 0) + 9), .int (xI h (xR h 34 0) 7), .int 0, .int x1, .null, .null, .null, .null]) o_57_21 (Nat.le_of_ble_eq_true rfl) rfl ?_
  exact Ev.less (ls := [.ref 34, .null, .ref x2, .ref ((xR h 34 0) + 9), .int (xI h (xR h 34 0) 7), .int 0, .int x1, .null, .null, .null, .null]) ⟨Or.inr rfl, Or.inl rfl, Or.inr rfl, Or.inr rfl, Or.inr rfl, Or.inr rfl, Or.inr rfl, Or.inl rfl, Or.inl rfl, Or.inl rfl, Or.inl rfl, trivial⟩ k
set_option maxHeartbeats 4000000 in
set_option maxRecDepth 100000 in
theorem B_57_23 {x2 : Nat} {x3 : Nat} {x4 : Int32} {x5 : Int32} {x6 : Int32} {h : XH} {Q : Value → XH → Prop} (hs : Sh h) (rx2 : Ar h x2 20) (rx3 : Ar h x3 512) (k : ((x6 < 0) → Ev 57 375 [.null, .null, .null, .null, .null, .null, .null, .null, .null, .null, .null] [] h Q) ∧ (¬ (x6 < 0) → ((x4 ≤ x6) → Ev 57 375 [.null, .null, .null, .null, .null, .null, .null, .null, .null, .null, .null] [] h Q) ∧ (¬ (x4 ≤ x6) → InB x6 512 ∧ (InB x6 512 ∧ (((1 < ((xI h x3 (tn x6)) &&& 15)) → ((1 ≤ x5) → InB (x5 + (-1)) 32 ∧ (((¬ ((xI h x3 (tn x6)) &&& 15) = 10) → ((¬ ((xI h x3 (tn x6)) &&& 15) = 9) → (((x5 + (-1)) < 1) → Ev 57 179 [.null, .null, .null, .null, .null, .null, .null, .null, .null, .null, .null] [] h Q) ∧ (¬ ((x5 + (-1)) < 1) → ((¬ ((xI h x3 (tn x6)) &&& 15) = 5) → Ev 57 181 [.ref 34, .null, .ref x2, .ref x3, .int x4, .int (x5 + (-1)), .int x6, .int ((xI h x3 (tn x6)) &&& 15), .null, .int (xI h 35 (tn (x5 + (-1)))), .null] [] h Q) ∧ (¬ (¬ ((xI h x3 (tn x6)) &&& 15) = 5) → ((¬ (xI h 35 (tn (x5 + (-1)))) = 0) → Ev 57 181 [.ref 34, .null, .ref x2, .ref x3, .int x4, .int (x5 + (-1)), .int x6, .int ((xI h x3 (tn x6)) &&& 15), .null, .int (xI h 35 (tn (x5 + (-1)))), .null] [] h Q) ∧ (¬ (¬ (xI h 35 (tn (x5 + (-1)))) = 0) → Ev 57 179 [.null, .null, .null, .null, .null, .null, .null, .null, .null, .null, .null] [] h Q)))) ∧ (¬ (¬ ((xI h x3 (tn x6)) &&& 15) = 9) → ((¬ (xI h 35 (tn (x5 + (-1)))) = 0) → Ev 57 155 [.ref 34, .null, .ref x2, .ref x3, .int x4, .int (x5 + (-1)), .int x6, .null, .null, .null, .null] [] h Q) ∧ (¬ (¬ (xI h 35 (tn (x5 + (-1)))) = 0) → ((((xI h x3 (tn x6)) >>> (4 &&& 31)) ≤ x6) → Ev 57 155 [.ref 34, .null, .ref x2, .ref x3, .int x4, .int (x5 + (-1)), .int x6, .null, .null, .null, .null] [] h Q) ∧ (¬ (((xI h x3 (tn x6)) >>> (4 &&& 31)) ≤ x6) → Ev 57 369 [.ref 34, .null, .ref x2, .ref x3, .int x4, .int (x5 + (-1)), .int (((xI h x3 (tn x6)) >>> (4 &&& 31)) - 1), .null, .null, .null, .null] [] h Q)))) ∧ (¬ (¬ ((xI h x3 (tn x6)) &&& 15) = 10) → Q (.int 1) (xsI h 34 5 (xI h 35 (tn (x5 + (-1)))))))) ∧ (¬ (1 ≤ x5) → Q (.int 0) h)) ∧ (¬ (1 < ((xI h x3 (tn x6)) &&& 15)) → ((x5 < 32) → ((¬ ((xI h x3 (tn x6)) &&& 15) = 0) → InB ((xI h x3 (tn x6)) >>> (4 &&& 31)) 20 ∧ (InB x5 32 ∧ (Ev 57 369 [.ref 34, .null, .ref x2, .ref x3, .int x4, .int (x5 + 1), .int x6, .null, .null, .null, .null] [] (xsI h 35 (tn x5) (xI h x2 (tn ((xI h x3 (tn x6)) >>> (4 &&& 31))))) Q))) ∧ (¬ (¬ ((xI h x3 (tn x6)) &&& 15) = 0) → InB x5 32 ∧ (Ev 57 369 [.ref 34, .null, .ref x2, .ref x3, .int x4, .int (x5 + 1), .int x6, .null, .null, .null, .null] [] (xsI h 35 (tn x5) ((xI h x3 (tn x6)) >>> (4 &&& 31))) Q))) ∧ (¬ (x5 < 32) → Q (.int 0) h))))))) : Ev 57 23 [.ref 34, .null, .ref x2, .ref x3, .int x4, .int x5, .int x6, .null, .null, .null, .null] [] h Q := by
  refine e_il o_57_23 rfl ?_
  refine e_i0_2 o_57_25 (fun z => ?_) (fun z => ?_)
  · have k := k.1 z
    exact Ev.less (ls := [.null, .null, .null, .null, .null, .null, .null, .null, .null, .null, .null]) ⟨Or.inl rfl, Or.inl rfl, Or.inl rfl, Or.inl rfl, Or.inl rfl, Or.inl rfl, Or.inl rfl, Or.inl rfl, Or.inl rfl, Or.inl rfl, Or.inl rfl, trivial⟩ k
  · have k := k.2 z
    refine e_il o_57_28 rfl ?_
    refine e_il o_57_30 rfl ?_
    refine e_if_3 o_57_32 (fun z => ?_) (fun z => ?_)
    · have k := k.1 z
      exact Ev.less (ls := [.null, .null, .null, .null, .null, .null, .null, .null, .null, .null, .null]) ⟨Or.inl rfl, Or.inl rfl, Or.inl rfl, Or.inl rfl, Or.inl rfl, Or.inl rfl, Or.inl rfl, Or.inl rfl, Or.inl rfl, Or.inl rfl, Or.inl rfl, trivial⟩ k
    · have k := k.2 z
      refine e_al o_57_35 rfl ?_
      refine e_il o_57_36 rfl ?_
      obtain ⟨q, k⟩ := k
      refine e_ia (n := 512) o_57_38 ((rx3).1) ((rx3).2.1) q ?_
      refine e_c 15 o_57_39 rfl ?_
      refine e_bin o_57_41 rfl ?_
      refine e_is (ls' := [.ref 34, .null, .ref x2, .ref x3, .int x4, .int x5, .int x6, .int ((xI h x3 (tn x6)) &&& 15), .null, .null, .null]) o_57_42 (Nat.le_of_ble_eq_true rfl) rfl ?_
      refine e_al o_57_44 rfl ?_
      refine e_il o_57_45 rfl ?_
      obtain ⟨q, k⟩ := k
      refine e_ia (n := 512) o_57_47 ((rx3).1) ((rx3).2.1) q ?_
      refine e_c 4 o_57_48 rfl ?_
      refine e_bin o_57_49 rfl ?_
      refine e_is (ls' := [.ref 34, .null, .ref x2, .ref x3, .int x4, .int x5, .int x6, .int ((xI h x3 (tn x6)) &&& 15), .int ((xI h x3 (tn x6)) >>> (4 &&& 31)), .null, .null]) o_57_50 (Nat.le_of_ble_eq_true rfl) rfl ?_
      refine e_il o_57_52 rfl ?_
      refine e_c 1 o_57_54 rfl ?_
      refine e_if_4 o_57_55 (fun z => ?_) (fun z => ?_)
      · have k := k.1 z
        refine e_il o_57_94 rfl ?_
        refine e_c 1 o_57_96 rfl ?_
        refine e_if_3 o_57_97 (fun z => ?_) (fun z => ?_)
        · have k := k.1 z
          refine e_inc (ls' := [.ref 34, .null, .ref x2, .ref x3, .int x4, .int (x5 + (-1)), .int x6, .int ((xI h x3 (tn x6)) &&& 15), .int ((xI h x3 (tn x6)) >>> (4 &&& 31)), .null, .null]) o_57_102 rfl rfl rfl ?_
          refine e_al o_57_105 rfl ?_
          refine e_gR (r := 35) o_57_106 (sk_34 (h := h) hs) (sr_34_1 (h := h) hs) (by decide) ?_
          refine e_il o_57_109 rfl ?_
          obtain ⟨q, k⟩ := k
          refine e_ia (n := 32) o_57_111 (sk_35 (h := h) hs) (sn_35 (h := h) hs) q ?_
          refine e_is (ls' := [.ref 34, .null, .ref x2, .ref x3, .int x4, .int (x5 + (-1)), .int x6, .int ((xI h x3 (tn x6)) &&& 15), .int ((xI h x3 (tn x6)) >>> (4 &&& 31)), .int (xI h 35 (tn (x5 + (-1)))), .null]) o_57_112 (Nat.le_of_ble_eq_true rfl) rfl ?_
          refine e_il o_57_114 rfl ?_
          refine e_c 10 o_57_116 rfl ?_
          refine e_if_1 o_57_118 (fun z => ?_) (fun z => ?_)
          · have k := k.1 z
            refine e_il o_57_129 rfl ?_
            refine e_c 9 o_57_131 rfl ?_
            refine e_if_1 o_57_133 (fun z => ?_) (fun z => ?_)
            · have k := k.1 z
              refine e_il o_57_162 rfl ?_
              refine e_c 1 o_57_164 rfl ?_
              refine e_if_2 o_57_165 (fun z => ?_) (fun z => ?_)
              · have k := k.1 z
                exact Ev.less (ls := [.null, .null, .null, .null, .null, .null, .null, .null, .null, .null, .null]) ⟨Or.inl rfl, Or.inl rfl, Or.inl rfl, Or.inl rfl, Or.inl rfl, Or.inl rfl, Or.inl rfl, Or.inl rfl, Or.inl rfl, Or.inl rfl, Or.inl rfl, trivial⟩ k
              · have k := k.2 z
                refine e_il o_57_168 rfl ?_
                refine e_c 5 o_57_170 rfl ?_
                refine e_if_1 o_57_171 (fun z => ?_) (fun z => ?_)
                · have k := k.1 z
                  exact Ev.less (ls := [.ref 34, .null, .ref x2, .ref x3, .int x4, .int (x5 + (-1)), .int x6, .int ((xI h x3 (tn x6)) &&& 15), .null, .int (xI h 35 (tn (x5 + (-1)))), .null]) ⟨Or.inr rfl, Or.inl rfl, Or.inr rfl, Or.inr rfl, Or.inr rfl, Or.inr rfl, Or.inr rfl, Or.inr rfl, Or.inl rfl, Or.inr rfl, Or.inl rfl, trivial⟩ k
                · have k := k.2 z
                  refine e_il o_57_174 rfl ?_
                  refine e_i0_1 o_57_176 (fun z => ?_) (fun z => ?_)
                  · have k := k.1 z
                    exact Ev.less (ls := [.ref 34, .null, .ref x2, .ref x3, .int x4, .int (x5 + (-1)), .int x6, .int ((xI h x3 (tn x6)) &&& 15), .null, .int (xI h 35 (tn (x5 + (-1)))), .null]) ⟨Or.inr rfl, Or.inl rfl, Or.inr rfl, Or.inr rfl, Or.inr rfl, Or.inr rfl, Or.inr rfl, Or.inr rfl, Or.inl rfl, Or.inr rfl, Or.inl rfl, trivial⟩ k
                  · have k := k.2 z
                    exact Ev.less (ls := [.null, .null, .null, .null, .null, .null, .null, .null, .null, .null, .null]) ⟨Or.inl rfl, Or.inl rfl, Or.inl rfl, Or.inl rfl, Or.inl rfl, Or.inl rfl, Or.inl rfl, Or.inl rfl, Or.inl rfl, Or.inl rfl, Or.inl rfl, trivial⟩ k
            · have k := k.2 z
              refine e_il o_57_136 rfl ?_
              refine e_i0_1 o_57_138 (fun z => ?_) (fun z => ?_)
              · have k := k.1 z
                exact Ev.less (ls := [.ref 34, .null, .ref x2, .ref x3, .int x4, .int (x5 + (-1)), .int x6, .null, .null, .null, .null]) ⟨Or.inr rfl, Or.inl rfl, Or.inr rfl, Or.inr rfl, Or.inr rfl, Or.inr rfl, Or.inr rfl, Or.inl rfl, Or.inl rfl, Or.inl rfl, Or.inl rfl, trivial⟩ k
              · have k := k.2 z
                refine e_il o_57_141 rfl ?_
                refine e_il o_57_143 rfl ?_
                refine e_if_5 o_57_145 (fun z => ?_) (fun z => ?_)
                · have k := k.1 z
                  exact Ev.less (ls := [.ref 34, .null, .ref x2, .ref x3, .int x4, .int (x5 + (-1)), .int x6, .null, .null, .null, .null]) ⟨Or.inr rfl, Or.inl rfl, Or.inr rfl, Or.inr rfl, Or.inr rfl, Or.inr rfl, Or.inr rfl, Or.inl rfl, Or.inl rfl, Or.inl rfl, Or.inl rfl, trivial⟩ k
                · have k := k.2 z
                  refine e_il o_57_148 rfl ?_
                  refine e_c 1 o_57_150 rfl ?_
                  refine e_bin o_57_151 rfl ?_
                  refine e_go o_57_152 ?_
                  refine e_is (ls' := [.ref 34, .null, .ref x2, .ref x3, .int x4, .int (x5 + (-1)), .int (((xI h x3 (tn x6)) >>> (4 &&& 31)) - 1), .int ((xI h x3 (tn x6)) &&& 15), .int ((xI h x3 (tn x6)) >>> (4 &&& 31)), .int (xI h 35 (tn (x5 + (-1)))), .null]) o_57_157 (Nat.le_of_ble_eq_true rfl) rfl ?_
                  refine e_go o_57_159 ?_
                  exact Ev.less (ls := [.ref 34, .null, .ref x2, .ref x3, .int x4, .int (x5 + (-1)), .int (((xI h x3 (tn x6)) >>> (4 &&& 31)) - 1), .null, .null, .null, .null]) ⟨Or.inr rfl, Or.inl rfl, Or.inr rfl, Or.inr rfl, Or.inr rfl, Or.inr rfl, Or.inr rfl, Or.inl rfl, Or.inl rfl, Or.inl rfl, Or.inl rfl, trivial⟩ k
          · have k := k.2 z
            refine e_al o_57_121 rfl ?_
            refine e_il o_57_122 rfl ?_
            refine e_pI o_57_124 (sk_34 (h := h) hs) ?_
            refine e_c 1 o_57_127 rfl ?_
            exact e_retZ o_57_128 (by decide) k
        · have k := k.2 z
          refine e_c 0 o_57_100 rfl ?_
          exact e_retZ o_57_101 (by decide) k
      · have k := k.2 z
        refine e_il o_57_58 rfl ?_
        refine e_c 32 o_57_60 rfl ?_
        refine e_if_2 o_57_62 (fun z => ?_) (fun z => ?_)
        · have k := k.1 z
          refine e_al o_57_67 rfl ?_
          refine e_gR (r := 35) o_57_68 (sk_34 (h := h) hs) (sr_34_1 (h := h) hs) (by decide) ?_
          refine e_il o_57_71 rfl ?_
          refine e_il o_57_73 rfl ?_
          refine e_i0_1 o_57_75 (fun z => ?_) (fun z => ?_)
          · have k := k.1 z
            refine e_al o_57_83 rfl ?_
            refine e_il o_57_84 rfl ?_
            obtain ⟨q, k⟩ := k
            refine e_ia (n := 20) o_57_86 ((rx2).1) ((rx2).2.1) q ?_
            obtain ⟨q, k⟩ := k
            refine e_ias (n := 32) o_57_87 (sk_35 (h := h) hs) (by decide) (sn_35 (h := h) hs) q ?_
            refine e_inc (ls' := [.ref 34, .null, .ref x2, .ref x3, .int x4, .int (x5 + 1), .int x6, .int ((xI h x3 (tn x6)) &&& 15), .int ((xI h x3 (tn x6)) >>> (4 &&& 31)), .null, .null]) o_57_88 rfl rfl rfl ?_
            refine e_go o_57_91 ?_
            exact Ev.less (ls := [.ref 34, .null, .ref x2, .ref x3, .int x4, .int (x5 + 1), .int x6, .null, .null, .null, .null]) ⟨Or.inr rfl, Or.inl rfl, Or.inr rfl, Or.inr rfl, Or.inr rfl, Or.inr rfl, Or.inr rfl, Or.inl rfl, Or.inl rfl, Or.inl rfl, Or.inl rfl, trivial⟩ k
          · have k := k.2 z
            refine e_il o_57_78 rfl ?_
            refine e_go o_57_80 ?_
            obtain ⟨q, k⟩ := k
            refine e_ias (n := 32) o_57_87 (sk_35 (h := h) hs) (by decide) (sn_35 (h := h) hs) q ?_
            refine e_inc (ls' := [.ref 34, .null, .ref x2, .ref x3, .int x4, .int (x5 + 1), .int x6, .int ((xI h x3 (tn x6)) &&& 15), .int ((xI h x3 (tn x6)) >>> (4 &&& 31)), .null, .null]) o_57_88 rfl rfl rfl ?_
            refine e_go o_57_91 ?_
            exact Ev.less (ls := [.ref 34, .null, .ref x2, .ref x3, .int x4, .int (x5 + 1), .int x6, .null, .null, .null, .null]) ⟨Or.inr rfl, Or.inl rfl, Or.inr rfl, Or.inr rfl, Or.inr rfl, Or.inr rfl, Or.inr rfl, Or.inl rfl, Or.inl rfl, Or.inl rfl, Or.inl rfl, trivial⟩ k
        · have k := k.2 z
          refine e_c 0 o_57_65 rfl ?_
          exact e_retZ o_57_66 (by decide) k
set_option maxHeartbeats 4000000 in
set_option maxRecDepth 100000 in
theorem B_57_155 {x2 : Nat} {x3 : Nat} {x4 : Int32} {x5 : Int32} {x6 : Int32} {h : XH} {Q : Value → XH → Prop} (hs : Sh h) (rx2 : Ar h x2 20) (rx3 : Ar h x3 512) (k : Ev 57 369 [.ref 34, .null, .ref x2, .ref x3, .int x4, .int x5, .int x6, .null, .null, .null, .null] [] h Q) : Ev 57 155 [.ref 34, .null, .ref x2, .ref x3, .int x4, .int x5, .int x6, .null, .null, .null, .null] [] h Q := by
  refine e_il o_57_155 rfl ?_
  refine e_is (ls' := [.ref 34, .null, .ref x2, .ref x3, .int x4, .int x5, .int x6, .null, .null, .null, .null]) o_57_157 (Nat.le_of_ble_eq_true rfl) rfl ?_
  refine e_go o_57_159 ?_
  exact Ev.less (ls := [.ref 34, .null, .ref x2, .ref x3, .int x4, .int x5, .int x6, .null, .null, .null, .null]) ⟨Or.inr rfl, Or.inl rfl, Or.inr rfl, Or.inr rfl, Or.inr rfl, Or.inr rfl, Or.inr rfl, Or.inl rfl, Or.inl rfl, Or.inl rfl, Or.inl rfl, trivial⟩ k
set_option maxHeartbeats 4000000 in
set_option maxRecDepth 100000 in
theorem B_57_179  {h : XH} {Q : Value → XH → Prop} (hs : Sh h) (k : Q (.int 0) h) : Ev 57 179 [.null, .null, .null, .null, .null, .null, .null, .null, .null, .null, .null] [] h Q := by
  refine e_c 0 o_57_179 rfl ?_
  exact e_retZ o_57_180 (by decide) k
set_option maxHeartbeats 4000000 in
set_option maxRecDepth 100000 in
theorem B_57_181 {x2 : Nat} {x3 : Nat} {x4 : Int32} {x5 : Int32} {x6 : Int32} {x7 : Int32} {x9 : Int32} {h : XH} {Q : Value → XH → Prop} (hs : Sh h) (rx2 : Ar h x2 20) (rx3 : Ar h x3 512) (k : InB (x5 - 1) 32 ∧ (((x7 = 2) → InB (x5 - 1) 32 ∧ (Ev 57 369 [.ref 34, .null, .ref x2, .ref x3, .int x4, .int x5, .int x6, .null, .null, .null, .null] [] (xsI h 35 (tn (x5 - 1)) ((xI h 35 (tn (x5 - 1))) + x9)) Q)) ∧ (¬ (x7 = 2) → ((x7 = 3) → InB (x5 - 1) 32 ∧ (Ev 57 369 [.ref 34, .null, .ref x2, .ref x3, .int x4, .int x5, .int x6, .null, .null, .null, .null] [] (xsI h 35 (tn (x5 - 1)) ((xI h 35 (tn (x5 - 1))) - x9)) Q)) ∧ (¬ (x7 = 3) → ((x7 = 4) → InB (x5 - 1) 32 ∧ (Ev 57 369 [.ref 34, .null, .ref x2, .ref x3, .int x4, .int x5, .int x6, .null, .null, .null, .null] [] (xsI h 35 (tn (x5 - 1)) ((xI h 35 (tn (x5 - 1))) * x9)) Q)) ∧ (¬ (x7 = 4) → ((x7 = 5) → ¬ x9 = 0 ∧ (InB (x5 - 1) 32 ∧ (Ev 57 369 [.ref 34, .null, .ref x2, .ref x3, .int x4, .int x5, .int x6, .null, .null, .null, .null] [] (xsI h 35 (tn (x5 - 1)) ((xI h 35 (tn (x5 - 1))) / x9)) Q))) ∧ (¬ (x7 = 5) → ((x7 = 6) → ((x9 ≤ (xI h 35 (tn (x5 - 1)))) → InB (x5 - 1) 32 ∧ (Ev 57 369 [.ref 34, .null, .ref x2, .ref x3, .int x4, .int x5, .int x6, .null, .null, .null, .null] [] (xsI h 35 (tn (x5 - 1)) 0) Q)) ∧ (¬ (x9 ≤ (xI h 35 (tn (x5 - 1)))) → InB (x5 - 1) 32 ∧ (Ev 57 369 [.ref 34, .null, .ref x2, .ref x3, .int x4, .int x5, .int x6, .null, .null, .null, .null] [] (xsI h 35 (tn (x5 - 1)) 1) Q))) ∧ (¬ (x7 = 6) → ((x7 = 7) → ((¬ (xI h 35 (tn (x5 - 1))) = x9) → InB (x5 - 1) 32 ∧ (Ev 57 369 [.ref 34, .null, .ref x2, .ref x3, .int x4, .int x5, .int x6, .null, .null, .null, .null] [] (xsI h 35 (tn (x5 - 1)) 0) Q)) ∧ (¬ (¬ (xI h 35 (tn (x5 - 1))) = x9) → InB (x5 - 1) 32 ∧ (Ev 57 369 [.ref 34, .null, .ref x2, .ref x3, .int x4, .int x5, .int x6, .null, .null, .null, .null] [] (xsI h 35 (tn (x5 - 1)) 1) Q))) ∧ (¬ (x7 = 7) → (((xI h 35 (tn (x5 - 1))) ≤ x9) → InB (x5 - 1) 32 ∧ (Ev 57 369 [.ref 34, .null, .ref x2, .ref x3, .int x4, .int x5, .int x6, .null, .null, .null, .null] [] (xsI h 35 (tn (x5 - 1)) 0) Q)) ∧ (¬ ((xI h 35 (tn (x5 - 1))) ≤ x9) → InB (x5 - 1) 32 ∧ (Ev 57 369 [.ref 34, .null, .ref x2, .ref x3, .int x4, .int x5, .int x6, .null, .null, .null, .null] [] (xsI h 35 (tn (x5 - 1)) 1) Q)))))))))) : Ev 57 181 [.ref 34, .null, .ref x2, .ref x3, .int x4, .int x5, .int x6, .int x7, .null, .int x9, .null] [] h Q := by
  refine e_al o_57_181 rfl ?_
  refine e_gR (r := 35) o_57_182 (sk_34 (h := h) hs) (sr_34_1 (h := h) hs) (by decide) ?_
  refine e_il o_57_185 rfl ?_
  refine e_c 1 o_57_187 rfl ?_
  refine e_bin o_57_188 rfl ?_
  obtain ⟨q, k⟩ := k
  refine e_ia (n := 32) o_57_189 (sk_35 (h := h) hs) (sn_35 (h := h) hs) q ?_
  refine e_is (ls' := [.ref 34, .null, .ref x2, .ref x3, .int x4, .int x5, .int x6, .int x7, .null, .int x9, .int (xI h 35 (tn (x5 - 1)))]) o_57_190 (Nat.le_of_ble_eq_true rfl) rfl ?_
  refine e_il o_57_192 rfl ?_
  refine e_swc o_57_194 (by decide) ?_
  refine ⟨fun z => ?_, fun z => ?_⟩
  · have k := k.1 z
    refine e_al o_57_232 rfl ?_
    refine e_gR (r := 35) o_57_233 (sk_34 (h := h) hs) (sr_34_1 (h := h) hs) (by decide) ?_
    refine e_il o_57_236 rfl ?_
    refine e_c 1 o_57_238 rfl ?_
    refine e_bin o_57_239 rfl ?_
    refine e_il o_57_240 rfl ?_
    refine e_il o_57_242 rfl ?_
    refine e_bin o_57_244 rfl ?_
    obtain ⟨q, k⟩ := k
    refine e_ias (n := 32) o_57_245 (sk_35 (h := h) hs) (by decide) (sn_35 (h := h) hs) q ?_
    refine e_go o_57_246 ?_
    exact Ev.less (ls := [.ref 34, .null, .ref x2, .ref x3, .int x4, .int x5, .int x6, .null, .null, .null, .null]) ⟨Or.inr rfl, Or.inl rfl, Or.inr rfl, Or.inr rfl, Or.inr rfl, Or.inr rfl, Or.inr rfl, Or.inl rfl, Or.inl rfl, Or.inl rfl, Or.inl rfl, trivial⟩ k
  · have k := k.2 z
    refine ⟨fun z => ?_, fun z => ?_⟩
    · have k := k.1 z
      refine e_al o_57_249 rfl ?_
      refine e_gR (r := 35) o_57_250 (sk_34 (h := h) hs) (sr_34_1 (h := h) hs) (by decide) ?_
      refine e_il o_57_253 rfl ?_
      refine e_c 1 o_57_255 rfl ?_
      refine e_bin o_57_256 rfl ?_
      refine e_il o_57_257 rfl ?_
      refine e_il o_57_259 rfl ?_
      refine e_bin o_57_261 rfl ?_
      obtain ⟨q, k⟩ := k
      refine e_ias (n := 32) o_57_262 (sk_35 (h := h) hs) (by decide) (sn_35 (h := h) hs) q ?_
      refine e_go o_57_263 ?_
      exact Ev.less (ls := [.ref 34, .null, .ref x2, .ref x3, .int x4, .int x5, .int x6, .null, .null, .null, .null]) ⟨Or.inr rfl, Or.inl rfl, Or.inr rfl, Or.inr rfl, Or.inr rfl, Or.inr rfl, Or.inr rfl, Or.inl rfl, Or.inl rfl, Or.inl rfl, Or.inl rfl, trivial⟩ k
    · have k := k.2 z
      refine ⟨fun z => ?_, fun z => ?_⟩
      · have k := k.1 z
        refine e_al o_57_266 rfl ?_
        refine e_gR (r := 35) o_57_267 (sk_34 (h := h) hs) (sr_34_1 (h := h) hs) (by decide) ?_
        refine e_il o_57_270 rfl ?_
        refine e_c 1 o_57_272 rfl ?_
        refine e_bin o_57_273 rfl ?_
        refine e_il o_57_274 rfl ?_
        refine e_il o_57_276 rfl ?_
        refine e_bin o_57_278 rfl ?_
        obtain ⟨q, k⟩ := k
        refine e_ias (n := 32) o_57_279 (sk_35 (h := h) hs) (by decide) (sn_35 (h := h) hs) q ?_
        refine e_go o_57_280 ?_
        exact Ev.less (ls := [.ref 34, .null, .ref x2, .ref x3, .int x4, .int x5, .int x6, .null, .null, .null, .null]) ⟨Or.inr rfl, Or.inl rfl, Or.inr rfl, Or.inr rfl, Or.inr rfl, Or.inr rfl, Or.inr rfl, Or.inl rfl, Or.inl rfl, Or.inl rfl, Or.inl rfl, trivial⟩ k
      · have k := k.2 z
        refine ⟨fun z => ?_, fun z => ?_⟩
        · have k := k.1 z
          refine e_al o_57_283 rfl ?_
          refine e_gR (r := 35) o_57_284 (sk_34 (h := h) hs) (sr_34_1 (h := h) hs) (by decide) ?_
          refine e_il o_57_287 rfl ?_
          refine e_c 1 o_57_289 rfl ?_
          refine e_bin o_57_290 rfl ?_
          refine e_il o_57_291 rfl ?_
          refine e_il o_57_293 rfl ?_
          obtain ⟨q, k⟩ := k
          refine e_div o_57_295 q ?_
          obtain ⟨q, k⟩ := k
          refine e_ias (n := 32) o_57_296 (sk_35 (h := h) hs) (by decide) (sn_35 (h := h) hs) q ?_
          refine e_go o_57_297 ?_
          exact Ev.less (ls := [.ref 34, .null, .ref x2, .ref x3, .int x4, .int x5, .int x6, .null, .null, .null, .null]) ⟨Or.inr rfl, Or.inl rfl, Or.inr rfl, Or.inr rfl, Or.inr rfl, Or.inr rfl, Or.inr rfl, Or.inl rfl, Or.inl rfl, Or.inl rfl, Or.inl rfl, trivial⟩ k
        · have k := k.2 z
          refine ⟨fun z => ?_, fun z => ?_⟩
          · have k := k.1 z
            refine e_al o_57_300 rfl ?_
            refine e_gR (r := 35) o_57_301 (sk_34 (h := h) hs) (sr_34_1 (h := h) hs) (by decide) ?_
            refine e_il o_57_304 rfl ?_
            refine e_c 1 o_57_306 rfl ?_
            refine e_bin o_57_307 rfl ?_
            refine e_il o_57_308 rfl ?_
            refine e_il o_57_310 rfl ?_
            refine e_if_3 o_57_312 (fun z => ?_) (fun z => ?_)
            · have k := k.1 z
              refine e_c 0 o_57_319 rfl ?_
              obtain ⟨q, k⟩ := k
              refine e_ias (n := 32) o_57_320 (sk_35 (h := h) hs) (by decide) (sn_35 (h := h) hs) q ?_
              refine e_go o_57_321 ?_
              exact Ev.less (ls := [.ref 34, .null, .ref x2, .ref x3, .int x4, .int x5, .int x6, .null, .null, .null, .null]) ⟨Or.inr rfl, Or.inl rfl, Or.inr rfl, Or.inr rfl, Or.inr rfl, Or.inr rfl, Or.inr rfl, Or.inl rfl, Or.inl rfl, Or.inl rfl, Or.inl rfl, trivial⟩ k
            · have k := k.2 z
              refine e_c 1 o_57_315 rfl ?_
              refine e_go o_57_316 ?_
              obtain ⟨q, k⟩ := k
              refine e_ias (n := 32) o_57_320 (sk_35 (h := h) hs) (by decide) (sn_35 (h := h) hs) q ?_
              refine e_go o_57_321 ?_
              exact Ev.less (ls := [.ref 34, .null, .ref x2, .ref x3, .int x4, .int x5, .int x6, .null, .null, .null, .null]) ⟨Or.inr rfl, Or.inl rfl, Or.inr rfl, Or.inr rfl, Or.inr rfl, Or.inr rfl, Or.inr rfl, Or.inl rfl, Or.inl rfl, Or.inl rfl, Or.inl rfl, trivial⟩ k
          · have k := k.2 z
            refine ⟨fun z => ?_, fun z => ?_⟩
            · have k := k.1 z
              refine e_al o_57_324 rfl ?_
              refine e_gR (r := 35) o_57_325 (sk_34 (h := h) hs) (sr_34_1 (h := h) hs) (by decide) ?_
              refine e_il o_57_328 rfl ?_
              refine e_c 1 o_57_330 rfl ?_
              refine e_bin o_57_331 rfl ?_
              refine e_il o_57_332 rfl ?_
              refine e_il o_57_334 rfl ?_
              refine e_if_1 o_57_336 (fun z => ?_) (fun z => ?_)
              · have k := k.1 z
                refine e_c 0 o_57_343 rfl ?_
                obtain ⟨q, k⟩ := k
                refine e_ias (n := 32) o_57_344 (sk_35 (h := h) hs) (by decide) (sn_35 (h := h) hs) q ?_
                refine e_go o_57_345 ?_
                exact Ev.less (ls := [.ref 34, .null, .ref x2, .ref x3, .int x4, .int x5, .int x6, .null, .null, .null, .null]) ⟨Or.inr rfl, Or.inl rfl, Or.inr rfl, Or.inr rfl, Or.inr rfl, Or.inr rfl, Or.inr rfl, Or.inl rfl, Or.inl rfl, Or.inl rfl, Or.inl rfl, trivial⟩ k
              · have k := k.2 z
                refine e_c 1 o_57_339 rfl ?_
                refine e_go o_57_340 ?_
                obtain ⟨q, k⟩ := k
                refine e_ias (n := 32) o_57_344 (sk_35 (h := h) hs) (by decide) (sn_35 (h := h) hs) q ?_
                refine e_go o_57_345 ?_
                exact Ev.less (ls := [.ref 34, .null, .ref x2, .ref x3, .int x4, .int x5, .int x6, .null, .null, .null, .null]) ⟨Or.inr rfl, Or.inl rfl, Or.inr rfl, Or.inr rfl, Or.inr rfl, Or.inr rfl, Or.inr rfl, Or.inl rfl, Or.inl rfl, Or.inl rfl, Or.inl rfl, trivial⟩ k
            · have k := k.2 z
              refine e_al o_57_348 rfl ?_
              refine e_gR (r := 35) o_57_349 (sk_34 (h := h) hs) (sr_34_1 (h := h) hs) (by decide) ?_
              refine e_il o_57_352 rfl ?_
              refine e_c 1 o_57_354 rfl ?_
              refine e_bin o_57_355 rfl ?_
              refine e_il o_57_356 rfl ?_
              refine e_il o_57_358 rfl ?_
              refine e_if_5 o_57_360 (fun z => ?_) (fun z => ?_)
              · have k := k.1 z
                refine e_c 0 o_57_367 rfl ?_
                obtain ⟨q, k⟩ := k
                refine e_ias (n := 32) o_57_368 (sk_35 (h := h) hs) (by decide) (sn_35 (h := h) hs) q ?_
                exact Ev.less (ls := [.ref 34, .null, .ref x2, .ref x3, .int x4, .int x5, .int x6, .null, .null, .null, .null]) ⟨Or.inr rfl, Or.inl rfl, Or.inr rfl, Or.inr rfl, Or.inr rfl, Or.inr rfl, Or.inr rfl, Or.inl rfl, Or.inl rfl, Or.inl rfl, Or.inl rfl, trivial⟩ k
              · have k := k.2 z
                refine e_c 1 o_57_363 rfl ?_
                refine e_go o_57_364 ?_
                obtain ⟨q, k⟩ := k
                refine e_ias (n := 32) o_57_368 (sk_35 (h := h) hs) (by decide) (sn_35 (h := h) hs) q ?_
                exact Ev.less (ls := [.ref 34, .null, .ref x2, .ref x3, .int x4, .int x5, .int x6, .null, .null, .null, .null]) ⟨Or.inr rfl, Or.inl rfl, Or.inr rfl, Or.inr rfl, Or.inr rfl, Or.inr rfl, Or.inr rfl, Or.inl rfl, Or.inl rfl, Or.inl rfl, Or.inl rfl, trivial⟩ k
set_option maxHeartbeats 4000000 in
set_option maxRecDepth 100000 in
theorem B_57_369 {x2 : Nat} {x3 : Nat} {x4 : Int32} {x5 : Int32} {x6 : Int32} {h : XH} {Q : Value → XH → Prop} (hs : Sh h) (rx2 : Ar h x2 20) (rx3 : Ar h x3 512) (k : Ev 57 23 [.ref 34, .null, .ref x2, .ref x3, .int x4, .int x5, .int (x6 + 1), .null, .null, .null, .null] [] h Q) : Ev 57 369 [.ref 34, .null, .ref x2, .ref x3, .int x4, .int x5, .int x6, .null, .null, .null, .null] [] h Q := by
  refine e_inc (ls' := [.ref 34, .null, .ref x2, .ref x3, .int x4, .int x5, .int (x6 + 1), .null, .null, .null, .null]) o_57_369 rfl rfl rfl ?_
  refine e_go o_57_372 ?_
  exact Ev.less (ls := [.ref 34, .null, .ref x2, .ref x3, .int x4, .int x5, .int (x6 + 1), .null, .null, .null, .null]) ⟨Or.inr rfl, Or.inl rfl, Or.inr rfl, Or.inr rfl, Or.inr rfl, Or.inr rfl, Or.inr rfl, Or.inl rfl, Or.inl rfl, Or.inl rfl, Or.inl rfl, trivial⟩ k
set_option maxHeartbeats 4000000 in
set_option maxRecDepth 100000 in
theorem B_57_375  {h : XH} {Q : Value → XH → Prop} (hs : Sh h) (k : Q (.int 0) h) : Ev 57 375 [.null, .null, .null, .null, .null, .null, .null, .null, .null, .null, .null] [] h Q := by
  refine e_c 0 o_57_375 rfl ?_
  exact e_retZ o_57_376 (by decide) k
set_option maxHeartbeats 4000000 in
set_option maxRecDepth 100000 in
theorem B_59_0 {x1 : Int32} {x2 : Nat} {h : XH} {Q : Value → XH → Prop} (hs : Sh h) (rx2 : Ar h x2 20) (k : InB 15 20 ∧ (((¬ (((xI h x2 (tn 15)) >>> (x1 &&& 31)) &&& 1) = (1 : Int32)) → InB x1 6 ∧ (InB x1 6 ∧ (Ev 59 35 [.ref 34, .int x1, .ref x2, .int (xI h 38 (tn x1)), .int (xI h ((xR h 34 0) + 7) (tn x1)), .int 0] [] h Q))) ∧ (¬ (¬ (((xI h x2 (tn 15)) >>> (x1 &&& 31)) &&& 1) = (1 : Int32)) → Q (.int 0) h))) : Ev 59 0 (x_ini 59 [.ref 34, .int x1, .ref x2]) [] h Q := by
  rw [show x_ini 59 [.ref 34, .int x1, .ref x2] = [.ref 34, .int x1, .ref x2, .null, .null, .null] from x_inid ml_59 rfl]
  refine e_al o_59_0 rfl ?_
  refine e_c 15 o_59_1 rfl ?_
  obtain ⟨q, k⟩ := k
  refine e_ia (n := 20) o_59_3 ((rx2).1) ((rx2).2.1) q ?_
  refine e_il o_59_4 rfl ?_
  refine e_bin o_59_5 rfl ?_
  refine e_c 1 o_59_6 rfl ?_
  refine e_bin o_59_7 rfl ?_
  refine e_c 1 o_59_8 rfl ?_
  refine e_if_1 o_59_9 (fun z => ?_) (fun z => ?_)
  · have k := k.1 z
    refine e_al o_59_14 rfl ?_
    refine e_gR (r := 38) o_59_15 (sk_34 (h := h) hs) (sr_34_4 (h := h) hs) (by decide) ?_
    refine e_il o_59_18 rfl ?_
    obtain ⟨q, k⟩ := k
    refine e_ia (n := 6) o_59_19 (sk_38 (h := h) hs) (sn_38 (h := h) hs) q ?_
    refine e_is (ls' := [.ref 34, .int x1, .ref x2, .int (xI h 38 (tn x1)), .null, .null]) o_59_20 (Nat.le_of_ble_eq_true rfl) rfl ?_
    refine e_al o_59_21 rfl ?_
    refine e_gR (r := (xR h 34 0)) o_59_22 (sk_34 (h := h) hs) (rfl) (by rcases (ss_p hs) with q | q <;> omega) ?_
    refine e_gR (r := ((xR h 34 0) + 7)) o_59_25 (sc_k (h := h) hs (ss_p hs)) (sc_r15 (h := h) hs (ss_p hs)) (by omega) ?_
    refine e_il o_59_28 rfl ?_
    obtain ⟨q, k⟩ := k
    refine e_ia (n := 6) o_59_29 ((sc_a7 (h := h) hs (ss_p hs)).1) ((sc_a7 (h := h) hs (ss_p hs)).2.1) q ?_
    refine e_is (ls' := [.ref 34, .int x1, .ref x2, .int (xI h 38 (tn x1)), .int (xI h ((xR h 34 0) + 7) (tn x1)), .null]) o_59_30 (Nat.le_of_ble_eq_true rfl) rfl ?_
    refine e_c 0 o_59_32 rfl ?_
    refine e_is (ls' := [.ref 34, .int x1, .ref x2, .int (xI h 38 (tn x1)), .int (xI h ((xR h 34 0) + 7) (tn x1)), .int 0]) o_59_33 (Nat.le_of_ble_eq_true rfl) rfl ?_
    exact Ev.less (ls := [.ref 34, .int x1, .ref x2, .int (xI h 38 (tn x1)), .int (xI h ((xR h 34 0) + 7) (tn x1)), .int 0]) ⟨Or.inr rfl, Or.inr rfl, Or.inr rfl, Or.inr rfl, Or.inr rfl, Or.inr rfl, trivial⟩ k
  · have k := k.2 z
    refine e_c 0 o_59_12 rfl ?_
    exact e_retI o_59_13 k
set_option maxHeartbeats 4000000 in
set_option maxRecDepth 100000 in
theorem B_59_35 {x1 : Int32} {x2 : Nat} {x3 : Int32} {x4 : Int32} {x5 : Int32} {h : XH} {Q : Value → XH → Prop} (hs : Sh h) (rx2 : Ar h x2 20) (k : (((x4 >>> (x5 &&& 31)) = (0 : Int32)) → ClI 60 [.ref 34, .int x1, .int x3] h (fun v2 h1 => Sh h1 ∧ Ar h1 x2 20 ∧ (Q (.int v2) h1))) ∧ (¬ ((x4 >>> (x5 &&& 31)) = (0 : Int32)) → ((6 ≤ x5) → ClI 60 [.ref 34, .int x1, .int x3] h (fun v4 h3 => Sh h3 ∧ Ar h3 x2 20 ∧ (Q (.int v4) h3))) ∧ (¬ (6 ≤ x5) → ((¬ ((x4 >>> (x5 &&& 31)) &&& 1) = (1 : Int32)) → Ev 59 35 [.ref 34, .int x1, .ref x2, .int x3, .int x4, .int (x5 + 1)] [] h Q) ∧ (¬ (¬ ((x4 >>> (x5 &&& 31)) &&& 1) = (1 : Int32)) → InB ((x1 * 6) + x5) 36 ∧ (ClI 57 [.ref 34, .int (xI h ((xR h 34 0) + 8) (tn ((x1 * 6) + x5))), .ref x2] h (fun v6 h5 => Sh h5 ∧ Ar h5 x2 20 ∧ (((v6 = 0) → Ev 59 35 [.ref 34, .int x1, .ref x2, .int x3, .int x4, .int (x5 + 1)] [] h5 Q) ∧ (¬ (v6 = 0) → (((xI h5 34 5) = 0) → Ev 59 35 [.ref 34, .int x1, .ref x2, .int x3, .int x4, .int (x5 + 1)] [] h5 Q) ∧ (¬ ((xI h5 34 5) = 0) → Ev 59 35 [.ref 34, .int x1, .ref x2, .int (x3 + 1), .int x4, .int (x5 + 1)] [] h5 Q))))))))) : Ev 59 35 [.ref 34, .int x1, .ref x2, .int x3, .int x4, .int x5] [] h Q := by
  refine e_il o_59_35 rfl ?_
  refine e_il o_59_37 rfl ?_
  refine e_bin o_59_39 rfl ?_
  refine e_i0_0 o_59_40 (fun z => ?_) (fun z => ?_)
  · have k := k.1 z
    refine e_al o_59_100 rfl ?_
    refine e_il o_59_101 rfl ?_
    refine e_il o_59_102 rfl ?_
    refine e_clI (as := [.ref 34, .int x1, .int x3]) (rest := []) o_59_103 rfl rfl (x_okd cl_59_60 ml_60 (Nat.le_of_ble_eq_true rfl) (Nat.le_of_ble_eq_true rfl)) (x_rc0 (ci := 3) (sk_34 (h := h) hs) mo_60) k ?_
    rintro v2 h1 ⟨sh1, r_x2_h1, k⟩
    exact e_retI o_59_106 k
  · have k := k.2 z
    refine e_il o_59_43 rfl ?_
    refine e_c 6 o_59_45 rfl ?_
    refine e_if_3 o_59_47 (fun z => ?_) (fun z => ?_)
    · have k := k.1 z
      refine e_al o_59_100 rfl ?_
      refine e_il o_59_101 rfl ?_
      refine e_il o_59_102 rfl ?_
      refine e_clI (as := [.ref 34, .int x1, .int x3]) (rest := []) o_59_103 rfl rfl (x_okd cl_59_60 ml_60 (Nat.le_of_ble_eq_true rfl) (Nat.le_of_ble_eq_true rfl)) (x_rc0 (ci := 3) (sk_34 (h := h) hs) mo_60) k ?_
      rintro v4 h3 ⟨sh3, r_x2_h3, k⟩
      exact e_retI o_59_106 k
    · have k := k.2 z
      refine e_il o_59_50 rfl ?_
      refine e_il o_59_52 rfl ?_
      refine e_bin o_59_54 rfl ?_
      refine e_c 1 o_59_55 rfl ?_
      refine e_bin o_59_56 rfl ?_
      refine e_c 1 o_59_57 rfl ?_
      refine e_if_1 o_59_58 (fun z => ?_) (fun z => ?_)
      · have k := k.1 z
        refine e_inc (ls' := [.ref 34, .int x1, .ref x2, .int x3, .int x4, .int (x5 + 1)]) o_59_94 rfl rfl rfl ?_
        refine e_go o_59_97 ?_
        exact Ev.less (ls := [.ref 34, .int x1, .ref x2, .int x3, .int x4, .int (x5 + 1)]) ⟨Or.inr rfl, Or.inr rfl, Or.inr rfl, Or.inr rfl, Or.inr rfl, Or.inr rfl, trivial⟩ k
      · have k := k.2 z
        refine e_al o_59_61 rfl ?_
        refine e_al o_59_62 rfl ?_
        refine e_gR (r := (xR h 34 0)) o_59_63 (sk_34 (h := h) hs) (rfl) (by rcases (ss_p hs) with q | q <;> omega) ?_
        refine e_gR (r := ((xR h 34 0) + 8)) o_59_66 (sc_k (h := h) hs (ss_p hs)) (sc_r16 (h := h) hs (ss_p hs)) (by omega) ?_
        refine e_il o_59_69 rfl ?_
        refine e_c 6 o_59_70 rfl ?_
        refine e_bin o_59_72 rfl ?_
        refine e_il o_59_73 rfl ?_
        refine e_bin o_59_75 rfl ?_
        obtain ⟨q, k⟩ := k
        refine e_ia (n := 36) o_59_76 ((sc_a8 (h := h) hs (ss_p hs)).1) ((sc_a8 (h := h) hs (ss_p hs)).2.1) q ?_
        refine e_al o_59_77 rfl ?_
        refine e_clI (as := [.ref 34, .int (xI h ((xR h 34 0) + 8) (tn ((x1 * 6) + x5))), .ref x2]) (rest := []) o_59_78 rfl rfl (x_okd cl_59_57 ml_57 (Nat.le_of_ble_eq_true rfl) (Nat.le_of_ble_eq_true rfl)) (x_rc0 (ci := 3) (sk_34 (h := h) hs) mo_57) k ?_
        rintro v6 h5 ⟨sh5, r_x2_h5, k⟩
        refine e_i0_0 o_59_81 (fun z => ?_) (fun z => ?_)
        · have k := k.1 z
          refine e_inc (ls' := [.ref 34, .int x1, .ref x2, .int x3, .int x4, .int (x5 + 1)]) o_59_94 rfl rfl rfl ?_
          refine e_go o_59_97 ?_
          exact Ev.less (ls := [.ref 34, .int x1, .ref x2, .int x3, .int x4, .int (x5 + 1)]) ⟨Or.inr rfl, Or.inr rfl, Or.inr rfl, Or.inr rfl, Or.inr rfl, Or.inr rfl, trivial⟩ k
        · have k := k.2 z
          refine e_al o_59_84 rfl ?_
          refine e_gI o_59_85 (sk_34 (h := h5) sh5) ?_
          refine e_i0_0 o_59_88 (fun z => ?_) (fun z => ?_)
          · have k := k.1 z
            refine e_inc (ls' := [.ref 34, .int x1, .ref x2, .int x3, .int x4, .int (x5 + 1)]) o_59_94 rfl rfl rfl ?_
            refine e_go o_59_97 ?_
            exact Ev.less (ls := [.ref 34, .int x1, .ref x2, .int x3, .int x4, .int (x5 + 1)]) ⟨Or.inr rfl, Or.inr rfl, Or.inr rfl, Or.inr rfl, Or.inr rfl, Or.inr rfl, trivial⟩ k
          · have k := k.2 z
            refine e_inc (ls' := [.ref 34, .int x1, .ref x2, .int (x3 + 1), .int x4, .int x5]) o_59_91 rfl rfl rfl ?_
            refine e_inc (ls' := [.ref 34, .int x1, .ref x2, .int (x3 + 1), .int x4, .int (x5 + 1)]) o_59_94 rfl rfl rfl ?_
            refine e_go o_59_97 ?_
            exact Ev.less (ls := [.ref 34, .int x1, .ref x2, .int (x3 + 1), .int x4, .int (x5 + 1)]) ⟨Or.inr rfl, Or.inr rfl, Or.inr rfl, Or.inr rfl, Or.inr rfl, Or.inr rfl, trivial⟩ k
set_option maxHeartbeats 4000000 in
set_option maxRecDepth 100000 in
theorem B_60_0 {x1 : Int32} {x2 : Int32} {h : XH} {Q : Value → XH → Prop} (hs : Sh h) (k : InB x1 6 ∧ (InB x1 6 ∧ ((((xI h ((xR h 34 0) + 5) (tn x1)) = 0) → ((¬ x2 = (xI h ((xR h 34 0) + 6) (tn x1))) → Q (.int 0) h) ∧ (¬ (¬ x2 = (xI h ((xR h 34 0) + 6) (tn x1))) → Q (.int 4) h)) ∧ (¬ ((xI h ((xR h 34 0) + 5) (tn x1)) = 0) → (((xI h ((xR h 34 0) + 5) (tn x1)) = 1) → ((x2 ≤ 0) → Q (.int 0) h) ∧ (¬ (x2 ≤ 0) → Q (.int 4) h)) ∧ (¬ ((xI h ((xR h 34 0) + 5) (tn x1)) = 1) → (((xI h ((xR h 34 0) + 6) (tn x1)) ≤ 0) → Q (.int 0) h) ∧ (¬ ((xI h ((xR h 34 0) + 6) (tn x1)) ≤ 0) → ¬ (xI h ((xR h 34 0) + 6) (tn x1)) = 0 ∧ (Q (.int ((4 * x2) / (xI h ((xR h 34 0) + 6) (tn x1)))) h))))))) : Ev 60 0 (x_ini 60 [.ref 34, .int x1, .int x2]) [] h Q := by
  rw [show x_ini 60 [.ref 34, .int x1, .int x2] = [.ref 34, .int x1, .int x2, .null] from x_inid ml_60 rfl]
  refine e_al o_60_0 rfl ?_
  refine e_gR (r := (xR h 34 0)) o_60_1 (sk_34 (h := h) hs) (rfl) (by rcases (ss_p hs) with q | q <;> omega) ?_
  refine e_gR (r := ((xR h 34 0) + 6)) o_60_4 (sc_k (h := h) hs (ss_p hs)) (sc_r14 (h := h) hs (ss_p hs)) (by omega) ?_
  refine e_il o_60_7 rfl ?_
  obtain ⟨q, k⟩ := k
  refine e_ia (n := 6) o_60_8 ((sc_a6 (h := h) hs (ss_p hs)).1) ((sc_a6 (h := h) hs (ss_p hs)).2.1) q ?_
  refine e_is (ls' := [.ref 34, .int x1, .int x2, .int (xI h ((xR h 34 0) + 6) (tn x1))]) o_60_9 (Nat.le_of_ble_eq_true rfl) rfl ?_
  refine e_al o_60_10 rfl ?_
  refine e_gR (r := (xR h 34 0)) o_60_11 (sk_34 (h := h) hs) (rfl) (by rcases (ss_p hs) with q | q <;> omega) ?_
  refine e_gR (r := ((xR h 34 0) + 5)) o_60_14 (sc_k (h := h) hs (ss_p hs)) (sc_r13 (h := h) hs (ss_p hs)) (by omega) ?_
  refine e_il o_60_17 rfl ?_
  obtain ⟨q, k⟩ := k
  refine e_ia (n := 6) o_60_18 ((sc_a5 (h := h) hs (ss_p hs)).1) ((sc_a5 (h := h) hs (ss_p hs)).2.1) q ?_
  refine e_swc o_60_19 (by decide) ?_
  refine ⟨fun z => ?_, fun z => ?_⟩
  · have k := k.1 z
    refine e_il o_60_44 rfl ?_
    refine e_il o_60_45 rfl ?_
    refine e_if_1 o_60_46 (fun z => ?_) (fun z => ?_)
    · have k := k.1 z
      refine e_c 0 o_60_53 rfl ?_
      exact e_retI o_60_54 k
    · have k := k.2 z
      refine e_c 4 o_60_49 rfl ?_
      refine e_go o_60_50 ?_
      exact e_retI o_60_54 k
  · have k := k.2 z
    refine ⟨fun z => ?_, fun z => ?_⟩
    · have k := k.1 z
      refine e_il o_60_55 rfl ?_
      refine e_i0_5 o_60_56 (fun z => ?_) (fun z => ?_)
      · have k := k.1 z
        refine e_c 0 o_60_63 rfl ?_
        exact e_retI o_60_64 k
      · have k := k.2 z
        refine e_c 4 o_60_59 rfl ?_
        refine e_go o_60_60 ?_
        exact e_retI o_60_64 k
    · have k := k.2 z
      refine e_il o_60_65 rfl ?_
      refine e_i0_5 o_60_66 (fun z => ?_) (fun z => ?_)
      · have k := k.1 z
        refine e_c 0 o_60_77 rfl ?_
        exact e_retI o_60_78 k
      · have k := k.2 z
        refine e_c 4 o_60_69 rfl ?_
        refine e_il o_60_70 rfl ?_
        refine e_bin o_60_71 rfl ?_
        refine e_il o_60_72 rfl ?_
        obtain ⟨q, k⟩ := k
        refine e_div o_60_73 q ?_
        refine e_go o_60_74 ?_
        exact e_retI o_60_78 k
set_option maxHeartbeats 4000000 in
set_option maxRecDepth 100000 in
theorem B_61_0 {x0 : Nat} {x1 : Int32} {x2 : Int32} {x3 : Int32} {x4 : Int32} {h : XH} {Q : Value → XH → Prop} (hs : Sh h) (rx0 : Ar h x0 20) (k : InB 17 20 ∧ (InB 18 20 ∧ (InB 19 20 ∧ (InB 16 20 ∧ (Q .null (xsI (xsI (xsI (xsI h x0 (tn 17) x1) x0 (tn 18) x2) x0 (tn 19) x3) x0 (tn 16) x4)))))) : Ev 61 0 (x_ini 61 [.ref x0, .int x1, .int x2, .int x3, .int x4]) [] h Q := by
  rw [show x_ini 61 [.ref x0, .int x1, .int x2, .int x3, .int x4] = [.ref x0, .int x1, .int x2, .int x3, .int x4] from x_inid ml_61 rfl]
  refine e_al o_61_0 rfl ?_
  refine e_c 17 o_61_1 rfl ?_
  refine e_il o_61_3 rfl ?_
  obtain ⟨q, k⟩ := k
  refine e_ias (n := 20) o_61_4 ((rx0).1) ((rx0).2.2) ((rx0).2.1) q ?_
  refine e_al o_61_5 rfl ?_
  refine e_c 18 o_61_6 rfl ?_
  refine e_il o_61_8 rfl ?_
  obtain ⟨q, k⟩ := k
  refine e_ias (n := 20) o_61_9 ((rx0).1) ((rx0).2.2) ((rx0).2.1) q ?_
  refine e_al o_61_10 rfl ?_
  refine e_c 19 o_61_11 rfl ?_
  refine e_il o_61_13 rfl ?_
  obtain ⟨q, k⟩ := k
  refine e_ias (n := 20) o_61_14 ((rx0).1) ((rx0).2.2) ((rx0).2.1) q ?_
  refine e_al o_61_15 rfl ?_
  refine e_c 16 o_61_16 rfl ?_
  refine e_il o_61_18 rfl ?_
  obtain ⟨q, k⟩ := k
  refine e_ias (n := 20) o_61_20 ((rx0).1) ((rx0).2.2) ((rx0).2.1) q ?_
  exact e_ret0 o_61_21 k
set_option maxHeartbeats 4000000 in
set_option maxRecDepth 100000 in
theorem B_63_0 {x1 : Int32} {x2 : Int32} {h : XH} {Q : Value → XH → Prop} (hs : Sh h) (k : Ev 63 7 [.ref 34, .int x1, .int x2, .int 0, .int (x1 + 1), .null] [] h Q) : Ev 63 0 (x_ini 63 [.ref 34, .int x1, .int x2]) [] h Q := by
  rw [show x_ini 63 [.ref 34, .int x1, .int x2] = [.ref 34, .int x1, .int x2, .null, .null, .null] from x_inid ml_63 rfl]
  refine e_c 0 o_63_0 rfl ?_
  refine e_is (ls' := [.ref 34, .int x1, .int x2, .int 0, .null, .null]) o_63_1 (Nat.le_of_ble_eq_true rfl) rfl ?_
  refine e_il o_63_2 rfl ?_
  refine e_c 1 o_63_3 rfl ?_
  refine e_bin o_63_4 rfl ?_
  refine e_is (ls' := [.ref 34, .int x1, .int x2, .int 0, .int (x1 + 1), .null]) o_63_5 (Nat.le_of_ble_eq_true rfl) rfl ?_
  exact Ev.less (ls := [.ref 34, .int x1, .int x2, .int 0, .int (x1 + 1), .null]) ⟨Or.inr rfl, Or.inr rfl, Or.inr rfl, Or.inr rfl, Or.inr rfl, Or.inl rfl, trivial⟩ k
set_option maxHeartbeats 4000000 in
set_option maxRecDepth 100000 in
theorem B_63_7 {x1 : Int32} {x2 : Int32} {x3 : Int32} {x4 : Int32} {h : XH} {Q : Value → XH → Prop} (hs : Sh h) (k : ((x2 ≤ x4) → Q (.int x3) h) ∧ (¬ (x2 ≤ x4) → Ev 63 16 [.ref 34, .int x1, .int x2, .int x3, .int x4, .int 0] [] h Q)) : Ev 63 7 [.ref 34, .int x1, .int x2, .int x3, .int x4, .null] [] h Q := by
  refine e_il o_63_7 rfl ?_
  refine e_il o_63_9 rfl ?_
  refine e_if_3 o_63_10 (fun z => ?_) (fun z => ?_)
  · have k := k.1 z
    refine e_il o_63_73 rfl ?_
    exact e_retI o_63_74 k
  · have k := k.2 z
    refine e_c 0 o_63_13 rfl ?_
    refine e_is (ls' := [.ref 34, .int x1, .int x2, .int x3, .int x4, .int 0]) o_63_14 (Nat.le_of_ble_eq_true rfl) rfl ?_
    exact Ev.less (ls := [.ref 34, .int x1, .int x2, .int x3, .int x4, .int 0]) ⟨Or.inr rfl, Or.inr rfl, Or.inr rfl, Or.inr rfl, Or.inr rfl, Or.inr rfl, trivial⟩ k
set_option maxHeartbeats 4000000 in
set_option maxRecDepth 100000 in
theorem B_63_16 {x1 : Int32} {x2 : Int32} {x3 : Int32} {x4 : Int32} {x5 : Int32} {h : XH} {Q : Value → XH → Prop} (hs : Sh h) (k : (((xI h (xR h 34 0) 1) ≤ x5) → Ev 63 7 [.ref 34, .int x1, .int x2, .int x3, .int (x4 + 1), .null] [] h Q) ∧ (¬ ((xI h (xR h 34 0) 1) ≤ x5) → InB x4 301 ∧ (ClI 64 [.int (xI h 36 (tn x4)), .int x5] h (fun v2 h1 => Sh h1 ∧ (InB x1 301 ∧ (ClI 64 [.int (xI h1 36 (tn x1)), .int x5] h1 (fun v4 h3 => Sh h3 ∧ (((v2 = v4) → Ev 63 16 [.ref 34, .int x1, .int x2, .int x3, .int x4, .int (x5 + 1)] [] h3 Q) ∧ (¬ (v2 = v4) → Ev 63 16 [.ref 34, .int x1, .int x2, .int (x3 ||| (1 <<< (x5 &&& 31))), .int x4, .int (x5 + 1)] [] h3 Q))))))))) : Ev 63 16 [.ref 34, .int x1, .int x2, .int x3, .int x4, .int x5] [] h Q := by
  refine e_il o_63_16 rfl ?_
  refine e_al o_63_18 rfl ?_
  refine e_gR (r := (xR h 34 0)) o_63_19 (sk_34 (h := h) hs) (rfl) (by rcases (ss_p hs) with q | q <;> omega) ?_
  refine e_gI o_63_22 (sc_k (h := h) hs (ss_p hs)) ?_
  refine e_if_3 o_63_25 (fun z => ?_) (fun z => ?_)
  · have k := k.1 z
    refine e_inc (ls' := [.ref 34, .int x1, .int x2, .int x3, .int (x4 + 1), .int x5]) o_63_67 rfl rfl rfl ?_
    refine e_go o_63_70 ?_
    exact Ev.less (ls := [.ref 34, .int x1, .int x2, .int x3, .int (x4 + 1), .null]) ⟨Or.inr rfl, Or.inr rfl, Or.inr rfl, Or.inr rfl, Or.inr rfl, Or.inl rfl, trivial⟩ k
  · have k := k.2 z
    refine e_al o_63_28 rfl ?_
    refine e_gR (r := 36) o_63_29 (sk_34 (h := h) hs) (sr_34_2 (h := h) hs) (by decide) ?_
    refine e_il o_63_32 rfl ?_
    obtain ⟨q, k⟩ := k
    refine e_ia (n := 301) o_63_34 (sk_36 (h := h) hs) (sn_36 (h := h) hs) q ?_
    refine e_il o_63_35 rfl ?_
    refine e_clI (as := [.int (xI h 36 (tn x4)), .int x5]) (rest := []) o_63_37 rfl rfl (x_okd cl_63_64 ml_64 (Nat.le_of_ble_eq_true rfl) (Nat.le_of_ble_eq_true rfl)) (rfl) k ?_
    rintro v2 h1 ⟨sh1, k⟩
    refine e_al o_63_40 rfl ?_
    refine e_gR (r := 36) o_63_41 (sk_34 (h := h1) sh1) (sr_34_2 (h := h1) sh1) (by decide) ?_
    refine e_il o_63_44 rfl ?_
    obtain ⟨q, k⟩ := k
    refine e_ia (n := 301) o_63_45 (sk_36 (h := h1) sh1) (sn_36 (h := h1) sh1) q ?_
    refine e_il o_63_46 rfl ?_
    refine e_clI (as := [.int (xI h1 36 (tn x1)), .int x5]) (rest := [.int v2]) o_63_48 rfl rfl (x_okd cl_63_64 ml_64 (Nat.le_of_ble_eq_true rfl) (Nat.le_of_ble_eq_true rfl)) (rfl) k ?_
    rintro v4 h3 ⟨sh3, k⟩
    refine e_if_0 o_63_51 (fun z => ?_) (fun z => ?_)
    · have k := k.1 z
      refine e_inc (ls' := [.ref 34, .int x1, .int x2, .int x3, .int x4, .int (x5 + 1)]) o_63_61 rfl rfl rfl ?_
      refine e_go o_63_64 ?_
      exact Ev.less (ls := [.ref 34, .int x1, .int x2, .int x3, .int x4, .int (x5 + 1)]) ⟨Or.inr rfl, Or.inr rfl, Or.inr rfl, Or.inr rfl, Or.inr rfl, Or.inr rfl, trivial⟩ k
    · have k := k.2 z
      refine e_il o_63_54 rfl ?_
      refine e_c 1 o_63_55 rfl ?_
      refine e_il o_63_56 rfl ?_
      refine e_bin o_63_58 rfl ?_
      refine e_bin o_63_59 rfl ?_
      refine e_is (ls' := [.ref 34, .int x1, .int x2, .int (x3 ||| (1 <<< (x5 &&& 31))), .int x4, .int x5]) o_63_60 (Nat.le_of_ble_eq_true rfl) rfl ?_
      refine e_inc (ls' := [.ref 34, .int x1, .int x2, .int (x3 ||| (1 <<< (x5 &&& 31))), .int x4, .int (x5 + 1)]) o_63_61 rfl rfl rfl ?_
      refine e_go o_63_64 ?_
      exact Ev.less (ls := [.ref 34, .int x1, .int x2, .int (x3 ||| (1 <<< (x5 &&& 31))), .int x4, .int (x5 + 1)]) ⟨Or.inr rfl, Or.inr rfl, Or.inr rfl, Or.inr rfl, Or.inr rfl, Or.inr rfl, trivial⟩ k
set_option maxHeartbeats 4000000 in
set_option maxRecDepth 100000 in
theorem B_65_0  {h : XH} {Q : Value → XH → Prop} (hs : Sh h) (k : Q .null (xsI (xsI h 40 0 0) 40 1 0)) : Ev 65 0 (x_ini 65 [.ref 40]) [] h Q := by
  rw [show x_ini 65 [.ref 40] = [.ref 40] from x_inid ml_65 rfl]
  refine e_al o_65_0 rfl ?_
  refine e_c 0 o_65_1 rfl ?_
  refine e_pI o_65_2 (sk_40 (h := h) hs) ?_
  refine e_al o_65_5 rfl ?_
  refine e_c 0 o_65_6 rfl ?_
  refine e_pI o_65_7 (sk_40 (h := h) hs) ?_
  exact e_ret0 o_65_10 k
set_option maxHeartbeats 4000000 in
set_option maxRecDepth 100000 in
theorem B_73_0 {x1 : Int32} {x2 : Nat} {h : XH} {Q : Value → XH → Prop} (hs : Sh h) (rx2 : Ar h x2 20) (k : Ev 73 5 [.ref 34, .int x1, .ref x2, .int 0, .int 0] [] h Q) : Ev 73 0 (x_ini 73 [.ref 34, .int x1, .ref x2]) [] h Q := by
  rw [show x_ini 73 [.ref 34, .int x1, .ref x2] = [.ref 34, .int x1, .ref x2, .null, .null] from x_inid ml_73 rfl]
  refine e_c 0 o_73_0 rfl ?_
  refine e_is (ls' := [.ref 34, .int x1, .ref x2, .int 0, .null]) o_73_1 (Nat.le_of_ble_eq_true rfl) rfl ?_
  refine e_c 0 o_73_2 rfl ?_
  refine e_is (ls' := [.ref 34, .int x1, .ref x2, .int 0, .int 0]) o_73_3 (Nat.le_of_ble_eq_true rfl) rfl ?_
  exact Ev.less (ls := [.ref 34, .int x1, .ref x2, .int 0, .int 0]) ⟨Or.inr rfl, Or.inr rfl, Or.inr rfl, Or.inr rfl, Or.inr rfl, trivial⟩ k
set_option maxHeartbeats 4000000 in
set_option maxRecDepth 100000 in
theorem B_73_5 {x1 : Int32} {x2 : Nat} {x3 : Int32} {x4 : Int32} {h : XH} {Q : Value → XH → Prop} (hs : Sh h) (rx2 : Ar h x2 20) (k : InB x1 6 ∧ ((((xI h ((xR h 34 0) + 6) (tn x1)) ≤ x4) → Q (.int x3) h) ∧ (¬ ((xI h ((xR h 34 0) + 6) (tn x1)) ≤ x4) → ClI 74 [.ref 34, .int x1, .int x4, .ref x2] h (fun v2 h1 => Sh h1 ∧ Ar h1 x2 20 ∧ (((v2 = 0) → Ev 73 5 [.ref 34, .int x1, .ref x2, .int x3, .int (x4 + 1)] [] h1 Q) ∧ (¬ (v2 = 0) → Ev 73 5 [.ref 34, .int x1, .ref x2, .int (x3 + 1), .int (x4 + 1)] [] h1 Q)))))) : Ev 73 5 [.ref 34, .int x1, .ref x2, .int x3, .int x4] [] h Q := by
  refine e_il o_73_5 rfl ?_
  refine e_al o_73_7 rfl ?_
  refine e_gR (r := (xR h 34 0)) o_73_8 (sk_34 (h := h) hs) (rfl) (by rcases (ss_p hs) with q | q <;> omega) ?_
  refine e_gR (r := ((xR h 34 0) + 6)) o_73_11 (sc_k (h := h) hs (ss_p hs)) (sc_r14 (h := h) hs (ss_p hs)) (by omega) ?_
  refine e_il o_73_14 rfl ?_
  obtain ⟨q, k⟩ := k
  refine e_ia (n := 6) o_73_15 ((sc_a6 (h := h) hs (ss_p hs)).1) ((sc_a6 (h := h) hs (ss_p hs)).2.1) q ?_
  refine e_if_3 o_73_16 (fun z => ?_) (fun z => ?_)
  · have k := k.1 z
    refine e_il o_73_39 rfl ?_
    exact e_retI o_73_40 k
  · have k := k.2 z
    refine e_al o_73_19 rfl ?_
    refine e_il o_73_20 rfl ?_
    refine e_il o_73_21 rfl ?_
    refine e_al o_73_23 rfl ?_
    refine e_clI (as := [.ref 34, .int x1, .int x4, .ref x2]) (rest := []) o_73_24 rfl rfl (x_okd cl_73_74 ml_74 (Nat.le_of_ble_eq_true rfl) (Nat.le_of_ble_eq_true rfl)) (x_rc0 (ci := 3) (sk_34 (h := h) hs) mo_74) k ?_
    rintro v2 h1 ⟨sh1, r_x2_h1, k⟩
    refine e_i0_0 o_73_27 (fun z => ?_) (fun z => ?_)
    · have k := k.1 z
      refine e_inc (ls' := [.ref 34, .int x1, .ref x2, .int x3, .int (x4 + 1)]) o_73_33 rfl rfl rfl ?_
      refine e_go o_73_36 ?_
      exact Ev.less (ls := [.ref 34, .int x1, .ref x2, .int x3, .int (x4 + 1)]) ⟨Or.inr rfl, Or.inr rfl, Or.inr rfl, Or.inr rfl, Or.inr rfl, trivial⟩ k
    · have k := k.2 z
      refine e_inc (ls' := [.ref 34, .int x1, .ref x2, .int (x3 + 1), .int x4]) o_73_30 rfl rfl rfl ?_
      refine e_inc (ls' := [.ref 34, .int x1, .ref x2, .int (x3 + 1), .int (x4 + 1)]) o_73_33 rfl rfl rfl ?_
      refine e_go o_73_36 ?_
      exact Ev.less (ls := [.ref 34, .int x1, .ref x2, .int (x3 + 1), .int (x4 + 1)]) ⟨Or.inr rfl, Or.inr rfl, Or.inr rfl, Or.inr rfl, Or.inr rfl, trivial⟩ k
set_option maxHeartbeats 4000000 in
set_option maxRecDepth 100000 in
theorem B_74_0 {x1 : Int32} {x2 : Int32} {x3 : Nat} {h : XH} {Q : Value → XH → Prop} (hs : Sh h) (rx3 : Ar h x3 20) (k : InB ((x1 * 6) + x2) 36 ∧ (ClI 57 [.ref 34, .int (xI h ((xR h 34 0) + 8) (tn ((x1 * 6) + x2))), .ref x3] h (fun v2 h1 => Sh h1 ∧ Ar h1 x3 20 ∧ (((v2 = 0) → Q (.int 0) h1) ∧ (¬ (v2 = 0) → (((xI h1 34 5) = 0) → Q (.int 0) h1) ∧ (¬ ((xI h1 34 5) = 0) → Q (.int 1) h1)))))) : Ev 74 0 (x_ini 74 [.ref 34, .int x1, .int x2, .ref x3]) [] h Q := by
  rw [show x_ini 74 [.ref 34, .int x1, .int x2, .ref x3] = [.ref 34, .int x1, .int x2, .ref x3] from x_inid ml_74 rfl]
  refine e_al o_74_0 rfl ?_
  refine e_al o_74_1 rfl ?_
  refine e_gR (r := (xR h 34 0)) o_74_2 (sk_34 (h := h) hs) (rfl) (by rcases (ss_p hs) with q | q <;> omega) ?_
  refine e_gR (r := ((xR h 34 0) + 8)) o_74_5 (sc_k (h := h) hs (ss_p hs)) (sc_r16 (h := h) hs (ss_p hs)) (by omega) ?_
  refine e_il o_74_8 rfl ?_
  refine e_c 6 o_74_9 rfl ?_
  refine e_bin o_74_11 rfl ?_
  refine e_il o_74_12 rfl ?_
  refine e_bin o_74_13 rfl ?_
  obtain ⟨q, k⟩ := k
  refine e_ia (n := 36) o_74_14 ((sc_a8 (h := h) hs (ss_p hs)).1) ((sc_a8 (h := h) hs (ss_p hs)).2.1) q ?_
  refine e_al o_74_15 rfl ?_
  refine e_clI (as := [.ref 34, .int (xI h ((xR h 34 0) + 8) (tn ((x1 * 6) + x2))), .ref x3]) (rest := []) o_74_16 rfl rfl (x_okd cl_74_57 ml_57 (Nat.le_of_ble_eq_true rfl) (Nat.le_of_ble_eq_true rfl)) (x_rc0 (ci := 3) (sk_34 (h := h) hs) mo_57) k ?_
  rintro v2 h1 ⟨sh1, r_x3_h1, k⟩
  refine e_i0_0 o_74_19 (fun z => ?_) (fun z => ?_)
  · have k := k.1 z
    refine e_c 0 o_74_33 rfl ?_
    exact e_retZ o_74_34 (by decide) k
  · have k := k.2 z
    refine e_al o_74_22 rfl ?_
    refine e_gI o_74_23 (sk_34 (h := h1) sh1) ?_
    refine e_i0_0 o_74_26 (fun z => ?_) (fun z => ?_)
    · have k := k.1 z
      refine e_c 0 o_74_33 rfl ?_
      exact e_retZ o_74_34 (by decide) k
    · have k := k.2 z
      refine e_c 1 o_74_29 rfl ?_
      refine e_go o_74_30 ?_
      exact e_retZ o_74_34 (by decide) k
set_option maxHeartbeats 4000000 in
set_option maxRecDepth 100000 in
theorem B_75_0 {x1 : Int32} {x2 : Nat} {x3 : Int32} {h : XH} {Q : Value → XH → Prop} (hs : Sh h) (rx2 : Ar h x2 20) (k : Ev 75 3 [.ref 34, .int x1, .ref x2, .int x3, .int 0, .null] [] h Q) : Ev 75 0 (x_ini 75 [.ref 34, .int x1, .ref x2, .int x3]) [] h Q := by
  rw [show x_ini 75 [.ref 34, .int x1, .ref x2, .int x3] = [.ref 34, .int x1, .ref x2, .int x3, .null, .null] from x_inid ml_75 rfl]
  refine e_c 0 o_75_0 rfl ?_
  refine e_is (ls' := [.ref 34, .int x1, .ref x2, .int x3, .int 0, .null]) o_75_1 (Nat.le_of_ble_eq_true rfl) rfl ?_
  exact Ev.less (ls := [.ref 34, .int x1, .ref x2, .int x3, .int 0, .null]) ⟨Or.inr rfl, Or.inr rfl, Or.inr rfl, Or.inr rfl, Or.inr rfl, Or.inl rfl, trivial⟩ k
set_option maxHeartbeats 4000000 in
set_option maxRecDepth 100000 in
theorem B_75_3 {x1 : Int32} {x2 : Nat} {x3 : Int32} {x4 : Int32} {h : XH} {Q : Value → XH → Prop} (hs : Sh h) (rx2 : Ar h x2 20) (k : InB x1 6 ∧ ((((xI h ((xR h 34 0) + 6) (tn x1)) ≤ x4) → Q (.int (-2)) h) ∧ (¬ ((xI h ((xR h 34 0) + 6) (tn x1)) ≤ x4) → InB ((x1 * 6) + x4) 36 ∧ (ClI 57 [.ref 34, .int (xI h ((xR h 34 0) + 8) (tn ((x1 * 6) + x4))), .ref x2] h (fun v2 h1 => Sh h1 ∧ Ar h1 x2 20 ∧ (((v2 = 0) → Q (.int x4) h1) ∧ (¬ (v2 = 0) → ((¬ x3 = 0) → Ev 75 3 [.ref 34, .int x1, .ref x2, .int x3, .int (x4 + 1), .null] [] h1 Q) ∧ (¬ (¬ x3 = 0) → ((¬ (xI h1 34 5) = 0) → Ev 75 3 [.ref 34, .int x1, .ref x2, .int x3, .int (x4 + 1), .null] [] h1 Q) ∧ (¬ (¬ (xI h1 34 5) = 0) → Q (.int x4) h1))))))))) : Ev 75 3 [.ref 34, .int x1, .ref x2, .int x3, .int x4, .null] [] h Q := by
  refine e_il o_75_3 rfl ?_
  refine e_al o_75_5 rfl ?_
  refine e_gR (r := (xR h 34 0)) o_75_6 (sk_34 (h := h) hs) (rfl) (by rcases (ss_p hs) with q | q <;> omega) ?_
  refine e_gR (r := ((xR h 34 0) + 6)) o_75_9 (sc_k (h := h) hs (ss_p hs)) (sc_r14 (h := h) hs (ss_p hs)) (by omega) ?_
  refine e_il o_75_12 rfl ?_
  obtain ⟨q, k⟩ := k
  refine e_ia (n := 6) o_75_13 ((sc_a6 (h := h) hs (ss_p hs)).1) ((sc_a6 (h := h) hs (ss_p hs)).2.1) q ?_
  refine e_if_3 o_75_14 (fun z => ?_) (fun z => ?_)
  · have k := k.1 z
    refine e_c (-2) o_75_64 rfl ?_
    exact e_retI o_75_66 k
  · have k := k.2 z
    refine e_al o_75_17 rfl ?_
    refine e_al o_75_18 rfl ?_
    refine e_gR (r := (xR h 34 0)) o_75_19 (sk_34 (h := h) hs) (rfl) (by rcases (ss_p hs) with q | q <;> omega) ?_
    refine e_gR (r := ((xR h 34 0) + 8)) o_75_22 (sc_k (h := h) hs (ss_p hs)) (sc_r16 (h := h) hs (ss_p hs)) (by omega) ?_
    refine e_il o_75_25 rfl ?_
    refine e_c 6 o_75_26 rfl ?_
    refine e_bin o_75_28 rfl ?_
    refine e_il o_75_29 rfl ?_
    refine e_bin o_75_31 rfl ?_
    obtain ⟨q, k⟩ := k
    refine e_ia (n := 36) o_75_32 ((sc_a8 (h := h) hs (ss_p hs)).1) ((sc_a8 (h := h) hs (ss_p hs)).2.1) q ?_
    refine e_al o_75_33 rfl ?_
    refine e_clI (as := [.ref 34, .int (xI h ((xR h 34 0) + 8) (tn ((x1 * 6) + x4))), .ref x2]) (rest := []) o_75_34 rfl rfl (x_okd cl_75_57 ml_57 (Nat.le_of_ble_eq_true rfl) (Nat.le_of_ble_eq_true rfl)) (x_rc0 (ci := 3) (sk_34 (h := h) hs) mo_57) k ?_
    rintro v2 h1 ⟨sh1, r_x2_h1, k⟩
    refine e_is (ls' := [.ref 34, .int x1, .ref x2, .int x3, .int x4, .int v2]) o_75_37 (Nat.le_of_ble_eq_true rfl) rfl ?_
    refine e_il o_75_39 rfl ?_
    refine e_i0_0 o_75_41 (fun z => ?_) (fun z => ?_)
    · have k := k.1 z
      refine e_il o_75_55 rfl ?_
      exact e_retI o_75_57 k
    · have k := k.2 z
      refine e_il o_75_44 rfl ?_
      refine e_i0_1 o_75_45 (fun z => ?_) (fun z => ?_)
      · have k := k.1 z
        refine e_inc (ls' := [.ref 34, .int x1, .ref x2, .int x3, .int (x4 + 1), .int v2]) o_75_58 rfl rfl rfl ?_
        refine e_go o_75_61 ?_
        exact Ev.less (ls := [.ref 34, .int x1, .ref x2, .int x3, .int (x4 + 1), .null]) ⟨Or.inr rfl, Or.inr rfl, Or.inr rfl, Or.inr rfl, Or.inr rfl, Or.inl rfl, trivial⟩ k
      · have k := k.2 z
        refine e_al o_75_48 rfl ?_
        refine e_gI o_75_49 (sk_34 (h := h1) sh1) ?_
        refine e_i0_1 o_75_52 (fun z => ?_) (fun z => ?_)
        · have k := k.1 z
          refine e_inc (ls' := [.ref 34, .int x1, .ref x2, .int x3, .int (x4 + 1), .int v2]) o_75_58 rfl rfl rfl ?_
          refine e_go o_75_61 ?_
          exact Ev.less (ls := [.ref 34, .int x1, .ref x2, .int x3, .int (x4 + 1), .null]) ⟨Or.inr rfl, Or.inr rfl, Or.inr rfl, Or.inr rfl, Or.inr rfl, Or.inl rfl, trivial⟩ k
        · have k := k.2 z
          refine e_il o_75_55 rfl ?_
          exact e_retI o_75_57 k
set_option maxHeartbeats 4000000 in
set_option maxRecDepth 100000 in
theorem B_78_0  {h : XH} {Q : Value → XH → Prop} (hs : Sh h) (k : (39 ≠ 41 ∧ ¬ (0 : Int32) < 0 ∧ ¬ ((xI h 40 1) * 20) < 0 ∧ ¬ (20 : Int32) < 0 ∧ tn (0 : Int32) + tn (20 : Int32) ≤ 20 ∧ tn ((xI h 40 1) * 20) + tn (20 : Int32) ≤ 1000) ∧ (∀ h1 : XH, h1 = (xsI (xsA h 41 (va_cpy (xI h 39) (xI h 41) (tn (0 : Int32)) (tn ((xI h 40 1) * 20)) (tn (20 : Int32)))) 40 1 (((xI (xsA h 41 (va_cpy (xI h 39) (xI h 41) (tn (0 : Int32)) (tn ((xI h 40 1) * 20)) (tn (20 : Int32)))) 40 1) + 1) - ((xI (xsA h 41 (va_cpy (xI h 39) (xI h 41) (tn (0 : Int32)) (tn ((xI h 40 1) * 20)) (tn (20 : Int32)))) 40 1) + 1) / 50 * 50)) → (Q .null (xsI h1 40 0 (if 50 < ((xI h1 40 0) + 1) then 50 else ((xI h1 40 0) + 1)))))) : Ev 78 0 (x_ini 78 [.ref 40, .ref 39]) [] h Q := by
  rw [show x_ini 78 [.ref 40, .ref 39] = [.ref 40, .ref 39] from x_inid ml_78 rfl]
  refine e_al o_78_0 rfl ?_
  refine e_c 0 o_78_1 rfl ?_
  refine e_al o_78_2 rfl ?_
  refine e_gR (r := 41) o_78_3 (sk_40 (h := h) hs) (sr_40_2 (h := h) hs) (by decide) ?_
  refine e_al o_78_6 rfl ?_
  refine e_gI o_78_7 (sk_40 (h := h) hs) ?_
  refine e_c 20 o_78_10 rfl ?_
  refine e_bin o_78_12 rfl ?_
  refine e_c 20 o_78_13 rfl ?_
  obtain ⟨q, k⟩ := k
  refine e_cp (ns := 20) (nd := 1000) o_78_15 ⟨sk_39 (h := h) hs, sk_41 (h := h) hs, by decide, by decide, q.1⟩ (sn_39 (h := h) hs) (sn_41 (h := h) hs) q.2 (Nat.le_of_ble_eq_true rfl) ?_
  refine e_al o_78_18 rfl ?_
  refine e_al o_78_19 rfl ?_
  refine e_gI o_78_20 (sk_40 (h := h) hs) ?_
  refine e_c 1 o_78_23 rfl ?_
  refine e_bin o_78_24 rfl ?_
  refine e_c 50 o_78_25 rfl ?_
  refine e_rem o_78_27 (by decide) ?_
  refine e_pI o_78_28 (sk_40 (h := h) hs) ?_
  obtain ⟨h1, eh1⟩ : ∃ z : XH, z = (xsI (xsA h 41 (va_cpy (xI h 39) (xI h 41) (tn (0 : Int32)) (tn ((xI h 40 1) * 20)) (tn (20 : Int32)))) 40 1 (((xI (xsA h 41 (va_cpy (xI h 39) (xI h 41) (tn (0 : Int32)) (tn ((xI h 40 1) * 20)) (tn (20 : Int32)))) 40 1) + 1) - ((xI (xsA h 41 (va_cpy (xI h 39) (xI h 41) (tn (0 : Int32)) (tn ((xI h 40 1) * 20)) (tn (20 : Int32)))) 40 1) + 1) / 50 * 50)) := ⟨_, rfl⟩
  show Ev 78 31 [.ref 40, .ref 39] [] (xsI (xsA h 41 (va_cpy (xI h 39) (xI h 41) (tn (0 : Int32)) (tn ((xI h 40 1) * 20)) (tn (20 : Int32)))) 40 1 (((xI (xsA h 41 (va_cpy (xI h 39) (xI h 41) (tn (0 : Int32)) (tn ((xI h 40 1) * 20)) (tn (20 : Int32)))) 40 1) + 1) - ((xI (xsA h 41 (va_cpy (xI h 39) (xI h 41) (tn (0 : Int32)) (tn ((xI h 40 1) * 20)) (tn (20 : Int32)))) 40 1) + 1) / 50 * 50)) Q
  rw [← eh1]
  have sh1 : Sh h1 := by rw [eh1]; exact (sh_I (sh_A hs (by decide)) (by decide))
  have k := k h1 eh1
  refine e_al o_78_31 rfl ?_
  refine e_al o_78_32 rfl ?_
  refine e_gI o_78_33 (sk_40 (h := h1) sh1) ?_
  refine e_c 1 o_78_36 rfl ?_
  refine e_bin o_78_37 rfl ?_
  refine e_c 50 o_78_38 rfl ?_
  refine e_min o_78_40 (Nat.le_of_ble_eq_true rfl) ?_
  refine e_pI o_78_43 (sk_40 (h := h1) sh1) ?_
  exact e_ret0 o_78_46 k
set_option maxHeartbeats 4000000 in
set_option maxRecDepth 100000 in
theorem B_79_0 {x1 : Nat} {x2 : Int32} {h : XH} {Q : Value → XH → Prop} (hs : Sh h) (rx1 : Ar h x1 20) (k : Ev 79 2 [.ref 34, .ref x1, .int x2, .int 0, .null] [] h Q) : Ev 79 0 (x_ini 79 [.ref 34, .ref x1, .int x2]) [] h Q := by
  rw [show x_ini 79 [.ref 34, .ref x1, .int x2] = [.ref 34, .ref x1, .int x2, .null, .null] from x_inid ml_79 rfl]
  refine e_c 0 o_79_0 rfl ?_
  refine e_is (ls' := [.ref 34, .ref x1, .int x2, .int 0, .null]) o_79_1 (Nat.le_of_ble_eq_true rfl) rfl ?_
  exact Ev.less (ls := [.ref 34, .ref x1, .int x2, .int 0, .null]) ⟨Or.inr rfl, Or.inr rfl, Or.inr rfl, Or.inr rfl, Or.inl rfl, trivial⟩ k
set_option maxHeartbeats 4000000 in
set_option maxRecDepth 100000 in
theorem B_79_2 {x1 : Nat} {x2 : Int32} {x3 : Int32} {h : XH} {Q : Value → XH → Prop} (hs : Sh h) (rx1 : Ar h x1 20) (k : (((xI h (xR h 34 0) 0) ≤ x3) → Ev 79 94 [.ref 34, .ref x1, .int x2, .int 0, .null] [] h Q) ∧ (¬ ((xI h (xR h 34 0) 0) ≤ x3) → InB x3 8 ∧ ((((xI h ((xR h 34 0) + 4) (tn x3)) < 0) → Ev 79 46 [.ref 34, .ref x1, .int x2, .int x3, .null] [] h Q) ∧ (¬ ((xI h ((xR h 34 0) + 4) (tn x3)) < 0) → InB x3 8 ∧ (ClI 57 [.ref 34, .int (xI h ((xR h 34 0) + 4) (tn x3)), .ref x1] h (fun v2 h1 => Sh h1 ∧ Ar h1 x1 20 ∧ (((v2 = 0) → Ev 79 46 [.ref 34, .ref x1, .int x2, .int x3, .null] [] h1 Q) ∧ (¬ (v2 = 0) → (((1 : Int32) = 0) → InB x3 20 ∧ (InB x3 8 ∧ (Ev 79 2 [.ref 34, .ref x1, .int x2, .int (x3 + 1), .null] [] (xsI h1 37 (tn x3) (xI h1 x1 (tn x3))) Q))) ∧ (¬ ((1 : Int32) = 0) → InB x3 8 ∧ (InB x3 8 ∧ (∀ h3 : XH, h3 = (xsI h1 37 (tn x3) (if 0 < (if (xI h1 34 5) < (xI h1 ((xR h1 34 0) + 1) (tn x3)) then (xI h1 34 5) else (xI h1 ((xR h1 34 0) + 1) (tn x3))) then (if (xI h1 34 5) < (xI h1 ((xR h1 34 0) + 1) (tn x3)) then (xI h1 34 5) else (xI h1 ((xR h1 34 0) + 1) (tn x3))) else 0)) → (Ev 79 2 [.ref 34, .ref x1, .int x2, .int (x3 + 1), .null] [] h3 Q)))))))))))) : Ev 79 2 [.ref 34, .ref x1, .int x2, .int x3, .null] [] h Q := by
  refine e_il o_79_2 rfl ?_
  refine e_al o_79_3 rfl ?_
  refine e_gR (r := (xR h 34 0)) o_79_4 (sk_34 (h := h) hs) (rfl) (by rcases (ss_p hs) with q | q <;> omega) ?_
  refine e_gI o_79_7 (sc_k (h := h) hs (ss_p hs)) ?_
  refine e_if_3 o_79_10 (fun z => ?_) (fun z => ?_)
  · have k := k.1 z
    refine e_c 0 o_79_92 rfl ?_
    refine e_is (ls' := [.ref 34, .ref x1, .int x2, .int 0, .null]) o_79_93 (Nat.le_of_ble_eq_true rfl) rfl ?_
    exact Ev.less (ls := [.ref 34, .ref x1, .int x2, .int 0, .null]) ⟨Or.inr rfl, Or.inr rfl, Or.inr rfl, Or.inr rfl, Or.inl rfl, trivial⟩ k
  · have k := k.2 z
    refine e_al o_79_13 rfl ?_
    refine e_gR (r := (xR h 34 0)) o_79_14 (sk_34 (h := h) hs) (rfl) (by rcases (ss_p hs) with q | q <;> omega) ?_
    refine e_gR (r := ((xR h 34 0) + 4)) o_79_17 (sc_k (h := h) hs (ss_p hs)) (sc_r12 (h := h) hs (ss_p hs)) (by omega) ?_
    refine e_il o_79_20 rfl ?_
    obtain ⟨q, k⟩ := k
    refine e_ia (n := 8) o_79_21 ((sc_a4 (h := h) hs (ss_p hs)).1) ((sc_a4 (h := h) hs (ss_p hs)).2.1) q ?_
    refine e_i0_2 o_79_22 (fun z => ?_) (fun z => ?_)
    · have k := k.1 z
      exact Ev.less (ls := [.ref 34, .ref x1, .int x2, .int x3, .null]) ⟨Or.inr rfl, Or.inr rfl, Or.inr rfl, Or.inr rfl, Or.inl rfl, trivial⟩ k
    · have k := k.2 z
      refine e_al o_79_25 rfl ?_
      refine e_al o_79_26 rfl ?_
      refine e_gR (r := (xR h 34 0)) o_79_27 (sk_34 (h := h) hs) (rfl) (by rcases (ss_p hs) with q | q <;> omega) ?_
      refine e_gR (r := ((xR h 34 0) + 4)) o_79_30 (sc_k (h := h) hs (ss_p hs)) (sc_r12 (h := h) hs (ss_p hs)) (by omega) ?_
      refine e_il o_79_33 rfl ?_
      obtain ⟨q, k⟩ := k
      refine e_ia (n := 8) o_79_34 ((sc_a4 (h := h) hs (ss_p hs)).1) ((sc_a4 (h := h) hs (ss_p hs)).2.1) q ?_
      refine e_al o_79_35 rfl ?_
      refine e_clI (as := [.ref 34, .int (xI h ((xR h 34 0) + 4) (tn x3)), .ref x1]) (rest := []) o_79_36 rfl rfl (x_okd cl_79_57 ml_57 (Nat.le_of_ble_eq_true rfl) (Nat.le_of_ble_eq_true rfl)) (x_rc0 (ci := 3) (sk_34 (h := h) hs) mo_57) k ?_
      rintro v2 h1 ⟨sh1, r_x1_h1, k⟩
      refine e_i0_0 o_79_39 (fun z => ?_) (fun z => ?_)
      · have k := k.1 z
        exact Ev.less (ls := [.ref 34, .ref x1, .int x2, .int x3, .null]) ⟨Or.inr rfl, Or.inr rfl, Or.inr rfl, Or.inr rfl, Or.inl rfl, trivial⟩ k
      · have k := k.2 z
        refine e_c 1 o_79_42 rfl ?_
        refine e_go o_79_43 ?_
        refine e_is (ls' := [.ref 34, .ref x1, .int x2, .int x3, .int 1]) o_79_47 (Nat.le_of_ble_eq_true rfl) rfl ?_
        refine e_al o_79_49 rfl ?_
        refine e_gR (r := 37) o_79_50 (sk_34 (h := h1) sh1) (sr_34_3 (h := h1) sh1) (by decide) ?_
        refine e_il o_79_53 rfl ?_
        refine e_il o_79_54 rfl ?_
        refine e_i0_0 o_79_56 (fun z => ?_) (fun z => ?_)
        · have k := k.1 z
          refine e_al o_79_82 rfl ?_
          refine e_il o_79_83 rfl ?_
          obtain ⟨q, k⟩ := k
          refine e_ia (n := 20) o_79_84 ((r_x1_h1).1) ((r_x1_h1).2.1) q ?_
          obtain ⟨q, k⟩ := k
          refine e_ias (n := 8) o_79_85 (sk_37 (h := h1) sh1) (by decide) (sn_37 (h := h1) sh1) q ?_
          refine e_inc (ls' := [.ref 34, .ref x1, .int x2, .int (x3 + 1), .int 1]) o_79_86 rfl rfl rfl ?_
          refine e_go o_79_89 ?_
          exact Ev.less (ls := [.ref 34, .ref x1, .int x2, .int (x3 + 1), .null]) ⟨Or.inr rfl, Or.inr rfl, Or.inr rfl, Or.inr rfl, Or.inl rfl, trivial⟩ k
        · have k := k.2 z
          refine e_c 0 o_79_59 rfl ?_
          refine e_al o_79_60 rfl ?_
          refine e_gR (r := (xR h1 34 0)) o_79_61 (sk_34 (h := h1) sh1) (rfl) (by rcases (ss_p sh1) with q | q <;> omega) ?_
          refine e_gR (r := ((xR h1 34 0) + 1)) o_79_64 (sc_k (h := h1) sh1 (ss_p sh1)) (sc_r9 (h := h1) sh1 (ss_p sh1)) (by omega) ?_
          refine e_il o_79_67 rfl ?_
          obtain ⟨q, k⟩ := k
          refine e_ia (n := 8) o_79_68 ((sc_a1 (h := h1) sh1 (ss_p sh1)).1) ((sc_a1 (h := h1) sh1 (ss_p sh1)).2.1) q ?_
          refine e_al o_79_69 rfl ?_
          refine e_gI o_79_70 (sk_34 (h := h1) sh1) ?_
          refine e_min o_79_73 (Nat.le_of_ble_eq_true rfl) ?_
          refine e_max o_79_76 (Nat.le_of_ble_eq_true rfl) ?_
          refine e_go o_79_79 ?_
          obtain ⟨q, k⟩ := k
          refine e_ias (n := 8) o_79_85 (sk_37 (h := h1) sh1) (by decide) (sn_37 (h := h1) sh1) q ?_
          obtain ⟨h3, eh3⟩ : ∃ z : XH, z = (xsI h1 37 (tn x3) (if 0 < (if (xI h1 34 5) < (xI h1 ((xR h1 34 0) + 1) (tn x3)) then (xI h1 34 5) else (xI h1 ((xR h1 34 0) + 1) (tn x3))) then (if (xI h1 34 5) < (xI h1 ((xR h1 34 0) + 1) (tn x3)) then (xI h1 34 5) else (xI h1 ((xR h1 34 0) + 1) (tn x3))) else 0)) := ⟨_, rfl⟩
          show Ev 79 86 [.ref 34, .ref x1, .int x2, .int x3, .int 1] [] (xsI h1 37 (tn x3) (if 0 < (if (xI h1 34 5) < (xI h1 ((xR h1 34 0) + 1) (tn x3)) then (xI h1 34 5) else (xI h1 ((xR h1 34 0) + 1) (tn x3))) then (if (xI h1 34 5) < (xI h1 ((xR h1 34 0) + 1) (tn x3)) then (xI h1 34 5) else (xI h1 ((xR h1 34 0) + 1) (tn x3))) else 0)) Q
          rw [← eh3]
          have sh3 : Sh h3 := by rw [eh3]; exact (sh_I sh1 (by decide))
          have r_x1_h3 : Ar h3 x1 20 := by rw [eh3]; exact (r_x1_h1 : Ar h1 x1 20)
          have k := k h3 eh3
          refine e_inc (ls' := [.ref 34, .ref x1, .int x2, .int (x3 + 1), .int 1]) o_79_86 rfl rfl rfl ?_
          refine e_go o_79_89 ?_
          exact Ev.less (ls := [.ref 34, .ref x1, .int x2, .int (x3 + 1), .null]) ⟨Or.inr rfl, Or.inr rfl, Or.inr rfl, Or.inr rfl, Or.inl rfl, trivial⟩ k
set_option maxHeartbeats 4000000 in
set_option maxRecDepth 100000 in
theorem B_79_46 {x1 : Nat} {x2 : Int32} {x3 : Int32} {h : XH} {Q : Value → XH → Prop} (hs : Sh h) (rx1 : Ar h x1 20) (k : (((0 : Int32) = 0) → InB x3 20 ∧ (InB x3 8 ∧ (Ev 79 2 [.ref 34, .ref x1, .int x2, .int (x3 + 1), .null] [] (xsI h 37 (tn x3) (xI h x1 (tn x3))) Q))) ∧ (¬ ((0 : Int32) = 0) → InB x3 8 ∧ (InB x3 8 ∧ (∀ h1 : XH, h1 = (xsI h 37 (tn x3) (if 0 < (if (xI h 34 5) < (xI h ((xR h 34 0) + 1) (tn x3)) then (xI h 34 5) else (xI h ((xR h 34 0) + 1) (tn x3))) then (if (xI h 34 5) < (xI h ((xR h 34 0) + 1) (tn x3)) then (xI h 34 5) else (xI h ((xR h 34 0) + 1) (tn x3))) else 0)) → (Ev 79 2 [.ref 34, .ref x1, .int x2, .int (x3 + 1), .null] [] h1 Q))))) : Ev 79 46 [.ref 34, .ref x1, .int x2, .int x3, .null] [] h Q := by
  refine e_c 0 o_79_46 rfl ?_
  refine e_is (ls' := [.ref 34, .ref x1, .int x2, .int x3, .int 0]) o_79_47 (Nat.le_of_ble_eq_true rfl) rfl ?_
  refine e_al o_79_49 rfl ?_
  refine e_gR (r := 37) o_79_50 (sk_34 (h := h) hs) (sr_34_3 (h := h) hs) (by decide) ?_
  refine e_il o_79_53 rfl ?_
  refine e_il o_79_54 rfl ?_
  refine e_i0_0 o_79_56 (fun z => ?_) (fun z => ?_)
  · have k := k.1 z
    refine e_al o_79_82 rfl ?_
    refine e_il o_79_83 rfl ?_
    obtain ⟨q, k⟩ := k
    refine e_ia (n := 20) o_79_84 ((rx1).1) ((rx1).2.1) q ?_
    obtain ⟨q, k⟩ := k
    refine e_ias (n := 8) o_79_85 (sk_37 (h := h) hs) (by decide) (sn_37 (h := h) hs) q ?_
    refine e_inc (ls' := [.ref 34, .ref x1, .int x2, .int (x3 + 1), .int 0]) o_79_86 rfl rfl rfl ?_
    refine e_go o_79_89 ?_
    exact Ev.less (ls := [.ref 34, .ref x1, .int x2, .int (x3 + 1), .null]) ⟨Or.inr rfl, Or.inr rfl, Or.inr rfl, Or.inr rfl, Or.inl rfl, trivial⟩ k
  · have k := k.2 z
    refine e_c 0 o_79_59 rfl ?_
    refine e_al o_79_60 rfl ?_
    refine e_gR (r := (xR h 34 0)) o_79_61 (sk_34 (h := h) hs) (rfl) (by rcases (ss_p hs) with q | q <;> omega) ?_
    refine e_gR (r := ((xR h 34 0) + 1)) o_79_64 (sc_k (h := h) hs (ss_p hs)) (sc_r9 (h := h) hs (ss_p hs)) (by omega) ?_
    refine e_il o_79_67 rfl ?_
    obtain ⟨q, k⟩ := k
    refine e_ia (n := 8) o_79_68 ((sc_a1 (h := h) hs (ss_p hs)).1) ((sc_a1 (h := h) hs (ss_p hs)).2.1) q ?_
    refine e_al o_79_69 rfl ?_
    refine e_gI o_79_70 (sk_34 (h := h) hs) ?_
    refine e_min o_79_73 (Nat.le_of_ble_eq_true rfl) ?_
    refine e_max o_79_76 (Nat.le_of_ble_eq_true rfl) ?_
    refine e_go o_79_79 ?_
    obtain ⟨q, k⟩ := k
    refine e_ias (n := 8) o_79_85 (sk_37 (h := h) hs) (by decide) (sn_37 (h := h) hs) q ?_
    obtain ⟨h1, eh1⟩ : ∃ z : XH, z = (xsI h 37 (tn x3) (if 0 < (if (xI h 34 5) < (xI h ((xR h 34 0) + 1) (tn x3)) then (xI h 34 5) else (xI h ((xR h 34 0) + 1) (tn x3))) then (if (xI h 34 5) < (xI h ((xR h 34 0) + 1) (tn x3)) then (xI h 34 5) else (xI h ((xR h 34 0) + 1) (tn x3))) else 0)) := ⟨_, rfl⟩
    show Ev 79 86 [.ref 34, .ref x1, .int x2, .int x3, .int 0] [] (xsI h 37 (tn x3) (if 0 < (if (xI h 34 5) < (xI h ((xR h 34 0) + 1) (tn x3)) then (xI h 34 5) else (xI h ((xR h 34 0) + 1) (tn x3))) then (if (xI h 34 5) < (xI h ((xR h 34 0) + 1) (tn x3)) then (xI h 34 5) else (xI h ((xR h 34 0) + 1) (tn x3))) else 0)) Q
    rw [← eh1]
    have sh1 : Sh h1 := by rw [eh1]; exact (sh_I hs (by decide))
    have r_x1_h1 : Ar h1 x1 20 := by rw [eh1]; exact (rx1 : Ar h x1 20)
    have k := k h1 eh1
    refine e_inc (ls' := [.ref 34, .ref x1, .int x2, .int (x3 + 1), .int 0]) o_79_86 rfl rfl rfl ?_
    refine e_go o_79_89 ?_
    exact Ev.less (ls := [.ref 34, .ref x1, .int x2, .int (x3 + 1), .null]) ⟨Or.inr rfl, Or.inr rfl, Or.inr rfl, Or.inr rfl, Or.inl rfl, trivial⟩ k
set_option maxHeartbeats 4000000 in
set_option maxRecDepth 100000 in
theorem B_79_94 {x1 : Nat} {x2 : Int32} {x3 : Int32} {h : XH} {Q : Value → XH → Prop} (hs : Sh h) (rx1 : Ar h x1 20) (k : (((xI h (xR h 34 0) 0) ≤ x3) → InB 14 20 ∧ (InB 14 20 ∧ (ClV 55 [.ref 34, .ref x1] (xsI h x1 (tn 14) ((xI h x1 (tn 14)) + 1)) (fun h1 => Sh h1 ∧ Ar h1 x1 20 ∧ (Q .null h1))))) ∧ (¬ ((xI h (xR h 34 0) 0) ≤ x3) → InB x3 8 ∧ (InB x3 20 ∧ ((((xI (xsI h x1 (tn x3) (xI h 37 (tn x3))) (xR h 34 0) 2) ≤ 0) → Ev 79 180 [.ref 34, .ref x1, .int x2, .int x3, .null] [] (xsI h x1 (tn x3) (xI h 37 (tn x3))) Q) ∧ (¬ ((xI (xsI h x1 (tn x3) (xI h 37 (tn x3))) (xR h 34 0) 2) ≤ 0) → InB 14 20 ∧ (ClI 80 [.int x2, .int ((8 * (xI (xsI h x1 (tn x3) (xI h 37 (tn x3))) x1 (tn 14))) + x3)] (xsI h x1 (tn x3) (xI h 37 (tn x3))) (fun v4 h3 => Sh h3 ∧ Ar h3 x1 20 ∧ ((((xI h3 (xR h3 34 0) 2) ≤ v4) → Ev 79 180 [.ref 34, .ref x1, .int x2, .int x3, .null] [] h3 Q) ∧ (¬ ((xI h3 (xR h3 34 0) 2) ≤ v4) → InB x3 8 ∧ (InB x3 8 ∧ ((((xI h3 ((xR h3 34 0) + 1) (tn x3)) ≤ (xI h3 37 (tn x3))) → InB x3 20 ∧ (Ev 79 180 [.ref 34, .ref x1, .int x2, .int x3, .null] [] (xsI h3 x1 (tn x3) 0) Q)) ∧ (¬ ((xI h3 ((xR h3 34 0) + 1) (tn x3)) ≤ (xI h3 37 (tn x3))) → InB x3 8 ∧ (InB x3 20 ∧ (Ev 79 180 [.ref 34, .ref x1, .int x2, .int x3, .null] [] (xsI h3 x1 (tn x3) ((xI h3 37 (tn x3)) + 1)) Q)))))))))))))) : Ev 79 94 [.ref 34, .ref x1, .int x2, .int x3, .null] [] h Q := by
  refine e_il o_79_94 rfl ?_
  refine e_al o_79_95 rfl ?_
  refine e_gR (r := (xR h 34 0)) o_79_96 (sk_34 (h := h) hs) (rfl) (by rcases (ss_p hs) with q | q <;> omega) ?_
  refine e_gI o_79_99 (sc_k (h := h) hs (ss_p hs)) ?_
  refine e_if_3 o_79_102 (fun z => ?_) (fun z => ?_)
  · have k := k.1 z
    refine e_al o_79_186 rfl ?_
    refine e_c 14 o_79_187 rfl ?_
    refine e_dup2 o_79_189 ⟨rfl, rfl⟩ ?_
    obtain ⟨q, k⟩ := k
    refine e_ia (n := 20) o_79_190 ((rx1).1) ((rx1).2.1) q ?_
    refine e_c 1 o_79_191 rfl ?_
    refine e_bin o_79_192 rfl ?_
    obtain ⟨q, k⟩ := k
    refine e_ias (n := 20) o_79_193 ((rx1).1) ((rx1).2.2) ((rx1).2.1) q ?_
    refine e_al o_79_194 rfl ?_
    refine e_al o_79_195 rfl ?_
    refine e_clV (as := [.ref 34, .ref x1]) (rest := []) o_79_196 rfl rfl (x_okd cl_79_55 ml_55 (Nat.le_of_ble_eq_true rfl) (Nat.le_of_ble_eq_true rfl)) (x_rc0 (ci := 3) (sk_34 (h := h) hs) mo_55) k ?_
    rintro h1 ⟨sh1, r_x1_h1, k⟩
    exact e_ret0 o_79_199 k
  · have k := k.2 z
    refine e_al o_79_105 rfl ?_
    refine e_il o_79_106 rfl ?_
    refine e_al o_79_107 rfl ?_
    refine e_gR (r := 37) o_79_108 (sk_34 (h := h) hs) (sr_34_3 (h := h) hs) (by decide) ?_
    refine e_il o_79_111 rfl ?_
    obtain ⟨q, k⟩ := k
    refine e_ia (n := 8) o_79_112 (sk_37 (h := h) hs) (sn_37 (h := h) hs) q ?_
    obtain ⟨q, k⟩ := k
    refine e_ias (n := 20) o_79_113 ((rx1).1) ((rx1).2.2) ((rx1).2.1) q ?_
    refine e_al o_79_114 rfl ?_
    refine e_gR (r := (xR h 34 0)) o_79_115 (sk_34 (h := h) hs) (rfl) (by rcases (ss_p hs) with q | q <;> omega) ?_
    refine e_gI o_79_118 (sc_k (h := h) hs (ss_p hs)) ?_
    refine e_i0_5 o_79_121 (fun z => ?_) (fun z => ?_)
    · have k := k.1 z
      exact Ev.less (ls := [.ref 34, .ref x1, .int x2, .int x3, .null]) ⟨Or.inr rfl, Or.inr rfl, Or.inr rfl, Or.inr rfl, Or.inl rfl, trivial⟩ k
    · have k := k.2 z
      refine e_il o_79_124 rfl ?_
      refine e_c 8 o_79_125 rfl ?_
      refine e_al o_79_127 rfl ?_
      refine e_c 14 o_79_128 rfl ?_
      obtain ⟨q, k⟩ := k
      refine e_ia (n := 20) o_79_130 ((rx1).1) ((rx1).2.1) q ?_
      refine e_bin o_79_131 rfl ?_
      refine e_il o_79_132 rfl ?_
      refine e_bin o_79_133 rfl ?_
      refine e_clI (as := [.int x2, .int ((8 * (xI (xsI h x1 (tn x3) (xI h 37 (tn x3))) x1 (tn 14))) + x3)]) (rest := []) o_79_134 rfl rfl (x_okd cl_79_80 ml_80 (Nat.le_of_ble_eq_true rfl) (Nat.le_of_ble_eq_true rfl)) (rfl) k ?_
      rintro v4 h3 ⟨sh3, r_x1_h3, k⟩
      refine e_al o_79_137 rfl ?_
      refine e_gR (r := (xR h3 34 0)) o_79_138 (sk_34 (h := h3) sh3) (rfl) (by rcases (ss_p sh3) with q | q <;> omega) ?_
      refine e_gI o_79_141 (sc_k (h := h3) sh3 (ss_p sh3)) ?_
      refine e_if_3 o_79_144 (fun z => ?_) (fun z => ?_)
      · have k := k.1 z
        exact Ev.less (ls := [.ref 34, .ref x1, .int x2, .int x3, .null]) ⟨Or.inr rfl, Or.inr rfl, Or.inr rfl, Or.inr rfl, Or.inl rfl, trivial⟩ k
      · have k := k.2 z
        refine e_al o_79_147 rfl ?_
        refine e_il o_79_148 rfl ?_
        refine e_al o_79_149 rfl ?_
        refine e_gR (r := 37) o_79_150 (sk_34 (h := h3) sh3) (sr_34_3 (h := h3) sh3) (by decide) ?_
        refine e_il o_79_153 rfl ?_
        obtain ⟨q, k⟩ := k
        refine e_ia (n := 8) o_79_154 (sk_37 (h := h3) sh3) (sn_37 (h := h3) sh3) q ?_
        refine e_al o_79_155 rfl ?_
        refine e_gR (r := (xR h3 34 0)) o_79_156 (sk_34 (h := h3) sh3) (rfl) (by rcases (ss_p sh3) with q | q <;> omega) ?_
        refine e_gR (r := ((xR h3 34 0) + 1)) o_79_159 (sc_k (h := h3) sh3 (ss_p sh3)) (sc_r9 (h := h3) sh3 (ss_p sh3)) (by omega) ?_
        refine e_il o_79_162 rfl ?_
        obtain ⟨q, k⟩ := k
        refine e_ia (n := 8) o_79_163 ((sc_a1 (h := h3) sh3 (ss_p sh3)).1) ((sc_a1 (h := h3) sh3 (ss_p sh3)).2.1) q ?_
        refine e_if_3 o_79_164 (fun z => ?_) (fun z => ?_)
        · have k := k.1 z
          refine e_c 0 o_79_178 rfl ?_
          obtain ⟨q, k⟩ := k
          refine e_ias (n := 20) o_79_179 ((r_x1_h3).1) ((r_x1_h3).2.2) ((r_x1_h3).2.1) q ?_
          exact Ev.less (ls := [.ref 34, .ref x1, .int x2, .int x3, .null]) ⟨Or.inr rfl, Or.inr rfl, Or.inr rfl, Or.inr rfl, Or.inl rfl, trivial⟩ k
        · have k := k.2 z
          refine e_al o_79_167 rfl ?_
          refine e_gR (r := 37) o_79_168 (sk_34 (h := h3) sh3) (sr_34_3 (h := h3) sh3) (by decide) ?_
          refine e_il o_79_171 rfl ?_
          obtain ⟨q, k⟩ := k
          refine e_ia (n := 8) o_79_172 (sk_37 (h := h3) sh3) (sn_37 (h := h3) sh3) q ?_
          refine e_c 1 o_79_173 rfl ?_
          refine e_bin o_79_174 rfl ?_
          refine e_go o_79_175 ?_
          obtain ⟨q, k⟩ := k
          refine e_ias (n := 20) o_79_179 ((r_x1_h3).1) ((r_x1_h3).2.2) ((r_x1_h3).2.1) q ?_
          exact Ev.less (ls := [.ref 34, .ref x1, .int x2, .int x3, .null]) ⟨Or.inr rfl, Or.inr rfl, Or.inr rfl, Or.inr rfl, Or.inl rfl, trivial⟩ k
set_option maxHeartbeats 4000000 in
set_option maxRecDepth 100000 in
theorem B_79_180 {x1 : Nat} {x2 : Int32} {x3 : Int32} {h : XH} {Q : Value → XH → Prop} (hs : Sh h) (rx1 : Ar h x1 20) (k : Ev 79 94 [.ref 34, .ref x1, .int x2, .int (x3 + 1), .null] [] h Q) : Ev 79 180 [.ref 34, .ref x1, .int x2, .int x3, .null] [] h Q := by
  refine e_inc (ls' := [.ref 34, .ref x1, .int x2, .int (x3 + 1), .null]) o_79_180 rfl rfl rfl ?_
  refine e_go o_79_183 ?_
  exact Ev.less (ls := [.ref 34, .ref x1, .int x2, .int (x3 + 1), .null]) ⟨Or.inr rfl, Or.inr rfl, Or.inr rfl, Or.inr rfl, Or.inl rfl, trivial⟩ k
set_option maxHeartbeats 4000000 in
set_option maxRecDepth 100000 in
theorem B_80_0 {x0 : Int32} {x1 : Int32} {h : XH} {Q : Value → XH → Prop} (hs : Sh h) (k : ClI 81 [.int x0, .int 41] h (fun v2 h1 => Sh h1 ∧ (ClI 81 [.int v2, .int x1] h1 (fun v4 h3 => Sh h3 ∧ (Q (.int (((v4 : Int32).toUInt32 >>> ((1 : Int32).toUInt32 &&& Int32.toUInt32 31)).toInt32 - ((v4 : Int32).toUInt32 >>> ((1 : Int32).toUInt32 &&& Int32.toUInt32 31)).toInt32 / 100 * 100)) h3))))) : Ev 80 0 (x_ini 80 [.int x0, .int x1]) [] h Q := by
  rw [show x_ini 80 [.int x0, .int x1] = [.int x0, .int x1, .null] from x_inid ml_80 rfl]
  refine e_il o_80_0 rfl ?_
  refine e_c 41 o_80_1 rfl ?_
  refine e_clI (as := [.int x0, .int 41]) (rest := []) o_80_3 rfl rfl (x_okd cl_80_81 ml_81 (Nat.le_of_ble_eq_true rfl) (Nat.le_of_ble_eq_true rfl)) (rfl) k ?_
  rintro v2 h1 ⟨sh1, k⟩
  refine e_il o_80_6 rfl ?_
  refine e_clI (as := [.int v2, .int x1]) (rest := []) o_80_7 rfl rfl (x_okd cl_80_81 ml_81 (Nat.le_of_ble_eq_true rfl) (Nat.le_of_ble_eq_true rfl)) (rfl) k ?_
  rintro v4 h3 ⟨sh3, k⟩
  refine e_is (ls' := [.int x0, .int x1, .int v4]) o_80_10 (Nat.le_of_ble_eq_true rfl) rfl ?_
  refine e_il o_80_11 rfl ?_
  refine e_c 1 o_80_12 rfl ?_
  refine e_bin o_80_13 rfl ?_
  refine e_c 100 o_80_14 rfl ?_
  refine e_rem o_80_16 (by decide) ?_
  exact e_retI o_80_17 k
set_option maxHeartbeats 4000000 in
set_option maxRecDepth 100000 in
theorem B_81_0 {x0 : Int32} {x1 : Int32} {h : XH} {Q : Value → XH → Prop} (hs : Sh h) (k : Q (.int ((((x0 ^^^ x1) * 1103515245) + 12345) ^^^ (((((x0 ^^^ x1) * 1103515245) + 12345) : Int32).toUInt32 >>> ((15 : Int32).toUInt32 &&& Int32.toUInt32 31)).toInt32)) h) : Ev 81 0 (x_ini 81 [.int x0, .int x1]) [] h Q := by
  rw [show x_ini 81 [.int x0, .int x1] = [.int x0, .int x1, .null] from x_inid ml_81 rfl]
  refine e_il o_81_0 rfl ?_
  refine e_il o_81_1 rfl ?_
  refine e_bin o_81_2 rfl ?_
  refine e_c 1103515245 o_81_3 rfl ?_
  refine e_bin o_81_5 rfl ?_
  refine e_c 12345 o_81_6 rfl ?_
  refine e_bin o_81_9 rfl ?_
  refine e_is (ls' := [.int x0, .int x1, .int (((x0 ^^^ x1) * 1103515245) + 12345)]) o_81_10 (Nat.le_of_ble_eq_true rfl) rfl ?_
  refine e_il o_81_11 rfl ?_
  refine e_il o_81_12 rfl ?_
  refine e_c 15 o_81_13 rfl ?_
  refine e_bin o_81_15 rfl ?_
  refine e_bin o_81_16 rfl ?_
  exact e_retI o_81_17 k
set_option maxHeartbeats 4000000 in
set_option maxRecDepth 100000 in
theorem B_85_0  {h : XH} {Q : Value → XH → Prop} (hs : Sh h) (k : ((¬ (xI h 40 0) = 0) → ∀ h1 : XH, h1 = (xsI (xsI h 40 1 ((((xI h 40 1) + 50) - 1) - (((xI h 40 1) + 50) - 1) / 50 * 50)) 40 0 ((xI (xsI h 40 1 ((((xI h 40 1) + 50) - 1) - (((xI h 40 1) + 50) - 1) / 50 * 50)) 40 0) - 1)) → ((41 ≠ 39 ∧ ¬ ((xI h1 40 1) * 20) < 0 ∧ ¬ (0 : Int32) < 0 ∧ ¬ (20 : Int32) < 0 ∧ tn ((xI h1 40 1) * 20) + tn (20 : Int32) ≤ 1000 ∧ tn (0 : Int32) + tn (20 : Int32) ≤ 20) ∧ (Q (.int 1) (xsA h1 39 (va_cpy (xI h1 41) (xI h1 39) (tn ((xI h1 40 1) * 20)) (tn (0 : Int32)) (tn (20 : Int32))))))) ∧ (¬ (¬ (xI h 40 0) = 0) → Q (.int 0) h)) : Ev 85 0 (x_ini 85 [.ref 40, .ref 39]) [] h Q := by
  rw [show x_ini 85 [.ref 40, .ref 39] = [.ref 40, .ref 39] from x_inid ml_85 rfl]
  refine e_al o_85_0 rfl ?_
  refine e_gI o_85_1 (sk_40 (h := h) hs) ?_
  refine e_i0_1 o_85_4 (fun z => ?_) (fun z => ?_)
  · have k := k.1 z
    refine e_al o_85_9 rfl ?_
    refine e_al o_85_10 rfl ?_
    refine e_gI o_85_11 (sk_40 (h := h) hs) ?_
    refine e_c 50 o_85_14 rfl ?_
    refine e_bin o_85_16 rfl ?_
    refine e_c 1 o_85_17 rfl ?_
    refine e_bin o_85_18 rfl ?_
    refine e_c 50 o_85_19 rfl ?_
    refine e_rem o_85_21 (by decide) ?_
    refine e_pI o_85_22 (sk_40 (h := h) hs) ?_
    refine e_al o_85_25 rfl ?_
    refine e_dup o_85_26 rfl ?_
    refine e_gI o_85_27 (sk_40 (h := h) hs) ?_
    refine e_c 1 o_85_30 rfl ?_
    refine e_bin o_85_31 rfl ?_
    refine e_pI o_85_32 (sk_40 (h := h) hs) ?_
    obtain ⟨h1, eh1⟩ : ∃ z : XH, z = (xsI (xsI h 40 1 ((((xI h 40 1) + 50) - 1) - (((xI h 40 1) + 50) - 1) / 50 * 50)) 40 0 ((xI (xsI h 40 1 ((((xI h 40 1) + 50) - 1) - (((xI h 40 1) + 50) - 1) / 50 * 50)) 40 0) - 1)) := ⟨_, rfl⟩
    show Ev 85 35 [.ref 40, .ref 39] [] (xsI (xsI h 40 1 ((((xI h 40 1) + 50) - 1) - (((xI h 40 1) + 50) - 1) / 50 * 50)) 40 0 ((xI (xsI h 40 1 ((((xI h 40 1) + 50) - 1) - (((xI h 40 1) + 50) - 1) / 50 * 50)) 40 0) - 1)) Q
    rw [← eh1]
    have sh1 : Sh h1 := by rw [eh1]; exact (sh_I (sh_I hs (by decide)) (by decide))
    have k := k h1 eh1
    refine e_al o_85_35 rfl ?_
    refine e_gR (r := 41) o_85_36 (sk_40 (h := h1) sh1) (sr_40_2 (h := h1) sh1) (by decide) ?_
    refine e_al o_85_39 rfl ?_
    refine e_gI o_85_40 (sk_40 (h := h1) sh1) ?_
    refine e_c 20 o_85_43 rfl ?_
    refine e_bin o_85_45 rfl ?_
    refine e_al o_85_46 rfl ?_
    refine e_c 0 o_85_47 rfl ?_
    refine e_c 20 o_85_48 rfl ?_
    obtain ⟨q, k⟩ := k
    refine e_cp (ns := 1000) (nd := 20) o_85_50 ⟨sk_41 (h := h1) sh1, sk_39 (h := h1) sh1, by decide, by decide, q.1⟩ (sn_41 (h := h1) sh1) (sn_39 (h := h1) sh1) q.2 (Nat.le_of_ble_eq_true rfl) ?_
    refine e_c 1 o_85_53 rfl ?_
    exact e_retZ o_85_54 (by decide) k
  · have k := k.2 z
    refine e_c 0 o_85_7 rfl ?_
    exact e_retZ o_85_8 (by decide) k
set_option maxHeartbeats 4000000 in
set_option maxRecDepth 100000 in
theorem B_90_0 {x1 : Int32} {x2 : Nat} {h : XH} {Q : Value → XH → Prop} (hs : Sh h) (rx2 : Ar h x2 20) (k : InB 15 20 ∧ (((¬ (((xI h x2 (tn 15)) >>> (x1 &&& 31)) &&& 1) = (1 : Int32)) → InB x1 6 ∧ (InB x1 6 ∧ (ClI 91 [.int (xI h ((xR h 34 0) + 7) (tn x1))] h (fun v2 h1 => Sh h1 ∧ Ar h1 x2 20 ∧ (Ev 90 45 [.ref 34, .int x1, .null, .int 0, .null, .int ((xI h 38 (tn x1)) + v2), .int (xI h 38 (tn x1))] [] h1 Q))))) ∧ (¬ (¬ (((xI h x2 (tn 15)) >>> (x1 &&& 31)) &&& 1) = (1 : Int32)) → Q (.int 1) h))) : Ev 90 0 (x_ini 90 [.ref 34, .int x1, .ref x2]) [] h Q := by
  rw [show x_ini 90 [.ref 34, .int x1, .ref x2] = [.ref 34, .int x1, .ref x2, .null, .null, .null, .null] from x_inid ml_90 rfl]
  refine e_al o_90_0 rfl ?_
  refine e_c 15 o_90_1 rfl ?_
  obtain ⟨q, k⟩ := k
  refine e_ia (n := 20) o_90_3 ((rx2).1) ((rx2).2.1) q ?_
  refine e_il o_90_4 rfl ?_
  refine e_bin o_90_5 rfl ?_
  refine e_c 1 o_90_6 rfl ?_
  refine e_bin o_90_7 rfl ?_
  refine e_c 1 o_90_8 rfl ?_
  refine e_if_1 o_90_9 (fun z => ?_) (fun z => ?_)
  · have k := k.1 z
    refine e_c 0 o_90_14 rfl ?_
    refine e_is (ls' := [.ref 34, .int x1, .ref x2, .int 0, .null, .null, .null]) o_90_15 (Nat.le_of_ble_eq_true rfl) rfl ?_
    refine e_al o_90_16 rfl ?_
    refine e_gR (r := 38) o_90_17 (sk_34 (h := h) hs) (sr_34_4 (h := h) hs) (by decide) ?_
    refine e_il o_90_20 rfl ?_
    obtain ⟨q, k⟩ := k
    refine e_ia (n := 6) o_90_21 (sk_38 (h := h) hs) (sn_38 (h := h) hs) q ?_
    refine e_is (ls' := [.ref 34, .int x1, .ref x2, .int 0, .int (xI h 38 (tn x1)), .null, .null]) o_90_22 (Nat.le_of_ble_eq_true rfl) rfl ?_
    refine e_il o_90_24 rfl ?_
    refine e_al o_90_26 rfl ?_
    refine e_gR (r := (xR h 34 0)) o_90_27 (sk_34 (h := h) hs) (rfl) (by rcases (ss_p hs) with q | q <;> omega) ?_
    refine e_gR (r := ((xR h 34 0) + 7)) o_90_30 (sc_k (h := h) hs (ss_p hs)) (sc_r15 (h := h) hs (ss_p hs)) (by omega) ?_
    refine e_il o_90_33 rfl ?_
    obtain ⟨q, k⟩ := k
    refine e_ia (n := 6) o_90_34 ((sc_a7 (h := h) hs (ss_p hs)).1) ((sc_a7 (h := h) hs (ss_p hs)).2.1) q ?_
    refine e_clI (as := [.int (xI h ((xR h 34 0) + 7) (tn x1))]) (rest := [.int (xI h 38 (tn x1))]) o_90_35 rfl rfl (x_okd cl_90_91 ml_91 (Nat.le_of_ble_eq_true rfl) (Nat.le_of_ble_eq_true rfl)) (rfl) k ?_
    rintro v2 h1 ⟨sh1, r_x2_h1, k⟩
    refine e_bin o_90_38 rfl ?_
    refine e_is (ls' := [.ref 34, .int x1, .ref x2, .int 0, .int (xI h 38 (tn x1)), .int ((xI h 38 (tn x1)) + v2), .null]) o_90_39 (Nat.le_of_ble_eq_true rfl) rfl ?_
    refine e_il o_90_41 rfl ?_
    refine e_is (ls' := [.ref 34, .int x1, .ref x2, .int 0, .int (xI h 38 (tn x1)), .int ((xI h 38 (tn x1)) + v2), .int (xI h 38 (tn x1))]) o_90_43 (Nat.le_of_ble_eq_true rfl) rfl ?_
    exact Ev.less (ls := [.ref 34, .int x1, .null, .int 0, .null, .int ((xI h 38 (tn x1)) + v2), .int (xI h 38 (tn x1))]) ⟨Or.inr rfl, Or.inr rfl, Or.inl rfl, Or.inr rfl, Or.inl rfl, Or.inr rfl, Or.inr rfl, trivial⟩ k
  · have k := k.2 z
    refine e_c 1 o_90_12 rfl ?_
    exact e_retI o_90_13 k
set_option maxHeartbeats 4000000 in
set_option maxRecDepth 100000 in
theorem B_90_45 {x1 : Int32} {x3 : Int32} {x5 : Int32} {x6 : Int32} {h : XH} {Q : Value → XH → Prop} (hs : Sh h) (k : ((x5 < x6) → Q (.int x3) h) ∧ (¬ (x5 < x6) → ClI 60 [.ref 34, .int x1, .int x6] h (fun v2 h1 => Sh h1 ∧ (Ev 90 45 [.ref 34, .int x1, .null, .int (x3 ||| (1 <<< (v2 &&& 31))), .null, .int x5, .int (x6 + 1)] [] h1 Q)))) : Ev 90 45 [.ref 34, .int x1, .null, .int x3, .null, .int x5, .int x6] [] h Q := by
  refine e_il o_90_45 rfl ?_
  refine e_il o_90_47 rfl ?_
  refine e_if_4 o_90_49 (fun z => ?_) (fun z => ?_)
  · have k := k.1 z
    refine e_il o_90_70 rfl ?_
    exact e_retI o_90_71 k
  · have k := k.2 z
    refine e_il o_90_52 rfl ?_
    refine e_c 1 o_90_53 rfl ?_
    refine e_al o_90_54 rfl ?_
    refine e_il o_90_55 rfl ?_
    refine e_il o_90_56 rfl ?_
    refine e_clI (as := [.ref 34, .int x1, .int x6]) (rest := [.int 1, .int x3]) o_90_58 rfl rfl (x_okd cl_90_60 ml_60 (Nat.le_of_ble_eq_true rfl) (Nat.le_of_ble_eq_true rfl)) (x_rc0 (ci := 3) (sk_34 (h := h) hs) mo_60) k ?_
    rintro v2 h1 ⟨sh1, k⟩
    refine e_bin o_90_61 rfl ?_
    refine e_bin o_90_62 rfl ?_
    refine e_is (ls' := [.ref 34, .int x1, .null, .int (x3 ||| (1 <<< (v2 &&& 31))), .null, .int x5, .int x6]) o_90_63 (Nat.le_of_ble_eq_true rfl) rfl ?_
    refine e_inc (ls' := [.ref 34, .int x1, .null, .int (x3 ||| (1 <<< (v2 &&& 31))), .null, .int x5, .int (x6 + 1)]) o_90_64 rfl rfl rfl ?_
    refine e_go o_90_67 ?_
    exact Ev.less (ls := [.ref 34, .int x1, .null, .int (x3 ||| (1 <<< (v2 &&& 31))), .null, .int x5, .int (x6 + 1)]) ⟨Or.inr rfl, Or.inr rfl, Or.inl rfl, Or.inr rfl, Or.inl rfl, Or.inr rfl, Or.inr rfl, trivial⟩ k
set_option maxHeartbeats 4000000 in
set_option maxRecDepth 100000 in
theorem B_102_0 {x0 : Nat} {x1 : Int32} {x2 : Nat} {nr : Nat} {h : XH} {Q : Value → XH → Prop} (hs : Sh h) (hx0 : x0 = 14 ∨ x0 = 24) (rx2 : Ar h x2 nr) (k : Ev 102 8 [.ref x0, .null, .ref x2, .int 0, .int x1, .int 0, .null] [] h Q) : Ev 102 0 (x_ini 102 [.ref x0, .int x1, .ref x2]) [] h Q := by
  rw [show x_ini 102 [.ref x0, .int x1, .ref x2] = [.ref x0, .int x1, .ref x2, .null, .null, .null, .null] from x_inid ml_102 rfl]
  refine e_c 0 o_102_0 rfl ?_
  refine e_is (ls' := [.ref x0, .int x1, .ref x2, .int 0, .null, .null, .null]) o_102_1 (Nat.le_of_ble_eq_true rfl) rfl ?_
  refine e_il o_102_2 rfl ?_
  refine e_is (ls' := [.ref x0, .int x1, .ref x2, .int 0, .int x1, .null, .null]) o_102_3 (Nat.le_of_ble_eq_true rfl) rfl ?_
  refine e_c 0 o_102_5 rfl ?_
  refine e_is (ls' := [.ref x0, .int x1, .ref x2, .int 0, .int x1, .int 0, .null]) o_102_6 (Nat.le_of_ble_eq_true rfl) rfl ?_
  exact Ev.less (ls := [.ref x0, .null, .ref x2, .int 0, .int x1, .int 0, .null]) ⟨Or.inr rfl, Or.inl rfl, Or.inr rfl, Or.inr rfl, Or.inr rfl, Or.inr rfl, Or.inl rfl, trivial⟩ k
set_option maxHeartbeats 4000000 in
set_option maxRecDepth 100000 in
theorem B_102_8 {x0 : Nat} {x2 : Nat} {x3 : Int32} {x4 : Int32} {x5 : Int32} {nr : Nat} {h : XH} {Q : Value → XH → Prop} (hs : Sh h) (hx0 : x0 = 14 ∨ x0 = 24) (rx2 : Ar h x2 nr) (k : (((xI h x0 0) ≤ x5) → Q (.int x3) h) ∧ (¬ ((xI h x0 0) ≤ x5) → InB x5 8 ∧ (¬ ((xI h (x0 + 1) (tn x5)) + 1) = 0 ∧ (InB x5 nr ∧ ((((x4 - x4 / ((xI h (x0 + 1) (tn x5)) + 1) * ((xI h (x0 + 1) (tn x5)) + 1)) = (xI h x2 (tn x5))) → ¬ ((xI h (x0 + 1) (tn x5)) + 1) = 0 ∧ (Ev 102 8 [.ref x0, .null, .ref x2, .int x3, .int (x4 / ((xI h (x0 + 1) (tn x5)) + 1)), .int (x5 + 1), .null] [] h Q)) ∧ (¬ ((x4 - x4 / ((xI h (x0 + 1) (tn x5)) + 1) * ((xI h (x0 + 1) (tn x5)) + 1)) = (xI h x2 (tn x5))) → ¬ ((xI h (x0 + 1) (tn x5)) + 1) = 0 ∧ (Ev 102 8 [.ref x0, .null, .ref x2, .int (x3 + 1), .int (x4 / ((xI h (x0 + 1) (tn x5)) + 1)), .int (x5 + 1), .null] [] h Q))))))) : Ev 102 8 [.ref x0, .null, .ref x2, .int x3, .int x4, .int x5, .null] [] h Q := by
  refine e_il o_102_8 rfl ?_
  refine e_al o_102_10 rfl ?_
  refine e_gI o_102_11 (sc_k (h := h) hs hx0) ?_
  refine e_if_3 o_102_14 (fun z => ?_) (fun z => ?_)
  · have k := k.1 z
    refine e_il o_102_56 rfl ?_
    exact e_retI o_102_57 k
  · have k := k.2 z
    refine e_al o_102_17 rfl ?_
    refine e_gR (r := (x0 + 1)) o_102_18 (sc_k (h := h) hs hx0) (sc_r9 (h := h) hs hx0) (by omega) ?_
    refine e_il o_102_21 rfl ?_
    obtain ⟨q, k⟩ := k
    refine e_ia (n := 8) o_102_23 ((sc_a1 (h := h) hs hx0).1) ((sc_a1 (h := h) hs hx0).2.1) q ?_
    refine e_c 1 o_102_24 rfl ?_
    refine e_bin o_102_25 rfl ?_
    refine e_is (ls' := [.ref x0, .null, .ref x2, .int x3, .int x4, .int x5, .int ((xI h (x0 + 1) (tn x5)) + 1)]) o_102_26 (Nat.le_of_ble_eq_true rfl) rfl ?_
    refine e_il o_102_28 rfl ?_
    refine e_il o_102_30 rfl ?_
    obtain ⟨q, k⟩ := k
    refine e_rem o_102_32 q ?_
    refine e_al o_102_33 rfl ?_
    refine e_il o_102_34 rfl ?_
    obtain ⟨q, k⟩ := k
    refine e_ia (n := nr) o_102_36 ((rx2).1) ((rx2).2.1) q ?_
    refine e_if_0 o_102_37 (fun z => ?_) (fun z => ?_)
    · have k := k.1 z
      refine e_il o_102_43 rfl ?_
      refine e_il o_102_45 rfl ?_
      obtain ⟨q, k⟩ := k
      refine e_div o_102_47 q ?_
      refine e_is (ls' := [.ref x0, .null, .ref x2, .int x3, .int (x4 / ((xI h (x0 + 1) (tn x5)) + 1)), .int x5, .int ((xI h (x0 + 1) (tn x5)) + 1)]) o_102_48 (Nat.le_of_ble_eq_true rfl) rfl ?_
      refine e_inc (ls' := [.ref x0, .null, .ref x2, .int x3, .int (x4 / ((xI h (x0 + 1) (tn x5)) + 1)), .int (x5 + 1), .int ((xI h (x0 + 1) (tn x5)) + 1)]) o_102_50 rfl rfl rfl ?_
      refine e_go o_102_53 ?_
      exact Ev.less (ls := [.ref x0, .null, .ref x2, .int x3, .int (x4 / ((xI h (x0 + 1) (tn x5)) + 1)), .int (x5 + 1), .null]) ⟨Or.inr rfl, Or.inl rfl, Or.inr rfl, Or.inr rfl, Or.inr rfl, Or.inr rfl, Or.inl rfl, trivial⟩ k
    · have k := k.2 z
      refine e_inc (ls' := [.ref x0, .null, .ref x2, .int (x3 + 1), .int x4, .int x5, .int ((xI h (x0 + 1) (tn x5)) + 1)]) o_102_40 rfl rfl rfl ?_
      refine e_il o_102_43 rfl ?_
      refine e_il o_102_45 rfl ?_
      obtain ⟨q, k⟩ := k
      refine e_div o_102_47 q ?_
      refine e_is (ls' := [.ref x0, .null, .ref x2, .int (x3 + 1), .int (x4 / ((xI h (x0 + 1) (tn x5)) + 1)), .int x5, .int ((xI h (x0 + 1) (tn x5)) + 1)]) o_102_48 (Nat.le_of_ble_eq_true rfl) rfl ?_
      refine e_inc (ls' := [.ref x0, .null, .ref x2, .int (x3 + 1), .int (x4 / ((xI h (x0 + 1) (tn x5)) + 1)), .int (x5 + 1), .int ((xI h (x0 + 1) (tn x5)) + 1)]) o_102_50 rfl rfl rfl ?_
      refine e_go o_102_53 ?_
      exact Ev.less (ls := [.ref x0, .null, .ref x2, .int (x3 + 1), .int (x4 / ((xI h (x0 + 1) (tn x5)) + 1)), .int (x5 + 1), .null]) ⟨Or.inr rfl, Or.inl rfl, Or.inr rfl, Or.inr rfl, Or.inr rfl, Or.inr rfl, Or.inl rfl, trivial⟩ k
set_option maxHeartbeats 4000000 in
set_option maxRecDepth 100000 in
theorem B_117_0 {x0 : Nat} {x1 : Int32} {x2 : Int32} {h : XH} {Q : Value → XH → Prop} (hs : Sh h) (hx0 : x0 = 14 ∨ x0 = 24) (k : InB x2 8 ∧ ((((xI h (x0 + 3) (tn x2)) ≤ 0) → Q (.int 0) h) ∧ (¬ ((xI h (x0 + 3) (tn x2)) ≤ 0) → ¬ (xI h (x0 + 3) (tn x2)) = 0 ∧ (InB x2 8 ∧ (¬ ((xI h (x0 + 1) (tn x2)) + 1) = 0 ∧ (Q (.int ((x1 / (xI h (x0 + 3) (tn x2))) - (x1 / (xI h (x0 + 3) (tn x2))) / ((xI h (x0 + 1) (tn x2)) + 1) * ((xI h (x0 + 1) (tn x2)) + 1))) h)))))) : Ev 117 0 (x_ini 117 [.ref x0, .int x1, .int x2]) [] h Q := by
  rw [show x_ini 117 [.ref x0, .int x1, .int x2] = [.ref x0, .int x1, .int x2, .null] from x_inid ml_117 rfl]
  refine e_al o_117_0 rfl ?_
  refine e_gR (r := (x0 + 3)) o_117_1 (sc_k (h := h) hs hx0) (sc_r11 (h := h) hs hx0) (by omega) ?_
  refine e_il o_117_4 rfl ?_
  obtain ⟨q, k⟩ := k
  refine e_ia (n := 8) o_117_5 ((sc_a3 (h := h) hs hx0).1) ((sc_a3 (h := h) hs hx0).2.1) q ?_
  refine e_is (ls' := [.ref x0, .int x1, .int x2, .int (xI h (x0 + 3) (tn x2))]) o_117_6 (Nat.le_of_ble_eq_true rfl) rfl ?_
  refine e_il o_117_7 rfl ?_
  refine e_i0_5 o_117_8 (fun z => ?_) (fun z => ?_)
  · have k := k.1 z
    refine e_c 0 o_117_26 rfl ?_
    exact e_retI o_117_27 k
  · have k := k.2 z
    refine e_il o_117_11 rfl ?_
    refine e_il o_117_12 rfl ?_
    obtain ⟨q, k⟩ := k
    refine e_div o_117_13 q ?_
    refine e_al o_117_14 rfl ?_
    refine e_gR (r := (x0 + 1)) o_117_15 (sc_k (h := h) hs hx0) (sc_r9 (h := h) hs hx0) (by omega) ?_
    refine e_il o_117_18 rfl ?_
    obtain ⟨q, k⟩ := k
    refine e_ia (n := 8) o_117_19 ((sc_a1 (h := h) hs hx0).1) ((sc_a1 (h := h) hs hx0).2.1) q ?_
    refine e_c 1 o_117_20 rfl ?_
    refine e_bin o_117_21 rfl ?_
    obtain ⟨q, k⟩ := k
    refine e_rem o_117_22 q ?_
    refine e_go o_117_23 ?_
    exact e_retI o_117_27 k
