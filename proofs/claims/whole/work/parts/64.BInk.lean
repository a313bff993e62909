set_option maxHeartbeats 4000000 in
set_option maxRecDepth 100000 in
theorem B_10_0 {x1 : Int32} {x2 : Int32} {x3 : Int32} {x4 : Int32} {x5 : Int32} {h : XH} {Q : Value → XH → Prop} (hs : Sh h) (k : ((((xI h 4 1) + 20) ≤ 2000) → ClV 11 [.ref 4, .int x1] h (fun h1 => Sh h1 ∧ (ClV 11 [.ref 4, .int x2] h1 (fun h3 => Sh h3 ∧ (ClV 11 [.ref 4, .int x3] h3 (fun h5 => Sh h5 ∧ (ClV 11 [.ref 4, .int x4] h5 (fun h7 => Sh h7 ∧ (ClV 11 [.ref 4, .int x5] h7 (fun h9 => Sh h9 ∧ (Q (.int (xI h9 4 1)) h9))))))))))) ∧ (¬ (((xI h 4 1) + 20) ≤ 2000) → Q (.int (-1)) h)) : Ev 10 0 (x_ini 10 [.ref 4, .int x1, .int x2, .int x3, .int x4, .int x5]) [] h Q := by
  rw [show x_ini 10 [.ref 4, .int x1, .int x2, .int x3, .int x4, .int x5] = [.ref 4, .int x1, .int x2, .int x3, .int x4, .int x5] from x_inid ml_10 rfl]
  refine e_al o_10_0 rfl ?_
  refine e_gI o_10_1 (sk_4 (h := h) hs) ?_
  refine e_c 20 o_10_4 rfl ?_
  refine e_bin o_10_6 rfl ?_
  refine e_c 2000 o_10_7 rfl ?_
  refine e_if_5 o_10_10 (fun z => ?_) (fun z => ?_)
  · have k := k.1 z
    refine e_al o_10_15 rfl ?_
    refine e_il o_10_16 rfl ?_
    refine e_clV (as := [.ref 4, .int x1]) (rest := []) o_10_17 rfl rfl (x_okd cl_10_11 ml_11 (Nat.le_of_ble_eq_true rfl) (Nat.le_of_ble_eq_true rfl)) (x_rc0 (ci := 8) (sk_4 (h := h) hs) mo_11) k ?_
    rintro h1 ⟨sh1, k⟩
    refine e_al o_10_20 rfl ?_
    refine e_il o_10_21 rfl ?_
    refine e_clV (as := [.ref 4, .int x2]) (rest := []) o_10_22 rfl rfl (x_okd cl_10_11 ml_11 (Nat.le_of_ble_eq_true rfl) (Nat.le_of_ble_eq_true rfl)) (x_rc0 (ci := 8) (sk_4 (h := h1) sh1) mo_11) k ?_
    rintro h3 ⟨sh3, k⟩
    refine e_al o_10_25 rfl ?_
    refine e_il o_10_26 rfl ?_
    refine e_clV (as := [.ref 4, .int x3]) (rest := []) o_10_27 rfl rfl (x_okd cl_10_11 ml_11 (Nat.le_of_ble_eq_true rfl) (Nat.le_of_ble_eq_true rfl)) (x_rc0 (ci := 8) (sk_4 (h := h3) sh3) mo_11) k ?_
    rintro h5 ⟨sh5, k⟩
    refine e_al o_10_30 rfl ?_
    refine e_il o_10_31 rfl ?_
    refine e_clV (as := [.ref 4, .int x4]) (rest := []) o_10_33 rfl rfl (x_okd cl_10_11 ml_11 (Nat.le_of_ble_eq_true rfl) (Nat.le_of_ble_eq_true rfl)) (x_rc0 (ci := 8) (sk_4 (h := h5) sh5) mo_11) k ?_
    rintro h7 ⟨sh7, k⟩
    refine e_al o_10_36 rfl ?_
    refine e_il o_10_37 rfl ?_
    refine e_clV (as := [.ref 4, .int x5]) (rest := []) o_10_39 rfl rfl (x_okd cl_10_11 ml_11 (Nat.le_of_ble_eq_true rfl) (Nat.le_of_ble_eq_true rfl)) (x_rc0 (ci := 8) (sk_4 (h := h7) sh7) mo_11) k ?_
    rintro h9 ⟨sh9, k⟩
    refine e_al o_10_42 rfl ?_
    refine e_gI o_10_43 (sk_4 (h := h9) sh9) ?_
    exact e_retI o_10_46 k
  · have k := k.2 z
    refine e_c (-1) o_10_13 rfl ?_
    exact e_retI o_10_14 k
set_option maxHeartbeats 4000000 in
set_option maxRecDepth 100000 in
theorem B_11_0 {x1 : Int32} {h : XH} {Q : Value → XH → Prop} (hs : Sh h) (k : Ev 11 3 [.ref 4, .int x1, .int 24] [] h Q) : Ev 11 0 (x_ini 11 [.ref 4, .int x1]) [] h Q := by
  rw [show x_ini 11 [.ref 4, .int x1] = [.ref 4, .int x1, .null] from x_inid ml_11 rfl]
  refine e_c 24 o_11_0 rfl ?_
  refine e_is (ls' := [.ref 4, .int x1, .int 24]) o_11_2 (Nat.le_of_ble_eq_true rfl) rfl ?_
  exact Ev.less (ls := [.ref 4, .int x1, .int 24]) ⟨Or.inr rfl, Or.inr rfl, Or.inr rfl, trivial⟩ k
set_option maxHeartbeats 4000000 in
set_option maxRecDepth 100000 in
theorem B_11_3 {x1 : Int32} {x2 : Int32} {h : XH} {Q : Value → XH → Prop} (hs : Sh h) (k : ((x2 < 0) → Q .null h) ∧ (¬ (x2 < 0) → ((2000 ≤ (xI h 4 1)) → Q .null h) ∧ (¬ (2000 ≤ (xI h 4 1)) → InB (xI h 4 1) 2000 ∧ (∀ h1 : XH, h1 = (xsI (xsI h 5 (tn (xI h 4 1)) (((x1 >>> (x2 &&& 31)) : Int32).toInt8.toInt32 : Int32).toInt8.toInt32) 4 1 ((xI (xsI h 5 (tn (xI h 4 1)) (((x1 >>> (x2 &&& 31)) : Int32).toInt8.toInt32 : Int32).toInt8.toInt32) 4 1) + 1)) → (Ev 11 3 [.ref 4, .int x1, .int (x2 + (-8))] [] h1 Q))))) : Ev 11 3 [.ref 4, .int x1, .int x2] [] h Q := by
  refine e_il o_11_3 rfl ?_
  refine e_i0_2 o_11_4 (fun z => ?_) (fun z => ?_)
  · have k := k.1 z
    exact e_ret0 o_11_46 k
  · have k := k.2 z
    refine e_al o_11_7 rfl ?_
    refine e_gI o_11_8 (sk_4 (h := h) hs) ?_
    refine e_c 2000 o_11_11 rfl ?_
    refine e_if_3 o_11_14 (fun z => ?_) (fun z => ?_)
    · have k := k.1 z
      exact e_ret0 o_11_46 k
    · have k := k.2 z
      refine e_al o_11_17 rfl ?_
      refine e_gR (r := 5) o_11_18 (sk_4 (h := h) hs) (sr_4_0 (h := h) hs) (by decide) ?_
      refine e_al o_11_21 rfl ?_
      refine e_gI o_11_22 (sk_4 (h := h) hs) ?_
      refine e_il o_11_25 rfl ?_
      refine e_il o_11_26 rfl ?_
      refine e_bin o_11_27 rfl ?_
      refine e_i2b o_11_28 ?_
      obtain ⟨q, k⟩ := k
      refine e_bas (n := 2000) o_11_29 (sk_5 (h := h) hs) (sn_5 (h := h) hs) q ?_
      refine e_al o_11_30 rfl ?_
      refine e_dup o_11_31 rfl ?_
      refine e_gI o_11_32 (sk_4 (h := h) hs) ?_
      refine e_c 1 o_11_35 rfl ?_
      refine e_bin o_11_36 rfl ?_
      refine e_pI o_11_37 (sk_4 (h := h) hs) ?_
      obtain ⟨h1, eh1⟩ : ∃ z : XH, z = (xsI (xsI h 5 (tn (xI h 4 1)) (((x1 >>> (x2 &&& 31)) : Int32).toInt8.toInt32 : Int32).toInt8.toInt32) 4 1 ((xI (xsI h 5 (tn (xI h 4 1)) (((x1 >>> (x2 &&& 31)) : Int32).toInt8.toInt32 : Int32).toInt8.toInt32) 4 1) + 1)) := ⟨_, rfl⟩
      show Ev 11 40 [.ref 4, .int x1, .int x2] [] (xsI (xsI h 5 (tn (xI h 4 1)) (((x1 >>> (x2 &&& 31)) : Int32).toInt8.toInt32 : Int32).toInt8.toInt32) 4 1 ((xI (xsI h 5 (tn (xI h 4 1)) (((x1 >>> (x2 &&& 31)) : Int32).toInt8.toInt32 : Int32).toInt8.toInt32) 4 1) + 1)) Q
      rw [← eh1]
      have sh1 : Sh h1 := by rw [eh1]; exact (sh_I (sh_I hs (by decide)) (by decide))
      have k := k h1 eh1
      refine e_inc (ls' := [.ref 4, .int x1, .int (x2 + (-8))]) o_11_40 rfl rfl rfl ?_
      refine e_go o_11_43 ?_
      exact Ev.less (ls := [.ref 4, .int x1, .int (x2 + (-8))]) ⟨Or.inr rfl, Or.inr rfl, Or.inr rfl, trivial⟩ k
set_option maxHeartbeats 4000000 in
set_option maxRecDepth 100000 in
theorem B_12_0 {x1 : Int32} {h : XH} {Q : Value → XH → Prop} (hs : Sh h) (k : ((x1 < 0) → Q (.int (-1)) h) ∧ (¬ (x1 < 0) → ((x1 ≤ (xI h 4 1)) → Q (.int (xI (xsI h 4 1 ((xI h 4 1) - x1)) 4 1)) (xsI h 4 1 ((xI h 4 1) - x1))) ∧ (¬ (x1 ≤ (xI h 4 1)) → Q (.int (-1)) h))) : Ev 12 0 (x_ini 12 [.ref 4, .int x1]) [] h Q := by
  rw [show x_ini 12 [.ref 4, .int x1] = [.ref 4, .int x1] from x_inid ml_12 rfl]
  refine e_il o_12_0 rfl ?_
  refine e_i0_2 o_12_1 (fun z => ?_) (fun z => ?_)
  · have k := k.1 z
    refine e_c (-1) o_12_12 rfl ?_
    exact e_retI o_12_13 k
  · have k := k.2 z
    refine e_il o_12_4 rfl ?_
    refine e_al o_12_5 rfl ?_
    refine e_gI o_12_6 (sk_4 (h := h) hs) ?_
    refine e_if_5 o_12_9 (fun z => ?_) (fun z => ?_)
    · have k := k.1 z
      refine e_al o_12_14 rfl ?_
      refine e_dup o_12_15 rfl ?_
      refine e_gI o_12_16 (sk_4 (h := h) hs) ?_
      refine e_il o_12_19 rfl ?_
      refine e_bin o_12_20 rfl ?_
      refine e_pI o_12_21 (sk_4 (h := h) hs) ?_
      refine e_al o_12_24 rfl ?_
      refine e_gI o_12_25 (sk_4 (h := h) hs) ?_
      exact e_retI o_12_28 k
    · have k := k.2 z
      refine e_c (-1) o_12_12 rfl ?_
      exact e_retI o_12_13 k
set_option maxHeartbeats 4000000 in
set_option maxRecDepth 100000 in
theorem B_13_0  {h : XH} {Q : Value → XH → Prop} (hs : Sh h) (k : ClV 14 [.ref 6, .ref 5, .int (xI h 4 1)] h (fun h1 => Sh h1 ∧ (ClV 21 [.ref 6, .ref (xR h1 4 5)] h1 (fun h3 => Sh h3 ∧ (ClI 45 [.ref 6] h3 (fun v6 h5 => Sh h5 ∧ (((¬ v6 = 0) → Q (.int v6) (xsI (xsI h5 4 1 0) 4 2 (xI (xsI h5 4 1 0) 6 0))) ∧ (¬ (¬ v6 = 0) → ClV 50 [.ref 4] (xsI (xsI h5 4 1 0) 4 2 (xI (xsI h5 4 1 0) 6 0)) (fun h7 => Sh h7 ∧ (Q (.int v6) h7)))))))))) : Ev 13 0 (x_ini 13 [.ref 4]) [] h Q := by
  rw [show x_ini 13 [.ref 4] = [.ref 4, .null] from x_inid ml_13 rfl]
  refine e_al o_13_0 rfl ?_
  refine e_gR (r := 6) o_13_1 (sk_4 (h := h) hs) (sr_4_3 (h := h) hs) (by decide) ?_
  refine e_al o_13_4 rfl ?_
  refine e_gR (r := 5) o_13_5 (sk_4 (h := h) hs) (sr_4_0 (h := h) hs) (by decide) ?_
  refine e_al o_13_8 rfl ?_
  refine e_gI o_13_9 (sk_4 (h := h) hs) ?_
  refine e_clV (as := [.ref 6, .ref 5, .int (xI h 4 1)]) (rest := []) o_13_12 rfl rfl (x_okd cl_13_14 ml_14 (Nat.le_of_ble_eq_true rfl) (Nat.le_of_ble_eq_true rfl)) (x_rc0 (ci := 4) (sk_6 (h := h) hs) mo_14) k ?_
  rintro h1 ⟨sh1, k⟩
  refine e_al o_13_15 rfl ?_
  refine e_gR (r := 6) o_13_16 (sk_4 (h := h1) sh1) (sr_4_3 (h := h1) sh1) (by decide) ?_
  refine e_al o_13_19 rfl ?_
  refine e_gR (r := (xR h1 4 5)) o_13_20 (sk_4 (h := h1) sh1) (rfl) (by rcases (ss_o sh1) with q | q <;> omega) ?_
  refine e_clV (as := [.ref 6, .ref (xR h1 4 5)]) (rest := []) o_13_23 rfl rfl (x_okd cl_13_21 ml_21 (Nat.le_of_ble_eq_true rfl) (Nat.le_of_ble_eq_true rfl)) (x_rc0 (ci := 4) (sk_6 (h := h1) sh1) mo_21) k ?_
  rintro h3 ⟨sh3, k⟩
  refine e_al o_13_26 rfl ?_
  refine e_gR (r := 6) o_13_27 (sk_4 (h := h3) sh3) (sr_4_3 (h := h3) sh3) (by decide) ?_
  refine e_clI (as := [.ref 6]) (rest := []) o_13_30 rfl rfl (x_okd cl_13_45 ml_45 (Nat.le_of_ble_eq_true rfl) (Nat.le_of_ble_eq_true rfl)) (x_rc0 (ci := 4) (sk_6 (h := h3) sh3) mo_45) k ?_
  rintro v6 h5 ⟨sh5, k⟩
  refine e_is (ls' := [.ref 4, .int v6]) o_13_33 (Nat.le_of_ble_eq_true rfl) rfl ?_
  refine e_al o_13_34 rfl ?_
  refine e_c 0 o_13_35 rfl ?_
  refine e_pI o_13_36 (sk_4 (h := h5) sh5) ?_
  refine e_al o_13_39 rfl ?_
  refine e_al o_13_40 rfl ?_
  refine e_gR (r := 6) o_13_41 (sk_4 (h := h5) sh5) (sr_4_3 (h := h5) sh5) (by decide) ?_
  refine e_gI o_13_44 (sk_6 (h := h5) sh5) ?_
  refine e_pI o_13_47 (sk_4 (h := h5) sh5) ?_
  refine e_il o_13_50 rfl ?_
  refine e_i0_1 o_13_51 (fun z => ?_) (fun z => ?_)
  · have k := k.1 z
    refine e_il o_13_58 rfl ?_
    exact e_retI o_13_59 k
  · have k := k.2 z
    refine e_al o_13_54 rfl ?_
    refine e_clV (as := [.ref 4]) (rest := []) o_13_55 rfl rfl (x_okd cl_13_50 ml_50 (Nat.le_of_ble_eq_true rfl) (Nat.le_of_ble_eq_true rfl)) (x_rc0 (ci := 8) (sk_4 (h := h5) sh5) mo_50) k ?_
    rintro h7 ⟨sh7, k⟩
    refine e_il o_13_58 rfl ?_
    exact e_retI o_13_59 k
set_option maxHeartbeats 4000000 in
set_option maxRecDepth 100000 in
theorem B_50_0  {h : XH} {Q : Value → XH → Prop} (hs : Sh h) (k : Ev 50 13 [.ref 4, .ref (xR h 4 5)] [] (xsR h 4 5 (xR h 34 0)) Q) : Ev 50 0 (x_ini 50 [.ref 4]) [] h Q := by
  rw [show x_ini 50 [.ref 4] = [.ref 4, .null] from x_inid ml_50 rfl]
  refine e_al o_50_0 rfl ?_
  refine e_gR (r := (xR h 4 5)) o_50_1 (sk_4 (h := h) hs) (rfl) (by rcases (ss_o hs) with q | q <;> omega) ?_
  refine e_as (ls' := [.ref 4, .ref (xR h 4 5)]) o_50_4 (Nat.le_of_ble_eq_true rfl) rfl ?_
  refine e_al o_50_5 rfl ?_
  refine e_al o_50_6 rfl ?_
  refine e_gR (r := (xR h 34 0)) o_50_7 (sk_4 (h := h) hs) (ss_e (h := h) hs) (by rcases (ss_p hs) with q | q <;> omega) ?_
  refine e_pR o_50_10 (sk_4 (h := h) hs) (by rcases (ss_p hs) with q | q <;> omega) ?_
  exact Ev.less (ls := [.ref 4, .ref (xR h 4 5)]) ⟨Or.inr rfl, Or.inr rfl, trivial⟩ k
set_option maxHeartbeats 4000000 in
set_option maxRecDepth 100000 in
theorem B_50_13 {x1 : Nat} {h : XH} {Q : Value → XH → Prop} (hs : Sh h) (hx1 : x1 = 14 ∨ x1 = 24) (k : Ev 50 18 [.ref 4, .ref x1] [] (xsR h 4 4 x1) Q) : Ev 50 13 [.ref 4, .ref x1] [] h Q := by
  refine e_al o_50_13 rfl ?_
  refine e_al o_50_14 rfl ?_
  refine e_pR o_50_15 (sk_4 (h := h) hs) (by rcases hx1 with q | q <;> omega) ?_
  exact Ev.less (ls := [.ref 4, .ref x1]) ⟨Or.inr rfl, Or.inr rfl, trivial⟩ k
set_option maxHeartbeats 4000000 in
set_option maxRecDepth 100000 in
theorem B_50_18 {x1 : Nat} {h : XH} {Q : Value → XH → Prop} (hs : Sh h) (hx1 : x1 = 14 ∨ x1 = 24) (k : Ev 50 26 [.ref 4, .ref x1] [] (xsR h 34 0 x1) Q) : Ev 50 18 [.ref 4, .ref x1] [] h Q := by
  refine e_al o_50_18 rfl ?_
  refine e_gR (r := 34) o_50_19 (sk_4 (h := h) hs) (sr_4_6 (h := h) hs) (by decide) ?_
  refine e_al o_50_22 rfl ?_
  refine e_pR o_50_23 (sk_34 (h := h) hs) (by rcases hx1 with q | q <;> omega) ?_
  exact Ev.less (ls := [.ref 4, .ref x1]) ⟨Or.inr rfl, Or.inr rfl, trivial⟩ k
set_option maxHeartbeats 4000000 in
set_option maxRecDepth 100000 in
theorem B_50_26 {x1 : Nat} {h : XH} {Q : Value → XH → Prop} (hs : Sh h) (hx1 : x1 = 14 ∨ x1 = 24) (k : ClI 51 [.ref x1] h (fun v2 h1 => Sh h1 ∧ (ClV 53 [.ref 34, .ref 39, .int v2] h1 (fun h3 => Sh h3 ∧ (ClV 65 [.ref 40] h3 (fun h5 => Sh h5 ∧ (ClV 66 [.ref 58] (xsI h5 4 10 0) (fun h7 => Sh h7 ∧ (ClV 67 [.ref 4] h7 (fun h9 => Sh h9 ∧ (Q .null h9))))))))))) : Ev 50 26 [.ref 4, .ref x1] [] h Q := by
  refine e_al o_50_26 rfl ?_
  refine e_gR (r := 34) o_50_27 (sk_4 (h := h) hs) (sr_4_6 (h := h) hs) (by decide) ?_
  refine e_al o_50_30 rfl ?_
  refine e_gR (r := 39) o_50_31 (sk_4 (h := h) hs) (sr_4_7 (h := h) hs) (by decide) ?_
  refine e_al o_50_34 rfl ?_
  refine e_clI (as := [.ref x1]) (rest := [.ref 39, .ref 34]) o_50_35 rfl rfl (x_okd cl_50_51 ml_51 (Nat.le_of_ble_eq_true rfl) (Nat.le_of_ble_eq_true rfl)) (x_rc0 (ci := 5) (sc_k (h := h) hs hx1) mo_51) k ?_
  rintro v2 h1 ⟨sh1, k⟩
  refine e_clV (as := [.ref 34, .ref 39, .int v2]) (rest := []) o_50_38 rfl rfl (x_okd cl_50_53 ml_53 (Nat.le_of_ble_eq_true rfl) (Nat.le_of_ble_eq_true rfl)) (x_rc0 (ci := 3) (sk_34 (h := h1) sh1) mo_53) k ?_
  rintro h3 ⟨sh3, k⟩
  refine e_al o_50_41 rfl ?_
  refine e_gR (r := 40) o_50_42 (sk_4 (h := h3) sh3) (sr_4_8 (h := h3) sh3) (by decide) ?_
  refine e_clV (as := [.ref 40]) (rest := []) o_50_45 rfl rfl (x_okd cl_50_65 ml_65 (Nat.le_of_ble_eq_true rfl) (Nat.le_of_ble_eq_true rfl)) (x_rc0 (ci := 2) (sk_40 (h := h3) sh3) mo_65) k ?_
  rintro h5 ⟨sh5, k⟩
  refine e_al o_50_48 rfl ?_
  refine e_c 0 o_50_49 rfl ?_
  refine e_pI o_50_50 (sk_4 (h := h5) sh5) ?_
  refine e_al o_50_53 rfl ?_
  refine e_gR (r := 58) o_50_54 (sk_4 (h := h5) sh5) (sr_4_14 (h := h5) sh5) (by decide) ?_
  refine e_clV (as := [.ref 58]) (rest := []) o_50_57 rfl rfl (x_okd cl_50_66 ml_66 (Nat.le_of_ble_eq_true rfl) (Nat.le_of_ble_eq_true rfl)) (x_rc0 (ci := 1) (sk_58 (h := h5) sh5) mo_66) k ?_
  rintro h7 ⟨sh7, k⟩
  refine e_al o_50_60 rfl ?_
  refine e_clV (as := [.ref 4]) (rest := []) o_50_61 rfl rfl (x_okd cl_50_67 ml_67 (Nat.le_of_ble_eq_true rfl) (Nat.le_of_ble_eq_true rfl)) (x_rc0 (ci := 8) (sk_4 (h := h7) sh7) mo_67) k ?_
  rintro h9 ⟨sh9, k⟩
  exact e_ret0 o_50_64 k
set_option maxHeartbeats 4000000 in
set_option maxRecDepth 100000 in
theorem B_58_0 {x0 : Nat} {h : XH} {Q : Value → XH → Prop} (hs : Sh h) (rx0 : Ar h x0 20) (k : Ev 58 4 [.ref x0, .int 0, .int 5] [] h Q) : Ev 58 0 (x_ini 58 [.ref x0]) [] h Q := by
  rw [show x_ini 58 [.ref x0] = [.ref x0, .null, .null] from x_inid ml_58 rfl]
  refine e_c 0 o_58_0 rfl ?_
  refine e_is (ls' := [.ref x0, .int 0, .null]) o_58_1 (Nat.le_of_ble_eq_true rfl) rfl ?_
  refine e_c 5 o_58_2 rfl ?_
  refine e_is (ls' := [.ref x0, .int 0, .int 5]) o_58_3 (Nat.le_of_ble_eq_true rfl) rfl ?_
  exact Ev.less (ls := [.ref x0, .int 0, .int 5]) ⟨Or.inr rfl, Or.inr rfl, Or.inr rfl, trivial⟩ k
set_option maxHeartbeats 4000000 in
set_option maxRecDepth 100000 in
theorem B_58_4 {x0 : Nat} {x1 : Int32} {x2 : Int32} {h : XH} {Q : Value → XH → Prop} (hs : Sh h) (rx0 : Ar h x0 20) (k : ((x2 < 0) → Q (.int x1) h) ∧ (¬ (x2 < 0) → InB (8 + x2) 20 ∧ (Ev 58 4 [.ref x0, .int ((x1 * 5) + (xI h x0 (tn (8 + x2)))), .int (x2 + (-1))] [] h Q))) : Ev 58 4 [.ref x0, .int x1, .int x2] [] h Q := by
  refine e_il o_58_4 rfl ?_
  refine e_i0_2 o_58_5 (fun z => ?_) (fun z => ?_)
  · have k := k.1 z
    refine e_il o_58_25 rfl ?_
    exact e_retI o_58_26 k
  · have k := k.2 z
    refine e_il o_58_8 rfl ?_
    refine e_c 5 o_58_9 rfl ?_
    refine e_bin o_58_10 rfl ?_
    refine e_al o_58_11 rfl ?_
    refine e_c 8 o_58_12 rfl ?_
    refine e_il o_58_14 rfl ?_
    refine e_bin o_58_15 rfl ?_
    obtain ⟨q, k⟩ := k
    refine e_ia (n := 20) o_58_16 ((rx0).1) ((rx0).2.1) q ?_
    refine e_bin o_58_17 rfl ?_
    refine e_is (ls' := [.ref x0, .int ((x1 * 5) + (xI h x0 (tn (8 + x2)))), .int x2]) o_58_18 (Nat.le_of_ble_eq_true rfl) rfl ?_
    refine e_inc (ls' := [.ref x0, .int ((x1 * 5) + (xI h x0 (tn (8 + x2)))), .int (x2 + (-1))]) o_58_19 rfl rfl rfl ?_
    refine e_go o_58_22 ?_
    exact Ev.less (ls := [.ref x0, .int ((x1 * 5) + (xI h x0 (tn (8 + x2)))), .int (x2 + (-1))]) ⟨Or.inr rfl, Or.inr rfl, Or.inr rfl, trivial⟩ k
set_option maxHeartbeats 4000000 in
set_option maxRecDepth 100000 in
theorem B_62_0 {x0 : Nat} {x1 : Int32} {h : XH} {Q : Value → XH → Prop} (hs : Sh h) (rx0 : Ar h x0 20) (k : Ev 62 4 [.ref x0, .null, .int x1, .int 0] [] h Q) : Ev 62 0 (x_ini 62 [.ref x0, .int x1]) [] h Q := by
  rw [show x_ini 62 [.ref x0, .int x1] = [.ref x0, .int x1, .null, .null] from x_inid ml_62 rfl]
  refine e_il o_62_0 rfl ?_
  refine e_is (ls' := [.ref x0, .int x1, .int x1, .null]) o_62_1 (Nat.le_of_ble_eq_true rfl) rfl ?_
  refine e_c 0 o_62_2 rfl ?_
  refine e_is (ls' := [.ref x0, .int x1, .int x1, .int 0]) o_62_3 (Nat.le_of_ble_eq_true rfl) rfl ?_
  exact Ev.less (ls := [.ref x0, .null, .int x1, .int 0]) ⟨Or.inr rfl, Or.inl rfl, Or.inr rfl, Or.inr rfl, trivial⟩ k
set_option maxHeartbeats 4000000 in
set_option maxRecDepth 100000 in
theorem B_62_4 {x0 : Nat} {x2 : Int32} {x3 : Int32} {h : XH} {Q : Value → XH → Prop} (hs : Sh h) (rx0 : Ar h x0 20) (k : ((6 ≤ x3) → Q .null h) ∧ (¬ (6 ≤ x3) → InB (8 + x3) 20 ∧ (Ev 62 4 [.ref x0, .null, .int (x2 / 5), .int (x3 + 1)] [] (xsI h x0 (tn (8 + x3)) (x2 - x2 / 5 * 5)) Q))) : Ev 62 4 [.ref x0, .null, .int x2, .int x3] [] h Q := by
  refine e_il o_62_4 rfl ?_
  refine e_c 6 o_62_5 rfl ?_
  refine e_if_3 o_62_7 (fun z => ?_) (fun z => ?_)
  · have k := k.1 z
    exact e_ret0 o_62_29 k
  · have k := k.2 z
    refine e_al o_62_10 rfl ?_
    refine e_c 8 o_62_11 rfl ?_
    refine e_il o_62_13 rfl ?_
    refine e_bin o_62_14 rfl ?_
    refine e_il o_62_15 rfl ?_
    refine e_c 5 o_62_16 rfl ?_
    refine e_rem o_62_17 (by decide) ?_
    obtain ⟨q, k⟩ := k
    refine e_ias (n := 20) o_62_18 ((rx0).1) ((rx0).2.2) ((rx0).2.1) q ?_
    refine e_il o_62_19 rfl ?_
    refine e_c 5 o_62_20 rfl ?_
    refine e_div o_62_21 (by decide) ?_
    refine e_is (ls' := [.ref x0, .null, .int (x2 / 5), .int x3]) o_62_22 (Nat.le_of_ble_eq_true rfl) rfl ?_
    refine e_inc (ls' := [.ref x0, .null, .int (x2 / 5), .int (x3 + 1)]) o_62_23 rfl rfl rfl ?_
    refine e_go o_62_26 ?_
    exact Ev.less (ls := [.ref x0, .null, .int (x2 / 5), .int (x3 + 1)]) ⟨Or.inr rfl, Or.inl rfl, Or.inr rfl, Or.inr rfl, trivial⟩ k
set_option maxHeartbeats 4000000 in
set_option maxRecDepth 100000 in
theorem B_64_0 {x0 : Int32} {x1 : Int32} {h : XH} {Q : Value → XH → Prop} (hs : Sh h) (k : InB x1 7 ∧ (¬ (xI h 1 (tn x1)) = 0 ∧ (Q (.int ((x0 / (xI h 1 (tn x1))) - (x0 / (xI h 1 (tn x1))) / 5 * 5)) h))) : Ev 64 0 (x_ini 64 [.int x0, .int x1]) [] h Q := by
  rw [show x_ini 64 [.int x0, .int x1] = [.int x0, .int x1] from x_inid ml_64 rfl]
  refine e_il o_64_0 rfl ?_
  refine e_cst o_64_1 ?_
  refine e_il o_64_4 rfl ?_
  obtain ⟨q, k⟩ := k
  refine e_ia (n := 7) o_64_5 ((hs).2.2.2.2.2.2.2.1.1) ((hs).2.2.2.2.2.2.2.1.2.1) q ?_
  obtain ⟨q, k⟩ := k
  refine e_div o_64_6 q ?_
  refine e_c 5 o_64_7 rfl ?_
  refine e_rem o_64_8 (by decide) ?_
  exact e_retI o_64_9 k
set_option maxHeartbeats 4000000 in
set_option maxRecDepth 100000 in
theorem B_67_0  {h : XH} {Q : Value → XH → Prop} (hs : Sh h) (k : Q .null (xsI (xsI (xsI h 43 0 0) 49 0 0) 53 0 (-1))) : Ev 67 0 (x_ini 67 [.ref 4]) [] h Q := by
  rw [show x_ini 67 [.ref 4] = [.ref 4] from x_inid ml_67 rfl]
  refine e_al o_67_0 rfl ?_
  refine e_gR (r := 43) o_67_1 (sk_4 (h := h) hs) (sr_4_11 (h := h) hs) (by decide) ?_
  refine e_c 0 o_67_4 rfl ?_
  refine e_pZ o_67_5 (sk_43 (h := h) hs) (by decide) ?_
  refine e_al o_67_8 rfl ?_
  refine e_gR (r := 49) o_67_9 (sk_4 (h := h) hs) (sr_4_12 (h := h) hs) (by decide) ?_
  refine e_c 0 o_67_12 rfl ?_
  refine e_pZ o_67_13 (sk_49 (h := h) hs) (by decide) ?_
  refine e_al o_67_16 rfl ?_
  refine e_gR (r := 53) o_67_17 (sk_4 (h := h) hs) (sr_4_13 (h := h) hs) (by decide) ?_
  refine e_c (-1) o_67_20 rfl ?_
  refine e_pI o_67_21 (sk_53 (h := h) hs) ?_
  exact e_ret0 o_67_24 k
set_option maxHeartbeats 4000000 in
set_option maxRecDepth 100000 in
theorem B_68_0  {h : XH} {Q : Value → XH → Prop} (hs : Sh h) (k : Q (.int (xI h 4 2)) h) : Ev 68 0 (x_ini 68 [.ref 4]) [] h Q := by
  rw [show x_ini 68 [.ref 4] = [.ref 4] from x_inid ml_68 rfl]
  refine e_al o_68_0 rfl ?_
  refine e_gI o_68_1 (sk_4 (h := h) hs) ?_
  exact e_retI o_68_4 k
set_option maxHeartbeats 4000000 in
set_option maxRecDepth 100000 in
theorem B_69_0 {x1 : Int32} {h : XH} {Q : Value → XH → Prop} (hs : Sh h) (k : ClI 70 [.ref 4, .int x1] h (fun v2 h1 => Sh h1 ∧ (((v2 = 0) → Q (.int (-1)) h1) ∧ (¬ (v2 = 0) → InB x1 20 ∧ (Q (.int (xI h1 39 (tn x1))) h1))))) : Ev 69 0 (x_ini 69 [.ref 4, .int x1]) [] h Q := by
  rw [show x_ini 69 [.ref 4, .int x1] = [.ref 4, .int x1] from x_inid ml_69 rfl]
  refine e_al o_69_0 rfl ?_
  refine e_il o_69_1 rfl ?_
  refine e_clI (as := [.ref 4, .int x1]) (rest := []) o_69_2 rfl rfl (x_okd cl_69_70 ml_70 (Nat.le_of_ble_eq_true rfl) (Nat.le_of_ble_eq_true rfl)) (x_rc0 (ci := 8) (sk_4 (h := h) hs) mo_70) k ?_
  rintro v2 h1 ⟨sh1, k⟩
  refine e_i0_0 o_69_5 (fun z => ?_) (fun z => ?_)
  · have k := k.1 z
    refine e_c (-1) o_69_17 rfl ?_
    exact e_retI o_69_18 k
  · have k := k.2 z
    refine e_al o_69_8 rfl ?_
    refine e_gR (r := 39) o_69_9 (sk_4 (h := h1) sh1) (sr_4_7 (h := h1) sh1) (by decide) ?_
    refine e_il o_69_12 rfl ?_
    obtain ⟨q, k⟩ := k
    refine e_ia (n := 20) o_69_13 (sk_39 (h := h1) sh1) (sn_39 (h := h1) sh1) q ?_
    refine e_go o_69_14 ?_
    exact e_retI o_69_18 k
set_option maxHeartbeats 4000000 in
set_option maxRecDepth 100000 in
theorem B_70_0 {x1 : Int32} {h : XH} {Q : Value → XH → Prop} (hs : Sh h) (k : ((x1 < 0) → Q (.int 0) h) ∧ (¬ (x1 < 0) → (((xI h (xR h 34 0) 0) ≤ x1) → Q (.int 0) h) ∧ (¬ ((xI h (xR h 34 0) 0) ≤ x1) → Q (.int 1) h))) : Ev 70 0 (x_ini 70 [.ref 4, .int x1]) [] h Q := by
  rw [show x_ini 70 [.ref 4, .int x1] = [.ref 4, .int x1] from x_inid ml_70 rfl]
  refine e_il o_70_0 rfl ?_
  refine e_i0_2 o_70_1 (fun z => ?_) (fun z => ?_)
  · have k := k.1 z
    refine e_c 0 o_70_19 rfl ?_
    exact e_retZ o_70_20 (by decide) k
  · have k := k.2 z
    refine e_il o_70_4 rfl ?_
    refine e_al o_70_5 rfl ?_
    refine e_gR (r := (xR h 34 0)) o_70_6 (sk_4 (h := h) hs) (ss_e (h := h) hs) (by rcases (ss_p hs) with q | q <;> omega) ?_
    refine e_gI o_70_9 (sc_k (h := h) hs (ss_p hs)) ?_
    refine e_if_3 o_70_12 (fun z => ?_) (fun z => ?_)
    · have k := k.1 z
      refine e_c 0 o_70_19 rfl ?_
      exact e_retZ o_70_20 (by decide) k
    · have k := k.2 z
      refine e_c 1 o_70_15 rfl ?_
      refine e_go o_70_16 ?_
      exact e_retZ o_70_20 (by decide) k
set_option maxHeartbeats 4000000 in
set_option maxRecDepth 100000 in
theorem B_71_0 {x1 : Int32} {x2 : Int32} {h : XH} {Q : Value → XH → Prop} (hs : Sh h) (k : ClI 72 [.ref 4, .int x1] h (fun v2 h1 => Sh h1 ∧ (((¬ v2 = 0) → ((x2 = 0) → InB (8 + x1) 20 ∧ (Q (.int (xI h1 39 (tn (8 + x1)))) h1)) ∧ (¬ (x2 = 0) → ((x2 = 1) → InB 16 20 ∧ (Q (.int (((xI h1 39 (tn 16)) >>> (x1 &&& 31)) &&& 1)) h1)) ∧ (¬ (x2 = 1) → ((x2 = 2) → ClI 73 [.ref 34, .int x1, .ref 39] h1 (fun v4 h3 => Sh h3 ∧ (Q (.int v4) h3))) ∧ (¬ (x2 = 2) → ((x2 = 3) → InB x1 6 ∧ (Q (.int (xI h1 ((xR h1 34 0) + 6) (tn x1))) h1)) ∧ (¬ (x2 = 3) → ((x2 = 4) → ClI 75 [.ref 34, .int x1, .ref 39, .int 0] h1 (fun v6 h5 => Sh h5 ∧ (Q (.int v6) h5))) ∧ (¬ (x2 = 4) → ((x2 = 5) → ClI 75 [.ref 34, .int x1, .ref 39, .int 1] h1 (fun v8 h7 => Sh h7 ∧ (Q (.int v8) h7))) ∧ (¬ (x2 = 5) → ((x2 = 6) → InB 15 20 ∧ (Q (.int (((xI h1 39 (tn 15)) >>> (x1 &&& 31)) &&& 1)) h1)) ∧ (¬ (x2 = 6) → Q (.int (-1)) h1)))))))) ∧ (¬ (¬ v2 = 0) → Q (.int (-1)) h1)))) : Ev 71 0 (x_ini 71 [.ref 4, .int x1, .int x2]) [] h Q := by
  rw [show x_ini 71 [.ref 4, .int x1, .int x2] = [.ref 4, .int x1, .int x2] from x_inid ml_71 rfl]
  refine e_al o_71_0 rfl ?_
  refine e_il o_71_1 rfl ?_
  refine e_clI (as := [.ref 4, .int x1]) (rest := []) o_71_2 rfl rfl (x_okd cl_71_72 ml_72 (Nat.le_of_ble_eq_true rfl) (Nat.le_of_ble_eq_true rfl)) (x_rc0 (ci := 8) (sk_4 (h := h) hs) mo_72) k ?_
  rintro v2 h1 ⟨sh1, k⟩
  refine e_i0_1 o_71_5 (fun z => ?_) (fun z => ?_)
  · have k := k.1 z
    refine e_il o_71_10 rfl ?_
    refine e_swc o_71_11 (by decide) ?_
    refine ⟨fun z => ?_, fun z => ?_⟩
    · have k := k.1 z
      refine e_al o_71_52 rfl ?_
      refine e_gR (r := 39) o_71_53 (sk_4 (h := h1) sh1) (sr_4_7 (h := h1) sh1) (by decide) ?_
      refine e_c 8 o_71_56 rfl ?_
      refine e_il o_71_58 rfl ?_
      refine e_bin o_71_59 rfl ?_
      obtain ⟨q, k⟩ := k
      refine e_ia (n := 20) o_71_60 (sk_39 (h := h1) sh1) (sn_39 (h := h1) sh1) q ?_
      exact e_retI o_71_61 k
    · have k := k.2 z
      refine ⟨fun z => ?_, fun z => ?_⟩
      · have k := k.1 z
        refine e_al o_71_62 rfl ?_
        refine e_gR (r := 39) o_71_63 (sk_4 (h := h1) sh1) (sr_4_7 (h := h1) sh1) (by decide) ?_
        refine e_c 16 o_71_66 rfl ?_
        obtain ⟨q, k⟩ := k
        refine e_ia (n := 20) o_71_68 (sk_39 (h := h1) sh1) (sn_39 (h := h1) sh1) q ?_
        refine e_il o_71_69 rfl ?_
        refine e_bin o_71_70 rfl ?_
        refine e_c 1 o_71_71 rfl ?_
        refine e_bin o_71_72 rfl ?_
        exact e_retI o_71_73 k
      · have k := k.2 z
        refine ⟨fun z => ?_, fun z => ?_⟩
        · have k := k.1 z
          refine e_al o_71_74 rfl ?_
          refine e_gR (r := 34) o_71_75 (sk_4 (h := h1) sh1) (sr_4_6 (h := h1) sh1) (by decide) ?_
          refine e_il o_71_78 rfl ?_
          refine e_al o_71_79 rfl ?_
          refine e_gR (r := 39) o_71_80 (sk_4 (h := h1) sh1) (sr_4_7 (h := h1) sh1) (by decide) ?_
          refine e_clI (as := [.ref 34, .int x1, .ref 39]) (rest := []) o_71_83 rfl rfl (x_okd cl_71_73 ml_73 (Nat.le_of_ble_eq_true rfl) (Nat.le_of_ble_eq_true rfl)) (x_rc0 (ci := 3) (sk_34 (h := h1) sh1) mo_73) k ?_
          rintro v4 h3 ⟨sh3, k⟩
          exact e_retI o_71_86 k
        · have k := k.2 z
          refine ⟨fun z => ?_, fun z => ?_⟩
          · have k := k.1 z
            refine e_al o_71_87 rfl ?_
            refine e_gR (r := (xR h1 34 0)) o_71_88 (sk_4 (h := h1) sh1) (ss_e (h := h1) sh1) (by rcases (ss_p sh1) with q | q <;> omega) ?_
            refine e_gR (r := ((xR h1 34 0) + 6)) o_71_91 (sc_k (h := h1) sh1 (ss_p sh1)) (sc_r14 (h := h1) sh1 (ss_p sh1)) (by omega) ?_
            refine e_il o_71_94 rfl ?_
            obtain ⟨q, k⟩ := k
            refine e_ia (n := 6) o_71_95 ((sc_a6 (h := h1) sh1 (ss_p sh1)).1) ((sc_a6 (h := h1) sh1 (ss_p sh1)).2.1) q ?_
            exact e_retI o_71_96 k
          · have k := k.2 z
            refine ⟨fun z => ?_, fun z => ?_⟩
            · have k := k.1 z
              refine e_al o_71_97 rfl ?_
              refine e_gR (r := 34) o_71_98 (sk_4 (h := h1) sh1) (sr_4_6 (h := h1) sh1) (by decide) ?_
              refine e_il o_71_101 rfl ?_
              refine e_al o_71_102 rfl ?_
              refine e_gR (r := 39) o_71_103 (sk_4 (h := h1) sh1) (sr_4_7 (h := h1) sh1) (by decide) ?_
              refine e_c 0 o_71_106 rfl ?_
              refine e_clI (as := [.ref 34, .int x1, .ref 39, .int 0]) (rest := []) o_71_107 rfl rfl (x_okd cl_71_75 ml_75 (Nat.le_of_ble_eq_true rfl) (Nat.le_of_ble_eq_true rfl)) (x_rc0 (ci := 3) (sk_34 (h := h1) sh1) mo_75) k ?_
              rintro v6 h5 ⟨sh5, k⟩
              exact e_retI o_71_110 k
            · have k := k.2 z
              refine ⟨fun z => ?_, fun z => ?_⟩
              · have k := k.1 z
                refine e_al o_71_111 rfl ?_
                refine e_gR (r := 34) o_71_112 (sk_4 (h := h1) sh1) (sr_4_6 (h := h1) sh1) (by decide) ?_
                refine e_il o_71_115 rfl ?_
                refine e_al o_71_116 rfl ?_
                refine e_gR (r := 39) o_71_117 (sk_4 (h := h1) sh1) (sr_4_7 (h := h1) sh1) (by decide) ?_
                refine e_c 1 o_71_120 rfl ?_
                refine e_clI (as := [.ref 34, .int x1, .ref 39, .int 1]) (rest := []) o_71_121 rfl rfl (x_okd cl_71_75 ml_75 (Nat.le_of_ble_eq_true rfl) (Nat.le_of_ble_eq_true rfl)) (x_rc0 (ci := 3) (sk_34 (h := h1) sh1) mo_75) k ?_
                rintro v8 h7 ⟨sh7, k⟩
                exact e_retI o_71_124 k
              · have k := k.2 z
                refine ⟨fun z => ?_, fun z => ?_⟩
                · have k := k.1 z
                  refine e_al o_71_125 rfl ?_
                  refine e_gR (r := 39) o_71_126 (sk_4 (h := h1) sh1) (sr_4_7 (h := h1) sh1) (by decide) ?_
                  refine e_c 15 o_71_129 rfl ?_
                  obtain ⟨q, k⟩ := k
                  refine e_ia (n := 20) o_71_131 (sk_39 (h := h1) sh1) (sn_39 (h := h1) sh1) q ?_
                  refine e_il o_71_132 rfl ?_
                  refine e_bin o_71_133 rfl ?_
                  refine e_c 1 o_71_134 rfl ?_
                  refine e_bin o_71_135 rfl ?_
                  exact e_retI o_71_136 k
                · have k := k.2 z
                  refine e_c (-1) o_71_137 rfl ?_
                  exact e_retI o_71_138 k
  · have k := k.2 z
    refine e_c (-1) o_71_8 rfl ?_
    exact e_retI o_71_9 k
set_option maxHeartbeats 4000000 in
set_option maxRecDepth 100000 in
theorem B_72_0 {x1 : Int32} {h : XH} {Q : Value → XH → Prop} (hs : Sh h) (k : ((x1 < 0) → Q (.int 0) h) ∧ (¬ (x1 < 0) → (((xI h (xR h 34 0) 1) ≤ x1) → Q (.int 0) h) ∧ (¬ ((xI h (xR h 34 0) 1) ≤ x1) → Q (.int 1) h))) : Ev 72 0 (x_ini 72 [.ref 4, .int x1]) [] h Q := by
  rw [show x_ini 72 [.ref 4, .int x1] = [.ref 4, .int x1] from x_inid ml_72 rfl]
  refine e_il o_72_0 rfl ?_
  refine e_i0_2 o_72_1 (fun z => ?_) (fun z => ?_)
  · have k := k.1 z
    refine e_c 0 o_72_19 rfl ?_
    exact e_retZ o_72_20 (by decide) k
  · have k := k.2 z
    refine e_il o_72_4 rfl ?_
    refine e_al o_72_5 rfl ?_
    refine e_gR (r := (xR h 34 0)) o_72_6 (sk_4 (h := h) hs) (ss_e (h := h) hs) (by rcases (ss_p hs) with q | q <;> omega) ?_
    refine e_gI o_72_9 (sc_k (h := h) hs (ss_p hs)) ?_
    refine e_if_3 o_72_12 (fun z => ?_) (fun z => ?_)
    · have k := k.1 z
      refine e_c 0 o_72_19 rfl ?_
      exact e_retZ o_72_20 (by decide) k
    · have k := k.2 z
      refine e_c 1 o_72_15 rfl ?_
      refine e_go o_72_16 ?_
      exact e_retZ o_72_20 (by decide) k
set_option maxHeartbeats 4000000 in
set_option maxRecDepth 100000 in
theorem B_76_0 {x1 : Int32} {h : XH} {Q : Value → XH → Prop} (hs : Sh h) (k : ((x1 = 0) → InB 17 20 ∧ (Q (.int (xI h 39 (tn 17))) h)) ∧ (¬ (x1 = 0) → ((x1 = 1) → InB 18 20 ∧ (Q (.int (xI h 39 (tn 18))) h)) ∧ (¬ (x1 = 1) → ((x1 = 2) → InB 19 20 ∧ (Q (.int (xI h 39 (tn 19))) h)) ∧ (¬ (x1 = 2) → Q (.int (-1)) h)))) : Ev 76 0 (x_ini 76 [.ref 4, .int x1]) [] h Q := by
  rw [show x_ini 76 [.ref 4, .int x1] = [.ref 4, .int x1] from x_inid ml_76 rfl]
  refine e_il o_76_0 rfl ?_
  refine e_swc o_76_1 (by decide) ?_
  refine ⟨fun z => ?_, fun z => ?_⟩
  · have k := k.1 z
    refine e_al o_76_28 rfl ?_
    refine e_gR (r := 39) o_76_29 (sk_4 (h := h) hs) (sr_4_7 (h := h) hs) (by decide) ?_
    refine e_c 17 o_76_32 rfl ?_
    obtain ⟨q, k⟩ := k
    refine e_ia (n := 20) o_76_34 (sk_39 (h := h) hs) (sn_39 (h := h) hs) q ?_
    exact e_retI o_76_35 k
  · have k := k.2 z
    refine ⟨fun z => ?_, fun z => ?_⟩
    · have k := k.1 z
      refine e_al o_76_36 rfl ?_
      refine e_gR (r := 39) o_76_37 (sk_4 (h := h) hs) (sr_4_7 (h := h) hs) (by decide) ?_
      refine e_c 18 o_76_40 rfl ?_
      obtain ⟨q, k⟩ := k
      refine e_ia (n := 20) o_76_42 (sk_39 (h := h) hs) (sn_39 (h := h) hs) q ?_
      exact e_retI o_76_43 k
    · have k := k.2 z
      refine ⟨fun z => ?_, fun z => ?_⟩
      · have k := k.1 z
        refine e_al o_76_44 rfl ?_
        refine e_gR (r := 39) o_76_45 (sk_4 (h := h) hs) (sr_4_7 (h := h) hs) (by decide) ?_
        refine e_c 19 o_76_48 rfl ?_
        obtain ⟨q, k⟩ := k
        refine e_ia (n := 20) o_76_50 (sk_39 (h := h) hs) (sn_39 (h := h) hs) q ?_
        exact e_retI o_76_51 k
      · have k := k.2 z
        refine e_c (-1) o_76_52 rfl ?_
        exact e_retI o_76_53 k
set_option maxHeartbeats 4000000 in
set_option maxRecDepth 100000 in
theorem B_77_0 {x1 : Int32} {h : XH} {Q : Value → XH → Prop} (hs : Sh h) (k : ((x1 < 0) → Q (.int (-1)) h) ∧ (¬ (x1 < 0) → ((x1 ≤ 100) → ((x1 ≤ 0) → InB 14 20 ∧ (Q (.int (xI h 39 (tn 14))) h)) ∧ (¬ (x1 ≤ 0) → ClV 78 [.ref 40, .ref 39] h (fun h1 => Sh h1 ∧ (Ev 77 29 [.ref 4, .int x1, .int 0] [] h1 Q)))) ∧ (¬ (x1 ≤ 100) → Q (.int (-1)) h))) : Ev 77 0 (x_ini 77 [.ref 4, .int x1]) [] h Q := by
  rw [show x_ini 77 [.ref 4, .int x1] = [.ref 4, .int x1, .null] from x_inid ml_77 rfl]
  refine e_il o_77_0 rfl ?_
  refine e_i0_2 o_77_1 (fun z => ?_) (fun z => ?_)
  · have k := k.1 z
    refine e_c (-1) o_77_10 rfl ?_
    exact e_retI o_77_11 k
  · have k := k.2 z
    refine e_il o_77_4 rfl ?_
    refine e_c 100 o_77_5 rfl ?_
    refine e_if_5 o_77_7 (fun z => ?_) (fun z => ?_)
    · have k := k.1 z
      refine e_il o_77_12 rfl ?_
      refine e_i0_5 o_77_13 (fun z => ?_) (fun z => ?_)
      · have k := k.1 z
        refine e_al o_77_62 rfl ?_
        refine e_gR (r := 39) o_77_63 (sk_4 (h := h) hs) (sr_4_7 (h := h) hs) (by decide) ?_
        refine e_c 14 o_77_66 rfl ?_
        obtain ⟨q, k⟩ := k
        refine e_ia (n := 20) o_77_68 (sk_39 (h := h) hs) (sn_39 (h := h) hs) q ?_
        exact e_retI o_77_69 k
      · have k := k.2 z
        refine e_al o_77_16 rfl ?_
        refine e_gR (r := 40) o_77_17 (sk_4 (h := h) hs) (sr_4_8 (h := h) hs) (by decide) ?_
        refine e_al o_77_20 rfl ?_
        refine e_gR (r := 39) o_77_21 (sk_4 (h := h) hs) (sr_4_7 (h := h) hs) (by decide) ?_
        refine e_clV (as := [.ref 40, .ref 39]) (rest := []) o_77_24 rfl rfl (x_okd cl_77_78 ml_78 (Nat.le_of_ble_eq_true rfl) (Nat.le_of_ble_eq_true rfl)) (x_rc0 (ci := 2) (sk_40 (h := h) hs) mo_78) k ?_
        rintro h1 ⟨sh1, k⟩
        refine e_c 0 o_77_27 rfl ?_
        refine e_is (ls' := [.ref 4, .int x1, .int 0]) o_77_28 (Nat.le_of_ble_eq_true rfl) rfl ?_
        exact Ev.less (ls := [.ref 4, .int x1, .int 0]) ⟨Or.inr rfl, Or.inr rfl, Or.inr rfl, trivial⟩ k
    · have k := k.2 z
      refine e_c (-1) o_77_10 rfl ?_
      exact e_retI o_77_11 k
set_option maxHeartbeats 4000000 in
set_option maxRecDepth 100000 in
theorem B_77_29 {x1 : Int32} {x2 : Int32} {h : XH} {Q : Value → XH → Prop} (hs : Sh h) (k : ((x1 ≤ x2) → ClV 67 [.ref 4] h (fun h1 => Sh h1 ∧ (InB 14 20 ∧ (Q (.int (xI h1 39 (tn 14))) h1)))) ∧ (¬ (x1 ≤ x2) → ClV 79 [.ref 34, .ref 39, .int (xI h (xR h 34 0) 3)] h (fun h3 => Sh h3 ∧ (Ev 77 29 [.ref 4, .int x1, .int (x2 + 1)] [] h3 Q)))) : Ev 77 29 [.ref 4, .int x1, .int x2] [] h Q := by
  refine e_il o_77_29 rfl ?_
  refine e_il o_77_30 rfl ?_
  refine e_if_3 o_77_31 (fun z => ?_) (fun z => ?_)
  · have k := k.1 z
    refine e_al o_77_58 rfl ?_
    refine e_clV (as := [.ref 4]) (rest := []) o_77_59 rfl rfl (x_okd cl_77_67 ml_67 (Nat.le_of_ble_eq_true rfl) (Nat.le_of_ble_eq_true rfl)) (x_rc0 (ci := 8) (sk_4 (h := h) hs) mo_67) k ?_
    rintro h1 ⟨sh1, k⟩
    refine e_al o_77_62 rfl ?_
    refine e_gR (r := 39) o_77_63 (sk_4 (h := h1) sh1) (sr_4_7 (h := h1) sh1) (by decide) ?_
    refine e_c 14 o_77_66 rfl ?_
    obtain ⟨q, k⟩ := k
    refine e_ia (n := 20) o_77_68 (sk_39 (h := h1) sh1) (sn_39 (h := h1) sh1) q ?_
    exact e_retI o_77_69 k
  · have k := k.2 z
    refine e_al o_77_34 rfl ?_
    refine e_gR (r := 34) o_77_35 (sk_4 (h := h) hs) (sr_4_6 (h := h) hs) (by decide) ?_
    refine e_al o_77_38 rfl ?_
    refine e_gR (r := 39) o_77_39 (sk_4 (h := h) hs) (sr_4_7 (h := h) hs) (by decide) ?_
    refine e_al o_77_42 rfl ?_
    refine e_gR (r := (xR h 34 0)) o_77_43 (sk_4 (h := h) hs) (ss_e (h := h) hs) (by rcases (ss_p hs) with q | q <;> omega) ?_
    refine e_gI o_77_46 (sc_k (h := h) hs (ss_p hs)) ?_
    refine e_clV (as := [.ref 34, .ref 39, .int (xI h (xR h 34 0) 3)]) (rest := []) o_77_49 rfl rfl (x_okd cl_77_79 ml_79 (Nat.le_of_ble_eq_true rfl) (Nat.le_of_ble_eq_true rfl)) (x_rc0 (ci := 3) (sk_34 (h := h) hs) mo_79) k ?_
    rintro h3 ⟨sh3, k⟩
    refine e_inc (ls' := [.ref 4, .int x1, .int (x2 + 1)]) o_77_52 rfl rfl rfl ?_
    refine e_go o_77_55 ?_
    exact Ev.less (ls := [.ref 4, .int x1, .int (x2 + 1)]) ⟨Or.inr rfl, Or.inr rfl, Or.inr rfl, trivial⟩ k
set_option maxHeartbeats 4000000 in
set_option maxRecDepth 100000 in
theorem B_82_0 {x1 : Int32} {x2 : Int32} {h : XH} {Q : Value → XH → Prop} (hs : Sh h) (k : ClI 70 [.ref 4, .int x1] h (fun v2 h1 => Sh h1 ∧ (((v2 = 0) → Q (.int 0) h1) ∧ (¬ (v2 = 0) → ((x2 < 0) → Q (.int 0) h1) ∧ (¬ (x2 < 0) → InB x1 8 ∧ ((((xI h1 ((xR h1 34 0) + 1) (tn x1)) < x2) → Q (.int 0) h1) ∧ (¬ ((xI h1 ((xR h1 34 0) + 1) (tn x1)) < x2) → InB x1 20 ∧ (((¬ x2 = (xI h1 39 (tn x1))) → ClV 78 [.ref 40, .ref 39] h1 (fun h3 => Sh h3 ∧ (InB x1 20 ∧ (ClV 55 [.ref 34, .ref 39] (xsI h3 39 (tn x1) x2) (fun h5 => Sh h5 ∧ (ClV 67 [.ref 4] h5 (fun h7 => Sh h7 ∧ (Q (.int 1) h7)))))))) ∧ (¬ (¬ x2 = (xI h1 39 (tn x1))) → Q (.int 0) h1))))))))) : Ev 82 0 (x_ini 82 [.ref 4, .int x1, .int x2]) [] h Q := by
  rw [show x_ini 82 [.ref 4, .int x1, .int x2] = [.ref 4, .int x1, .int x2] from x_inid ml_82 rfl]
  refine e_al o_82_0 rfl ?_
  refine e_il o_82_1 rfl ?_
  refine e_clI (as := [.ref 4, .int x1]) (rest := []) o_82_2 rfl rfl (x_okd cl_82_70 ml_70 (Nat.le_of_ble_eq_true rfl) (Nat.le_of_ble_eq_true rfl)) (x_rc0 (ci := 8) (sk_4 (h := h) hs) mo_70) k ?_
  rintro v2 h1 ⟨sh1, k⟩
  refine e_i0_0 o_82_5 (fun z => ?_) (fun z => ?_)
  · have k := k.1 z
    refine e_c 0 o_82_35 rfl ?_
    exact e_retZ o_82_36 (by decide) k
  · have k := k.2 z
    refine e_il o_82_8 rfl ?_
    refine e_i0_2 o_82_9 (fun z => ?_) (fun z => ?_)
    · have k := k.1 z
      refine e_c 0 o_82_35 rfl ?_
      exact e_retZ o_82_36 (by decide) k
    · have k := k.2 z
      refine e_il o_82_12 rfl ?_
      refine e_al o_82_13 rfl ?_
      refine e_gR (r := (xR h1 34 0)) o_82_14 (sk_4 (h := h1) sh1) (ss_e (h := h1) sh1) (by rcases (ss_p sh1) with q | q <;> omega) ?_
      refine e_gR (r := ((xR h1 34 0) + 1)) o_82_17 (sc_k (h := h1) sh1 (ss_p sh1)) (sc_r9 (h := h1) sh1 (ss_p sh1)) (by omega) ?_
      refine e_il o_82_20 rfl ?_
      obtain ⟨q, k⟩ := k
      refine e_ia (n := 8) o_82_21 ((sc_a1 (h := h1) sh1 (ss_p sh1)).1) ((sc_a1 (h := h1) sh1 (ss_p sh1)).2.1) q ?_
      refine e_if_4 o_82_22 (fun z => ?_) (fun z => ?_)
      · have k := k.1 z
        refine e_c 0 o_82_35 rfl ?_
        exact e_retZ o_82_36 (by decide) k
      · have k := k.2 z
        refine e_il o_82_25 rfl ?_
        refine e_al o_82_26 rfl ?_
        refine e_gR (r := 39) o_82_27 (sk_4 (h := h1) sh1) (sr_4_7 (h := h1) sh1) (by decide) ?_
        refine e_il o_82_30 rfl ?_
        obtain ⟨q, k⟩ := k
        refine e_ia (n := 20) o_82_31 (sk_39 (h := h1) sh1) (sn_39 (h := h1) sh1) q ?_
        refine e_if_1 o_82_32 (fun z => ?_) (fun z => ?_)
        · have k := k.1 z
          refine e_al o_82_37 rfl ?_
          refine e_gR (r := 40) o_82_38 (sk_4 (h := h1) sh1) (sr_4_8 (h := h1) sh1) (by decide) ?_
          refine e_al o_82_41 rfl ?_
          refine e_gR (r := 39) o_82_42 (sk_4 (h := h1) sh1) (sr_4_7 (h := h1) sh1) (by decide) ?_
          refine e_clV (as := [.ref 40, .ref 39]) (rest := []) o_82_45 rfl rfl (x_okd cl_82_78 ml_78 (Nat.le_of_ble_eq_true rfl) (Nat.le_of_ble_eq_true rfl)) (x_rc0 (ci := 2) (sk_40 (h := h1) sh1) mo_78) k ?_
          rintro h3 ⟨sh3, k⟩
          refine e_al o_82_48 rfl ?_
          refine e_gR (r := 39) o_82_49 (sk_4 (h := h3) sh3) (sr_4_7 (h := h3) sh3) (by decide) ?_
          refine e_il o_82_52 rfl ?_
          refine e_il o_82_53 rfl ?_
          obtain ⟨q, k⟩ := k
          refine e_ias (n := 20) o_82_54 (sk_39 (h := h3) sh3) (by decide) (sn_39 (h := h3) sh3) q ?_
          refine e_al o_82_55 rfl ?_
          refine e_gR (r := 34) o_82_56 (sk_4 (h := h3) sh3) (sr_4_6 (h := h3) sh3) (by decide) ?_
          refine e_al o_82_59 rfl ?_
          refine e_gR (r := 39) o_82_60 (sk_4 (h := h3) sh3) (sr_4_7 (h := h3) sh3) (by decide) ?_
          refine e_clV (as := [.ref 34, .ref 39]) (rest := []) o_82_63 rfl rfl (x_okd cl_82_55 ml_55 (Nat.le_of_ble_eq_true rfl) (Nat.le_of_ble_eq_true rfl)) (x_rc0 (ci := 3) (sk_34 (h := h3) sh3) mo_55) k ?_
          rintro h5 ⟨sh5, k⟩
          refine e_al o_82_66 rfl ?_
          refine e_clV (as := [.ref 4]) (rest := []) o_82_67 rfl rfl (x_okd cl_82_67 ml_67 (Nat.le_of_ble_eq_true rfl) (Nat.le_of_ble_eq_true rfl)) (x_rc0 (ci := 8) (sk_4 (h := h5) sh5) mo_67) k ?_
          rintro h7 ⟨sh7, k⟩
          refine e_c 1 o_82_70 rfl ?_
          exact e_retZ o_82_71 (by decide) k
        · have k := k.2 z
          refine e_c 0 o_82_35 rfl ?_
          exact e_retZ o_82_36 (by decide) k
set_option maxHeartbeats 4000000 in
set_option maxRecDepth 100000 in
theorem B_83_0 {x1 : Int32} {x2 : Int32} {h : XH} {Q : Value → XH → Prop} (hs : Sh h) (k : ClI 72 [.ref 4, .int x1] h (fun v2 h1 => Sh h1 ∧ (((v2 = 0) → Q (.int 0) h1) ∧ (¬ (v2 = 0) → InB 15 20 ∧ (((x2 = 0) → ((¬ (((xI h1 39 (tn 15)) >>> (x1 &&& 31)) &&& 1) = (0 : Int32)) → ClV 78 [.ref 40, .ref 39] h1 (fun h3 => Sh h3 ∧ (InB 15 20 ∧ (InB 15 20 ∧ (ClV 55 [.ref 34, .ref 39] (xsI h3 39 (tn 15) ((xI h3 39 (tn 15)) ^^^ (1 <<< (x1 &&& 31)))) (fun h5 => Sh h5 ∧ (ClV 67 [.ref 4] h5 (fun h7 => Sh h7 ∧ (Q (.int 1) h7))))))))) ∧ (¬ (¬ (((xI h1 39 (tn 15)) >>> (x1 &&& 31)) &&& 1) = (0 : Int32)) → Q (.int 0) h1)) ∧ (¬ (x2 = 0) → ((¬ (((xI h1 39 (tn 15)) >>> (x1 &&& 31)) &&& 1) = (1 : Int32)) → ClV 78 [.ref 40, .ref 39] h1 (fun h9 => Sh h9 ∧ (InB 15 20 ∧ (InB 15 20 ∧ (ClV 55 [.ref 34, .ref 39] (xsI h9 39 (tn 15) ((xI h9 39 (tn 15)) ^^^ (1 <<< (x1 &&& 31)))) (fun h11 => Sh h11 ∧ (ClV 67 [.ref 4] h11 (fun h13 => Sh h13 ∧ (Q (.int 1) h13))))))))) ∧ (¬ (¬ (((xI h1 39 (tn 15)) >>> (x1 &&& 31)) &&& 1) = (1 : Int32)) → Q (.int 0) h1))))))) : Ev 83 0 (x_ini 83 [.ref 4, .int x1, .int x2]) [] h Q := by
  rw [show x_ini 83 [.ref 4, .int x1, .int x2] = [.ref 4, .int x1, .int x2] from x_inid ml_83 rfl]
  refine e_al o_83_0 rfl ?_
  refine e_il o_83_1 rfl ?_
  refine e_clI (as := [.ref 4, .int x1]) (rest := []) o_83_2 rfl rfl (x_okd cl_83_72 ml_72 (Nat.le_of_ble_eq_true rfl) (Nat.le_of_ble_eq_true rfl)) (x_rc0 (ci := 8) (sk_4 (h := h) hs) mo_72) k ?_
  rintro v2 h1 ⟨sh1, k⟩
  refine e_i0_0 o_83_5 (fun z => ?_) (fun z => ?_)
  · have k := k.1 z
    refine e_c 0 o_83_31 rfl ?_
    exact e_retZ o_83_32 (by decide) k
  · have k := k.2 z
    refine e_al o_83_8 rfl ?_
    refine e_gR (r := 39) o_83_9 (sk_4 (h := h1) sh1) (sr_4_7 (h := h1) sh1) (by decide) ?_
    refine e_c 15 o_83_12 rfl ?_
    obtain ⟨q, k⟩ := k
    refine e_ia (n := 20) o_83_14 (sk_39 (h := h1) sh1) (sn_39 (h := h1) sh1) q ?_
    refine e_il o_83_15 rfl ?_
    refine e_bin o_83_16 rfl ?_
    refine e_c 1 o_83_17 rfl ?_
    refine e_bin o_83_18 rfl ?_
    refine e_il o_83_19 rfl ?_
    refine e_i0_0 o_83_20 (fun z => ?_) (fun z => ?_)
    · have k := k.1 z
      refine e_c 0 o_83_27 rfl ?_
      refine e_if_1 o_83_28 (fun z => ?_) (fun z => ?_)
      · have k := k.1 z
        refine e_al o_83_33 rfl ?_
        refine e_gR (r := 40) o_83_34 (sk_4 (h := h1) sh1) (sr_4_8 (h := h1) sh1) (by decide) ?_
        refine e_al o_83_37 rfl ?_
        refine e_gR (r := 39) o_83_38 (sk_4 (h := h1) sh1) (sr_4_7 (h := h1) sh1) (by decide) ?_
        refine e_clV (as := [.ref 40, .ref 39]) (rest := []) o_83_41 rfl rfl (x_okd cl_83_78 ml_78 (Nat.le_of_ble_eq_true rfl) (Nat.le_of_ble_eq_true rfl)) (x_rc0 (ci := 2) (sk_40 (h := h1) sh1) mo_78) k ?_
        rintro h3 ⟨sh3, k⟩
        refine e_al o_83_44 rfl ?_
        refine e_gR (r := 39) o_83_45 (sk_4 (h := h3) sh3) (sr_4_7 (h := h3) sh3) (by decide) ?_
        refine e_c 15 o_83_48 rfl ?_
        refine e_dup2 o_83_50 ⟨rfl, rfl⟩ ?_
        obtain ⟨q, k⟩ := k
        refine e_ia (n := 20) o_83_51 (sk_39 (h := h3) sh3) (sn_39 (h := h3) sh3) q ?_
        refine e_c 1 o_83_52 rfl ?_
        refine e_il o_83_53 rfl ?_
        refine e_bin o_83_54 rfl ?_
        refine e_bin o_83_55 rfl ?_
        obtain ⟨q, k⟩ := k
        refine e_ias (n := 20) o_83_56 (sk_39 (h := h3) sh3) (by decide) (sn_39 (h := h3) sh3) q ?_
        refine e_al o_83_57 rfl ?_
        refine e_gR (r := 34) o_83_58 (sk_4 (h := h3) sh3) (sr_4_6 (h := h3) sh3) (by decide) ?_
        refine e_al o_83_61 rfl ?_
        refine e_gR (r := 39) o_83_62 (sk_4 (h := h3) sh3) (sr_4_7 (h := h3) sh3) (by decide) ?_
        refine e_clV (as := [.ref 34, .ref 39]) (rest := []) o_83_65 rfl rfl (x_okd cl_83_55 ml_55 (Nat.le_of_ble_eq_true rfl) (Nat.le_of_ble_eq_true rfl)) (x_rc0 (ci := 3) (sk_34 (h := h3) sh3) mo_55) k ?_
        rintro h5 ⟨sh5, k⟩
        refine e_al o_83_68 rfl ?_
        refine e_clV (as := [.ref 4]) (rest := []) o_83_69 rfl rfl (x_okd cl_83_67 ml_67 (Nat.le_of_ble_eq_true rfl) (Nat.le_of_ble_eq_true rfl)) (x_rc0 (ci := 8) (sk_4 (h := h5) sh5) mo_67) k ?_
        rintro h7 ⟨sh7, k⟩
        refine e_c 1 o_83_72 rfl ?_
        exact e_retZ o_83_73 (by decide) k
      · have k := k.2 z
        refine e_c 0 o_83_31 rfl ?_
        exact e_retZ o_83_32 (by decide) k
    · have k := k.2 z
      refine e_c 1 o_83_23 rfl ?_
      refine e_go o_83_24 ?_
      refine e_if_1 o_83_28 (fun z => ?_) (fun z => ?_)
      · have k := k.1 z
        refine e_al o_83_33 rfl ?_
        refine e_gR (r := 40) o_83_34 (sk_4 (h := h1) sh1) (sr_4_8 (h := h1) sh1) (by decide) ?_
        refine e_al o_83_37 rfl ?_
        refine e_gR (r := 39) o_83_38 (sk_4 (h := h1) sh1) (sr_4_7 (h := h1) sh1) (by decide) ?_
        refine e_clV (as := [.ref 40, .ref 39]) (rest := []) o_83_41 rfl rfl (x_okd cl_83_78 ml_78 (Nat.le_of_ble_eq_true rfl) (Nat.le_of_ble_eq_true rfl)) (x_rc0 (ci := 2) (sk_40 (h := h1) sh1) mo_78) k ?_
        rintro h9 ⟨sh9, k⟩
        refine e_al o_83_44 rfl ?_
        refine e_gR (r := 39) o_83_45 (sk_4 (h := h9) sh9) (sr_4_7 (h := h9) sh9) (by decide) ?_
        refine e_c 15 o_83_48 rfl ?_
        refine e_dup2 o_83_50 ⟨rfl, rfl⟩ ?_
        obtain ⟨q, k⟩ := k
        refine e_ia (n := 20) o_83_51 (sk_39 (h := h9) sh9) (sn_39 (h := h9) sh9) q ?_
        refine e_c 1 o_83_52 rfl ?_
        refine e_il o_83_53 rfl ?_
        refine e_bin o_83_54 rfl ?_
        refine e_bin o_83_55 rfl ?_
        obtain ⟨q, k⟩ := k
        refine e_ias (n := 20) o_83_56 (sk_39 (h := h9) sh9) (by decide) (sn_39 (h := h9) sh9) q ?_
        refine e_al o_83_57 rfl ?_
        refine e_gR (r := 34) o_83_58 (sk_4 (h := h9) sh9) (sr_4_6 (h := h9) sh9) (by decide) ?_
        refine e_al o_83_61 rfl ?_
        refine e_gR (r := 39) o_83_62 (sk_4 (h := h9) sh9) (sr_4_7 (h := h9) sh9) (by decide) ?_
        refine e_clV (as := [.ref 34, .ref 39]) (rest := []) o_83_65 rfl rfl (x_okd cl_83_55 ml_55 (Nat.le_of_ble_eq_true rfl) (Nat.le_of_ble_eq_true rfl)) (x_rc0 (ci := 3) (sk_34 (h := h9) sh9) mo_55) k ?_
        rintro h11 ⟨sh11, k⟩
        refine e_al o_83_68 rfl ?_
        refine e_clV (as := [.ref 4]) (rest := []) o_83_69 rfl rfl (x_okd cl_83_67 ml_67 (Nat.le_of_ble_eq_true rfl) (Nat.le_of_ble_eq_true rfl)) (x_rc0 (ci := 8) (sk_4 (h := h11) sh11) mo_67) k ?_
        rintro h13 ⟨sh13, k⟩
        refine e_c 1 o_83_72 rfl ?_
        exact e_retZ o_83_73 (by decide) k
      · have k := k.2 z
        refine e_c 0 o_83_31 rfl ?_
        exact e_retZ o_83_32 (by decide) k
set_option maxHeartbeats 4000000 in
set_option maxRecDepth 100000 in
theorem B_84_0  {h : XH} {Q : Value → XH → Prop} (hs : Sh h) (k : ClI 85 [.ref 40, .ref 39] h (fun v2 h1 => Sh h1 ∧ (((¬ v2 = 0) → ClV 67 [.ref 4] h1 (fun h3 => Sh h3 ∧ (Q (.int 1) h3))) ∧ (¬ (¬ v2 = 0) → Q (.int 0) h1)))) : Ev 84 0 (x_ini 84 [.ref 4]) [] h Q := by
  rw [show x_ini 84 [.ref 4] = [.ref 4] from x_inid ml_84 rfl]
  refine e_al o_84_0 rfl ?_
  refine e_gR (r := 40) o_84_1 (sk_4 (h := h) hs) (sr_4_8 (h := h) hs) (by decide) ?_
  refine e_al o_84_4 rfl ?_
  refine e_gR (r := 39) o_84_5 (sk_4 (h := h) hs) (sr_4_7 (h := h) hs) (by decide) ?_
  refine e_clI (as := [.ref 40, .ref 39]) (rest := []) o_84_8 rfl rfl (x_okd cl_84_85 ml_85 (Nat.le_of_ble_eq_true rfl) (Nat.le_of_ble_eq_true rfl)) (x_rc0 (ci := 2) (sk_40 (h := h) hs) mo_85) k ?_
  rintro v2 h1 ⟨sh1, k⟩
  refine e_i0_1 o_84_11 (fun z => ?_) (fun z => ?_)
  · have k := k.1 z
    refine e_al o_84_16 rfl ?_
    refine e_clV (as := [.ref 4]) (rest := []) o_84_17 rfl rfl (x_okd cl_84_67 ml_67 (Nat.le_of_ble_eq_true rfl) (Nat.le_of_ble_eq_true rfl)) (x_rc0 (ci := 8) (sk_4 (h := h1) sh1) mo_67) k ?_
    rintro h3 ⟨sh3, k⟩
    refine e_c 1 o_84_20 rfl ?_
    exact e_retZ o_84_21 (by decide) k
  · have k := k.2 z
    refine e_c 0 o_84_14 rfl ?_
    exact e_retZ o_84_15 (by decide) k
set_option maxHeartbeats 4000000 in
set_option maxRecDepth 100000 in
theorem B_86_0 {x1 : Int32} {h : XH} {Q : Value → XH → Prop} (hs : Sh h) (k : ((x1 = 0) → ClI 52 [.ref (xR h 34 0), .ref 39] h (fun v2 h1 => Sh h1 ∧ (Q (.int v2) h1))) ∧ (¬ (x1 = 0) → ((x1 = 1) → Q (.int (xI h (xR h 34 0) 6)) h) ∧ (¬ (x1 = 1) → Q (.int (-1)) h))) : Ev 86 0 (x_ini 86 [.ref 4, .int x1]) [] h Q := by
  rw [show x_ini 86 [.ref 4, .int x1] = [.ref 4, .int x1] from x_inid ml_86 rfl]
  refine e_il o_86_0 rfl ?_
  refine e_swc o_86_1 (by decide) ?_
  refine ⟨fun z => ?_, fun z => ?_⟩
  · have k := k.1 z
    refine e_al o_86_28 rfl ?_
    refine e_gR (r := (xR h 34 0)) o_86_29 (sk_4 (h := h) hs) (ss_e (h := h) hs) (by rcases (ss_p hs) with q | q <;> omega) ?_
    refine e_al o_86_32 rfl ?_
    refine e_gR (r := 39) o_86_33 (sk_4 (h := h) hs) (sr_4_7 (h := h) hs) (by decide) ?_
    refine e_clI (as := [.ref (xR h 34 0), .ref 39]) (rest := []) o_86_36 rfl rfl (x_okd cl_86_52 ml_52 (Nat.le_of_ble_eq_true rfl) (Nat.le_of_ble_eq_true rfl)) (x_rc0 (ci := 5) (sc_k (h := h) hs (ss_p hs)) mo_52) k ?_
    rintro v2 h1 ⟨sh1, k⟩
    exact e_retI o_86_39 k
  · have k := k.2 z
    refine ⟨fun z => ?_, fun z => ?_⟩
    · have k := k.1 z
      refine e_al o_86_40 rfl ?_
      refine e_gR (r := (xR h 34 0)) o_86_41 (sk_4 (h := h) hs) (ss_e (h := h) hs) (by rcases (ss_p hs) with q | q <;> omega) ?_
      refine e_gI o_86_44 (sc_k (h := h) hs (ss_p hs)) ?_
      exact e_retI o_86_47 k
    · have k := k.2 z
      refine e_c (-1) o_86_48 rfl ?_
      exact e_retI o_86_49 k
set_option maxHeartbeats 4000000 in
set_option maxRecDepth 100000 in
theorem B_87_0 {x1 : Int32} {h : XH} {Q : Value → XH → Prop} (hs : Sh h) (k : (((-1) ≤ x1) → ClV 88 [.ref 49, .ref 39] h (fun h1 => Sh h1 ∧ (((¬ x1 = (-1)) → ClI 94 [.ref 49, .int x1] h1 (fun v4 h3 => Sh h3 ∧ (Q (.int v4) h3))) ∧ (¬ (¬ x1 = (-1)) → Q (.int (xI h1 49 1)) h1)))) ∧ (¬ ((-1) ≤ x1) → Q (.int (-1)) h)) : Ev 87 0 (x_ini 87 [.ref 4, .int x1]) [] h Q := by
  rw [show x_ini 87 [.ref 4, .int x1] = [.ref 4, .int x1] from x_inid ml_87 rfl]
  refine e_il o_87_0 rfl ?_
  refine e_c (-1) o_87_1 rfl ?_
  refine e_if_3 o_87_2 (fun z => ?_) (fun z => ?_)
  · have k := k.1 z
    refine e_al o_87_7 rfl ?_
    refine e_gR (r := 49) o_87_8 (sk_4 (h := h) hs) (sr_4_12 (h := h) hs) (by decide) ?_
    refine e_al o_87_11 rfl ?_
    refine e_gR (r := 39) o_87_12 (sk_4 (h := h) hs) (sr_4_7 (h := h) hs) (by decide) ?_
    refine e_clV (as := [.ref 49, .ref 39]) (rest := []) o_87_15 rfl rfl (x_okd cl_87_88 ml_88 (Nat.le_of_ble_eq_true rfl) (Nat.le_of_ble_eq_true rfl)) (x_rc0 (ci := 6) (sk_49 (h := h) hs) mo_88) k ?_
    rintro h1 ⟨sh1, k⟩
    refine e_il o_87_18 rfl ?_
    refine e_c (-1) o_87_19 rfl ?_
    refine e_if_1 o_87_20 (fun z => ?_) (fun z => ?_)
    · have k := k.1 z
      refine e_al o_87_33 rfl ?_
      refine e_gR (r := 49) o_87_34 (sk_4 (h := h1) sh1) (sr_4_12 (h := h1) sh1) (by decide) ?_
      refine e_il o_87_37 rfl ?_
      refine e_clI (as := [.ref 49, .int x1]) (rest := []) o_87_38 rfl rfl (x_okd cl_87_94 ml_94 (Nat.le_of_ble_eq_true rfl) (Nat.le_of_ble_eq_true rfl)) (x_rc0 (ci := 6) (sk_49 (h := h1) sh1) mo_94) k ?_
      rintro v4 h3 ⟨sh3, k⟩
      exact e_retI o_87_41 k
    · have k := k.2 z
      refine e_al o_87_23 rfl ?_
      refine e_gR (r := 49) o_87_24 (sk_4 (h := h1) sh1) (sr_4_12 (h := h1) sh1) (by decide) ?_
      refine e_gI o_87_27 (sk_49 (h := h1) sh1) ?_
      refine e_go o_87_30 ?_
      exact e_retI o_87_41 k
  · have k := k.2 z
    refine e_c (-1) o_87_5 rfl ?_
    exact e_retI o_87_6 k
set_option maxHeartbeats 4000000 in
set_option maxRecDepth 100000 in
theorem B_97_0 {x1 : Int32} {x2 : Int32} {h : XH} {Q : Value → XH → Prop} (hs : Sh h) (k : ClI 72 [.ref 4, .int x1] h (fun v2 h1 => Sh h1 ∧ (((v2 = 0) → Q (.int (-1)) h1) ∧ (¬ (v2 = 0) → ClI 98 [.int x2] h1 (fun v4 h3 => Sh h3 ∧ (((¬ v4 = 0) → ClI 99 [.ref 43, .int x1, .ref 39] h3 (fun v6 h5 => Sh h5 ∧ (((v6 < 0) → Q (.int v6) h5) ∧ (¬ (v6 < 0) → ((¬ x2 = 1) → ClI 102 [.ref (xR h5 34 0), .int v6, .ref 39] h5 (fun v8 h7 => Sh h7 ∧ (Q (.int v8) h7))) ∧ (¬ (¬ x2 = 1) → Q (.int v6) h5))))) ∧ (¬ (¬ v4 = 0) → Q (.int (-1)) h3))))))) : Ev 97 0 (x_ini 97 [.ref 4, .int x1, .int x2]) [] h Q := by
  rw [show x_ini 97 [.ref 4, .int x1, .int x2] = [.ref 4, .int x1, .int x2, .null] from x_inid ml_97 rfl]
  refine e_al o_97_0 rfl ?_
  refine e_il o_97_1 rfl ?_
  refine e_clI (as := [.ref 4, .int x1]) (rest := []) o_97_2 rfl rfl (x_okd cl_97_72 ml_72 (Nat.le_of_ble_eq_true rfl) (Nat.le_of_ble_eq_true rfl)) (x_rc0 (ci := 8) (sk_4 (h := h) hs) mo_72) k ?_
  rintro v2 h1 ⟨sh1, k⟩
  refine e_i0_0 o_97_5 (fun z => ?_) (fun z => ?_)
  · have k := k.1 z
    refine e_c (-1) o_97_15 rfl ?_
    exact e_retI o_97_16 k
  · have k := k.2 z
    refine e_il o_97_8 rfl ?_
    refine e_clI (as := [.int x2]) (rest := []) o_97_9 rfl rfl (x_okd cl_97_98 ml_98 (Nat.le_of_ble_eq_true rfl) (Nat.le_of_ble_eq_true rfl)) (rfl) k ?_
    rintro v4 h3 ⟨sh3, k⟩
    refine e_i0_1 o_97_12 (fun z => ?_) (fun z => ?_)
    · have k := k.1 z
      refine e_al o_97_17 rfl ?_
      refine e_gR (r := 43) o_97_18 (sk_4 (h := h3) sh3) (sr_4_11 (h := h3) sh3) (by decide) ?_
      refine e_il o_97_21 rfl ?_
      refine e_al o_97_22 rfl ?_
      refine e_gR (r := 39) o_97_23 (sk_4 (h := h3) sh3) (sr_4_7 (h := h3) sh3) (by decide) ?_
      refine e_clI (as := [.ref 43, .int x1, .ref 39]) (rest := []) o_97_26 rfl rfl (x_okd cl_97_99 ml_99 (Nat.le_of_ble_eq_true rfl) (Nat.le_of_ble_eq_true rfl)) (x_rc0 (ci := 7) (sk_43 (h := h3) sh3) mo_99) k ?_
      rintro v6 h5 ⟨sh5, k⟩
      refine e_is (ls' := [.ref 4, .int x1, .int x2, .int v6]) o_97_29 (Nat.le_of_ble_eq_true rfl) rfl ?_
      refine e_il o_97_30 rfl ?_
      refine e_i0_2 o_97_31 (fun z => ?_) (fun z => ?_)
      · have k := k.1 z
        refine e_il o_97_39 rfl ?_
        refine e_go o_97_40 ?_
        exact e_retI o_97_55 k
      · have k := k.2 z
        refine e_il o_97_34 rfl ?_
        refine e_c 1 o_97_35 rfl ?_
        refine e_if_1 o_97_36 (fun z => ?_) (fun z => ?_)
        · have k := k.1 z
          refine e_al o_97_43 rfl ?_
          refine e_gR (r := (xR h5 34 0)) o_97_44 (sk_4 (h := h5) sh5) (ss_e (h := h5) sh5) (by rcases (ss_p sh5) with q | q <;> omega) ?_
          refine e_il o_97_47 rfl ?_
          refine e_al o_97_48 rfl ?_
          refine e_gR (r := 39) o_97_49 (sk_4 (h := h5) sh5) (sr_4_7 (h := h5) sh5) (by decide) ?_
          refine e_clI (as := [.ref (xR h5 34 0), .int v6, .ref 39]) (rest := []) o_97_52 rfl rfl (x_okd cl_97_102 ml_102 (Nat.le_of_ble_eq_true rfl) (Nat.le_of_ble_eq_true rfl)) (x_rc0 (ci := 5) (sc_k (h := h5) sh5 (ss_p sh5)) mo_102) k ?_
          rintro v8 h7 ⟨sh7, k⟩
          exact e_retI o_97_55 k
        · have k := k.2 z
          refine e_il o_97_39 rfl ?_
          refine e_go o_97_40 ?_
          exact e_retI o_97_55 k
    · have k := k.2 z
      refine e_c (-1) o_97_15 rfl ?_
      exact e_retI o_97_16 k
set_option maxHeartbeats 4000000 in
set_option maxRecDepth 100000 in
theorem B_98_0 {x0 : Int32} {h : XH} {Q : Value → XH → Prop} (hs : Sh h) (k : ((x0 = 0) → Q (.int 1) h) ∧ (¬ (x0 = 0) → ((¬ x0 = 1) → Q (.int 0) h) ∧ (¬ (¬ x0 = 1) → Q (.int 1) h))) : Ev 98 0 (x_ini 98 [.int x0]) [] h Q := by
  rw [show x_ini 98 [.int x0] = [.int x0] from x_inid ml_98 rfl]
  refine e_il o_98_0 rfl ?_
  refine e_i0_0 o_98_1 (fun z => ?_) (fun z => ?_)
  · have k := k.1 z
    refine e_c 1 o_98_9 rfl ?_
    refine e_go o_98_10 ?_
    exact e_retZ o_98_14 (by decide) k
  · have k := k.2 z
    refine e_il o_98_4 rfl ?_
    refine e_c 1 o_98_5 rfl ?_
    refine e_if_1 o_98_6 (fun z => ?_) (fun z => ?_)
    · have k := k.1 z
      refine e_c 0 o_98_13 rfl ?_
      exact e_retZ o_98_14 (by decide) k
    · have k := k.2 z
      refine e_c 1 o_98_9 rfl ?_
      refine e_go o_98_10 ?_
      exact e_retZ o_98_14 (by decide) k
set_option maxHeartbeats 4000000 in
set_option maxRecDepth 100000 in
theorem B_101_0 {x0 : Nat} {x1 : Int32} {h : XH} {Q : Value → XH → Prop} (hs : Sh h) (rx0 : Ar h x0 20) (k : (((Int32.ofNat 20) < x1) → Ev 101 12 [.null, .int x1, .int 1, .int 0] [] h Q) ∧ (¬ ((Int32.ofNat 20) < x1) → Q (.ref x0) h)) : Ev 101 0 (x_ini 101 [.ref x0, .int x1]) [] h Q := by
  rw [show x_ini 101 [.ref x0, .int x1] = [.ref x0, .int x1, .null, .null] from x_inid ml_101 rfl]
  refine e_al o_101_0 rfl ?_
  refine e_len (n := 20) o_101_1 (by rw [show _ = _ from (rx0).1]; decide) ((rx0).2.1) ?_
  refine e_il o_101_2 rfl ?_
  refine e_if_2 o_101_3 (fun z => ?_) (fun z => ?_)
  · have k := k.1 z
    refine e_c 1 o_101_8 rfl ?_
    refine e_is (ls' := [.ref x0, .int x1, .int 1, .null]) o_101_9 (Nat.le_of_ble_eq_true rfl) rfl ?_
    refine e_c 0 o_101_10 rfl ?_
    refine e_is (ls' := [.ref x0, .int x1, .int 1, .int 0]) o_101_11 (Nat.le_of_ble_eq_true rfl) rfl ?_
    exact Ev.less (ls := [.null, .int x1, .int 1, .int 0]) ⟨Or.inl rfl, Or.inr rfl, Or.inr rfl, Or.inr rfl, trivial⟩ k
  · have k := k.2 z
    refine e_al o_101_6 rfl ?_
    exact e_retR o_101_7 k
set_option maxHeartbeats 4000000 in
set_option maxRecDepth 100000 in
theorem B_101_12 {x1 : Int32} {x2 : Int32} {x3 : Int32} {h : XH} {Q : Value → XH → Prop} (hs : Sh h) (k : ((20 ≤ x3) → ¬ (x2 < 0 ∨ 60000000 < (x2).toNatClampNeg) ∧ (Q (.ref (xT h)) (xnew h 1 (tn x2)))) ∧ (¬ (20 ≤ x3) → ((x1 ≤ x2) → ¬ (x2 < 0 ∨ 60000000 < (x2).toNatClampNeg) ∧ (Q (.ref (xT h)) (xnew h 1 (tn x2)))) ∧ (¬ (x1 ≤ x2) → Ev 101 12 [.null, .int x1, .int (x2 * 2), .int (x3 + 1)] [] h Q))) : Ev 101 12 [.null, .int x1, .int x2, .int x3] [] h Q := by
  refine e_il o_101_12 rfl ?_
  refine e_c 20 o_101_13 rfl ?_
  refine e_if_3 o_101_15 (fun z => ?_) (fun z => ?_)
  · have k := k.1 z
    refine e_il o_101_33 rfl ?_
    obtain ⟨q, k⟩ := k
    refine e_na o_101_34 q ?_
    exact e_retR o_101_36 k
  · have k := k.2 z
    refine e_il o_101_18 rfl ?_
    refine e_il o_101_19 rfl ?_
    refine e_if_3 o_101_20 (fun z => ?_) (fun z => ?_)
    · have k := k.1 z
      refine e_il o_101_33 rfl ?_
      obtain ⟨q, k⟩ := k
      refine e_na o_101_34 q ?_
      exact e_retR o_101_36 k
    · have k := k.2 z
      refine e_il o_101_23 rfl ?_
      refine e_c 2 o_101_24 rfl ?_
      refine e_bin o_101_25 rfl ?_
      refine e_is (ls' := [.null, .int x1, .int (x2 * 2), .int x3]) o_101_26 (Nat.le_of_ble_eq_true rfl) rfl ?_
      refine e_inc (ls' := [.null, .int x1, .int (x2 * 2), .int (x3 + 1)]) o_101_27 rfl rfl rfl ?_
      refine e_go o_101_30 ?_
      exact Ev.less (ls := [.null, .int x1, .int (x2 * 2), .int (x3 + 1)]) ⟨Or.inl rfl, Or.inr rfl, Or.inr rfl, Or.inr rfl, trivial⟩ k
set_option maxHeartbeats 4000000 in
set_option maxRecDepth 100000 in
theorem B_103_0 {x1 : Int32} {h : XH} {Q : Value → XH → Prop} (hs : Sh h) (k : ClI 72 [.ref 4, .int x1] h (fun v2 h1 => Sh h1 ∧ (((¬ v2 = 0) → Ev 103 12 [.ref 4, .int x1, .int 0] [] h1 Q) ∧ (¬ (¬ v2 = 0) → Q (.int (-1)) h1)))) : Ev 103 0 (x_ini 103 [.ref 4, .int x1]) [] h Q := by
  rw [show x_ini 103 [.ref 4, .int x1] = [.ref 4, .int x1, .null] from x_inid ml_103 rfl]
  refine e_al o_103_0 rfl ?_
  refine e_il o_103_1 rfl ?_
  refine e_clI (as := [.ref 4, .int x1]) (rest := []) o_103_2 rfl rfl (x_okd cl_103_72 ml_72 (Nat.le_of_ble_eq_true rfl) (Nat.le_of_ble_eq_true rfl)) (x_rc0 (ci := 8) (sk_4 (h := h) hs) mo_72) k ?_
  rintro v2 h1 ⟨sh1, k⟩
  refine e_i0_1 o_103_5 (fun z => ?_) (fun z => ?_)
  · have k := k.1 z
    refine e_c 0 o_103_10 rfl ?_
    refine e_is (ls' := [.ref 4, .int x1, .int 0]) o_103_11 (Nat.le_of_ble_eq_true rfl) rfl ?_
    exact Ev.less (ls := [.ref 4, .int x1, .int 0]) ⟨Or.inr rfl, Or.inr rfl, Or.inr rfl, trivial⟩ k
  · have k := k.2 z
    refine e_c (-1) o_103_8 rfl ?_
    exact e_retI o_103_9 k
set_option maxHeartbeats 4000000 in
set_option maxRecDepth 100000 in
theorem B_103_12 {x1 : Int32} {x2 : Int32} {h : XH} {Q : Value → XH → Prop} (hs : Sh h) (k : ((300 < x2) → Q (.int (-2)) h) ∧ (¬ (300 < x2) → ClI 104 [.ref 53, .int x2, .ref 39] h (fun v2 h1 => Sh h1 ∧ (ClI 64 [.int v2, .int x1] h1 (fun v4 h3 => Sh h3 ∧ (((¬ v4 = 4) → Ev 103 12 [.ref 4, .int x1, .int (x2 + 1)] [] h3 Q) ∧ (¬ (¬ v4 = 4) → Q (.int x2) h3))))))) : Ev 103 12 [.ref 4, .int x1, .int x2] [] h Q := by
  refine e_il o_103_12 rfl ?_
  refine e_c 300 o_103_13 rfl ?_
  refine e_if_4 o_103_16 (fun z => ?_) (fun z => ?_)
  · have k := k.1 z
    refine e_c (-2) o_103_47 rfl ?_
    exact e_retI o_103_49 k
  · have k := k.2 z
    refine e_al o_103_19 rfl ?_
    refine e_gR (r := 53) o_103_20 (sk_4 (h := h) hs) (sr_4_13 (h := h) hs) (by decide) ?_
    refine e_il o_103_23 rfl ?_
    refine e_al o_103_24 rfl ?_
    refine e_gR (r := 39) o_103_25 (sk_4 (h := h) hs) (sr_4_7 (h := h) hs) (by decide) ?_
    refine e_clI (as := [.ref 53, .int x2, .ref 39]) (rest := []) o_103_28 rfl rfl (x_okd cl_103_104 ml_104 (Nat.le_of_ble_eq_true rfl) (Nat.le_of_ble_eq_true rfl)) (x_rc0 (ci := 0) (sk_53 (h := h) hs) mo_104) k ?_
    rintro v2 h1 ⟨sh1, k⟩
    refine e_il o_103_31 rfl ?_
    refine e_clI (as := [.int v2, .int x1]) (rest := []) o_103_32 rfl rfl (x_okd cl_103_64 ml_64 (Nat.le_of_ble_eq_true rfl) (Nat.le_of_ble_eq_true rfl)) (rfl) k ?_
    rintro v4 h3 ⟨sh3, k⟩
    refine e_c 4 o_103_35 rfl ?_
    refine e_if_1 o_103_36 (fun z => ?_) (fun z => ?_)
    · have k := k.1 z
      refine e_inc (ls' := [.ref 4, .int x1, .int (x2 + 1)]) o_103_41 rfl rfl rfl ?_
      refine e_go o_103_44 ?_
      exact Ev.less (ls := [.ref 4, .int x1, .int (x2 + 1)]) ⟨Or.inr rfl, Or.inr rfl, Or.inr rfl, trivial⟩ k
    · have k := k.2 z
      refine e_il o_103_39 rfl ?_
      exact e_retI o_103_40 k
set_option maxHeartbeats 4000000 in
set_option maxRecDepth 100000 in
theorem B_105_0 {x1 : Int32} {h : XH} {Q : Value → XH → Prop} (hs : Sh h) (k : ClI 72 [.ref 4, .int x1] h (fun v2 h1 => Sh h1 ∧ (((¬ v2 = 0) → Ev 105 12 [.ref 4, .int x1, .int 0] [] h1 Q) ∧ (¬ (¬ v2 = 0) → Q (.int (-1)) h1)))) : Ev 105 0 (x_ini 105 [.ref 4, .int x1]) [] h Q := by
  rw [show x_ini 105 [.ref 4, .int x1] = [.ref 4, .int x1, .null] from x_inid ml_105 rfl]
  refine e_al o_105_0 rfl ?_
  refine e_il o_105_1 rfl ?_
  refine e_clI (as := [.ref 4, .int x1]) (rest := []) o_105_2 rfl rfl (x_okd cl_105_72 ml_72 (Nat.le_of_ble_eq_true rfl) (Nat.le_of_ble_eq_true rfl)) (x_rc0 (ci := 8) (sk_4 (h := h) hs) mo_72) k ?_
  rintro v2 h1 ⟨sh1, k⟩
  refine e_i0_1 o_105_5 (fun z => ?_) (fun z => ?_)
  · have k := k.1 z
    refine e_c 0 o_105_10 rfl ?_
    refine e_is (ls' := [.ref 4, .int x1, .int 0]) o_105_11 (Nat.le_of_ble_eq_true rfl) rfl ?_
    exact Ev.less (ls := [.ref 4, .int x1, .int 0]) ⟨Or.inr rfl, Or.inr rfl, Or.inr rfl, trivial⟩ k
  · have k := k.2 z
    refine e_c (-1) o_105_8 rfl ?_
    exact e_retI o_105_9 k
set_option maxHeartbeats 4000000 in
set_option maxRecDepth 100000 in
theorem B_105_12 {x1 : Int32} {x2 : Int32} {h : XH} {Q : Value → XH → Prop} (hs : Sh h) (k : ((300 ≤ x2) → Q (.int 300) h) ∧ (¬ (300 ≤ x2) → ClI 104 [.ref 53, .int x2, .ref 39] h (fun v2 h1 => Sh h1 ∧ (ClI 64 [.int v2, .int x1] h1 (fun v4 h3 => Sh h3 ∧ (((v4 = 4) → Ev 105 12 [.ref 4, .int x1, .int (x2 + 1)] [] h3 Q) ∧ (¬ (v4 = 4) → Q (.int x2) h3))))))) : Ev 105 12 [.ref 4, .int x1, .int x2] [] h Q := by
  refine e_il o_105_12 rfl ?_
  refine e_c 300 o_105_13 rfl ?_
  refine e_if_3 o_105_16 (fun z => ?_) (fun z => ?_)
  · have k := k.1 z
    refine e_c 300 o_105_47 rfl ?_
    exact e_retI o_105_50 k
  · have k := k.2 z
    refine e_al o_105_19 rfl ?_
    refine e_gR (r := 53) o_105_20 (sk_4 (h := h) hs) (sr_4_13 (h := h) hs) (by decide) ?_
    refine e_il o_105_23 rfl ?_
    refine e_al o_105_24 rfl ?_
    refine e_gR (r := 39) o_105_25 (sk_4 (h := h) hs) (sr_4_7 (h := h) hs) (by decide) ?_
    refine e_clI (as := [.ref 53, .int x2, .ref 39]) (rest := []) o_105_28 rfl rfl (x_okd cl_105_104 ml_104 (Nat.le_of_ble_eq_true rfl) (Nat.le_of_ble_eq_true rfl)) (x_rc0 (ci := 0) (sk_53 (h := h) hs) mo_104) k ?_
    rintro v2 h1 ⟨sh1, k⟩
    refine e_il o_105_31 rfl ?_
    refine e_clI (as := [.int v2, .int x1]) (rest := []) o_105_32 rfl rfl (x_okd cl_105_64 ml_64 (Nat.le_of_ble_eq_true rfl) (Nat.le_of_ble_eq_true rfl)) (rfl) k ?_
    rintro v4 h3 ⟨sh3, k⟩
    refine e_c 4 o_105_35 rfl ?_
    refine e_if_0 o_105_36 (fun z => ?_) (fun z => ?_)
    · have k := k.1 z
      refine e_inc (ls' := [.ref 4, .int x1, .int (x2 + 1)]) o_105_41 rfl rfl rfl ?_
      refine e_go o_105_44 ?_
      exact Ev.less (ls := [.ref 4, .int x1, .int (x2 + 1)]) ⟨Or.inr rfl, Or.inr rfl, Or.inr rfl, trivial⟩ k
    · have k := k.2 z
      refine e_il o_105_39 rfl ?_
      exact e_retI o_105_40 k
set_option maxHeartbeats 4000000 in
set_option maxRecDepth 100000 in
theorem B_106_0 {x1 : Int32} {x2 : Int32} {h : XH} {Q : Value → XH → Prop} (hs : Sh h) (k : ClI 72 [.ref 4, .int x1] h (fun v2 h1 => Sh h1 ∧ (((v2 = 0) → Q (.int (-1)) h1) ∧ (¬ (v2 = 0) → ClI 107 [.int x2] h1 (fun v4 h3 => Sh h3 ∧ (((¬ v4 = 0) → Ev 106 25 [.ref 4, .int x1, .int x2, .int 0, .int 0, .int 0, .null] [] h3 Q) ∧ (¬ (¬ v4 = 0) → Q (.int (-1)) h3))))))) : Ev 106 0 (x_ini 106 [.ref 4, .int x1, .int x2]) [] h Q := by
  rw [show x_ini 106 [.ref 4, .int x1, .int x2] = [.ref 4, .int x1, .int x2, .null, .null, .null, .null] from x_inid ml_106 rfl]
  refine e_al o_106_0 rfl ?_
  refine e_il o_106_1 rfl ?_
  refine e_clI (as := [.ref 4, .int x1]) (rest := []) o_106_2 rfl rfl (x_okd cl_106_72 ml_72 (Nat.le_of_ble_eq_true rfl) (Nat.le_of_ble_eq_true rfl)) (x_rc0 (ci := 8) (sk_4 (h := h) hs) mo_72) k ?_
  rintro v2 h1 ⟨sh1, k⟩
  refine e_i0_0 o_106_5 (fun z => ?_) (fun z => ?_)
  · have k := k.1 z
    refine e_c (-1) o_106_15 rfl ?_
    exact e_retI o_106_16 k
  · have k := k.2 z
    refine e_il o_106_8 rfl ?_
    refine e_clI (as := [.int x2]) (rest := []) o_106_9 rfl rfl (x_okd cl_106_107 ml_107 (Nat.le_of_ble_eq_true rfl) (Nat.le_of_ble_eq_true rfl)) (rfl) k ?_
    rintro v4 h3 ⟨sh3, k⟩
    refine e_i0_1 o_106_12 (fun z => ?_) (fun z => ?_)
    · have k := k.1 z
      refine e_c 0 o_106_17 rfl ?_
      refine e_is (ls' := [.ref 4, .int x1, .int x2, .int 0, .null, .null, .null]) o_106_18 (Nat.le_of_ble_eq_true rfl) rfl ?_
      refine e_c 0 o_106_19 rfl ?_
      refine e_is (ls' := [.ref 4, .int x1, .int x2, .int 0, .int 0, .null, .null]) o_106_20 (Nat.le_of_ble_eq_true rfl) rfl ?_
      refine e_c 0 o_106_22 rfl ?_
      refine e_is (ls' := [.ref 4, .int x1, .int x2, .int 0, .int 0, .int 0, .null]) o_106_23 (Nat.le_of_ble_eq_true rfl) rfl ?_
      exact Ev.less (ls := [.ref 4, .int x1, .int x2, .int 0, .int 0, .int 0, .null]) ⟨Or.inr rfl, Or.inr rfl, Or.inr rfl, Or.inr rfl, Or.inr rfl, Or.inr rfl, Or.inl rfl, trivial⟩ k
    · have k := k.2 z
      refine e_c (-1) o_106_15 rfl ?_
      exact e_retI o_106_16 k
set_option maxHeartbeats 4000000 in
set_option maxRecDepth 100000 in
theorem B_106_25 {x1 : Int32} {x2 : Int32} {x3 : Int32} {x4 : Int32} {x5 : Int32} {h : XH} {Q : Value → XH → Prop} (hs : Sh h) (k : ((x2 < x5) → Q (.int x3) h) ∧ (¬ (x2 < x5) → ClI 104 [.ref 53, .int x5, .ref 39] h (fun v2 h1 => Sh h1 ∧ (ClI 64 [.int v2, .int x1] h1 (fun v4 h3 => Sh h3 ∧ (((¬ v4 = 4) → (((0 : Int32) = 0) → Ev 106 25 [.ref 4, .int x1, .int x2, .int (if x3 < 0 then 0 else x3), .int 0, .int (x5 + 1), .null] [] h3 Q) ∧ (¬ ((0 : Int32) = 0) → Ev 106 25 [.ref 4, .int x1, .int x2, .int (if x3 < (x4 + 1) then (x4 + 1) else x3), .int (x4 + 1), .int (x5 + 1), .null] [] h3 Q)) ∧ (¬ (¬ v4 = 4) → (((1 : Int32) = 0) → Ev 106 25 [.ref 4, .int x1, .int x2, .int (if x3 < 0 then 0 else x3), .int 0, .int (x5 + 1), .null] [] h3 Q) ∧ (¬ ((1 : Int32) = 0) → Ev 106 25 [.ref 4, .int x1, .int x2, .int (if x3 < (x4 + 1) then (x4 + 1) else x3), .int (x4 + 1), .int (x5 + 1), .null] [] h3 Q)))))))) : Ev 106 25 [.ref 4, .int x1, .int x2, .int x3, .int x4, .int x5, .null] [] h Q := by
  refine e_il o_106_25 rfl ?_
  refine e_il o_106_27 rfl ?_
  refine e_if_4 o_106_28 (fun z => ?_) (fun z => ?_)
  · have k := k.1 z
    refine e_il o_106_87 rfl ?_
    exact e_retI o_106_88 k
  · have k := k.2 z
    refine e_al o_106_31 rfl ?_
    refine e_gR (r := 53) o_106_32 (sk_4 (h := h) hs) (sr_4_13 (h := h) hs) (by decide) ?_
    refine e_il o_106_35 rfl ?_
    refine e_al o_106_37 rfl ?_
    refine e_gR (r := 39) o_106_38 (sk_4 (h := h) hs) (sr_4_7 (h := h) hs) (by decide) ?_
    refine e_clI (as := [.ref 53, .int x5, .ref 39]) (rest := []) o_106_41 rfl rfl (x_okd cl_106_104 ml_104 (Nat.le_of_ble_eq_true rfl) (Nat.le_of_ble_eq_true rfl)) (x_rc0 (ci := 0) (sk_53 (h := h) hs) mo_104) k ?_
    rintro v2 h1 ⟨sh1, k⟩
    refine e_il o_106_44 rfl ?_
    refine e_clI (as := [.int v2, .int x1]) (rest := []) o_106_45 rfl rfl (x_okd cl_106_64 ml_64 (Nat.le_of_ble_eq_true rfl) (Nat.le_of_ble_eq_true rfl)) (rfl) k ?_
    rintro v4 h3 ⟨sh3, k⟩
    refine e_c 4 o_106_48 rfl ?_
    refine e_if_1 o_106_49 (fun z => ?_) (fun z => ?_)
    · have k := k.1 z
      refine e_c 0 o_106_56 rfl ?_
      refine e_is (ls' := [.ref 4, .int x1, .int x2, .int x3, .int x4, .int x5, .int 0]) o_106_57 (Nat.le_of_ble_eq_true rfl) rfl ?_
      refine e_il o_106_59 rfl ?_
      refine e_i0_0 o_106_61 (fun z => ?_) (fun z => ?_)
      · have k := k.1 z
        refine e_c 0 o_106_71 rfl ?_
        refine e_is (ls' := [.ref 4, .int x1, .int x2, .int x3, .int 0, .int x5, .int 0]) o_106_72 (Nat.le_of_ble_eq_true rfl) rfl ?_
        refine e_il o_106_74 rfl ?_
        refine e_il o_106_75 rfl ?_
        refine e_max o_106_77 (Nat.le_of_ble_eq_true rfl) ?_
        refine e_is (ls' := [.ref 4, .int x1, .int x2, .int (if x3 < 0 then 0 else x3), .int 0, .int x5, .int 0]) o_106_80 (Nat.le_of_ble_eq_true rfl) rfl ?_
        refine e_inc (ls' := [.ref 4, .int x1, .int x2, .int (if x3 < 0 then 0 else x3), .int 0, .int (x5 + 1), .int 0]) o_106_81 rfl rfl rfl ?_
        refine e_go o_106_84 ?_
        exact Ev.less (ls := [.ref 4, .int x1, .int x2, .int (if x3 < 0 then 0 else x3), .int 0, .int (x5 + 1), .null]) ⟨Or.inr rfl, Or.inr rfl, Or.inr rfl, Or.inr rfl, Or.inr rfl, Or.inr rfl, Or.inl rfl, trivial⟩ k
      · have k := k.2 z
        refine e_il o_106_64 rfl ?_
        refine e_c 1 o_106_66 rfl ?_
        refine e_bin o_106_67 rfl ?_
        refine e_go o_106_68 ?_
        refine e_is (ls' := [.ref 4, .int x1, .int x2, .int x3, .int (x4 + 1), .int x5, .int 0]) o_106_72 (Nat.le_of_ble_eq_true rfl) rfl ?_
        refine e_il o_106_74 rfl ?_
        refine e_il o_106_75 rfl ?_
        refine e_max o_106_77 (Nat.le_of_ble_eq_true rfl) ?_
        refine e_is (ls' := [.ref 4, .int x1, .int x2, .int (if x3 < (x4 + 1) then (x4 + 1) else x3), .int (x4 + 1), .int x5, .int 0]) o_106_80 (Nat.le_of_ble_eq_true rfl) rfl ?_
        refine e_inc (ls' := [.ref 4, .int x1, .int x2, .int (if x3 < (x4 + 1) then (x4 + 1) else x3), .int (x4 + 1), .int (x5 + 1), .int 0]) o_106_81 rfl rfl rfl ?_
        refine e_go o_106_84 ?_
        exact Ev.less (ls := [.ref 4, .int x1, .int x2, .int (if x3 < (x4 + 1) then (x4 + 1) else x3), .int (x4 + 1), .int (x5 + 1), .null]) ⟨Or.inr rfl, Or.inr rfl, Or.inr rfl, Or.inr rfl, Or.inr rfl, Or.inr rfl, Or.inl rfl, trivial⟩ k
    · have k := k.2 z
      refine e_c 1 o_106_52 rfl ?_
      refine e_go o_106_53 ?_
      refine e_is (ls' := [.ref 4, .int x1, .int x2, .int x3, .int x4, .int x5, .int 1]) o_106_57 (Nat.le_of_ble_eq_true rfl) rfl ?_
      refine e_il o_106_59 rfl ?_
      refine e_i0_0 o_106_61 (fun z => ?_) (fun z => ?_)
      · have k := k.1 z
        refine e_c 0 o_106_71 rfl ?_
        refine e_is (ls' := [.ref 4, .int x1, .int x2, .int x3, .int 0, .int x5, .int 1]) o_106_72 (Nat.le_of_ble_eq_true rfl) rfl ?_
        refine e_il o_106_74 rfl ?_
        refine e_il o_106_75 rfl ?_
        refine e_max o_106_77 (Nat.le_of_ble_eq_true rfl) ?_
        refine e_is (ls' := [.ref 4, .int x1, .int x2, .int (if x3 < 0 then 0 else x3), .int 0, .int x5, .int 1]) o_106_80 (Nat.le_of_ble_eq_true rfl) rfl ?_
        refine e_inc (ls' := [.ref 4, .int x1, .int x2, .int (if x3 < 0 then 0 else x3), .int 0, .int (x5 + 1), .int 1]) o_106_81 rfl rfl rfl ?_
        refine e_go o_106_84 ?_
        exact Ev.less (ls := [.ref 4, .int x1, .int x2, .int (if x3 < 0 then 0 else x3), .int 0, .int (x5 + 1), .null]) ⟨Or.inr rfl, Or.inr rfl, Or.inr rfl, Or.inr rfl, Or.inr rfl, Or.inr rfl, Or.inl rfl, trivial⟩ k
      · have k := k.2 z
        refine e_il o_106_64 rfl ?_
        refine e_c 1 o_106_66 rfl ?_
        refine e_bin o_106_67 rfl ?_
        refine e_go o_106_68 ?_
        refine e_is (ls' := [.ref 4, .int x1, .int x2, .int x3, .int (x4 + 1), .int x5, .int 1]) o_106_72 (Nat.le_of_ble_eq_true rfl) rfl ?_
        refine e_il o_106_74 rfl ?_
        refine e_il o_106_75 rfl ?_
        refine e_max o_106_77 (Nat.le_of_ble_eq_true rfl) ?_
        refine e_is (ls' := [.ref 4, .int x1, .int x2, .int (if x3 < (x4 + 1) then (x4 + 1) else x3), .int (x4 + 1), .int x5, .int 1]) o_106_80 (Nat.le_of_ble_eq_true rfl) rfl ?_
        refine e_inc (ls' := [.ref 4, .int x1, .int x2, .int (if x3 < (x4 + 1) then (x4 + 1) else x3), .int (x4 + 1), .int (x5 + 1), .int 1]) o_106_81 rfl rfl rfl ?_
        refine e_go o_106_84 ?_
        exact Ev.less (ls := [.ref 4, .int x1, .int x2, .int (if x3 < (x4 + 1) then (x4 + 1) else x3), .int (x4 + 1), .int (x5 + 1), .null]) ⟨Or.inr rfl, Or.inr rfl, Or.inr rfl, Or.inr rfl, Or.inr rfl, Or.inr rfl, Or.inl rfl, trivial⟩ k
set_option maxHeartbeats 4000000 in
set_option maxRecDepth 100000 in
theorem B_107_0 {x0 : Int32} {h : XH} {Q : Value → XH → Prop} (hs : Sh h) (k : ((x0 < 0) → Q (.int 0) h) ∧ (¬ (x0 < 0) → ((300 < x0) → Q (.int 0) h) ∧ (¬ (300 < x0) → Q (.int 1) h))) : Ev 107 0 (x_ini 107 [.int x0]) [] h Q := by
  rw [show x_ini 107 [.int x0] = [.int x0] from x_inid ml_107 rfl]
  refine e_il o_107_0 rfl ?_
  refine e_i0_2 o_107_1 (fun z => ?_) (fun z => ?_)
  · have k := k.1 z
    refine e_c 0 o_107_15 rfl ?_
    exact e_retZ o_107_16 (by decide) k
  · have k := k.2 z
    refine e_il o_107_4 rfl ?_
    refine e_c 300 o_107_5 rfl ?_
    refine e_if_4 o_107_8 (fun z => ?_) (fun z => ?_)
    · have k := k.1 z
      refine e_c 0 o_107_15 rfl ?_
      exact e_retZ o_107_16 (by decide) k
    · have k := k.2 z
      refine e_c 1 o_107_11 rfl ?_
      refine e_go o_107_12 ?_
      exact e_retZ o_107_16 (by decide) k
set_option maxHeartbeats 4000000 in
set_option maxRecDepth 100000 in
theorem B_108_0 {x1 : Int32} {h : XH} {Q : Value → XH → Prop} (hs : Sh h) (k : ClI 107 [.int x1] h (fun v2 h1 => Sh h1 ∧ (((¬ v2 = 0) → ClI 104 [.ref 53, .int x1, .ref 39] h1 (fun v4 h3 => Sh h3 ∧ (Ev 108 27 [.ref 4, .null, .int v4, .int 0, .int 0] [] h3 Q))) ∧ (¬ (¬ v2 = 0) → Q (.int (-1)) h1)))) : Ev 108 0 (x_ini 108 [.ref 4, .int x1]) [] h Q := by
  rw [show x_ini 108 [.ref 4, .int x1] = [.ref 4, .int x1, .null, .null, .null] from x_inid ml_108 rfl]
  refine e_il o_108_0 rfl ?_
  refine e_clI (as := [.int x1]) (rest := []) o_108_1 rfl rfl (x_okd cl_108_107 ml_107 (Nat.le_of_ble_eq_true rfl) (Nat.le_of_ble_eq_true rfl)) (rfl) k ?_
  rintro v2 h1 ⟨sh1, k⟩
  refine e_i0_1 o_108_4 (fun z => ?_) (fun z => ?_)
  · have k := k.1 z
    refine e_al o_108_9 rfl ?_
    refine e_gR (r := 53) o_108_10 (sk_4 (h := h1) sh1) (sr_4_13 (h := h1) sh1) (by decide) ?_
    refine e_il o_108_13 rfl ?_
    refine e_al o_108_14 rfl ?_
    refine e_gR (r := 39) o_108_15 (sk_4 (h := h1) sh1) (sr_4_7 (h := h1) sh1) (by decide) ?_
    refine e_clI (as := [.ref 53, .int x1, .ref 39]) (rest := []) o_108_18 rfl rfl (x_okd cl_108_104 ml_104 (Nat.le_of_ble_eq_true rfl) (Nat.le_of_ble_eq_true rfl)) (x_rc0 (ci := 0) (sk_53 (h := h1) sh1) mo_104) k ?_
    rintro v4 h3 ⟨sh3, k⟩
    refine e_is (ls' := [.ref 4, .int x1, .int v4, .null, .null]) o_108_21 (Nat.le_of_ble_eq_true rfl) rfl ?_
    refine e_c 0 o_108_22 rfl ?_
    refine e_is (ls' := [.ref 4, .int x1, .int v4, .int 0, .null]) o_108_23 (Nat.le_of_ble_eq_true rfl) rfl ?_
    refine e_c 0 o_108_24 rfl ?_
    refine e_is (ls' := [.ref 4, .int x1, .int v4, .int 0, .int 0]) o_108_25 (Nat.le_of_ble_eq_true rfl) rfl ?_
    exact Ev.less (ls := [.ref 4, .null, .int v4, .int 0, .int 0]) ⟨Or.inr rfl, Or.inl rfl, Or.inr rfl, Or.inr rfl, Or.inr rfl, trivial⟩ k
  · have k := k.2 z
    refine e_c (-1) o_108_7 rfl ?_
    exact e_retI o_108_8 k
set_option maxHeartbeats 4000000 in
set_option maxRecDepth 100000 in
theorem B_108_27 {x2 : Int32} {x3 : Int32} {x4 : Int32} {h : XH} {Q : Value → XH → Prop} (hs : Sh h) (k : (((xI h (xR h 34 0) 1) ≤ x4) → Q (.int x3) h) ∧ (¬ ((xI h (xR h 34 0) 1) ≤ x4) → ClI 64 [.int x2, .int x4] h (fun v2 h1 => Sh h1 ∧ (InB (8 + x4) 20 ∧ (((v2 = (xI h1 39 (tn (8 + x4)))) → Ev 108 27 [.ref 4, .null, .int x2, .int x3, .int (x4 + 1)] [] h1 Q) ∧ (¬ (v2 = (xI h1 39 (tn (8 + x4)))) → Ev 108 27 [.ref 4, .null, .int x2, .int (x3 ||| (1 <<< (x4 &&& 31))), .int (x4 + 1)] [] h1 Q)))))) : Ev 108 27 [.ref 4, .null, .int x2, .int x3, .int x4] [] h Q := by
  refine e_il o_108_27 rfl ?_
  refine e_al o_108_29 rfl ?_
  refine e_gR (r := (xR h 34 0)) o_108_30 (sk_4 (h := h) hs) (ss_e (h := h) hs) (by rcases (ss_p hs) with q | q <;> omega) ?_
  refine e_gI o_108_33 (sc_k (h := h) hs (ss_p hs)) ?_
  refine e_if_3 o_108_36 (fun z => ?_) (fun z => ?_)
  · have k := k.1 z
    refine e_il o_108_71 rfl ?_
    exact e_retI o_108_72 k
  · have k := k.2 z
    refine e_il o_108_39 rfl ?_
    refine e_il o_108_40 rfl ?_
    refine e_clI (as := [.int x2, .int x4]) (rest := []) o_108_42 rfl rfl (x_okd cl_108_64 ml_64 (Nat.le_of_ble_eq_true rfl) (Nat.le_of_ble_eq_true rfl)) (rfl) k ?_
    rintro v2 h1 ⟨sh1, k⟩
    refine e_al o_108_45 rfl ?_
    refine e_gR (r := 39) o_108_46 (sk_4 (h := h1) sh1) (sr_4_7 (h := h1) sh1) (by decide) ?_
    refine e_c 8 o_108_49 rfl ?_
    refine e_il o_108_51 rfl ?_
    refine e_bin o_108_53 rfl ?_
    obtain ⟨q, k⟩ := k
    refine e_ia (n := 20) o_108_54 (sk_39 (h := h1) sh1) (sn_39 (h := h1) sh1) q ?_
    refine e_if_0 o_108_55 (fun z => ?_) (fun z => ?_)
    · have k := k.1 z
      refine e_inc (ls' := [.ref 4, .null, .int x2, .int x3, .int (x4 + 1)]) o_108_65 rfl rfl rfl ?_
      refine e_go o_108_68 ?_
      exact Ev.less (ls := [.ref 4, .null, .int x2, .int x3, .int (x4 + 1)]) ⟨Or.inr rfl, Or.inl rfl, Or.inr rfl, Or.inr rfl, Or.inr rfl, trivial⟩ k
    · have k := k.2 z
      refine e_il o_108_58 rfl ?_
      refine e_c 1 o_108_59 rfl ?_
      refine e_il o_108_60 rfl ?_
      refine e_bin o_108_62 rfl ?_
      refine e_bin o_108_63 rfl ?_
      refine e_is (ls' := [.ref 4, .null, .int x2, .int (x3 ||| (1 <<< (x4 &&& 31))), .int x4]) o_108_64 (Nat.le_of_ble_eq_true rfl) rfl ?_
      refine e_inc (ls' := [.ref 4, .null, .int x2, .int (x3 ||| (1 <<< (x4 &&& 31))), .int (x4 + 1)]) o_108_65 rfl rfl rfl ?_
      refine e_go o_108_68 ?_
      exact Ev.less (ls := [.ref 4, .null, .int x2, .int (x3 ||| (1 <<< (x4 &&& 31))), .int (x4 + 1)]) ⟨Or.inr rfl, Or.inl rfl, Or.inr rfl, Or.inr rfl, Or.inr rfl, trivial⟩ k
set_option maxHeartbeats 4000000 in
set_option maxRecDepth 100000 in
theorem B_109_0 {x1 : Int32} {x2 : Int32} {h : XH} {Q : Value → XH → Prop} (hs : Sh h) (k : ClI 72 [.ref 4, .int x1] h (fun v2 h1 => Sh h1 ∧ (((v2 = 0) → Q (.int (-1)) h1) ∧ (¬ (v2 = 0) → ClI 107 [.int x2] h1 (fun v4 h3 => Sh h3 ∧ (((v4 = 0) → Q (.int (-1)) h3) ∧ (¬ (v4 = 0) → ClI 104 [.ref 53, .int x2, .ref 39] h3 (fun v6 h5 => Sh h5 ∧ (ClI 64 [.int v6, .int x1] h5 (fun v8 h7 => Sh h7 ∧ (Q (.int v8) h7))))))))))) : Ev 109 0 (x_ini 109 [.ref 4, .int x1, .int x2]) [] h Q := by
  rw [show x_ini 109 [.ref 4, .int x1, .int x2] = [.ref 4, .int x1, .int x2] from x_inid ml_109 rfl]
  refine e_al o_109_0 rfl ?_
  refine e_il o_109_1 rfl ?_
  refine e_clI (as := [.ref 4, .int x1]) (rest := []) o_109_2 rfl rfl (x_okd cl_109_72 ml_72 (Nat.le_of_ble_eq_true rfl) (Nat.le_of_ble_eq_true rfl)) (x_rc0 (ci := 8) (sk_4 (h := h) hs) mo_72) k ?_
  rintro v2 h1 ⟨sh1, k⟩
  refine e_i0_0 o_109_5 (fun z => ?_) (fun z => ?_)
  · have k := k.1 z
    refine e_c (-1) o_109_34 rfl ?_
    exact e_retI o_109_35 k
  · have k := k.2 z
    refine e_il o_109_8 rfl ?_
    refine e_clI (as := [.int x2]) (rest := []) o_109_9 rfl rfl (x_okd cl_109_107 ml_107 (Nat.le_of_ble_eq_true rfl) (Nat.le_of_ble_eq_true rfl)) (rfl) k ?_
    rintro v4 h3 ⟨sh3, k⟩
    refine e_i0_0 o_109_12 (fun z => ?_) (fun z => ?_)
    · have k := k.1 z
      refine e_c (-1) o_109_34 rfl ?_
      exact e_retI o_109_35 k
    · have k := k.2 z
      refine e_al o_109_15 rfl ?_
      refine e_gR (r := 53) o_109_16 (sk_4 (h := h3) sh3) (sr_4_13 (h := h3) sh3) (by decide) ?_
      refine e_il o_109_19 rfl ?_
      refine e_al o_109_20 rfl ?_
      refine e_gR (r := 39) o_109_21 (sk_4 (h := h3) sh3) (sr_4_7 (h := h3) sh3) (by decide) ?_
      refine e_clI (as := [.ref 53, .int x2, .ref 39]) (rest := []) o_109_24 rfl rfl (x_okd cl_109_104 ml_104 (Nat.le_of_ble_eq_true rfl) (Nat.le_of_ble_eq_true rfl)) (x_rc0 (ci := 0) (sk_53 (h := h3) sh3) mo_104) k ?_
      rintro v6 h5 ⟨sh5, k⟩
      refine e_il o_109_27 rfl ?_
      refine e_clI (as := [.int v6, .int x1]) (rest := []) o_109_28 rfl rfl (x_okd cl_109_64 ml_64 (Nat.le_of_ble_eq_true rfl) (Nat.le_of_ble_eq_true rfl)) (rfl) k ?_
      rintro v8 h7 ⟨sh7, k⟩
      refine e_go o_109_31 ?_
      exact e_retI o_109_35 k
set_option maxHeartbeats 4000000 in
set_option maxRecDepth 100000 in
theorem B_110_0 {x1 : Int32} {h : XH} {Q : Value → XH → Prop} (hs : Sh h) (k : ClI 72 [.ref 4, .int x1] h (fun v2 h1 => Sh h1 ∧ (((v2 = 0) → Q (.int (-1)) h1) ∧ (¬ (v2 = 0) → ClI 111 [.ref 43, .int x1, .ref 39] h1 (fun v4 h3 => Sh h3 ∧ (Q (.int v4) h3)))))) : Ev 110 0 (x_ini 110 [.ref 4, .int x1]) [] h Q := by
  rw [show x_ini 110 [.ref 4, .int x1] = [.ref 4, .int x1] from x_inid ml_110 rfl]
  refine e_al o_110_0 rfl ?_
  refine e_il o_110_1 rfl ?_
  refine e_clI (as := [.ref 4, .int x1]) (rest := []) o_110_2 rfl rfl (x_okd cl_110_72 ml_72 (Nat.le_of_ble_eq_true rfl) (Nat.le_of_ble_eq_true rfl)) (x_rc0 (ci := 8) (sk_4 (h := h) hs) mo_72) k ?_
  rintro v2 h1 ⟨sh1, k⟩
  refine e_i0_0 o_110_5 (fun z => ?_) (fun z => ?_)
  · have k := k.1 z
    refine e_c (-1) o_110_23 rfl ?_
    exact e_retI o_110_24 k
  · have k := k.2 z
    refine e_al o_110_8 rfl ?_
    refine e_gR (r := 43) o_110_9 (sk_4 (h := h1) sh1) (sr_4_11 (h := h1) sh1) (by decide) ?_
    refine e_il o_110_12 rfl ?_
    refine e_al o_110_13 rfl ?_
    refine e_gR (r := 39) o_110_14 (sk_4 (h := h1) sh1) (sr_4_7 (h := h1) sh1) (by decide) ?_
    refine e_clI (as := [.ref 43, .int x1, .ref 39]) (rest := []) o_110_17 rfl rfl (x_okd cl_110_111 ml_111 (Nat.le_of_ble_eq_true rfl) (Nat.le_of_ble_eq_true rfl)) (x_rc0 (ci := 7) (sk_43 (h := h1) sh1) mo_111) k ?_
    rintro v4 h3 ⟨sh3, k⟩
    refine e_go o_110_20 ?_
    exact e_retI o_110_24 k
set_option maxHeartbeats 4000000 in
set_option maxRecDepth 100000 in
theorem B_112_0 {x1 : Int32} {x2 : Int32} {h : XH} {Q : Value → XH → Prop} (hs : Sh h) (k : ClI 72 [.ref 4, .int x1] h (fun v2 h1 => Sh h1 ∧ (((¬ v2 = 0) → ClI 113 [.ref 43, .int x1, .ref 39] h1 (fun v4 h3 => Sh h3 ∧ (ClI 114 [.int v4, .int (4 * (xI h3 (xR h3 34 0) 6))] h3 (fun v6 h5 => Sh h5 ∧ (((¬ v6 = 0) → ((x2 = 0) → ¬ v6 = 0 ∧ (Q (.int (v4 / v6)) h5)) ∧ (¬ (x2 = 0) → ¬ v6 = 0 ∧ (Q (.int ((4 * (xI h3 (xR h3 34 0) 6)) / v6)) h5))) ∧ (¬ (¬ v6 = 0) → Q (.int 0) h5)))))) ∧ (¬ (¬ v2 = 0) → Q (.int (-1)) h1)))) : Ev 112 0 (x_ini 112 [.ref 4, .int x1, .int x2]) [] h Q := by
  rw [show x_ini 112 [.ref 4, .int x1, .int x2] = [.ref 4, .int x1, .int x2, .null, .null, .null] from x_inid ml_112 rfl]
  refine e_al o_112_0 rfl ?_
  refine e_il o_112_1 rfl ?_
  refine e_clI (as := [.ref 4, .int x1]) (rest := []) o_112_2 rfl rfl (x_okd cl_112_72 ml_72 (Nat.le_of_ble_eq_true rfl) (Nat.le_of_ble_eq_true rfl)) (x_rc0 (ci := 8) (sk_4 (h := h) hs) mo_72) k ?_
  rintro v2 h1 ⟨sh1, k⟩
  refine e_i0_1 o_112_5 (fun z => ?_) (fun z => ?_)
  · have k := k.1 z
    refine e_al o_112_10 rfl ?_
    refine e_gR (r := 43) o_112_11 (sk_4 (h := h1) sh1) (sr_4_11 (h := h1) sh1) (by decide) ?_
    refine e_il o_112_14 rfl ?_
    refine e_al o_112_15 rfl ?_
    refine e_gR (r := 39) o_112_16 (sk_4 (h := h1) sh1) (sr_4_7 (h := h1) sh1) (by decide) ?_
    refine e_clI (as := [.ref 43, .int x1, .ref 39]) (rest := []) o_112_19 rfl rfl (x_okd cl_112_113 ml_113 (Nat.le_of_ble_eq_true rfl) (Nat.le_of_ble_eq_true rfl)) (x_rc0 (ci := 7) (sk_43 (h := h1) sh1) mo_113) k ?_
    rintro v4 h3 ⟨sh3, k⟩
    refine e_is (ls' := [.ref 4, .int x1, .int x2, .int v4, .null, .null]) o_112_22 (Nat.le_of_ble_eq_true rfl) rfl ?_
    refine e_c 4 o_112_23 rfl ?_
    refine e_al o_112_24 rfl ?_
    refine e_gR (r := (xR h3 34 0)) o_112_25 (sk_4 (h := h3) sh3) (ss_e (h := h3) sh3) (by rcases (ss_p sh3) with q | q <;> omega) ?_
    refine e_gI o_112_28 (sc_k (h := h3) sh3 (ss_p sh3)) ?_
    refine e_bin o_112_31 rfl ?_
    refine e_is (ls' := [.ref 4, .int x1, .int x2, .int v4, .int (4 * (xI h3 (xR h3 34 0) 6)), .null]) o_112_32 (Nat.le_of_ble_eq_true rfl) rfl ?_
    refine e_il o_112_34 rfl ?_
    refine e_il o_112_35 rfl ?_
    refine e_clI (as := [.int v4, .int (4 * (xI h3 (xR h3 34 0) 6))]) (rest := []) o_112_37 rfl rfl (x_okd cl_112_114 ml_114 (Nat.le_of_ble_eq_true rfl) (Nat.le_of_ble_eq_true rfl)) (rfl) k ?_
    rintro v6 h5 ⟨sh5, k⟩
    refine e_is (ls' := [.ref 4, .int x1, .int x2, .int v4, .int (4 * (xI h3 (xR h3 34 0) 6)), .int v6]) o_112_40 (Nat.le_of_ble_eq_true rfl) rfl ?_
    refine e_il o_112_42 rfl ?_
    refine e_i0_1 o_112_44 (fun z => ?_) (fun z => ?_)
    · have k := k.1 z
      refine e_il o_112_51 rfl ?_
      refine e_i0_0 o_112_52 (fun z => ?_) (fun z => ?_)
      · have k := k.1 z
        refine e_il o_112_60 rfl ?_
        refine e_il o_112_61 rfl ?_
        obtain ⟨q, k⟩ := k
        refine e_div o_112_63 q ?_
        exact e_retI o_112_64 k
      · have k := k.2 z
        refine e_il o_112_55 rfl ?_
        refine e_go o_112_57 ?_
        refine e_il o_112_61 rfl ?_
        obtain ⟨q, k⟩ := k
        refine e_div o_112_63 q ?_
        exact e_retI o_112_64 k
    · have k := k.2 z
      refine e_c 0 o_112_47 rfl ?_
      refine e_go o_112_48 ?_
      exact e_retI o_112_64 k
  · have k := k.2 z
    refine e_c (-1) o_112_8 rfl ?_
    exact e_retI o_112_9 k
set_option maxHeartbeats 4000000 in
set_option maxRecDepth 100000 in
theorem B_114_0 {x0 : Int32} {x1 : Int32} {h : XH} {Q : Value → XH → Prop} (hs : Sh h) (k : Ev 114 7 [.null, .null, .int x0, .int x1, .int 0, .null] [] h Q) : Ev 114 0 (x_ini 114 [.int x0, .int x1]) [] h Q := by
  rw [show x_ini 114 [.int x0, .int x1] = [.int x0, .int x1, .null, .null, .null, .null] from x_inid ml_114 rfl]
  refine e_il o_114_0 rfl ?_
  refine e_is (ls' := [.int x0, .int x1, .int x0, .null, .null, .null]) o_114_1 (Nat.le_of_ble_eq_true rfl) rfl ?_
  refine e_il o_114_2 rfl ?_
  refine e_is (ls' := [.int x0, .int x1, .int x0, .int x1, .null, .null]) o_114_3 (Nat.le_of_ble_eq_true rfl) rfl ?_
  refine e_c 0 o_114_4 rfl ?_
  refine e_is (ls' := [.int x0, .int x1, .int x0, .int x1, .int 0, .null]) o_114_5 (Nat.le_of_ble_eq_true rfl) rfl ?_
  exact Ev.less (ls := [.null, .null, .int x0, .int x1, .int 0, .null]) ⟨Or.inl rfl, Or.inl rfl, Or.inr rfl, Or.inr rfl, Or.inr rfl, Or.inl rfl, trivial⟩ k
set_option maxHeartbeats 4000000 in
set_option maxRecDepth 100000 in
theorem B_114_7 {x2 : Int32} {x3 : Int32} {x4 : Int32} {h : XH} {Q : Value → XH → Prop} (hs : Sh h) (k : ((64 ≤ x4) → Q (.int x2) h) ∧ (¬ (64 ≤ x4) → ((x3 = 0) → Q (.int x2) h) ∧ (¬ (x3 = 0) → ¬ x3 = 0 ∧ (Ev 114 7 [.null, .null, .int x3, .int (x2 - x2 / x3 * x3), .int (x4 + 1), .null] [] h Q)))) : Ev 114 7 [.null, .null, .int x2, .int x3, .int x4, .null] [] h Q := by
  refine e_il o_114_7 rfl ?_
  refine e_c 64 o_114_9 rfl ?_
  refine e_if_3 o_114_11 (fun z => ?_) (fun z => ?_)
  · have k := k.1 z
    refine e_il o_114_34 rfl ?_
    exact e_retI o_114_35 k
  · have k := k.2 z
    refine e_il o_114_14 rfl ?_
    refine e_i0_0 o_114_15 (fun z => ?_) (fun z => ?_)
    · have k := k.1 z
      refine e_il o_114_34 rfl ?_
      exact e_retI o_114_35 k
    · have k := k.2 z
      refine e_il o_114_18 rfl ?_
      refine e_il o_114_19 rfl ?_
      obtain ⟨q, k⟩ := k
      refine e_rem o_114_20 q ?_
      refine e_is (ls' := [.null, .null, .int x2, .int x3, .int x4, .int (x2 - x2 / x3 * x3)]) o_114_21 (Nat.le_of_ble_eq_true rfl) rfl ?_
      refine e_il o_114_23 rfl ?_
      refine e_is (ls' := [.null, .null, .int x3, .int x3, .int x4, .int (x2 - x2 / x3 * x3)]) o_114_24 (Nat.le_of_ble_eq_true rfl) rfl ?_
      refine e_il o_114_25 rfl ?_
      refine e_is (ls' := [.null, .null, .int x3, .int (x2 - x2 / x3 * x3), .int x4, .int (x2 - x2 / x3 * x3)]) o_114_27 (Nat.le_of_ble_eq_true rfl) rfl ?_
      refine e_inc (ls' := [.null, .null, .int x3, .int (x2 - x2 / x3 * x3), .int (x4 + 1), .int (x2 - x2 / x3 * x3)]) o_114_28 rfl rfl rfl ?_
      refine e_go o_114_31 ?_
      exact Ev.less (ls := [.null, .null, .int x3, .int (x2 - x2 / x3 * x3), .int (x4 + 1), .null]) ⟨Or.inl rfl, Or.inl rfl, Or.inr rfl, Or.inr rfl, Or.inr rfl, Or.inl rfl, trivial⟩ k
set_option maxHeartbeats 4000000 in
set_option maxRecDepth 100000 in
theorem B_115_0 {x1 : Int32} {x2 : Int32} {h : XH} {Q : Value → XH → Prop} (hs : Sh h) (k : ClI 72 [.ref 4, .int x1] h (fun v2 h1 => Sh h1 ∧ (((v2 = 0) → Q (.int (-1)) h1) ∧ (¬ (v2 = 0) → ClI 70 [.ref 4, .int x2] h1 (fun v4 h3 => Sh h3 ∧ (((v4 = 0) → Q (.int (-1)) h3) ∧ (¬ (v4 = 0) → ClI 116 [.ref 43, .int x1, .int x2, .ref 39] h3 (fun v6 h5 => Sh h5 ∧ (Q (.int v6) h5))))))))) : Ev 115 0 (x_ini 115 [.ref 4, .int x1, .int x2]) [] h Q := by
  rw [show x_ini 115 [.ref 4, .int x1, .int x2] = [.ref 4, .int x1, .int x2] from x_inid ml_115 rfl]
  refine e_al o_115_0 rfl ?_
  refine e_il o_115_1 rfl ?_
  refine e_clI (as := [.ref 4, .int x1]) (rest := []) o_115_2 rfl rfl (x_okd cl_115_72 ml_72 (Nat.le_of_ble_eq_true rfl) (Nat.le_of_ble_eq_true rfl)) (x_rc0 (ci := 8) (sk_4 (h := h) hs) mo_72) k ?_
  rintro v2 h1 ⟨sh1, k⟩
  refine e_i0_0 o_115_5 (fun z => ?_) (fun z => ?_)
  · have k := k.1 z
    refine e_c (-1) o_115_32 rfl ?_
    exact e_retI o_115_33 k
  · have k := k.2 z
    refine e_al o_115_8 rfl ?_
    refine e_il o_115_9 rfl ?_
    refine e_clI (as := [.ref 4, .int x2]) (rest := []) o_115_10 rfl rfl (x_okd cl_115_70 ml_70 (Nat.le_of_ble_eq_true rfl) (Nat.le_of_ble_eq_true rfl)) (x_rc0 (ci := 8) (sk_4 (h := h1) sh1) mo_70) k ?_
    rintro v4 h3 ⟨sh3, k⟩
    refine e_i0_0 o_115_13 (fun z => ?_) (fun z => ?_)
    · have k := k.1 z
      refine e_c (-1) o_115_32 rfl ?_
      exact e_retI o_115_33 k
    · have k := k.2 z
      refine e_al o_115_16 rfl ?_
      refine e_gR (r := 43) o_115_17 (sk_4 (h := h3) sh3) (sr_4_11 (h := h3) sh3) (by decide) ?_
      refine e_il o_115_20 rfl ?_
      refine e_il o_115_21 rfl ?_
      refine e_al o_115_22 rfl ?_
      refine e_gR (r := 39) o_115_23 (sk_4 (h := h3) sh3) (sr_4_7 (h := h3) sh3) (by decide) ?_
      refine e_clI (as := [.ref 43, .int x1, .int x2, .ref 39]) (rest := []) o_115_26 rfl rfl (x_okd cl_115_116 ml_116 (Nat.le_of_ble_eq_true rfl) (Nat.le_of_ble_eq_true rfl)) (x_rc0 (ci := 7) (sk_43 (h := h3) sh3) mo_116) k ?_
      rintro v6 h5 ⟨sh5, k⟩
      refine e_go o_115_29 ?_
      exact e_retI o_115_33 k
set_option maxHeartbeats 4000000 in
set_option maxRecDepth 100000 in
theorem B_118_0 {x1 : Int32} {x2 : Int32} {h : XH} {Q : Value → XH → Prop} (hs : Sh h) (k : ClI 72 [.ref 4, .int x1] h (fun v2 h1 => Sh h1 ∧ (((v2 = 0) → Q (.int (-1)) h1) ∧ (¬ (v2 = 0) → ClI 98 [.int x2] h1 (fun v4 h3 => Sh h3 ∧ (((v4 = 0) → Q (.int (-1)) h3) ∧ (¬ (v4 = 0) → ClI 119 [.ref 43, .int x1, .int x2, .ref 39] h3 (fun v6 h5 => Sh h5 ∧ (Q (.int v6) h5))))))))) : Ev 118 0 (x_ini 118 [.ref 4, .int x1, .int x2]) [] h Q := by
  rw [show x_ini 118 [.ref 4, .int x1, .int x2] = [.ref 4, .int x1, .int x2] from x_inid ml_118 rfl]
  refine e_al o_118_0 rfl ?_
  refine e_il o_118_1 rfl ?_
  refine e_clI (as := [.ref 4, .int x1]) (rest := []) o_118_2 rfl rfl (x_okd cl_118_72 ml_72 (Nat.le_of_ble_eq_true rfl) (Nat.le_of_ble_eq_true rfl)) (x_rc0 (ci := 8) (sk_4 (h := h) hs) mo_72) k ?_
  rintro v2 h1 ⟨sh1, k⟩
  refine e_i0_0 o_118_5 (fun z => ?_) (fun z => ?_)
  · have k := k.1 z
    refine e_c (-1) o_118_31 rfl ?_
    exact e_retI o_118_32 k
  · have k := k.2 z
    refine e_il o_118_8 rfl ?_
    refine e_clI (as := [.int x2]) (rest := []) o_118_9 rfl rfl (x_okd cl_118_98 ml_98 (Nat.le_of_ble_eq_true rfl) (Nat.le_of_ble_eq_true rfl)) (rfl) k ?_
    rintro v4 h3 ⟨sh3, k⟩
    refine e_i0_0 o_118_12 (fun z => ?_) (fun z => ?_)
    · have k := k.1 z
      refine e_c (-1) o_118_31 rfl ?_
      exact e_retI o_118_32 k
    · have k := k.2 z
      refine e_al o_118_15 rfl ?_
      refine e_gR (r := 43) o_118_16 (sk_4 (h := h3) sh3) (sr_4_11 (h := h3) sh3) (by decide) ?_
      refine e_il o_118_19 rfl ?_
      refine e_il o_118_20 rfl ?_
      refine e_al o_118_21 rfl ?_
      refine e_gR (r := 39) o_118_22 (sk_4 (h := h3) sh3) (sr_4_7 (h := h3) sh3) (by decide) ?_
      refine e_clI (as := [.ref 43, .int x1, .int x2, .ref 39]) (rest := []) o_118_25 rfl rfl (x_okd cl_118_119 ml_119 (Nat.le_of_ble_eq_true rfl) (Nat.le_of_ble_eq_true rfl)) (x_rc0 (ci := 7) (sk_43 (h := h3) sh3) mo_119) k ?_
      rintro v6 h5 ⟨sh5, k⟩
      refine e_go o_118_28 ?_
      exact e_retI o_118_32 k
set_option maxHeartbeats 4000000 in
set_option maxRecDepth 100000 in
theorem B_120_0 {x1 : Int32} {h : XH} {Q : Value → XH → Prop} (hs : Sh h) (k : ((x1 < 0) → Q (.int (-1)) h) ∧ (¬ (x1 < 0) → ((x1 ≤ 2) → ClI 121 [.ref 43, .ref 39] h (fun v2 h1 => Sh h1 ∧ (((x1 = 0) → Q (.int v2) h1) ∧ (¬ (x1 = 0) → ((x1 = 1) → ClI 122 [.ref 43, .int v2] h1 (fun v4 h3 => Sh h3 ∧ (Q (.int v4) h3))) ∧ (¬ (x1 = 1) → ClI 102 [.ref (xR h1 34 0), .int v2, .ref 39] h1 (fun v6 h5 => Sh h5 ∧ (Q (.int v6) h5))))))) ∧ (¬ (x1 ≤ 2) → Q (.int (-1)) h))) : Ev 120 0 (x_ini 120 [.ref 4, .int x1]) [] h Q := by
  rw [show x_ini 120 [.ref 4, .int x1] = [.ref 4, .int x1, .null] from x_inid ml_120 rfl]
  refine e_il o_120_0 rfl ?_
  refine e_i0_2 o_120_1 (fun z => ?_) (fun z => ?_)
  · have k := k.1 z
    refine e_c (-1) o_120_9 rfl ?_
    exact e_retI o_120_10 k
  · have k := k.2 z
    refine e_il o_120_4 rfl ?_
    refine e_c 2 o_120_5 rfl ?_
    refine e_if_5 o_120_6 (fun z => ?_) (fun z => ?_)
    · have k := k.1 z
      refine e_al o_120_11 rfl ?_
      refine e_gR (r := 43) o_120_12 (sk_4 (h := h) hs) (sr_4_11 (h := h) hs) (by decide) ?_
      refine e_al o_120_15 rfl ?_
      refine e_gR (r := 39) o_120_16 (sk_4 (h := h) hs) (sr_4_7 (h := h) hs) (by decide) ?_
      refine e_clI (as := [.ref 43, .ref 39]) (rest := []) o_120_19 rfl rfl (x_okd cl_120_121 ml_121 (Nat.le_of_ble_eq_true rfl) (Nat.le_of_ble_eq_true rfl)) (x_rc0 (ci := 7) (sk_43 (h := h) hs) mo_121) k ?_
      rintro v2 h1 ⟨sh1, k⟩
      refine e_is (ls' := [.ref 4, .int x1, .int v2]) o_120_22 (Nat.le_of_ble_eq_true rfl) rfl ?_
      refine e_il o_120_23 rfl ?_
      refine e_swc o_120_24 (by decide) ?_
      refine ⟨fun z => ?_, fun z => ?_⟩
      · have k := k.1 z
        refine e_il o_120_52 rfl ?_
        exact e_retI o_120_53 k
      · have k := k.2 z
        refine ⟨fun z => ?_, fun z => ?_⟩
        · have k := k.1 z
          refine e_al o_120_54 rfl ?_
          refine e_gR (r := 43) o_120_55 (sk_4 (h := h1) sh1) (sr_4_11 (h := h1) sh1) (by decide) ?_
          refine e_il o_120_58 rfl ?_
          refine e_clI (as := [.ref 43, .int v2]) (rest := []) o_120_59 rfl rfl (x_okd cl_120_122 ml_122 (Nat.le_of_ble_eq_true rfl) (Nat.le_of_ble_eq_true rfl)) (x_rc0 (ci := 7) (sk_43 (h := h1) sh1) mo_122) k ?_
          rintro v4 h3 ⟨sh3, k⟩
          exact e_retI o_120_62 k
        · have k := k.2 z
          refine e_al o_120_63 rfl ?_
          refine e_gR (r := (xR h1 34 0)) o_120_64 (sk_4 (h := h1) sh1) (ss_e (h := h1) sh1) (by rcases (ss_p sh1) with q | q <;> omega) ?_
          refine e_il o_120_67 rfl ?_
          refine e_al o_120_68 rfl ?_
          refine e_gR (r := 39) o_120_69 (sk_4 (h := h1) sh1) (sr_4_7 (h := h1) sh1) (by decide) ?_
          refine e_clI (as := [.ref (xR h1 34 0), .int v2, .ref 39]) (rest := []) o_120_72 rfl rfl (x_okd cl_120_102 ml_102 (Nat.le_of_ble_eq_true rfl) (Nat.le_of_ble_eq_true rfl)) (x_rc0 (ci := 5) (sc_k (h := h1) sh1 (ss_p sh1)) mo_102) k ?_
          rintro v6 h5 ⟨sh5, k⟩
          exact e_retI o_120_75 k
    · have k := k.2 z
      refine e_c (-1) o_120_9 rfl ?_
      exact e_retI o_120_10 k
set_option maxHeartbeats 4000000 in
set_option maxRecDepth 100000 in
theorem B_123_0 {x1 : Int32} {h : XH} {Q : Value → XH → Prop} (hs : Sh h) (k : ClI 98 [.int x1] h (fun v2 h1 => Sh h1 ∧ (((¬ v2 = 0) → Ev 123 11 [.ref 4, .int x1, .int 1, .null] [] h1 Q) ∧ (¬ (¬ v2 = 0) → Q (.int (-1)) h1)))) : Ev 123 0 (x_ini 123 [.ref 4, .int x1]) [] h Q := by
  rw [show x_ini 123 [.ref 4, .int x1] = [.ref 4, .int x1, .null, .null] from x_inid ml_123 rfl]
  refine e_il o_123_0 rfl ?_
  refine e_clI (as := [.int x1]) (rest := []) o_123_1 rfl rfl (x_okd cl_123_98 ml_98 (Nat.le_of_ble_eq_true rfl) (Nat.le_of_ble_eq_true rfl)) (rfl) k ?_
  rintro v2 h1 ⟨sh1, k⟩
  refine e_i0_1 o_123_4 (fun z => ?_) (fun z => ?_)
  · have k := k.1 z
    refine e_c 1 o_123_9 rfl ?_
    refine e_is (ls' := [.ref 4, .int x1, .int 1, .null]) o_123_10 (Nat.le_of_ble_eq_true rfl) rfl ?_
    exact Ev.less (ls := [.ref 4, .int x1, .int 1, .null]) ⟨Or.inr rfl, Or.inr rfl, Or.inr rfl, Or.inl rfl, trivial⟩ k
  · have k := k.2 z
    refine e_c (-1) o_123_7 rfl ?_
    exact e_retI o_123_8 k
set_option maxHeartbeats 4000000 in
set_option maxRecDepth 100000 in
theorem B_123_11 {x1 : Int32} {x2 : Int32} {h : XH} {Q : Value → XH → Prop} (hs : Sh h) (k : ((300 < x2) → Q (.int (-2)) h) ∧ (¬ (300 < x2) → ClI 104 [.ref 53, .int x2, .ref 39] h (fun v2 h1 => Sh h1 ∧ (ClI 124 [.ref 53, .int x2] h1 (fun v4 h3 => Sh h3 ∧ (((v4 < 0) → Ev 123 11 [.ref 4, .int x1, .int (x2 + 1), .null] [] h3 Q) ∧ (¬ (v4 < 0) → ((¬ x1 = 0) → Q (.int v4) h3) ∧ (¬ (¬ x1 = 0) → Q (.int x2) h3)))))))) : Ev 123 11 [.ref 4, .int x1, .int x2, .null] [] h Q := by
  refine e_il o_123_11 rfl ?_
  refine e_c 300 o_123_12 rfl ?_
  refine e_if_4 o_123_15 (fun z => ?_) (fun z => ?_)
  · have k := k.1 z
    refine e_c (-2) o_123_60 rfl ?_
    exact e_retI o_123_62 k
  · have k := k.2 z
    refine e_al o_123_18 rfl ?_
    refine e_gR (r := 53) o_123_19 (sk_4 (h := h) hs) (sr_4_13 (h := h) hs) (by decide) ?_
    refine e_il o_123_22 rfl ?_
    refine e_al o_123_23 rfl ?_
    refine e_gR (r := 39) o_123_24 (sk_4 (h := h) hs) (sr_4_7 (h := h) hs) (by decide) ?_
    refine e_clI (as := [.ref 53, .int x2, .ref 39]) (rest := []) o_123_27 rfl rfl (x_okd cl_123_104 ml_104 (Nat.le_of_ble_eq_true rfl) (Nat.le_of_ble_eq_true rfl)) (x_rc0 (ci := 0) (sk_53 (h := h) hs) mo_104) k ?_
    rintro v2 h1 ⟨sh1, k⟩
    refine e_pop o_123_30 rfl ?_
    refine e_al o_123_31 rfl ?_
    refine e_gR (r := 53) o_123_32 (sk_4 (h := h1) sh1) (sr_4_13 (h := h1) sh1) (by decide) ?_
    refine e_il o_123_35 rfl ?_
    refine e_clI (as := [.ref 53, .int x2]) (rest := []) o_123_36 rfl rfl (x_okd cl_123_124 ml_124 (Nat.le_of_ble_eq_true rfl) (Nat.le_of_ble_eq_true rfl)) (x_rc0 (ci := 0) (sk_53 (h := h1) sh1) mo_124) k ?_
    rintro v4 h3 ⟨sh3, k⟩
    refine e_is (ls' := [.ref 4, .int x1, .int x2, .int v4]) o_123_39 (Nat.le_of_ble_eq_true rfl) rfl ?_
    refine e_il o_123_40 rfl ?_
    refine e_i0_2 o_123_41 (fun z => ?_) (fun z => ?_)
    · have k := k.1 z
      refine e_inc (ls' := [.ref 4, .int x1, .int (x2 + 1), .int v4]) o_123_54 rfl rfl rfl ?_
      refine e_go o_123_57 ?_
      exact Ev.less (ls := [.ref 4, .int x1, .int (x2 + 1), .null]) ⟨Or.inr rfl, Or.inr rfl, Or.inr rfl, Or.inl rfl, trivial⟩ k
    · have k := k.2 z
      refine e_il o_123_44 rfl ?_
      refine e_i0_1 o_123_45 (fun z => ?_) (fun z => ?_)
      · have k := k.1 z
        refine e_il o_123_52 rfl ?_
        exact e_retI o_123_53 k
      · have k := k.2 z
        refine e_il o_123_48 rfl ?_
        refine e_go o_123_49 ?_
        exact e_retI o_123_53 k
set_option maxHeartbeats 4000000 in
set_option maxRecDepth 100000 in
theorem B_125_0 {x1 : Int32} {x2 : Int32} {h : XH} {Q : Value → XH → Prop} (hs : Sh h) (k : ClI 126 [.int x1] h (fun v2 h1 => Sh h1 ∧ (((v2 = 0) → Q (.int (-1)) h1) ∧ (¬ (v2 = 0) → ClI 98 [.int x2] h1 (fun v4 h3 => Sh h3 ∧ (((¬ v4 = 0) → ClV 127 [.ref 58, .int x1] h3 (fun h5 => Sh h5 ∧ (ClI 130 [.ref 58, .int x1, .int x2] h5 (fun v8 h7 => Sh h7 ∧ (Q (.int v8) h7))))) ∧ (¬ (¬ v4 = 0) → Q (.int (-1)) h3))))))) : Ev 125 0 (x_ini 125 [.ref 4, .int x1, .int x2]) [] h Q := by
  rw [show x_ini 125 [.ref 4, .int x1, .int x2] = [.ref 4, .int x1, .int x2] from x_inid ml_125 rfl]
  refine e_il o_125_0 rfl ?_
  refine e_clI (as := [.int x1]) (rest := []) o_125_1 rfl rfl (x_okd cl_125_126 ml_126 (Nat.le_of_ble_eq_true rfl) (Nat.le_of_ble_eq_true rfl)) (rfl) k ?_
  rintro v2 h1 ⟨sh1, k⟩
  refine e_i0_0 o_125_4 (fun z => ?_) (fun z => ?_)
  · have k := k.1 z
    refine e_c (-1) o_125_14 rfl ?_
    exact e_retI o_125_15 k
  · have k := k.2 z
    refine e_il o_125_7 rfl ?_
    refine e_clI (as := [.int x2]) (rest := []) o_125_8 rfl rfl (x_okd cl_125_98 ml_98 (Nat.le_of_ble_eq_true rfl) (Nat.le_of_ble_eq_true rfl)) (rfl) k ?_
    rintro v4 h3 ⟨sh3, k⟩
    refine e_i0_1 o_125_11 (fun z => ?_) (fun z => ?_)
    · have k := k.1 z
      refine e_al o_125_16 rfl ?_
      refine e_gR (r := 58) o_125_17 (sk_4 (h := h3) sh3) (sr_4_14 (h := h3) sh3) (by decide) ?_
      refine e_il o_125_20 rfl ?_
      refine e_clV (as := [.ref 58, .int x1]) (rest := []) o_125_21 rfl rfl (x_okd cl_125_127 ml_127 (Nat.le_of_ble_eq_true rfl) (Nat.le_of_ble_eq_true rfl)) (x_rc0 (ci := 1) (sk_58 (h := h3) sh3) mo_127) k ?_
      rintro h5 ⟨sh5, k⟩
      refine e_al o_125_24 rfl ?_
      refine e_gR (r := 58) o_125_25 (sk_4 (h := h5) sh5) (sr_4_14 (h := h5) sh5) (by decide) ?_
      refine e_il o_125_28 rfl ?_
      refine e_il o_125_29 rfl ?_
      refine e_clI (as := [.ref 58, .int x1, .int x2]) (rest := []) o_125_30 rfl rfl (x_okd cl_125_130 ml_130 (Nat.le_of_ble_eq_true rfl) (Nat.le_of_ble_eq_true rfl)) (x_rc0 (ci := 1) (sk_58 (h := h5) sh5) mo_130) k ?_
      rintro v8 h7 ⟨sh7, k⟩
      exact e_retI o_125_33 k
    · have k := k.2 z
      refine e_c (-1) o_125_14 rfl ?_
      exact e_retI o_125_15 k
set_option maxHeartbeats 4000000 in
set_option maxRecDepth 100000 in
theorem B_126_0 {x0 : Int32} {h : XH} {Q : Value → XH → Prop} (hs : Sh h) (k : ((x0 < 0) → Q (.int 0) h) ∧ (¬ (x0 < 0) → ((30 < x0) → Q (.int 0) h) ∧ (¬ (30 < x0) → Q (.int 1) h))) : Ev 126 0 (x_ini 126 [.int x0]) [] h Q := by
  rw [show x_ini 126 [.int x0] = [.int x0] from x_inid ml_126 rfl]
  refine e_il o_126_0 rfl ?_
  refine e_i0_2 o_126_1 (fun z => ?_) (fun z => ?_)
  · have k := k.1 z
    refine e_c 0 o_126_14 rfl ?_
    exact e_retZ o_126_15 (by decide) k
  · have k := k.2 z
    refine e_il o_126_4 rfl ?_
    refine e_c 30 o_126_5 rfl ?_
    refine e_if_4 o_126_7 (fun z => ?_) (fun z => ?_)
    · have k := k.1 z
      refine e_c 0 o_126_14 rfl ?_
      exact e_retZ o_126_15 (by decide) k
    · have k := k.2 z
      refine e_c 1 o_126_10 rfl ?_
      refine e_go o_126_11 ?_
      exact e_retZ o_126_15 (by decide) k
set_option maxHeartbeats 4000000 in
set_option maxRecDepth 100000 in
theorem B_131_0 {x1 : Int32} {x2 : Int32} {x3 : Int32} {h : XH} {Q : Value → XH → Prop} (hs : Sh h) (k : ClI 72 [.ref 4, .int x1] h (fun v2 h1 => Sh h1 ∧ (((v2 = 0) → Q (.int (-1)) h1) ∧ (¬ (v2 = 0) → ClI 72 [.ref 4, .int x2] h1 (fun v4 h3 => Sh h3 ∧ (((v4 = 0) → Q (.int (-1)) h3) ∧ (¬ (v4 = 0) → ((x1 = x2) → Q (.int (-1)) h3) ∧ (¬ (x1 = x2) → (((-1) ≤ x3) → ClI 132 [.ref 43, .int x1, .int x2, .int x3, .ref 39] h3 (fun v6 h5 => Sh h5 ∧ (Q (.int v6) h5))) ∧ (¬ ((-1) ≤ x3) → Q (.int (-1)) h3))))))))) : Ev 131 0 (x_ini 131 [.ref 4, .int x1, .int x2, .int x3]) [] h Q := by
  rw [show x_ini 131 [.ref 4, .int x1, .int x2, .int x3] = [.ref 4, .int x1, .int x2, .int x3] from x_inid ml_131 rfl]
  refine e_al o_131_0 rfl ?_
  refine e_il o_131_1 rfl ?_
  refine e_clI (as := [.ref 4, .int x1]) (rest := []) o_131_2 rfl rfl (x_okd cl_131_72 ml_72 (Nat.le_of_ble_eq_true rfl) (Nat.le_of_ble_eq_true rfl)) (x_rc0 (ci := 8) (sk_4 (h := h) hs) mo_72) k ?_
  rintro v2 h1 ⟨sh1, k⟩
  refine e_i0_0 o_131_5 (fun z => ?_) (fun z => ?_)
  · have k := k.1 z
    refine e_c (-1) o_131_26 rfl ?_
    exact e_retI o_131_27 k
  · have k := k.2 z
    refine e_al o_131_8 rfl ?_
    refine e_il o_131_9 rfl ?_
    refine e_clI (as := [.ref 4, .int x2]) (rest := []) o_131_10 rfl rfl (x_okd cl_131_72 ml_72 (Nat.le_of_ble_eq_true rfl) (Nat.le_of_ble_eq_true rfl)) (x_rc0 (ci := 8) (sk_4 (h := h1) sh1) mo_72) k ?_
    rintro v4 h3 ⟨sh3, k⟩
    refine e_i0_0 o_131_13 (fun z => ?_) (fun z => ?_)
    · have k := k.1 z
      refine e_c (-1) o_131_26 rfl ?_
      exact e_retI o_131_27 k
    · have k := k.2 z
      refine e_il o_131_16 rfl ?_
      refine e_il o_131_17 rfl ?_
      refine e_if_0 o_131_18 (fun z => ?_) (fun z => ?_)
      · have k := k.1 z
        refine e_c (-1) o_131_26 rfl ?_
        exact e_retI o_131_27 k
      · have k := k.2 z
        refine e_il o_131_21 rfl ?_
        refine e_c (-1) o_131_22 rfl ?_
        refine e_if_3 o_131_23 (fun z => ?_) (fun z => ?_)
        · have k := k.1 z
          refine e_al o_131_28 rfl ?_
          refine e_gR (r := 43) o_131_29 (sk_4 (h := h3) sh3) (sr_4_11 (h := h3) sh3) (by decide) ?_
          refine e_il o_131_32 rfl ?_
          refine e_il o_131_33 rfl ?_
          refine e_il o_131_34 rfl ?_
          refine e_al o_131_35 rfl ?_
          refine e_gR (r := 39) o_131_36 (sk_4 (h := h3) sh3) (sr_4_7 (h := h3) sh3) (by decide) ?_
          refine e_clI (as := [.ref 43, .int x1, .int x2, .int x3, .ref 39]) (rest := []) o_131_39 rfl rfl (x_okd cl_131_132 ml_132 (Nat.le_of_ble_eq_true rfl) (Nat.le_of_ble_eq_true rfl)) (x_rc0 (ci := 7) (sk_43 (h := h3) sh3) mo_132) k ?_
          rintro v6 h5 ⟨sh5, k⟩
          exact e_retI o_131_42 k
        · have k := k.2 z
          refine e_c (-1) o_131_26 rfl ?_
          exact e_retI o_131_27 k
set_option maxHeartbeats 4000000 in
set_option maxRecDepth 100000 in
theorem B_135_0 {x1 : Int32} {x2 : Int32} {x3 : Int32} {h : XH} {Q : Value → XH → Prop} (hs : Sh h) (k : ClI 72 [.ref 4, .int x1] h (fun v2 h1 => Sh h1 ∧ (((v2 = 0) → Q (.int (-1)) h1) ∧ (¬ (v2 = 0) → ((x2 < 0) → Q (.int (-1)) h1) ∧ (¬ (x2 < 0) → ((100 < x2) → Q (.int (-1)) h1) ∧ (¬ (100 < x2) → ((x3 < 1) → Q (.int (-1)) h1) ∧ (¬ (x3 < 1) → ((x3 ≤ 20) → ClI 136 [.ref 53, .int x1, .int x2, .int x3, .ref 39] h1 (fun v4 h3 => Sh h3 ∧ (Q (.int v4) h3))) ∧ (¬ (x3 ≤ 20) → Q (.int (-1)) h1)))))))) : Ev 135 0 (x_ini 135 [.ref 4, .int x1, .int x2, .int x3]) [] h Q := by
  rw [show x_ini 135 [.ref 4, .int x1, .int x2, .int x3] = [.ref 4, .int x1, .int x2, .int x3] from x_inid ml_135 rfl]
  refine e_al o_135_0 rfl ?_
  refine e_il o_135_1 rfl ?_
  refine e_clI (as := [.ref 4, .int x1]) (rest := []) o_135_2 rfl rfl (x_okd cl_135_72 ml_72 (Nat.le_of_ble_eq_true rfl) (Nat.le_of_ble_eq_true rfl)) (x_rc0 (ci := 8) (sk_4 (h := h) hs) mo_72) k ?_
  rintro v2 h1 ⟨sh1, k⟩
  refine e_i0_0 o_135_5 (fun z => ?_) (fun z => ?_)
  · have k := k.1 z
    refine e_c (-1) o_135_29 rfl ?_
    exact e_retI o_135_30 k
  · have k := k.2 z
    refine e_il o_135_8 rfl ?_
    refine e_i0_2 o_135_9 (fun z => ?_) (fun z => ?_)
    · have k := k.1 z
      refine e_c (-1) o_135_29 rfl ?_
      exact e_retI o_135_30 k
    · have k := k.2 z
      refine e_il o_135_12 rfl ?_
      refine e_c 100 o_135_13 rfl ?_
      refine e_if_4 o_135_15 (fun z => ?_) (fun z => ?_)
      · have k := k.1 z
        refine e_c (-1) o_135_29 rfl ?_
        exact e_retI o_135_30 k
      · have k := k.2 z
        refine e_il o_135_18 rfl ?_
        refine e_c 1 o_135_19 rfl ?_
        refine e_if_2 o_135_20 (fun z => ?_) (fun z => ?_)
        · have k := k.1 z
          refine e_c (-1) o_135_29 rfl ?_
          exact e_retI o_135_30 k
        · have k := k.2 z
          refine e_il o_135_23 rfl ?_
          refine e_c 20 o_135_24 rfl ?_
          refine e_if_5 o_135_26 (fun z => ?_) (fun z => ?_)
          · have k := k.1 z
            refine e_al o_135_31 rfl ?_
            refine e_gR (r := 53) o_135_32 (sk_4 (h := h1) sh1) (sr_4_13 (h := h1) sh1) (by decide) ?_
            refine e_il o_135_35 rfl ?_
            refine e_il o_135_36 rfl ?_
            refine e_il o_135_37 rfl ?_
            refine e_al o_135_38 rfl ?_
            refine e_gR (r := 39) o_135_39 (sk_4 (h := h1) sh1) (sr_4_7 (h := h1) sh1) (by decide) ?_
            refine e_clI (as := [.ref 53, .int x1, .int x2, .int x3, .ref 39]) (rest := []) o_135_42 rfl rfl (x_okd cl_135_136 ml_136 (Nat.le_of_ble_eq_true rfl) (Nat.le_of_ble_eq_true rfl)) (x_rc0 (ci := 0) (sk_53 (h := h1) sh1) mo_136) k ?_
            rintro v4 h3 ⟨sh3, k⟩
            exact e_retI o_135_45 k
          · have k := k.2 z
            refine e_c (-1) o_135_29 rfl ?_
            exact e_retI o_135_30 k
set_option maxHeartbeats 4000000 in
set_option maxRecDepth 100000 in
theorem B_137_0 {x1 : Int32} {x2 : Int32} {x3 : Int32} {h : XH} {Q : Value → XH → Prop} (hs : Sh h) (k : ClI 72 [.ref 4, .int x1] h (fun v2 h1 => Sh h1 ∧ (((v2 = 0) → Q (.int (-1)) h1) ∧ (¬ (v2 = 0) → ClI 126 [.int x2] h1 (fun v4 h3 => Sh h3 ∧ (((v4 = 0) → Q (.int (-1)) h3) ∧ (¬ (v4 = 0) → ((x3 < 0) → Q (.int (-1)) h3) ∧ (¬ (x3 < 0) → ((x3 ≤ 4) → ClI 138 [.ref 58, .int x1, .int x2, .int x3] h3 (fun v6 h5 => Sh h5 ∧ (Q (.int v6) h5))) ∧ (¬ (x3 ≤ 4) → Q (.int (-1)) h3))))))))) : Ev 137 0 (x_ini 137 [.ref 4, .int x1, .int x2, .int x3]) [] h Q := by
  rw [show x_ini 137 [.ref 4, .int x1, .int x2, .int x3] = [.ref 4, .int x1, .int x2, .int x3] from x_inid ml_137 rfl]
  refine e_al o_137_0 rfl ?_
  refine e_il o_137_1 rfl ?_
  refine e_clI (as := [.ref 4, .int x1]) (rest := []) o_137_2 rfl rfl (x_okd cl_137_72 ml_72 (Nat.le_of_ble_eq_true rfl) (Nat.le_of_ble_eq_true rfl)) (x_rc0 (ci := 8) (sk_4 (h := h) hs) mo_72) k ?_
  rintro v2 h1 ⟨sh1, k⟩
  refine e_i0_0 o_137_5 (fun z => ?_) (fun z => ?_)
  · have k := k.1 z
    refine e_c (-1) o_137_24 rfl ?_
    exact e_retI o_137_25 k
  · have k := k.2 z
    refine e_il o_137_8 rfl ?_
    refine e_clI (as := [.int x2]) (rest := []) o_137_9 rfl rfl (x_okd cl_137_126 ml_126 (Nat.le_of_ble_eq_true rfl) (Nat.le_of_ble_eq_true rfl)) (rfl) k ?_
    rintro v4 h3 ⟨sh3, k⟩
    refine e_i0_0 o_137_12 (fun z => ?_) (fun z => ?_)
    · have k := k.1 z
      refine e_c (-1) o_137_24 rfl ?_
      exact e_retI o_137_25 k
    · have k := k.2 z
      refine e_il o_137_15 rfl ?_
      refine e_i0_2 o_137_16 (fun z => ?_) (fun z => ?_)
      · have k := k.1 z
        refine e_c (-1) o_137_24 rfl ?_
        exact e_retI o_137_25 k
      · have k := k.2 z
        refine e_il o_137_19 rfl ?_
        refine e_c 4 o_137_20 rfl ?_
        refine e_if_5 o_137_21 (fun z => ?_) (fun z => ?_)
        · have k := k.1 z
          refine e_al o_137_26 rfl ?_
          refine e_gR (r := 58) o_137_27 (sk_4 (h := h3) sh3) (sr_4_14 (h := h3) sh3) (by decide) ?_
          refine e_il o_137_30 rfl ?_
          refine e_il o_137_31 rfl ?_
          refine e_il o_137_32 rfl ?_
          refine e_clI (as := [.ref 58, .int x1, .int x2, .int x3]) (rest := []) o_137_33 rfl rfl (x_okd cl_137_138 ml_138 (Nat.le_of_ble_eq_true rfl) (Nat.le_of_ble_eq_true rfl)) (x_rc0 (ci := 1) (sk_58 (h := h3) sh3) mo_138) k ?_
          rintro v6 h5 ⟨sh5, k⟩
          exact e_retI o_137_36 k
        · have k := k.2 z
          refine e_c (-1) o_137_24 rfl ?_
          exact e_retI o_137_25 k
set_option maxHeartbeats 4000000 in
set_option maxRecDepth 100000 in
theorem B_139_0  {h : XH} {Q : Value → XH → Prop} (hs : Sh h) (k : Q (.int (xI h 58 0)) (xsI h 58 0 0)) : Ev 139 0 (x_ini 139 [.ref 4]) [] h Q := by
  rw [show x_ini 139 [.ref 4] = [.ref 4, .null] from x_inid ml_139 rfl]
  refine e_al o_139_0 rfl ?_
  refine e_gR (r := 58) o_139_1 (sk_4 (h := h) hs) (sr_4_14 (h := h) hs) (by decide) ?_
  refine e_gI o_139_4 (sk_58 (h := h) hs) ?_
  refine e_is (ls' := [.ref 4, .int (xI h 58 0)]) o_139_7 (Nat.le_of_ble_eq_true rfl) rfl ?_
  refine e_al o_139_8 rfl ?_
  refine e_gR (r := 58) o_139_9 (sk_4 (h := h) hs) (sr_4_14 (h := h) hs) (by decide) ?_
  refine e_c 0 o_139_12 rfl ?_
  refine e_pI o_139_13 (sk_58 (h := h) hs) ?_
  refine e_il o_139_16 rfl ?_
  exact e_retI o_139_17 k
set_option maxHeartbeats 4000000 in
set_option maxRecDepth 100000 in
theorem B_140_0 {x1 : Int32} {x2 : Int32} {h : XH} {Q : Value → XH → Prop} (hs : Sh h) (k : ClI 141 [.ref 58, .int x1] h (fun v2 h1 => Sh h1 ∧ (((v2 = 0) → Q (.int (-1)) h1) ∧ (¬ (v2 = 0) → (((-1) ≤ x2) → ClI 142 [.ref 58, .int x1] h1 (fun v4 h3 => Sh h3 ∧ (ClV 127 [.ref 58, .int v4] h3 (fun h5 => Sh h5 ∧ (ClI 143 [.ref 58, .int x1, .int x2] h5 (fun v8 h7 => Sh h7 ∧ (Q (.int v8) h7))))))) ∧ (¬ ((-1) ≤ x2) → Q (.int (-1)) h1))))) : Ev 140 0 (x_ini 140 [.ref 4, .int x1, .int x2]) [] h Q := by
  rw [show x_ini 140 [.ref 4, .int x1, .int x2] = [.ref 4, .int x1, .int x2] from x_inid ml_140 rfl]
  refine e_al o_140_0 rfl ?_
  refine e_gR (r := 58) o_140_1 (sk_4 (h := h) hs) (sr_4_14 (h := h) hs) (by decide) ?_
  refine e_il o_140_4 rfl ?_
  refine e_clI (as := [.ref 58, .int x1]) (rest := []) o_140_5 rfl rfl (x_okd cl_140_141 ml_141 (Nat.le_of_ble_eq_true rfl) (Nat.le_of_ble_eq_true rfl)) (x_rc0 (ci := 1) (sk_58 (h := h) hs) mo_141) k ?_
  rintro v2 h1 ⟨sh1, k⟩
  refine e_i0_0 o_140_8 (fun z => ?_) (fun z => ?_)
  · have k := k.1 z
    refine e_c (-1) o_140_16 rfl ?_
    exact e_retI o_140_17 k
  · have k := k.2 z
    refine e_il o_140_11 rfl ?_
    refine e_c (-1) o_140_12 rfl ?_
    refine e_if_3 o_140_13 (fun z => ?_) (fun z => ?_)
    · have k := k.1 z
      refine e_al o_140_18 rfl ?_
      refine e_gR (r := 58) o_140_19 (sk_4 (h := h1) sh1) (sr_4_14 (h := h1) sh1) (by decide) ?_
      refine e_al o_140_22 rfl ?_
      refine e_gR (r := 58) o_140_23 (sk_4 (h := h1) sh1) (sr_4_14 (h := h1) sh1) (by decide) ?_
      refine e_il o_140_26 rfl ?_
      refine e_clI (as := [.ref 58, .int x1]) (rest := [.ref 58]) o_140_27 rfl rfl (x_okd cl_140_142 ml_142 (Nat.le_of_ble_eq_true rfl) (Nat.le_of_ble_eq_true rfl)) (x_rc0 (ci := 1) (sk_58 (h := h1) sh1) mo_142) k ?_
      rintro v4 h3 ⟨sh3, k⟩
      refine e_clV (as := [.ref 58, .int v4]) (rest := []) o_140_30 rfl rfl (x_okd cl_140_127 ml_127 (Nat.le_of_ble_eq_true rfl) (Nat.le_of_ble_eq_true rfl)) (x_rc0 (ci := 1) (sk_58 (h := h3) sh3) mo_127) k ?_
      rintro h5 ⟨sh5, k⟩
      refine e_al o_140_33 rfl ?_
      refine e_gR (r := 58) o_140_34 (sk_4 (h := h5) sh5) (sr_4_14 (h := h5) sh5) (by decide) ?_
      refine e_il o_140_37 rfl ?_
      refine e_il o_140_38 rfl ?_
      refine e_clI (as := [.ref 58, .int x1, .int x2]) (rest := []) o_140_39 rfl rfl (x_okd cl_140_143 ml_143 (Nat.le_of_ble_eq_true rfl) (Nat.le_of_ble_eq_true rfl)) (x_rc0 (ci := 1) (sk_58 (h := h5) sh5) mo_143) k ?_
      rintro v8 h7 ⟨sh7, k⟩
      exact e_retI o_140_42 k
    · have k := k.2 z
      refine e_c (-1) o_140_16 rfl ?_
      exact e_retI o_140_17 k
set_option maxHeartbeats 4000000 in
set_option maxRecDepth 100000 in
theorem B_145_0 {x1 : Int32} {h : XH} {Q : Value → XH → Prop} (hs : Sh h) (k : ClI 141 [.ref 58, .int x1] h (fun v2 h1 => Sh h1 ∧ (((¬ v2 = 0) → ClI 142 [.ref 58, .int x1] h1 (fun v4 h3 => Sh h3 ∧ (ClV 127 [.ref 58, .int v4] h3 (fun h5 => Sh h5 ∧ (ClI 146 [.ref 58, .int x1] h5 (fun v8 h7 => Sh h7 ∧ (Q (.int v8) h7))))))) ∧ (¬ (¬ v2 = 0) → Q (.int (-1)) h1)))) : Ev 145 0 (x_ini 145 [.ref 4, .int x1]) [] h Q := by
  rw [show x_ini 145 [.ref 4, .int x1] = [.ref 4, .int x1] from x_inid ml_145 rfl]
  refine e_al o_145_0 rfl ?_
  refine e_gR (r := 58) o_145_1 (sk_4 (h := h) hs) (sr_4_14 (h := h) hs) (by decide) ?_
  refine e_il o_145_4 rfl ?_
  refine e_clI (as := [.ref 58, .int x1]) (rest := []) o_145_5 rfl rfl (x_okd cl_145_141 ml_141 (Nat.le_of_ble_eq_true rfl) (Nat.le_of_ble_eq_true rfl)) (x_rc0 (ci := 1) (sk_58 (h := h) hs) mo_141) k ?_
  rintro v2 h1 ⟨sh1, k⟩
  refine e_i0_1 o_145_8 (fun z => ?_) (fun z => ?_)
  · have k := k.1 z
    refine e_al o_145_13 rfl ?_
    refine e_gR (r := 58) o_145_14 (sk_4 (h := h1) sh1) (sr_4_14 (h := h1) sh1) (by decide) ?_
    refine e_al o_145_17 rfl ?_
    refine e_gR (r := 58) o_145_18 (sk_4 (h := h1) sh1) (sr_4_14 (h := h1) sh1) (by decide) ?_
    refine e_il o_145_21 rfl ?_
    refine e_clI (as := [.ref 58, .int x1]) (rest := [.ref 58]) o_145_22 rfl rfl (x_okd cl_145_142 ml_142 (Nat.le_of_ble_eq_true rfl) (Nat.le_of_ble_eq_true rfl)) (x_rc0 (ci := 1) (sk_58 (h := h1) sh1) mo_142) k ?_
    rintro v4 h3 ⟨sh3, k⟩
    refine e_clV (as := [.ref 58, .int v4]) (rest := []) o_145_25 rfl rfl (x_okd cl_145_127 ml_127 (Nat.le_of_ble_eq_true rfl) (Nat.le_of_ble_eq_true rfl)) (x_rc0 (ci := 1) (sk_58 (h := h3) sh3) mo_127) k ?_
    rintro h5 ⟨sh5, k⟩
    refine e_al o_145_28 rfl ?_
    refine e_gR (r := 58) o_145_29 (sk_4 (h := h5) sh5) (sr_4_14 (h := h5) sh5) (by decide) ?_
    refine e_il o_145_32 rfl ?_
    refine e_clI (as := [.ref 58, .int x1]) (rest := []) o_145_33 rfl rfl (x_okd cl_145_146 ml_146 (Nat.le_of_ble_eq_true rfl) (Nat.le_of_ble_eq_true rfl)) (x_rc0 (ci := 1) (sk_58 (h := h5) sh5) mo_146) k ?_
    rintro v8 h7 ⟨sh7, k⟩
    exact e_retI o_145_36 k
  · have k := k.2 z
    refine e_c (-1) o_145_11 rfl ?_
    exact e_retI o_145_12 k
set_option maxHeartbeats 4000000 in
set_option maxRecDepth 100000 in
theorem B_148_0 {x1 : Int32} {x2 : Int32} {x3 : Int32} {h : XH} {Q : Value → XH → Prop} (hs : Sh h) (k : ClI 141 [.ref 58, .int x1] h (fun v2 h1 => Sh h1 ∧ (((v2 = 0) → Q (.int (-1)) h1) ∧ (¬ (v2 = 0) → ClI 126 [.int x2] h1 (fun v4 h3 => Sh h3 ∧ (((v4 = 0) → Q (.int (-1)) h3) ∧ (¬ (v4 = 0) → ClI 98 [.int x3] h3 (fun v6 h5 => Sh h5 ∧ (((¬ v6 = 0) → ClI 142 [.ref 58, .int x1] h5 (fun v8 h7 => Sh h7 ∧ (ClV 127 [.ref 58, .int (if x2 < v8 then v8 else x2)] h7 (fun h9 => Sh h9 ∧ (ClI 149 [.ref 58, .int x1, .int x2, .int x3] h9 (fun v12 h11 => Sh h11 ∧ (Q (.int v12) h11))))))) ∧ (¬ (¬ v6 = 0) → Q (.int (-1)) h5)))))))))) : Ev 148 0 (x_ini 148 [.ref 4, .int x1, .int x2, .int x3]) [] h Q := by
  rw [show x_ini 148 [.ref 4, .int x1, .int x2, .int x3] = [.ref 4, .int x1, .int x2, .int x3] from x_inid ml_148 rfl]
  refine e_al o_148_0 rfl ?_
  refine e_gR (r := 58) o_148_1 (sk_4 (h := h) hs) (sr_4_14 (h := h) hs) (by decide) ?_
  refine e_il o_148_4 rfl ?_
  refine e_clI (as := [.ref 58, .int x1]) (rest := []) o_148_5 rfl rfl (x_okd cl_148_141 ml_141 (Nat.le_of_ble_eq_true rfl) (Nat.le_of_ble_eq_true rfl)) (x_rc0 (ci := 1) (sk_58 (h := h) hs) mo_141) k ?_
  rintro v2 h1 ⟨sh1, k⟩
  refine e_i0_0 o_148_8 (fun z => ?_) (fun z => ?_)
  · have k := k.1 z
    refine e_c (-1) o_148_25 rfl ?_
    exact e_retI o_148_26 k
  · have k := k.2 z
    refine e_il o_148_11 rfl ?_
    refine e_clI (as := [.int x2]) (rest := []) o_148_12 rfl rfl (x_okd cl_148_126 ml_126 (Nat.le_of_ble_eq_true rfl) (Nat.le_of_ble_eq_true rfl)) (rfl) k ?_
    rintro v4 h3 ⟨sh3, k⟩
    refine e_i0_0 o_148_15 (fun z => ?_) (fun z => ?_)
    · have k := k.1 z
      refine e_c (-1) o_148_25 rfl ?_
      exact e_retI o_148_26 k
    · have k := k.2 z
      refine e_il o_148_18 rfl ?_
      refine e_clI (as := [.int x3]) (rest := []) o_148_19 rfl rfl (x_okd cl_148_98 ml_98 (Nat.le_of_ble_eq_true rfl) (Nat.le_of_ble_eq_true rfl)) (rfl) k ?_
      rintro v6 h5 ⟨sh5, k⟩
      refine e_i0_1 o_148_22 (fun z => ?_) (fun z => ?_)
      · have k := k.1 z
        refine e_al o_148_27 rfl ?_
        refine e_gR (r := 58) o_148_28 (sk_4 (h := h5) sh5) (sr_4_14 (h := h5) sh5) (by decide) ?_
        refine e_il o_148_31 rfl ?_
        refine e_al o_148_32 rfl ?_
        refine e_gR (r := 58) o_148_33 (sk_4 (h := h5) sh5) (sr_4_14 (h := h5) sh5) (by decide) ?_
        refine e_il o_148_36 rfl ?_
        refine e_clI (as := [.ref 58, .int x1]) (rest := [.int x2, .ref 58]) o_148_37 rfl rfl (x_okd cl_148_142 ml_142 (Nat.le_of_ble_eq_true rfl) (Nat.le_of_ble_eq_true rfl)) (x_rc0 (ci := 1) (sk_58 (h := h5) sh5) mo_142) k ?_
        rintro v8 h7 ⟨sh7, k⟩
        refine e_max o_148_40 (Nat.le_of_ble_eq_true rfl) ?_
        refine e_clV (as := [.ref 58, .int (if x2 < v8 then v8 else x2)]) (rest := []) o_148_43 rfl rfl (x_okd cl_148_127 ml_127 (Nat.le_of_ble_eq_true rfl) (Nat.le_of_ble_eq_true rfl)) (x_rc0 (ci := 1) (sk_58 (h := h7) sh7) mo_127) k ?_
        rintro h9 ⟨sh9, k⟩
        refine e_al o_148_46 rfl ?_
        refine e_gR (r := 58) o_148_47 (sk_4 (h := h9) sh9) (sr_4_14 (h := h9) sh9) (by decide) ?_
        refine e_il o_148_50 rfl ?_
        refine e_il o_148_51 rfl ?_
        refine e_il o_148_52 rfl ?_
        refine e_clI (as := [.ref 58, .int x1, .int x2, .int x3]) (rest := []) o_148_53 rfl rfl (x_okd cl_148_149 ml_149 (Nat.le_of_ble_eq_true rfl) (Nat.le_of_ble_eq_true rfl)) (x_rc0 (ci := 1) (sk_58 (h := h9) sh9) mo_149) k ?_
        rintro v12 h11 ⟨sh11, k⟩
        exact e_retI o_148_56 k
      · have k := k.2 z
        refine e_c (-1) o_148_25 rfl ?_
        exact e_retI o_148_26 k
set_option maxHeartbeats 4000000 in
set_option maxRecDepth 100000 in
theorem B_151_0 {x1 : Int32} {x2 : Int32} {h : XH} {Q : Value → XH → Prop} (hs : Sh h) (k : ClI 126 [.int x1] h (fun v2 h1 => Sh h1 ∧ (((v2 = 0) → Q (.int (-1)) h1) ∧ (¬ (v2 = 0) → ClI 98 [.int x2] h1 (fun v4 h3 => Sh h3 ∧ (((¬ v4 = 0) → ClV 127 [.ref 58, .int x1] h3 (fun h5 => Sh h5 ∧ (ClI 152 [.ref 58, .int x1] h5 (fun v8 h7 => Sh h7 ∧ (((v8 < 0) → Q (.int v8) h7) ∧ (¬ (v8 < 0) → ((¬ x2 = 1) → ClI 91 [.int v8] h7 (fun v10 h9 => Sh h9 ∧ (Q (.int v10) h9))) ∧ (¬ (¬ x2 = 1) → Q (.int v8) h7))))))) ∧ (¬ (¬ v4 = 0) → Q (.int (-1)) h3))))))) : Ev 151 0 (x_ini 151 [.ref 4, .int x1, .int x2]) [] h Q := by
  rw [show x_ini 151 [.ref 4, .int x1, .int x2] = [.ref 4, .int x1, .int x2, .null] from x_inid ml_151 rfl]
  refine e_il o_151_0 rfl ?_
  refine e_clI (as := [.int x1]) (rest := []) o_151_1 rfl rfl (x_okd cl_151_126 ml_126 (Nat.le_of_ble_eq_true rfl) (Nat.le_of_ble_eq_true rfl)) (rfl) k ?_
  rintro v2 h1 ⟨sh1, k⟩
  refine e_i0_0 o_151_4 (fun z => ?_) (fun z => ?_)
  · have k := k.1 z
    refine e_c (-1) o_151_14 rfl ?_
    exact e_retI o_151_15 k
  · have k := k.2 z
    refine e_il o_151_7 rfl ?_
    refine e_clI (as := [.int x2]) (rest := []) o_151_8 rfl rfl (x_okd cl_151_98 ml_98 (Nat.le_of_ble_eq_true rfl) (Nat.le_of_ble_eq_true rfl)) (rfl) k ?_
    rintro v4 h3 ⟨sh3, k⟩
    refine e_i0_1 o_151_11 (fun z => ?_) (fun z => ?_)
    · have k := k.1 z
      refine e_al o_151_16 rfl ?_
      refine e_gR (r := 58) o_151_17 (sk_4 (h := h3) sh3) (sr_4_14 (h := h3) sh3) (by decide) ?_
      refine e_il o_151_20 rfl ?_
      refine e_clV (as := [.ref 58, .int x1]) (rest := []) o_151_21 rfl rfl (x_okd cl_151_127 ml_127 (Nat.le_of_ble_eq_true rfl) (Nat.le_of_ble_eq_true rfl)) (x_rc0 (ci := 1) (sk_58 (h := h3) sh3) mo_127) k ?_
      rintro h5 ⟨sh5, k⟩
      refine e_al o_151_24 rfl ?_
      refine e_gR (r := 58) o_151_25 (sk_4 (h := h5) sh5) (sr_4_14 (h := h5) sh5) (by decide) ?_
      refine e_il o_151_28 rfl ?_
      refine e_clI (as := [.ref 58, .int x1]) (rest := []) o_151_29 rfl rfl (x_okd cl_151_152 ml_152 (Nat.le_of_ble_eq_true rfl) (Nat.le_of_ble_eq_true rfl)) (x_rc0 (ci := 1) (sk_58 (h := h5) sh5) mo_152) k ?_
      rintro v8 h7 ⟨sh7, k⟩
      refine e_is (ls' := [.ref 4, .int x1, .int x2, .int v8]) o_151_32 (Nat.le_of_ble_eq_true rfl) rfl ?_
      refine e_il o_151_33 rfl ?_
      refine e_i0_2 o_151_34 (fun z => ?_) (fun z => ?_)
      · have k := k.1 z
        refine e_il o_151_42 rfl ?_
        refine e_go o_151_43 ?_
        exact e_retI o_151_50 k
      · have k := k.2 z
        refine e_il o_151_37 rfl ?_
        refine e_c 1 o_151_38 rfl ?_
        refine e_if_1 o_151_39 (fun z => ?_) (fun z => ?_)
        · have k := k.1 z
          refine e_il o_151_46 rfl ?_
          refine e_clI (as := [.int v8]) (rest := []) o_151_47 rfl rfl (x_okd cl_151_91 ml_91 (Nat.le_of_ble_eq_true rfl) (Nat.le_of_ble_eq_true rfl)) (rfl) k ?_
          rintro v10 h9 ⟨sh9, k⟩
          exact e_retI o_151_50 k
        · have k := k.2 z
          refine e_il o_151_42 rfl ?_
          refine e_go o_151_43 ?_
          exact e_retI o_151_50 k
    · have k := k.2 z
      refine e_c (-1) o_151_14 rfl ?_
      exact e_retI o_151_15 k
set_option maxHeartbeats 4000000 in
set_option maxRecDepth 100000 in
theorem B_154_0 {x1 : Int32} {h : XH} {Q : Value → XH → Prop} (hs : Sh h) (k : ((x1 < 0) → Q (.int 0) h) ∧ (¬ (x1 < 0) → ((x1 < 3) → (39 ≠ 42 ∧ ¬ (0 : Int32) < 0 ∧ ¬ (x1 * 20) < 0 ∧ ¬ (20 : Int32) < 0 ∧ tn (0 : Int32) + tn (20 : Int32) ≤ 20 ∧ tn (x1 * 20) + tn (20 : Int32) ≤ 60) ∧ (∀ h1 : XH, h1 = (xsI (xsA h 42 (va_cpy (xI h 39) (xI h 42) (tn (0 : Int32)) (tn (x1 * 20)) (tn (20 : Int32)))) 4 10 ((xI (xsA h 42 (va_cpy (xI h 39) (xI h 42) (tn (0 : Int32)) (tn (x1 * 20)) (tn (20 : Int32)))) 4 10) ||| (1 <<< (x1 &&& 31)))) → (Q (.int 1) h1))) ∧ (¬ (x1 < 3) → Q (.int 0) h))) : Ev 154 0 (x_ini 154 [.ref 4, .int x1]) [] h Q := by
  rw [show x_ini 154 [.ref 4, .int x1] = [.ref 4, .int x1] from x_inid ml_154 rfl]
  refine e_il o_154_0 rfl ?_
  refine e_i0_2 o_154_1 (fun z => ?_) (fun z => ?_)
  · have k := k.1 z
    refine e_c 0 o_154_9 rfl ?_
    exact e_retZ o_154_10 (by decide) k
  · have k := k.2 z
    refine e_il o_154_4 rfl ?_
    refine e_c 3 o_154_5 rfl ?_
    refine e_if_2 o_154_6 (fun z => ?_) (fun z => ?_)
    · have k := k.1 z
      refine e_al o_154_11 rfl ?_
      refine e_gR (r := 39) o_154_12 (sk_4 (h := h) hs) (sr_4_7 (h := h) hs) (by decide) ?_
      refine e_c 0 o_154_15 rfl ?_
      refine e_al o_154_16 rfl ?_
      refine e_gR (r := 42) o_154_17 (sk_4 (h := h) hs) (sr_4_9 (h := h) hs) (by decide) ?_
      refine e_il o_154_20 rfl ?_
      refine e_c 20 o_154_21 rfl ?_
      refine e_bin o_154_23 rfl ?_
      refine e_c 20 o_154_24 rfl ?_
      obtain ⟨q, k⟩ := k
      refine e_cp (ns := 20) (nd := 60) o_154_26 ⟨sk_39 (h := h) hs, sk_42 (h := h) hs, by decide, by decide, q.1⟩ (sn_39 (h := h) hs) (sn_42 (h := h) hs) q.2 (Nat.le_of_ble_eq_true rfl) ?_
      refine e_al o_154_29 rfl ?_
      refine e_dup o_154_30 rfl ?_
      refine e_gI o_154_31 (sk_4 (h := h) hs) ?_
      refine e_c 1 o_154_34 rfl ?_
      refine e_il o_154_35 rfl ?_
      refine e_bin o_154_36 rfl ?_
      refine e_bin o_154_37 rfl ?_
      refine e_pI o_154_38 (sk_4 (h := h) hs) ?_
      obtain ⟨h1, eh1⟩ : ∃ z : XH, z = (xsI (xsA h 42 (va_cpy (xI h 39) (xI h 42) (tn (0 : Int32)) (tn (x1 * 20)) (tn (20 : Int32)))) 4 10 ((xI (xsA h 42 (va_cpy (xI h 39) (xI h 42) (tn (0 : Int32)) (tn (x1 * 20)) (tn (20 : Int32)))) 4 10) ||| (1 <<< (x1 &&& 31)))) := ⟨_, rfl⟩
      show Ev 154 41 [.ref 4, .int x1] [] (xsI (xsA h 42 (va_cpy (xI h 39) (xI h 42) (tn (0 : Int32)) (tn (x1 * 20)) (tn (20 : Int32)))) 4 10 ((xI (xsA h 42 (va_cpy (xI h 39) (xI h 42) (tn (0 : Int32)) (tn (x1 * 20)) (tn (20 : Int32)))) 4 10) ||| (1 <<< (x1 &&& 31)))) Q
      rw [← eh1]
      have sh1 : Sh h1 := by rw [eh1]; exact (sh_I (sh_A hs (by decide)) (by decide))
      have k := k h1 eh1
      refine e_c 1 o_154_41 rfl ?_
      exact e_retZ o_154_42 (by decide) k
    · have k := k.2 z
      refine e_c 0 o_154_9 rfl ?_
      exact e_retZ o_154_10 (by decide) k
set_option maxHeartbeats 4000000 in
set_option maxRecDepth 100000 in
theorem B_155_0 {x1 : Int32} {h : XH} {Q : Value → XH → Prop} (hs : Sh h) (k : ((x1 < 0) → Q (.int 0) h) ∧ (¬ (x1 < 0) → ((3 ≤ x1) → Q (.int 0) h) ∧ (¬ (3 ≤ x1) → ((¬ (((xI h 4 10) >>> (x1 &&& 31)) &&& 1) = (0 : Int32)) → (42 ≠ 39 ∧ ¬ (x1 * 20) < 0 ∧ ¬ (0 : Int32) < 0 ∧ ¬ (20 : Int32) < 0 ∧ tn (x1 * 20) + tn (20 : Int32) ≤ 60 ∧ tn (0 : Int32) + tn (20 : Int32) ≤ 20) ∧ (ClV 65 [.ref 40] (xsA h 39 (va_cpy (xI h 42) (xI h 39) (tn (x1 * 20)) (tn (0 : Int32)) (tn (20 : Int32)))) (fun h1 => Sh h1 ∧ (ClV 67 [.ref 4] h1 (fun h3 => Sh h3 ∧ (Q (.int 1) h3)))))) ∧ (¬ (¬ (((xI h 4 10) >>> (x1 &&& 31)) &&& 1) = (0 : Int32)) → Q (.int 0) h)))) : Ev 155 0 (x_ini 155 [.ref 4, .int x1]) [] h Q := by
  rw [show x_ini 155 [.ref 4, .int x1] = [.ref 4, .int x1] from x_inid ml_155 rfl]
  refine e_il o_155_0 rfl ?_
  refine e_i0_2 o_155_1 (fun z => ?_) (fun z => ?_)
  · have k := k.1 z
    refine e_c 0 o_155_20 rfl ?_
    exact e_retZ o_155_21 (by decide) k
  · have k := k.2 z
    refine e_il o_155_4 rfl ?_
    refine e_c 3 o_155_5 rfl ?_
    refine e_if_3 o_155_6 (fun z => ?_) (fun z => ?_)
    · have k := k.1 z
      refine e_c 0 o_155_20 rfl ?_
      exact e_retZ o_155_21 (by decide) k
    · have k := k.2 z
      refine e_al o_155_9 rfl ?_
      refine e_gI o_155_10 (sk_4 (h := h) hs) ?_
      refine e_il o_155_13 rfl ?_
      refine e_bin o_155_14 rfl ?_
      refine e_c 1 o_155_15 rfl ?_
      refine e_bin o_155_16 rfl ?_
      refine e_i0_1 o_155_17 (fun z => ?_) (fun z => ?_)
      · have k := k.1 z
        refine e_al o_155_22 rfl ?_
        refine e_gR (r := 42) o_155_23 (sk_4 (h := h) hs) (sr_4_9 (h := h) hs) (by decide) ?_
        refine e_il o_155_26 rfl ?_
        refine e_c 20 o_155_27 rfl ?_
        refine e_bin o_155_29 rfl ?_
        refine e_al o_155_30 rfl ?_
        refine e_gR (r := 39) o_155_31 (sk_4 (h := h) hs) (sr_4_7 (h := h) hs) (by decide) ?_
        refine e_c 0 o_155_34 rfl ?_
        refine e_c 20 o_155_35 rfl ?_
        obtain ⟨q, k⟩ := k
        refine e_cp (ns := 60) (nd := 20) o_155_37 ⟨sk_42 (h := h) hs, sk_39 (h := h) hs, by decide, by decide, q.1⟩ (sn_42 (h := h) hs) (sn_39 (h := h) hs) q.2 (Nat.le_of_ble_eq_true rfl) ?_
        refine e_al o_155_40 rfl ?_
        refine e_gR (r := 40) o_155_41 (sk_4 (h := h) hs) (sr_4_8 (h := h) hs) (by decide) ?_
        refine e_clV (as := [.ref 40]) (rest := []) o_155_44 rfl rfl (x_okd cl_155_65 ml_65 (Nat.le_of_ble_eq_true rfl) (Nat.le_of_ble_eq_true rfl)) (x_rc0 (ci := 2) (sk_40 (h := h) hs) mo_65) k ?_
        rintro h1 ⟨sh1, k⟩
        refine e_al o_155_47 rfl ?_
        refine e_clV (as := [.ref 4]) (rest := []) o_155_48 rfl rfl (x_okd cl_155_67 ml_67 (Nat.le_of_ble_eq_true rfl) (Nat.le_of_ble_eq_true rfl)) (x_rc0 (ci := 8) (sk_4 (h := h1) sh1) mo_67) k ?_
        rintro h3 ⟨sh3, k⟩
        refine e_c 1 o_155_51 rfl ?_
        exact e_retZ o_155_52 (by decide) k
      · have k := k.2 z
        refine e_c 0 o_155_20 rfl ?_
        exact e_retZ o_155_21 (by decide) k
set_option maxHeartbeats 4000000 in
set_option maxRecDepth 100000 in
theorem B_156_0 {x1 : Int32} {h : XH} {Q : Value → XH → Prop} (hs : Sh h) (k : ((x1 = 0) → Q (.int (xI h (xR h 34 0) 0)) h) ∧ (¬ (x1 = 0) → ((x1 = 1) → Q (.int (xI h (xR h 34 0) 1)) h) ∧ (¬ (x1 = 1) → ((x1 = 2) → InB 14 20 ∧ (Q (.int (xI h 39 (tn 14))) h)) ∧ (¬ (x1 = 2) → ((x1 = 3) → Q (.int (xI h (xR h 34 0) 2)) h) ∧ (¬ (x1 = 3) → ((x1 = 4) → ClI 157 [.ref 4] h (fun v2 h1 => Sh h1 ∧ (Q (.int v2) h1))) ∧ (¬ (x1 = 4) → ((x1 = 5) → InB 16 20 ∧ (Q (.int (xI h 39 (tn 16))) h)) ∧ (¬ (x1 = 5) → ((x1 = 6) → InB 15 20 ∧ (Q (.int (xI h 39 (tn 15))) h)) ∧ (¬ (x1 = 6) → ((x1 = 7) → Q (.int (xI h 4 1)) h) ∧ (¬ (x1 = 7) → ((x1 = 8) → Q (.int (xI h 40 0)) h) ∧ (¬ (x1 = 8) → ((x1 = 9) → Q (.int (xI h 58 0)) h) ∧ (¬ (x1 = 9) → ((x1 = 10) → ClI 91 [.int (xI h 4 10)] h (fun v4 h3 => Sh h3 ∧ (Q (.int v4) h3))) ∧ (¬ (x1 = 10) → ((x1 = 11) → Q (.int (xI h (xR h 34 0) 4)) h) ∧ (¬ (x1 = 11) → ((x1 = 12) → Q (.int (xI h (xR h 34 0) 5)) h) ∧ (¬ (x1 = 12) → Q (.int (-1)) h)))))))))))))) : Ev 156 0 (x_ini 156 [.ref 4, .int x1]) [] h Q := by
  rw [show x_ini 156 [.ref 4, .int x1] = [.ref 4, .int x1] from x_inid ml_156 rfl]
  refine e_il o_156_0 rfl ?_
  refine e_swc o_156_1 (by decide) ?_
  refine ⟨fun z => ?_, fun z => ?_⟩
  · have k := k.1 z
    refine e_al o_156_68 rfl ?_
    refine e_gR (r := (xR h 34 0)) o_156_69 (sk_4 (h := h) hs) (ss_e (h := h) hs) (by rcases (ss_p hs) with q | q <;> omega) ?_
    refine e_gI o_156_72 (sc_k (h := h) hs (ss_p hs)) ?_
    exact e_retI o_156_75 k
  · have k := k.2 z
    refine ⟨fun z => ?_, fun z => ?_⟩
    · have k := k.1 z
      refine e_al o_156_76 rfl ?_
      refine e_gR (r := (xR h 34 0)) o_156_77 (sk_4 (h := h) hs) (ss_e (h := h) hs) (by rcases (ss_p hs) with q | q <;> omega) ?_
      refine e_gI o_156_80 (sc_k (h := h) hs (ss_p hs)) ?_
      exact e_retI o_156_83 k
    · have k := k.2 z
      refine ⟨fun z => ?_, fun z => ?_⟩
      · have k := k.1 z
        refine e_al o_156_84 rfl ?_
        refine e_gR (r := 39) o_156_85 (sk_4 (h := h) hs) (sr_4_7 (h := h) hs) (by decide) ?_
        refine e_c 14 o_156_88 rfl ?_
        obtain ⟨q, k⟩ := k
        refine e_ia (n := 20) o_156_90 (sk_39 (h := h) hs) (sn_39 (h := h) hs) q ?_
        exact e_retI o_156_91 k
      · have k := k.2 z
        refine ⟨fun z => ?_, fun z => ?_⟩
        · have k := k.1 z
          refine e_al o_156_92 rfl ?_
          refine e_gR (r := (xR h 34 0)) o_156_93 (sk_4 (h := h) hs) (ss_e (h := h) hs) (by rcases (ss_p hs) with q | q <;> omega) ?_
          refine e_gI o_156_96 (sc_k (h := h) hs (ss_p hs)) ?_
          exact e_retI o_156_99 k
        · have k := k.2 z
          refine ⟨fun z => ?_, fun z => ?_⟩
          · have k := k.1 z
            refine e_al o_156_100 rfl ?_
            refine e_clI (as := [.ref 4]) (rest := []) o_156_101 rfl rfl (x_okd cl_156_157 ml_157 (Nat.le_of_ble_eq_true rfl) (Nat.le_of_ble_eq_true rfl)) (x_rc0 (ci := 8) (sk_4 (h := h) hs) mo_157) k ?_
            rintro v2 h1 ⟨sh1, k⟩
            exact e_retI o_156_104 k
          · have k := k.2 z
            refine ⟨fun z => ?_, fun z => ?_⟩
            · have k := k.1 z
              refine e_al o_156_105 rfl ?_
              refine e_gR (r := 39) o_156_106 (sk_4 (h := h) hs) (sr_4_7 (h := h) hs) (by decide) ?_
              refine e_c 16 o_156_109 rfl ?_
              obtain ⟨q, k⟩ := k
              refine e_ia (n := 20) o_156_111 (sk_39 (h := h) hs) (sn_39 (h := h) hs) q ?_
              exact e_retI o_156_112 k
            · have k := k.2 z
              refine ⟨fun z => ?_, fun z => ?_⟩
              · have k := k.1 z
                refine e_al o_156_113 rfl ?_
                refine e_gR (r := 39) o_156_114 (sk_4 (h := h) hs) (sr_4_7 (h := h) hs) (by decide) ?_
                refine e_c 15 o_156_117 rfl ?_
                obtain ⟨q, k⟩ := k
                refine e_ia (n := 20) o_156_119 (sk_39 (h := h) hs) (sn_39 (h := h) hs) q ?_
                exact e_retI o_156_120 k
              · have k := k.2 z
                refine ⟨fun z => ?_, fun z => ?_⟩
                · have k := k.1 z
                  refine e_al o_156_121 rfl ?_
                  refine e_gI o_156_122 (sk_4 (h := h) hs) ?_
                  exact e_retI o_156_125 k
                · have k := k.2 z
                  refine ⟨fun z => ?_, fun z => ?_⟩
                  · have k := k.1 z
                    refine e_al o_156_126 rfl ?_
                    refine e_gR (r := 40) o_156_127 (sk_4 (h := h) hs) (sr_4_8 (h := h) hs) (by decide) ?_
                    refine e_gI o_156_130 (sk_40 (h := h) hs) ?_
                    exact e_retI o_156_133 k
                  · have k := k.2 z
                    refine ⟨fun z => ?_, fun z => ?_⟩
                    · have k := k.1 z
                      refine e_al o_156_134 rfl ?_
                      refine e_gR (r := 58) o_156_135 (sk_4 (h := h) hs) (sr_4_14 (h := h) hs) (by decide) ?_
                      refine e_gI o_156_138 (sk_58 (h := h) hs) ?_
                      exact e_retI o_156_141 k
                    · have k := k.2 z
                      refine ⟨fun z => ?_, fun z => ?_⟩
                      · have k := k.1 z
                        refine e_al o_156_142 rfl ?_
                        refine e_gI o_156_143 (sk_4 (h := h) hs) ?_
                        refine e_clI (as := [.int (xI h 4 10)]) (rest := []) o_156_146 rfl rfl (x_okd cl_156_91 ml_91 (Nat.le_of_ble_eq_true rfl) (Nat.le_of_ble_eq_true rfl)) (rfl) k ?_
                        rintro v4 h3 ⟨sh3, k⟩
                        exact e_retI o_156_149 k
                      · have k := k.2 z
                        refine ⟨fun z => ?_, fun z => ?_⟩
                        · have k := k.1 z
                          refine e_al o_156_150 rfl ?_
                          refine e_gR (r := (xR h 34 0)) o_156_151 (sk_4 (h := h) hs) (ss_e (h := h) hs) (by rcases (ss_p hs) with q | q <;> omega) ?_
                          refine e_gI o_156_154 (sc_k (h := h) hs (ss_p hs)) ?_
                          exact e_retI o_156_157 k
                        · have k := k.2 z
                          refine ⟨fun z => ?_, fun z => ?_⟩
                          · have k := k.1 z
                            refine e_al o_156_158 rfl ?_
                            refine e_gR (r := (xR h 34 0)) o_156_159 (sk_4 (h := h) hs) (ss_e (h := h) hs) (by rcases (ss_p hs) with q | q <;> omega) ?_
                            refine e_gI o_156_162 (sc_k (h := h) hs (ss_p hs)) ?_
                            exact e_retI o_156_165 k
                          · have k := k.2 z
                            refine e_c (-1) o_156_166 rfl ?_
                            exact e_retI o_156_167 k
set_option maxHeartbeats 4000000 in
set_option maxRecDepth 100000 in
theorem B_157_0  {h : XH} {Q : Value → XH → Prop} (hs : Sh h) (k : Ev 157 4 [.ref 4, .int 0, .int 0] [] h Q) : Ev 157 0 (x_ini 157 [.ref 4]) [] h Q := by
  rw [show x_ini 157 [.ref 4] = [.ref 4, .null, .null] from x_inid ml_157 rfl]
  refine e_c 0 o_157_0 rfl ?_
  refine e_is (ls' := [.ref 4, .int 0, .null]) o_157_1 (Nat.le_of_ble_eq_true rfl) rfl ?_
  refine e_c 0 o_157_2 rfl ?_
  refine e_is (ls' := [.ref 4, .int 0, .int 0]) o_157_3 (Nat.le_of_ble_eq_true rfl) rfl ?_
  exact Ev.less (ls := [.ref 4, .int 0, .int 0]) ⟨Or.inr rfl, Or.inr rfl, Or.inr rfl, trivial⟩ k
set_option maxHeartbeats 4000000 in
set_option maxRecDepth 100000 in
theorem B_157_4 {x1 : Int32} {x2 : Int32} {h : XH} {Q : Value → XH → Prop} (hs : Sh h) (k : (((xI h (xR h 34 0) 1) ≤ x2) → Q (.int x1) h) ∧ (¬ ((xI h (xR h 34 0) 1) ≤ x2) → InB (8 + x2) 20 ∧ (((¬ (xI h 39 (tn (8 + x2))) = 4) → Ev 157 4 [.ref 4, .int x1, .int (x2 + 1)] [] h Q) ∧ (¬ (¬ (xI h 39 (tn (8 + x2))) = 4) → Ev 157 4 [.ref 4, .int (x1 ||| (1 <<< (x2 &&& 31))), .int (x2 + 1)] [] h Q)))) : Ev 157 4 [.ref 4, .int x1, .int x2] [] h Q := by
  refine e_il o_157_4 rfl ?_
  refine e_al o_157_5 rfl ?_
  refine e_gR (r := (xR h 34 0)) o_157_6 (sk_4 (h := h) hs) (ss_e (h := h) hs) (by rcases (ss_p hs) with q | q <;> omega) ?_
  refine e_gI o_157_9 (sc_k (h := h) hs (ss_p hs)) ?_
  refine e_if_3 o_157_12 (fun z => ?_) (fun z => ?_)
  · have k := k.1 z
    refine e_il o_157_40 rfl ?_
    exact e_retI o_157_41 k
  · have k := k.2 z
    refine e_al o_157_15 rfl ?_
    refine e_gR (r := 39) o_157_16 (sk_4 (h := h) hs) (sr_4_7 (h := h) hs) (by decide) ?_
    refine e_c 8 o_157_19 rfl ?_
    refine e_il o_157_21 rfl ?_
    refine e_bin o_157_22 rfl ?_
    obtain ⟨q, k⟩ := k
    refine e_ia (n := 20) o_157_23 (sk_39 (h := h) hs) (sn_39 (h := h) hs) q ?_
    refine e_c 4 o_157_24 rfl ?_
    refine e_if_1 o_157_25 (fun z => ?_) (fun z => ?_)
    · have k := k.1 z
      refine e_inc (ls' := [.ref 4, .int x1, .int (x2 + 1)]) o_157_34 rfl rfl rfl ?_
      refine e_go o_157_37 ?_
      exact Ev.less (ls := [.ref 4, .int x1, .int (x2 + 1)]) ⟨Or.inr rfl, Or.inr rfl, Or.inr rfl, trivial⟩ k
    · have k := k.2 z
      refine e_il o_157_28 rfl ?_
      refine e_c 1 o_157_29 rfl ?_
      refine e_il o_157_30 rfl ?_
      refine e_bin o_157_31 rfl ?_
      refine e_bin o_157_32 rfl ?_
      refine e_is (ls' := [.ref 4, .int (x1 ||| (1 <<< (x2 &&& 31))), .int x2]) o_157_33 (Nat.le_of_ble_eq_true rfl) rfl ?_
      refine e_inc (ls' := [.ref 4, .int (x1 ||| (1 <<< (x2 &&& 31))), .int (x2 + 1)]) o_157_34 rfl rfl rfl ?_
      refine e_go o_157_37 ?_
      exact Ev.less (ls := [.ref 4, .int (x1 ||| (1 <<< (x2 &&& 31))), .int (x2 + 1)]) ⟨Or.inr rfl, Or.inr rfl, Or.inr rfl, trivial⟩ k
