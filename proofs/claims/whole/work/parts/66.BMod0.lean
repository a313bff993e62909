set_option maxHeartbeats 4000000 in
set_option maxRecDepth 100000 in
theorem B_159_0 {x0 : Int32} {x1 : Int32} {x2 : Int32} {x3 : Int32} {x4 : Int32} {x5 : Int32} {x6 : Int32} {h : XH} {Q : Value → XH → Prop} (hs : Sh h) (k : ClL 160 [.long 0, .int x0] h (fun v2 h1 => Sh h1 ∧ (ClL 160 [.long v2, .int x1] h1 (fun v4 h3 => Sh h3 ∧ (ClL 160 [.long v4, .int x2] h3 (fun v6 h5 => Sh h5 ∧ (ClL 160 [.long v6, .int x3] h5 (fun v8 h7 => Sh h7 ∧ (ClL 160 [.long v8, .int x4] h7 (fun v10 h9 => Sh h9 ∧ (ClL 160 [.long v10, .int x5] h9 (fun v12 h11 => Sh h11 ∧ (ClL 160 [.long v12, .int x6] h11 (fun v14 h13 => Sh h13 ∧ (Q (.long v14) h13))))))))))))))) : Ev 159 0 (x_ini 159 [.int x0, .int x1, .int x2, .int x3, .int x4, .int x5, .int x6]) [] h Q := by
  rw [show x_ini 159 [.int x0, .int x1, .int x2, .int x3, .int x4, .int x5, .int x6] = [.int x0, .int x1, .int x2, .int x3, .int x4, .int x5, .int x6] from x_inid ml_159 rfl]
  refine e_lc 0 o_159_0 rfl ?_
  refine e_il o_159_1 rfl ?_
  refine e_clL (as := [.long 0, .int x0]) (rest := []) o_159_2 rfl rfl (x_okd cl_159_160 ml_160 (Nat.le_of_ble_eq_true rfl) (Nat.le_of_ble_eq_true rfl)) (rfl) k ?_
  rintro v2 h1 ⟨sh1, k⟩
  refine e_il o_159_5 rfl ?_
  refine e_clL (as := [.long v2, .int x1]) (rest := []) o_159_6 rfl rfl (x_okd cl_159_160 ml_160 (Nat.le_of_ble_eq_true rfl) (Nat.le_of_ble_eq_true rfl)) (rfl) k ?_
  rintro v4 h3 ⟨sh3, k⟩
  refine e_il o_159_9 rfl ?_
  refine e_clL (as := [.long v4, .int x2]) (rest := []) o_159_10 rfl rfl (x_okd cl_159_160 ml_160 (Nat.le_of_ble_eq_true rfl) (Nat.le_of_ble_eq_true rfl)) (rfl) k ?_
  rintro v6 h5 ⟨sh5, k⟩
  refine e_il o_159_13 rfl ?_
  refine e_clL (as := [.long v6, .int x3]) (rest := []) o_159_14 rfl rfl (x_okd cl_159_160 ml_160 (Nat.le_of_ble_eq_true rfl) (Nat.le_of_ble_eq_true rfl)) (rfl) k ?_
  rintro v8 h7 ⟨sh7, k⟩
  refine e_il o_159_17 rfl ?_
  refine e_clL (as := [.long v8, .int x4]) (rest := []) o_159_19 rfl rfl (x_okd cl_159_160 ml_160 (Nat.le_of_ble_eq_true rfl) (Nat.le_of_ble_eq_true rfl)) (rfl) k ?_
  rintro v10 h9 ⟨sh9, k⟩
  refine e_il o_159_22 rfl ?_
  refine e_clL (as := [.long v10, .int x5]) (rest := []) o_159_24 rfl rfl (x_okd cl_159_160 ml_160 (Nat.le_of_ble_eq_true rfl) (Nat.le_of_ble_eq_true rfl)) (rfl) k ?_
  rintro v12 h11 ⟨sh11, k⟩
  refine e_il o_159_27 rfl ?_
  refine e_clL (as := [.long v12, .int x6]) (rest := []) o_159_29 rfl rfl (x_okd cl_159_160 ml_160 (Nat.le_of_ble_eq_true rfl) (Nat.le_of_ble_eq_true rfl)) (rfl) k ?_
  rintro v14 h13 ⟨sh13, k⟩
  exact e_retL o_159_32 k
set_option maxHeartbeats 4000000 in
set_option maxRecDepth 100000 in
theorem B_160_0 {x0 : Int64} {x2 : Int32} {h : XH} {Q : Value → XH → Prop} (hs : Sh h) (k : ((¬ x2 = 0) → Q (.long ((27 * x0) + (((x2 - 97) + 1) : Int32).toInt64)) h) ∧ (¬ (¬ x2 = 0) → Q (.long x0) h)) : Ev 160 0 (x_ini 160 [.long x0, .int x2]) [] h Q := by
  rw [show x_ini 160 [.long x0, .int x2] = [.long x0, .null, .int x2] from x_inid ml_160 rfl]
  refine e_il o_160_0 rfl ?_
  refine e_i0_1 o_160_1 (fun z => ?_) (fun z => ?_)
  · have k := k.1 z
    refine e_lc 27 o_160_8 rfl ?_
    refine e_ll o_160_11 rfl ?_
    refine e_lbin o_160_12 rfl ?_
    refine e_il o_160_13 rfl ?_
    refine e_c 97 o_160_14 rfl ?_
    refine e_bin o_160_16 rfl ?_
    refine e_c 1 o_160_17 rfl ?_
    refine e_bin o_160_18 rfl ?_
    refine e_i2l o_160_19 ?_
    refine e_lbin o_160_20 rfl ?_
    exact e_retL o_160_21 k
  · have k := k.2 z
    refine e_ll o_160_4 rfl ?_
    refine e_go o_160_5 ?_
    exact e_retL o_160_21 k
set_option maxHeartbeats 4000000 in
set_option maxRecDepth 100000 in
theorem B_161_0  {h : XH} {Q : Value → XH → Prop} (hs : Sh h) (k : ClV 162 [.ref 69, .int (-1)] h (fun h1 => Sh h1 ∧ (Q .null h1))) : Ev 161 0 (x_ini 161 [.ref 69]) [] h Q := by
  rw [show x_ini 161 [.ref 69] = [.ref 69] from x_inid ml_161 rfl]
  refine e_al o_161_0 rfl ?_
  refine e_c (-1) o_161_1 rfl ?_
  refine e_clV (as := [.ref 69, .int (-1)]) (rest := []) o_161_2 rfl rfl (x_okd cl_161_162 ml_162 (Nat.le_of_ble_eq_true rfl) (Nat.le_of_ble_eq_true rfl)) (x_rc0 (ci := 9) (sk_69 (h := h) hs) mo_162) k ?_
  rintro h1 ⟨sh1, k⟩
  exact e_ret0 o_161_5 k
set_option maxHeartbeats 4000000 in
set_option maxRecDepth 100000 in
theorem B_162_0 {x1 : Int32} {h : XH} {Q : Value → XH → Prop} (hs : Sh h) (k : Ev 162 2 [.ref 69, .int x1, .int 0] [] h Q) : Ev 162 0 (x_ini 162 [.ref 69, .int x1]) [] h Q := by
  rw [show x_ini 162 [.ref 69, .int x1] = [.ref 69, .int x1, .null] from x_inid ml_162 rfl]
  refine e_c 0 o_162_0 rfl ?_
  refine e_is (ls' := [.ref 69, .int x1, .int 0]) o_162_1 (Nat.le_of_ble_eq_true rfl) rfl ?_
  exact Ev.less (ls := [.ref 69, .int x1, .int 0]) ⟨Or.inr rfl, Or.inr rfl, Or.inr rfl, trivial⟩ k
set_option maxHeartbeats 4000000 in
set_option maxRecDepth 100000 in
theorem B_162_2 {x1 : Int32} {x2 : Int32} {h : XH} {Q : Value → XH → Prop} (hs : Sh h) (k : ((20 ≤ x2) → Ev 162 23 [.ref 69, .int x1, .int 0] [] h Q) ∧ (¬ (20 ≤ x2) → InB x2 20 ∧ (Ev 162 2 [.ref 69, .int x1, .int (x2 + 1)] [] (xsI h 109 (tn x2) 0) Q))) : Ev 162 2 [.ref 69, .int x1, .int x2] [] h Q := by
  refine e_il o_162_2 rfl ?_
  refine e_c 20 o_162_3 rfl ?_
  refine e_if_3 o_162_5 (fun z => ?_) (fun z => ?_)
  · have k := k.1 z
    refine e_c 0 o_162_21 rfl ?_
    refine e_is (ls' := [.ref 69, .int x1, .int 0]) o_162_22 (Nat.le_of_ble_eq_true rfl) rfl ?_
    exact Ev.less (ls := [.ref 69, .int x1, .int 0]) ⟨Or.inr rfl, Or.inr rfl, Or.inr rfl, trivial⟩ k
  · have k := k.2 z
    refine e_al o_162_8 rfl ?_
    refine e_gR (r := 109) o_162_9 (sk_69 (h := h) hs) (sr_69_60 (h := h) hs) (by decide) ?_
    refine e_il o_162_12 rfl ?_
    refine e_c 0 o_162_13 rfl ?_
    obtain ⟨q, k⟩ := k
    refine e_ias (n := 20) o_162_14 (sk_109 (h := h) hs) (by decide) (sn_109 (h := h) hs) q ?_
    refine e_inc (ls' := [.ref 69, .int x1, .int (x2 + 1)]) o_162_15 rfl rfl rfl ?_
    refine e_go o_162_18 ?_
    exact Ev.less (ls := [.ref 69, .int x1, .int (x2 + 1)]) ⟨Or.inr rfl, Or.inr rfl, Or.inr rfl, trivial⟩ k
set_option maxHeartbeats 4000000 in
set_option maxRecDepth 100000 in
theorem B_162_23 {x1 : Int32} {x2 : Int32} {h : XH} {Q : Value → XH → Prop} (hs : Sh h) (k : InB (xI h 69 18) 2 ∧ ((((xI h 79 (tn (xI h 69 18))) ≤ x2) → ((x1 < 0) → InB (xI h 69 18) 2 ∧ (ClV 164 [.ref 69] (xsI h 69 61 (xI h 93 (tn (xI h 69 18)))) (fun h1 => Sh h1 ∧ (Q .null h1)))) ∧ (¬ (x1 < 0) → ClV 163 [.ref 69, .int x1] h (fun h3 => Sh h3 ∧ (InB (xI h3 69 18) 2 ∧ (ClV 164 [.ref 69] (xsI h3 69 61 (xI h3 93 (tn (xI h3 69 18)))) (fun h5 => Sh h5 ∧ (Q .null h5))))))) ∧ (¬ ((xI h 79 (tn (xI h 69 18))) ≤ x2) → InB ((8 * (xI h 69 18)) + x2) 16 ∧ (InB x2 20 ∧ (Ev 162 23 [.ref 69, .int x1, .int (x2 + 1)] [] (xsI h 109 (tn x2) (xI h 81 (tn ((8 * (xI h 69 18)) + x2)))) Q))))) : Ev 162 23 [.ref 69, .int x1, .int x2] [] h Q := by
  refine e_il o_162_23 rfl ?_
  refine e_al o_162_24 rfl ?_
  refine e_gR (r := 79) o_162_25 (sk_69 (h := h) hs) (sr_69_23 (h := h) hs) (by decide) ?_
  refine e_al o_162_28 rfl ?_
  refine e_gI o_162_29 (sk_69 (h := h) hs) ?_
  obtain ⟨q, k⟩ := k
  refine e_ia (n := 2) o_162_32 (sk_79 (h := h) hs) (sn_79 (h := h) hs) q ?_
  refine e_if_3 o_162_33 (fun z => ?_) (fun z => ?_)
  · have k := k.1 z
    refine e_il o_162_62 rfl ?_
    refine e_i0_2 o_162_63 (fun z => ?_) (fun z => ?_)
    · have k := k.1 z
      refine e_al o_162_71 rfl ?_
      refine e_al o_162_72 rfl ?_
      refine e_gR (r := 93) o_162_73 (sk_69 (h := h) hs) (sr_69_38 (h := h) hs) (by decide) ?_
      refine e_al o_162_76 rfl ?_
      refine e_gI o_162_77 (sk_69 (h := h) hs) ?_
      obtain ⟨q, k⟩ := k
      refine e_ia (n := 2) o_162_80 (sk_93 (h := h) hs) (sn_93 (h := h) hs) q ?_
      refine e_pI o_162_81 (sk_69 (h := h) hs) ?_
      refine e_al o_162_84 rfl ?_
      refine e_clV (as := [.ref 69]) (rest := []) o_162_85 rfl rfl (x_okd cl_162_164 ml_164 (Nat.le_of_ble_eq_true rfl) (Nat.le_of_ble_eq_true rfl)) (x_rc0 (ci := 9) (sk_69 (h := h) hs) mo_164) k ?_
      rintro h1 ⟨sh1, k⟩
      exact e_ret0 o_162_88 k
    · have k := k.2 z
      refine e_al o_162_66 rfl ?_
      refine e_il o_162_67 rfl ?_
      refine e_clV (as := [.ref 69, .int x1]) (rest := []) o_162_68 rfl rfl (x_okd cl_162_163 ml_163 (Nat.le_of_ble_eq_true rfl) (Nat.le_of_ble_eq_true rfl)) (x_rc0 (ci := 9) (sk_69 (h := h) hs) mo_163) k ?_
      rintro h3 ⟨sh3, k⟩
      refine e_al o_162_71 rfl ?_
      refine e_al o_162_72 rfl ?_
      refine e_gR (r := 93) o_162_73 (sk_69 (h := h3) sh3) (sr_69_38 (h := h3) sh3) (by decide) ?_
      refine e_al o_162_76 rfl ?_
      refine e_gI o_162_77 (sk_69 (h := h3) sh3) ?_
      obtain ⟨q, k⟩ := k
      refine e_ia (n := 2) o_162_80 (sk_93 (h := h3) sh3) (sn_93 (h := h3) sh3) q ?_
      refine e_pI o_162_81 (sk_69 (h := h3) sh3) ?_
      refine e_al o_162_84 rfl ?_
      refine e_clV (as := [.ref 69]) (rest := []) o_162_85 rfl rfl (x_okd cl_162_164 ml_164 (Nat.le_of_ble_eq_true rfl) (Nat.le_of_ble_eq_true rfl)) (x_rc0 (ci := 9) (sk_69 (h := h3) sh3) mo_164) k ?_
      rintro h5 ⟨sh5, k⟩
      exact e_ret0 o_162_88 k
  · have k := k.2 z
    refine e_al o_162_36 rfl ?_
    refine e_gR (r := 109) o_162_37 (sk_69 (h := h) hs) (sr_69_60 (h := h) hs) (by decide) ?_
    refine e_il o_162_40 rfl ?_
    refine e_al o_162_41 rfl ?_
    refine e_gR (r := 81) o_162_42 (sk_69 (h := h) hs) (sr_69_25 (h := h) hs) (by decide) ?_
    refine e_c 8 o_162_45 rfl ?_
    refine e_al o_162_47 rfl ?_
    refine e_gI o_162_48 (sk_69 (h := h) hs) ?_
    refine e_bin o_162_51 rfl ?_
    refine e_il o_162_52 rfl ?_
    refine e_bin o_162_53 rfl ?_
    obtain ⟨q, k⟩ := k
    refine e_ia (n := 16) o_162_54 (sk_81 (h := h) hs) (sn_81 (h := h) hs) q ?_
    obtain ⟨q, k⟩ := k
    refine e_ias (n := 20) o_162_55 (sk_109 (h := h) hs) (by decide) (sn_109 (h := h) hs) q ?_
    refine e_inc (ls' := [.ref 69, .int x1, .int (x2 + 1)]) o_162_56 rfl rfl rfl ?_
    refine e_go o_162_59 ?_
    exact Ev.less (ls := [.ref 69, .int x1, .int (x2 + 1)]) ⟨Or.inr rfl, Or.inr rfl, Or.inr rfl, trivial⟩ k
set_option maxHeartbeats 4000000 in
set_option maxRecDepth 100000 in
theorem B_163_0 {x1 : Int32} {h : XH} {Q : Value → XH → Prop} (hs : Sh h) (k : Ev 163 4 [.ref 69, .null, .int x1, .int 0, .null] [] h Q) : Ev 163 0 (x_ini 163 [.ref 69, .int x1]) [] h Q := by
  rw [show x_ini 163 [.ref 69, .int x1] = [.ref 69, .int x1, .null, .null, .null] from x_inid ml_163 rfl]
  refine e_il o_163_0 rfl ?_
  refine e_is (ls' := [.ref 69, .int x1, .int x1, .null, .null]) o_163_1 (Nat.le_of_ble_eq_true rfl) rfl ?_
  refine e_c 0 o_163_2 rfl ?_
  refine e_is (ls' := [.ref 69, .int x1, .int x1, .int 0, .null]) o_163_3 (Nat.le_of_ble_eq_true rfl) rfl ?_
  exact Ev.less (ls := [.ref 69, .null, .int x1, .int 0, .null]) ⟨Or.inr rfl, Or.inl rfl, Or.inr rfl, Or.inr rfl, Or.inl rfl, trivial⟩ k
set_option maxHeartbeats 4000000 in
set_option maxRecDepth 100000 in
theorem B_163_4 {x2 : Int32} {x3 : Int32} {h : XH} {Q : Value → XH → Prop} (hs : Sh h) (k : InB (xI h 69 18) 2 ∧ ((((xI h 79 (tn (xI h 69 18))) ≤ x3) → Q .null h) ∧ (¬ ((xI h 79 (tn (xI h 69 18))) ≤ x3) → InB ((8 * (xI h 69 18)) + x3) 16 ∧ (¬ ((xI h 80 (tn ((8 * (xI h 69 18)) + x3))) + 1) = 0 ∧ (InB x3 20 ∧ (¬ ((xI h 80 (tn ((8 * (xI h 69 18)) + x3))) + 1) = 0 ∧ (Ev 163 4 [.ref 69, .null, .int (x2 / ((xI h 80 (tn ((8 * (xI h 69 18)) + x3))) + 1)), .int (x3 + 1), .null] [] (xsI h 109 (tn x3) (x2 - x2 / ((xI h 80 (tn ((8 * (xI h 69 18)) + x3))) + 1) * ((xI h 80 (tn ((8 * (xI h 69 18)) + x3))) + 1))) Q))))))) : Ev 163 4 [.ref 69, .null, .int x2, .int x3, .null] [] h Q := by
  refine e_il o_163_4 rfl ?_
  refine e_al o_163_5 rfl ?_
  refine e_gR (r := 79) o_163_6 (sk_69 (h := h) hs) (sr_69_23 (h := h) hs) (by decide) ?_
  refine e_al o_163_9 rfl ?_
  refine e_gI o_163_10 (sk_69 (h := h) hs) ?_
  obtain ⟨q, k⟩ := k
  refine e_ia (n := 2) o_163_13 (sk_79 (h := h) hs) (sn_79 (h := h) hs) q ?_
  refine e_if_3 o_163_14 (fun z => ?_) (fun z => ?_)
  · have k := k.1 z
    exact e_ret0 o_163_56 k
  · have k := k.2 z
    refine e_al o_163_17 rfl ?_
    refine e_gR (r := 80) o_163_18 (sk_69 (h := h) hs) (sr_69_24 (h := h) hs) (by decide) ?_
    refine e_c 8 o_163_21 rfl ?_
    refine e_al o_163_23 rfl ?_
    refine e_gI o_163_24 (sk_69 (h := h) hs) ?_
    refine e_bin o_163_27 rfl ?_
    refine e_il o_163_28 rfl ?_
    refine e_bin o_163_29 rfl ?_
    obtain ⟨q, k⟩ := k
    refine e_ia (n := 16) o_163_30 (sk_80 (h := h) hs) (sn_80 (h := h) hs) q ?_
    refine e_c 1 o_163_31 rfl ?_
    refine e_bin o_163_32 rfl ?_
    refine e_is (ls' := [.ref 69, .null, .int x2, .int x3, .int ((xI h 80 (tn ((8 * (xI h 69 18)) + x3))) + 1)]) o_163_33 (Nat.le_of_ble_eq_true rfl) rfl ?_
    refine e_al o_163_35 rfl ?_
    refine e_gR (r := 109) o_163_36 (sk_69 (h := h) hs) (sr_69_60 (h := h) hs) (by decide) ?_
    refine e_il o_163_39 rfl ?_
    refine e_il o_163_40 rfl ?_
    refine e_il o_163_41 rfl ?_
    obtain ⟨q, k⟩ := k
    refine e_rem o_163_43 q ?_
    obtain ⟨q, k⟩ := k
    refine e_ias (n := 20) o_163_44 (sk_109 (h := h) hs) (by decide) (sn_109 (h := h) hs) q ?_
    refine e_il o_163_45 rfl ?_
    refine e_il o_163_46 rfl ?_
    obtain ⟨q, k⟩ := k
    refine e_div o_163_48 q ?_
    refine e_is (ls' := [.ref 69, .null, .int (x2 / ((xI h 80 (tn ((8 * (xI h 69 18)) + x3))) + 1)), .int x3, .int ((xI h 80 (tn ((8 * (xI h 69 18)) + x3))) + 1)]) o_163_49 (Nat.le_of_ble_eq_true rfl) rfl ?_
    refine e_inc (ls' := [.ref 69, .null, .int (x2 / ((xI h 80 (tn ((8 * (xI h 69 18)) + x3))) + 1)), .int (x3 + 1), .int ((xI h 80 (tn ((8 * (xI h 69 18)) + x3))) + 1)]) o_163_50 rfl rfl rfl ?_
    refine e_go o_163_53 ?_
    exact Ev.less (ls := [.ref 69, .null, .int (x2 / ((xI h 80 (tn ((8 * (xI h 69 18)) + x3))) + 1)), .int (x3 + 1), .null]) ⟨Or.inr rfl, Or.inl rfl, Or.inr rfl, Or.inr rfl, Or.inl rfl, trivial⟩ k
set_option maxHeartbeats 4000000 in
set_option maxRecDepth 100000 in
theorem B_164_0  {h : XH} {Q : Value → XH → Prop} (hs : Sh h) (k : InB 16 20 ∧ (InB 17 20 ∧ (InB 18 20 ∧ (InB 19 20 ∧ (ClI 165 [.ref 69] (xsI (xsI (xsI (xsI h 109 (tn 16) 0) 109 (tn 17) 0) 109 (tn 18) 0) 109 (tn 19) 0) (fun v2 h1 => Sh h1 ∧ (InB 0 301 ∧ (Ev 164 42 [.ref 69, .null, .null] [] (xsI h1 111 (tn 0) v2) Q)))))))) : Ev 164 0 (x_ini 164 [.ref 69]) [] h Q := by
  rw [show x_ini 164 [.ref 69] = [.ref 69, .null, .null] from x_inid ml_164 rfl]
  refine e_al o_164_0 rfl ?_
  refine e_gR (r := 109) o_164_1 (sk_69 (h := h) hs) (sr_69_60 (h := h) hs) (by decide) ?_
  refine e_c 16 o_164_4 rfl ?_
  refine e_c 0 o_164_6 rfl ?_
  obtain ⟨q, k⟩ := k
  refine e_ias (n := 20) o_164_7 (sk_109 (h := h) hs) (by decide) (sn_109 (h := h) hs) q ?_
  refine e_al o_164_8 rfl ?_
  refine e_gR (r := 109) o_164_9 (sk_69 (h := h) hs) (sr_69_60 (h := h) hs) (by decide) ?_
  refine e_c 17 o_164_12 rfl ?_
  refine e_c 0 o_164_14 rfl ?_
  obtain ⟨q, k⟩ := k
  refine e_ias (n := 20) o_164_15 (sk_109 (h := h) hs) (by decide) (sn_109 (h := h) hs) q ?_
  refine e_al o_164_16 rfl ?_
  refine e_gR (r := 109) o_164_17 (sk_69 (h := h) hs) (sr_69_60 (h := h) hs) (by decide) ?_
  refine e_c 18 o_164_20 rfl ?_
  refine e_c 0 o_164_22 rfl ?_
  obtain ⟨q, k⟩ := k
  refine e_ias (n := 20) o_164_23 (sk_109 (h := h) hs) (by decide) (sn_109 (h := h) hs) q ?_
  refine e_al o_164_24 rfl ?_
  refine e_gR (r := 109) o_164_25 (sk_69 (h := h) hs) (sr_69_60 (h := h) hs) (by decide) ?_
  refine e_c 19 o_164_28 rfl ?_
  refine e_c 0 o_164_30 rfl ?_
  obtain ⟨q, k⟩ := k
  refine e_ias (n := 20) o_164_31 (sk_109 (h := h) hs) (by decide) (sn_109 (h := h) hs) q ?_
  refine e_al o_164_32 rfl ?_
  refine e_gR (r := 111) o_164_33 (sk_69 (h := h) hs) (sr_69_63 (h := h) hs) (by decide) ?_
  refine e_c 0 o_164_36 rfl ?_
  refine e_al o_164_37 rfl ?_
  refine e_clI (as := [.ref 69]) (rest := [.int 0, .ref 111]) o_164_38 rfl rfl (x_okd cl_164_165 ml_165 (Nat.le_of_ble_eq_true rfl) (Nat.le_of_ble_eq_true rfl)) (x_rc0 (ci := 9) (sk_69 (h := h) hs) mo_165) k ?_
  rintro v2 h1 ⟨sh1, k⟩
  obtain ⟨q, k⟩ := k
  refine e_ias (n := 301) o_164_41 (sk_111 (h := h1) sh1) (by decide) (sn_111 (h := h1) sh1) q ?_
  exact Ev.less (ls := [.ref 69, .null, .null]) ⟨Or.inr rfl, Or.inl rfl, Or.inl rfl, trivial⟩ k
set_option maxHeartbeats 4000000 in
set_option maxRecDepth 100000 in
theorem B_164_42  {h : XH} {Q : Value → XH → Prop} (hs : Sh h) (k : ClI 166 [.ref 69] h (fun v2 h1 => Sh h1 ∧ (((v2 = 0) → Q .null h1) ∧ (¬ (v2 = 0) → InB 18 20 ∧ (InB 18 20 ∧ (ClI 165 [.ref 69] (xsI h1 109 (tn 18) ((xI h1 109 (tn 18)) + 1)) (fun v4 h3 => Sh h3 ∧ (InB 18 20 ∧ (InB (xI h3 109 (tn 18)) 301 ∧ (Ev 164 80 [.ref 69, .int v4, .int 0] [] (xsI h3 111 (tn (xI h3 109 (tn 18))) v4) Q)))))))))) : Ev 164 42 [.ref 69, .null, .null] [] h Q := by
  refine e_al o_164_42 rfl ?_
  refine e_clI (as := [.ref 69]) (rest := []) o_164_43 rfl rfl (x_okd cl_164_166 ml_166 (Nat.le_of_ble_eq_true rfl) (Nat.le_of_ble_eq_true rfl)) (x_rc0 (ci := 9) (sk_69 (h := h) hs) mo_166) k ?_
  rintro v2 h1 ⟨sh1, k⟩
  refine e_i0_0 o_164_46 (fun z => ?_) (fun z => ?_)
  · have k := k.1 z
    exact e_ret0 o_164_141 k
  · have k := k.2 z
    refine e_al o_164_49 rfl ?_
    refine e_gR (r := 109) o_164_50 (sk_69 (h := h1) sh1) (sr_69_60 (h := h1) sh1) (by decide) ?_
    refine e_c 18 o_164_53 rfl ?_
    refine e_dup2 o_164_55 ⟨rfl, rfl⟩ ?_
    obtain ⟨q, k⟩ := k
    refine e_ia (n := 20) o_164_56 (sk_109 (h := h1) sh1) (sn_109 (h := h1) sh1) q ?_
    refine e_c 1 o_164_57 rfl ?_
    refine e_bin o_164_58 rfl ?_
    obtain ⟨q, k⟩ := k
    refine e_ias (n := 20) o_164_59 (sk_109 (h := h1) sh1) (by decide) (sn_109 (h := h1) sh1) q ?_
    refine e_al o_164_60 rfl ?_
    refine e_clI (as := [.ref 69]) (rest := []) o_164_61 rfl rfl (x_okd cl_164_165 ml_165 (Nat.le_of_ble_eq_true rfl) (Nat.le_of_ble_eq_true rfl)) (x_rc0 (ci := 9) (sk_69 (h := h1) sh1) mo_165) k ?_
    rintro v4 h3 ⟨sh3, k⟩
    refine e_is (ls' := [.ref 69, .int v4, .null]) o_164_64 (Nat.le_of_ble_eq_true rfl) rfl ?_
    refine e_al o_164_65 rfl ?_
    refine e_gR (r := 111) o_164_66 (sk_69 (h := h3) sh3) (sr_69_63 (h := h3) sh3) (by decide) ?_
    refine e_al o_164_69 rfl ?_
    refine e_gR (r := 109) o_164_70 (sk_69 (h := h3) sh3) (sr_69_60 (h := h3) sh3) (by decide) ?_
    refine e_c 18 o_164_73 rfl ?_
    obtain ⟨q, k⟩ := k
    refine e_ia (n := 20) o_164_75 (sk_109 (h := h3) sh3) (sn_109 (h := h3) sh3) q ?_
    refine e_il o_164_76 rfl ?_
    obtain ⟨q, k⟩ := k
    refine e_ias (n := 301) o_164_77 (sk_111 (h := h3) sh3) (by decide) (sn_111 (h := h3) sh3) q ?_
    refine e_c 0 o_164_78 rfl ?_
    refine e_is (ls' := [.ref 69, .int v4, .int 0]) o_164_79 (Nat.le_of_ble_eq_true rfl) rfl ?_
    exact Ev.less (ls := [.ref 69, .int v4, .int 0]) ⟨Or.inr rfl, Or.inr rfl, Or.inr rfl, trivial⟩ k
set_option maxHeartbeats 4000000 in
set_option maxRecDepth 100000 in
theorem B_164_80 {x1 : Int32} {x2 : Int32} {h : XH} {Q : Value → XH → Prop} (hs : Sh h) (k : InB 18 20 ∧ ((((xI h 109 (tn 18)) ≤ x2) → InB 18 20 ∧ (((¬ (xI h 109 (tn 18)) = 300) → Ev 164 42 [.ref 69, .null, .null] [] h Q) ∧ (¬ (¬ (xI h 109 (tn 18)) = 300) → InB 17 20 ∧ (Q .null (xsI h 109 (tn 17) 2))))) ∧ (¬ ((xI h 109 (tn 18)) ≤ x2) → InB x2 301 ∧ ((((xI h 111 (tn x2)) = x1) → ClV 172 [.ref 69, .int x2] h (fun h1 => Sh h1 ∧ (Q .null h1))) ∧ (¬ ((xI h 111 (tn x2)) = x1) → Ev 164 80 [.ref 69, .int x1, .int (x2 + 1)] [] h Q))))) : Ev 164 80 [.ref 69, .int x1, .int x2] [] h Q := by
  refine e_il o_164_80 rfl ?_
  refine e_al o_164_81 rfl ?_
  refine e_gR (r := 109) o_164_82 (sk_69 (h := h) hs) (sr_69_60 (h := h) hs) (by decide) ?_
  refine e_c 18 o_164_85 rfl ?_
  obtain ⟨q, k⟩ := k
  refine e_ia (n := 20) o_164_87 (sk_109 (h := h) hs) (sn_109 (h := h) hs) q ?_
  refine e_if_3 o_164_88 (fun z => ?_) (fun z => ?_)
  · have k := k.1 z
    refine e_al o_164_116 rfl ?_
    refine e_gR (r := 109) o_164_117 (sk_69 (h := h) hs) (sr_69_60 (h := h) hs) (by decide) ?_
    refine e_c 18 o_164_120 rfl ?_
    obtain ⟨q, k⟩ := k
    refine e_ia (n := 20) o_164_122 (sk_109 (h := h) hs) (sn_109 (h := h) hs) q ?_
    refine e_c 300 o_164_123 rfl ?_
    refine e_if_1 o_164_126 (fun z => ?_) (fun z => ?_)
    · have k := k.1 z
      refine e_go o_164_138 ?_
      exact Ev.less (ls := [.ref 69, .null, .null]) ⟨Or.inr rfl, Or.inl rfl, Or.inl rfl, trivial⟩ k
    · have k := k.2 z
      refine e_al o_164_129 rfl ?_
      refine e_gR (r := 109) o_164_130 (sk_69 (h := h) hs) (sr_69_60 (h := h) hs) (by decide) ?_
      refine e_c 17 o_164_133 rfl ?_
      refine e_c 2 o_164_135 rfl ?_
      obtain ⟨q, k⟩ := k
      refine e_ias (n := 20) o_164_136 (sk_109 (h := h) hs) (by decide) (sn_109 (h := h) hs) q ?_
      exact e_ret0 o_164_137 k
  · have k := k.2 z
    refine e_al o_164_91 rfl ?_
    refine e_gR (r := 111) o_164_92 (sk_69 (h := h) hs) (sr_69_63 (h := h) hs) (by decide) ?_
    refine e_il o_164_95 rfl ?_
    obtain ⟨q, k⟩ := k
    refine e_ia (n := 301) o_164_96 (sk_111 (h := h) hs) (sn_111 (h := h) hs) q ?_
    refine e_il o_164_97 rfl ?_
    refine e_if_0 o_164_98 (fun z => ?_) (fun z => ?_)
    · have k := k.1 z
      refine e_al o_164_104 rfl ?_
      refine e_il o_164_105 rfl ?_
      refine e_clV (as := [.ref 69, .int x2]) (rest := []) o_164_106 rfl rfl (x_okd cl_164_172 ml_172 (Nat.le_of_ble_eq_true rfl) (Nat.le_of_ble_eq_true rfl)) (x_rc0 (ci := 9) (sk_69 (h := h) hs) mo_172) k ?_
      rintro h1 ⟨sh1, k⟩
      exact e_ret0 o_164_109 k
    · have k := k.2 z
      refine e_go o_164_101 ?_
      refine e_inc (ls' := [.ref 69, .int x1, .int (x2 + 1)]) o_164_110 rfl rfl rfl ?_
      refine e_go o_164_113 ?_
      exact Ev.less (ls := [.ref 69, .int x1, .int (x2 + 1)]) ⟨Or.inr rfl, Or.inr rfl, Or.inr rfl, trivial⟩ k
set_option maxHeartbeats 4000000 in
set_option maxRecDepth 100000 in
theorem B_165_0  {h : XH} {Q : Value → XH → Prop} (hs : Sh h) (k : InB (xI h 69 18) 2 ∧ (Ev 165 14 [.ref 69, .int 0, .int ((xI h 84 (tn (xI h 69 18))) - 1)] [] h Q)) : Ev 165 0 (x_ini 165 [.ref 69]) [] h Q := by
  rw [show x_ini 165 [.ref 69] = [.ref 69, .null, .null] from x_inid ml_165 rfl]
  refine e_c 0 o_165_0 rfl ?_
  refine e_is (ls' := [.ref 69, .int 0, .null]) o_165_1 (Nat.le_of_ble_eq_true rfl) rfl ?_
  refine e_al o_165_2 rfl ?_
  refine e_gR (r := 84) o_165_3 (sk_69 (h := h) hs) (sr_69_28 (h := h) hs) (by decide) ?_
  refine e_al o_165_6 rfl ?_
  refine e_gI o_165_7 (sk_69 (h := h) hs) ?_
  obtain ⟨q, k⟩ := k
  refine e_ia (n := 2) o_165_10 (sk_84 (h := h) hs) (sn_84 (h := h) hs) q ?_
  refine e_c 1 o_165_11 rfl ?_
  refine e_bin o_165_12 rfl ?_
  refine e_is (ls' := [.ref 69, .int 0, .int ((xI h 84 (tn (xI h 69 18))) - 1)]) o_165_13 (Nat.le_of_ble_eq_true rfl) rfl ?_
  exact Ev.less (ls := [.ref 69, .int 0, .int ((xI h 84 (tn (xI h 69 18))) - 1)]) ⟨Or.inr rfl, Or.inr rfl, Or.inr rfl, trivial⟩ k
set_option maxHeartbeats 4000000 in
set_option maxRecDepth 100000 in
theorem B_165_14 {x1 : Int32} {x2 : Int32} {h : XH} {Q : Value → XH → Prop} (hs : Sh h) (k : ((x2 < 0) → Q (.int x1) h) ∧ (¬ (x2 < 0) → InB (8 + x2) 20 ∧ (Ev 165 14 [.ref 69, .int ((5 * x1) + (xI h 109 (tn (8 + x2)))), .int (x2 + (-1))] [] h Q))) : Ev 165 14 [.ref 69, .int x1, .int x2] [] h Q := by
  refine e_il o_165_14 rfl ?_
  refine e_i0_2 o_165_15 (fun z => ?_) (fun z => ?_)
  · have k := k.1 z
    refine e_il o_165_38 rfl ?_
    exact e_retI o_165_39 k
  · have k := k.2 z
    refine e_c 5 o_165_18 rfl ?_
    refine e_il o_165_19 rfl ?_
    refine e_bin o_165_20 rfl ?_
    refine e_al o_165_21 rfl ?_
    refine e_gR (r := 109) o_165_22 (sk_69 (h := h) hs) (sr_69_60 (h := h) hs) (by decide) ?_
    refine e_c 8 o_165_25 rfl ?_
    refine e_il o_165_27 rfl ?_
    refine e_bin o_165_28 rfl ?_
    obtain ⟨q, k⟩ := k
    refine e_ia (n := 20) o_165_29 (sk_109 (h := h) hs) (sn_109 (h := h) hs) q ?_
    refine e_bin o_165_30 rfl ?_
    refine e_is (ls' := [.ref 69, .int ((5 * x1) + (xI h 109 (tn (8 + x2)))), .int x2]) o_165_31 (Nat.le_of_ble_eq_true rfl) rfl ?_
    refine e_inc (ls' := [.ref 69, .int ((5 * x1) + (xI h 109 (tn (8 + x2)))), .int (x2 + (-1))]) o_165_32 rfl rfl rfl ?_
    refine e_go o_165_35 ?_
    exact Ev.less (ls := [.ref 69, .int ((5 * x1) + (xI h 109 (tn (8 + x2)))), .int (x2 + (-1))]) ⟨Or.inr rfl, Or.inr rfl, Or.inr rfl, trivial⟩ k
set_option maxHeartbeats 4000000 in
set_option maxRecDepth 100000 in
theorem B_166_0  {h : XH} {Q : Value → XH → Prop} (hs : Sh h) (k : ClV 167 [.ref 69] h (fun h1 => Sh h1 ∧ (Ev 166 8 [.ref 69, .int 0, .int 0] [] h1 Q))) : Ev 166 0 (x_ini 166 [.ref 69]) [] h Q := by
  rw [show x_ini 166 [.ref 69] = [.ref 69, .null, .null] from x_inid ml_166 rfl]
  refine e_al o_166_0 rfl ?_
  refine e_clV (as := [.ref 69]) (rest := []) o_166_1 rfl rfl (x_okd cl_166_167 ml_167 (Nat.le_of_ble_eq_true rfl) (Nat.le_of_ble_eq_true rfl)) (x_rc0 (ci := 9) (sk_69 (h := h) hs) mo_167) k ?_
  rintro h1 ⟨sh1, k⟩
  refine e_c 0 o_166_4 rfl ?_
  refine e_is (ls' := [.ref 69, .int 0, .null]) o_166_5 (Nat.le_of_ble_eq_true rfl) rfl ?_
  refine e_c 0 o_166_6 rfl ?_
  refine e_is (ls' := [.ref 69, .int 0, .int 0]) o_166_7 (Nat.le_of_ble_eq_true rfl) rfl ?_
  exact Ev.less (ls := [.ref 69, .int 0, .int 0]) ⟨Or.inr rfl, Or.inr rfl, Or.inr rfl, trivial⟩ k
set_option maxHeartbeats 4000000 in
set_option maxRecDepth 100000 in
theorem B_166_8 {x1 : Int32} {x2 : Int32} {h : XH} {Q : Value → XH → Prop} (hs : Sh h) (k : InB (xI h 69 18) 2 ∧ ((((xI h 84 (tn (xI h 69 18))) ≤ x2) → Ev 166 68 [.ref 69, .int x1, .int 0] [] h Q) ∧ (¬ ((xI h 84 (tn (xI h 69 18))) ≤ x2) → ClI 168 [.ref 69, .int x2] h (fun v2 h1 => Sh h1 ∧ (InB x2 6 ∧ (((¬ x1 = 0) → Ev 166 8 [.ref 69, .int 1, .int (x2 + 1)] [] (xsI h1 110 (tn x2) v2) Q) ∧ (¬ (¬ x1 = 0) → InB x2 6 ∧ (InB (8 + x2) 20 ∧ ((((xI (xsI h1 110 (tn x2) v2) 110 (tn x2)) = (xI (xsI h1 110 (tn x2) v2) 109 (tn (8 + x2)))) → Ev 166 8 [.ref 69, .int 0, .int (x2 + 1)] [] (xsI h1 110 (tn x2) v2) Q) ∧ (¬ ((xI (xsI h1 110 (tn x2) v2) 110 (tn x2)) = (xI (xsI h1 110 (tn x2) v2) 109 (tn (8 + x2)))) → Ev 166 8 [.ref 69, .int 1, .int (x2 + 1)] [] (xsI h1 110 (tn x2) v2) Q)))))))))) : Ev 166 8 [.ref 69, .int x1, .int x2] [] h Q := by
  refine e_il o_166_8 rfl ?_
  refine e_al o_166_9 rfl ?_
  refine e_gR (r := 84) o_166_10 (sk_69 (h := h) hs) (sr_69_28 (h := h) hs) (by decide) ?_
  refine e_al o_166_13 rfl ?_
  refine e_gI o_166_14 (sk_69 (h := h) hs) ?_
  obtain ⟨q, k⟩ := k
  refine e_ia (n := 2) o_166_17 (sk_84 (h := h) hs) (sn_84 (h := h) hs) q ?_
  refine e_if_3 o_166_18 (fun z => ?_) (fun z => ?_)
  · have k := k.1 z
    refine e_c 0 o_166_66 rfl ?_
    refine e_is (ls' := [.ref 69, .int x1, .int 0]) o_166_67 (Nat.le_of_ble_eq_true rfl) rfl ?_
    exact Ev.less (ls := [.ref 69, .int x1, .int 0]) ⟨Or.inr rfl, Or.inr rfl, Or.inr rfl, trivial⟩ k
  · have k := k.2 z
    refine e_al o_166_21 rfl ?_
    refine e_gR (r := 110) o_166_22 (sk_69 (h := h) hs) (sr_69_62 (h := h) hs) (by decide) ?_
    refine e_il o_166_25 rfl ?_
    refine e_al o_166_26 rfl ?_
    refine e_il o_166_27 rfl ?_
    refine e_clI (as := [.ref 69, .int x2]) (rest := [.int x2, .ref 110]) o_166_28 rfl rfl (x_okd cl_166_168 ml_168 (Nat.le_of_ble_eq_true rfl) (Nat.le_of_ble_eq_true rfl)) (x_rc0 (ci := 9) (sk_69 (h := h) hs) mo_168) k ?_
    rintro v2 h1 ⟨sh1, k⟩
    obtain ⟨q, k⟩ := k
    refine e_ias (n := 6) o_166_31 (sk_110 (h := h1) sh1) (by decide) (sn_110 (h := h1) sh1) q ?_
    refine e_il o_166_32 rfl ?_
    refine e_i0_1 o_166_33 (fun z => ?_) (fun z => ?_)
    · have k := k.1 z
      refine e_c 1 o_166_54 rfl ?_
      refine e_go o_166_55 ?_
      refine e_is (ls' := [.ref 69, .int 1, .int x2]) o_166_59 (Nat.le_of_ble_eq_true rfl) rfl ?_
      refine e_inc (ls' := [.ref 69, .int 1, .int (x2 + 1)]) o_166_60 rfl rfl rfl ?_
      refine e_go o_166_63 ?_
      exact Ev.less (ls := [.ref 69, .int 1, .int (x2 + 1)]) ⟨Or.inr rfl, Or.inr rfl, Or.inr rfl, trivial⟩ k
    · have k := k.2 z
      refine e_al o_166_36 rfl ?_
      refine e_gR (r := 110) o_166_37 (sk_69 (h := h1) sh1) (sr_69_62 (h := h1) sh1) (by decide) ?_
      refine e_il o_166_40 rfl ?_
      obtain ⟨q, k⟩ := k
      refine e_ia (n := 6) o_166_41 (sk_110 (h := h1) sh1) (sn_110 (h := h1) sh1) q ?_
      refine e_al o_166_42 rfl ?_
      refine e_gR (r := 109) o_166_43 (sk_69 (h := h1) sh1) (sr_69_60 (h := h1) sh1) (by decide) ?_
      refine e_c 8 o_166_46 rfl ?_
      refine e_il o_166_48 rfl ?_
      refine e_bin o_166_49 rfl ?_
      obtain ⟨q, k⟩ := k
      refine e_ia (n := 20) o_166_50 (sk_109 (h := h1) sh1) (sn_109 (h := h1) sh1) q ?_
      refine e_if_0 o_166_51 (fun z => ?_) (fun z => ?_)
      · have k := k.1 z
        refine e_c 0 o_166_58 rfl ?_
        refine e_is (ls' := [.ref 69, .int 0, .int x2]) o_166_59 (Nat.le_of_ble_eq_true rfl) rfl ?_
        refine e_inc (ls' := [.ref 69, .int 0, .int (x2 + 1)]) o_166_60 rfl rfl rfl ?_
        refine e_go o_166_63 ?_
        exact Ev.less (ls := [.ref 69, .int 0, .int (x2 + 1)]) ⟨Or.inr rfl, Or.inr rfl, Or.inr rfl, trivial⟩ k
      · have k := k.2 z
        refine e_c 1 o_166_54 rfl ?_
        refine e_go o_166_55 ?_
        refine e_is (ls' := [.ref 69, .int 1, .int x2]) o_166_59 (Nat.le_of_ble_eq_true rfl) rfl ?_
        refine e_inc (ls' := [.ref 69, .int 1, .int (x2 + 1)]) o_166_60 rfl rfl rfl ?_
        refine e_go o_166_63 ?_
        exact Ev.less (ls := [.ref 69, .int 1, .int (x2 + 1)]) ⟨Or.inr rfl, Or.inr rfl, Or.inr rfl, trivial⟩ k
set_option maxHeartbeats 4000000 in
set_option maxRecDepth 100000 in
theorem B_166_68 {x1 : Int32} {x2 : Int32} {h : XH} {Q : Value → XH → Prop} (hs : Sh h) (k : InB (xI h 69 18) 2 ∧ ((((xI h 84 (tn (xI h 69 18))) ≤ x2) → (x1 = 0 ∨ x1 = 1) ∧ Q (.int x1) h) ∧ (¬ ((xI h 84 (tn (xI h 69 18))) ≤ x2) → InB x2 6 ∧ (InB (8 + x2) 20 ∧ (Ev 166 68 [.ref 69, .int x1, .int (x2 + 1)] [] (xsI h 109 (tn (8 + x2)) (xI h 110 (tn x2))) Q))))) : Ev 166 68 [.ref 69, .int x1, .int x2] [] h Q := by
  refine e_il o_166_68 rfl ?_
  refine e_al o_166_69 rfl ?_
  refine e_gR (r := 84) o_166_70 (sk_69 (h := h) hs) (sr_69_28 (h := h) hs) (by decide) ?_
  refine e_al o_166_73 rfl ?_
  refine e_gI o_166_74 (sk_69 (h := h) hs) ?_
  obtain ⟨q, k⟩ := k
  refine e_ia (n := 2) o_166_77 (sk_84 (h := h) hs) (sn_84 (h := h) hs) q ?_
  refine e_if_3 o_166_78 (fun z => ?_) (fun z => ?_)
  · have k := k.1 z
    refine e_il o_166_102 rfl ?_
    exact e_retZ o_166_103 k.1 k.2
  · have k := k.2 z
    refine e_al o_166_81 rfl ?_
    refine e_gR (r := 109) o_166_82 (sk_69 (h := h) hs) (sr_69_60 (h := h) hs) (by decide) ?_
    refine e_c 8 o_166_85 rfl ?_
    refine e_il o_166_87 rfl ?_
    refine e_bin o_166_88 rfl ?_
    refine e_al o_166_89 rfl ?_
    refine e_gR (r := 110) o_166_90 (sk_69 (h := h) hs) (sr_69_62 (h := h) hs) (by decide) ?_
    refine e_il o_166_93 rfl ?_
    obtain ⟨q, k⟩ := k
    refine e_ia (n := 6) o_166_94 (sk_110 (h := h) hs) (sn_110 (h := h) hs) q ?_
    obtain ⟨q, k⟩ := k
    refine e_ias (n := 20) o_166_95 (sk_109 (h := h) hs) (by decide) (sn_109 (h := h) hs) q ?_
    refine e_inc (ls' := [.ref 69, .int x1, .int (x2 + 1)]) o_166_96 rfl rfl rfl ?_
    refine e_go o_166_99 ?_
    exact Ev.less (ls := [.ref 69, .int x1, .int (x2 + 1)]) ⟨Or.inr rfl, Or.inr rfl, Or.inr rfl, trivial⟩ k
set_option maxHeartbeats 4000000 in
set_option maxRecDepth 100000 in
theorem B_167_0  {h : XH} {Q : Value → XH → Prop} (hs : Sh h) (k : Ev 167 2 [.ref 69, .int 0] [] h Q) : Ev 167 0 (x_ini 167 [.ref 69]) [] h Q := by
  rw [show x_ini 167 [.ref 69] = [.ref 69, .null] from x_inid ml_167 rfl]
  refine e_c 0 o_167_0 rfl ?_
  refine e_is (ls' := [.ref 69, .int 0]) o_167_1 (Nat.le_of_ble_eq_true rfl) rfl ?_
  exact Ev.less (ls := [.ref 69, .int 0]) ⟨Or.inr rfl, Or.inr rfl, trivial⟩ k
set_option maxHeartbeats 4000000 in
set_option maxRecDepth 100000 in
theorem B_167_2 {x1 : Int32} {h : XH} {Q : Value → XH → Prop} (hs : Sh h) (k : ((14 ≤ x1) → InB 15 20 ∧ (InB 15 16 ∧ (Q .null (xsI h 106 (tn 15) (xI h 109 (tn 15)))))) ∧ (¬ (14 ≤ x1) → InB x1 20 ∧ (InB x1 16 ∧ (Ev 167 2 [.ref 69, .int (x1 + 1)] [] (xsI h 106 (tn x1) (xI h 109 (tn x1))) Q)))) : Ev 167 2 [.ref 69, .int x1] [] h Q := by
  refine e_il o_167_2 rfl ?_
  refine e_c 14 o_167_3 rfl ?_
  refine e_if_3 o_167_5 (fun z => ?_) (fun z => ?_)
  · have k := k.1 z
    refine e_al o_167_26 rfl ?_
    refine e_gR (r := 106) o_167_27 (sk_69 (h := h) hs) (sr_69_56 (h := h) hs) (by decide) ?_
    refine e_c 15 o_167_30 rfl ?_
    refine e_al o_167_32 rfl ?_
    refine e_gR (r := 109) o_167_33 (sk_69 (h := h) hs) (sr_69_60 (h := h) hs) (by decide) ?_
    refine e_c 15 o_167_36 rfl ?_
    obtain ⟨q, k⟩ := k
    refine e_ia (n := 20) o_167_38 (sk_109 (h := h) hs) (sn_109 (h := h) hs) q ?_
    obtain ⟨q, k⟩ := k
    refine e_ias (n := 16) o_167_39 (sk_106 (h := h) hs) (by decide) (sn_106 (h := h) hs) q ?_
    exact e_ret0 o_167_40 k
  · have k := k.2 z
    refine e_al o_167_8 rfl ?_
    refine e_gR (r := 106) o_167_9 (sk_69 (h := h) hs) (sr_69_56 (h := h) hs) (by decide) ?_
    refine e_il o_167_12 rfl ?_
    refine e_al o_167_13 rfl ?_
    refine e_gR (r := 109) o_167_14 (sk_69 (h := h) hs) (sr_69_60 (h := h) hs) (by decide) ?_
    refine e_il o_167_17 rfl ?_
    obtain ⟨q, k⟩ := k
    refine e_ia (n := 20) o_167_18 (sk_109 (h := h) hs) (sn_109 (h := h) hs) q ?_
    obtain ⟨q, k⟩ := k
    refine e_ias (n := 16) o_167_19 (sk_106 (h := h) hs) (by decide) (sn_106 (h := h) hs) q ?_
    refine e_inc (ls' := [.ref 69, .int (x1 + 1)]) o_167_20 rfl rfl rfl ?_
    refine e_go o_167_23 ?_
    exact Ev.less (ls := [.ref 69, .int (x1 + 1)]) ⟨Or.inr rfl, Or.inr rfl, trivial⟩ k
set_option maxHeartbeats 4000000 in
set_option maxRecDepth 100000 in
theorem B_168_0 {x1 : Int32} {h : XH} {Q : Value → XH → Prop} (hs : Sh h) (k : InB 14 20 ∧ (((¬ (((xI h 109 (tn 14)) >>> (x1 &&& 31)) &&& 1) = (1 : Int32)) → InB ((6 * (xI h 69 18)) + x1) 12 ∧ (InB ((6 * (xI h 69 18)) + x1) 12 ∧ (ClI 169 [.ref 69, .int x1] h (fun v2 h1 => Sh h1 ∧ (InB ((6 * (xI h 69 18)) + x1) 12 ∧ (((¬ (xI h1 85 (tn ((6 * (xI h 69 18)) + x1))) = 2) → InB ((6 * (xI h 69 18)) + x1) 12 ∧ (((¬ (xI h1 85 (tn ((6 * (xI h 69 18)) + x1))) = 0) → ((v2 ≤ 0) → Q (.int 0) h1) ∧ (¬ (v2 ≤ 0) → Q (.int 4) h1)) ∧ (¬ (¬ (xI h1 85 (tn ((6 * (xI h 69 18)) + x1))) = 0) → ((¬ v2 = ((xI h 87 (tn ((6 * (xI h 69 18)) + x1))) - (xI h 86 (tn ((6 * (xI h 69 18)) + x1))))) → Q (.int 0) h1) ∧ (¬ (¬ v2 = ((xI h 87 (tn ((6 * (xI h 69 18)) + x1))) - (xI h 86 (tn ((6 * (xI h 69 18)) + x1))))) → Q (.int 4) h1)))) ∧ (¬ (¬ (xI h1 85 (tn ((6 * (xI h 69 18)) + x1))) = 2) → ¬ ((xI h 87 (tn ((6 * (xI h 69 18)) + x1))) - (xI h 86 (tn ((6 * (xI h 69 18)) + x1)))) = 0 ∧ (Q (.int ((4 * v2) / ((xI h 87 (tn ((6 * (xI h 69 18)) + x1))) - (xI h 86 (tn ((6 * (xI h 69 18)) + x1)))))) h1)))))))) ∧ (¬ (¬ (((xI h 109 (tn 14)) >>> (x1 &&& 31)) &&& 1) = (1 : Int32)) → Q (.int 0) h))) : Ev 168 0 (x_ini 168 [.ref 69, .int x1]) [] h Q := by
  rw [show x_ini 168 [.ref 69, .int x1] = [.ref 69, .int x1, .null, .null, .null] from x_inid ml_168 rfl]
  refine e_al o_168_0 rfl ?_
  refine e_gR (r := 109) o_168_1 (sk_69 (h := h) hs) (sr_69_60 (h := h) hs) (by decide) ?_
  refine e_c 14 o_168_4 rfl ?_
  obtain ⟨q, k⟩ := k
  refine e_ia (n := 20) o_168_6 (sk_109 (h := h) hs) (sn_109 (h := h) hs) q ?_
  refine e_il o_168_7 rfl ?_
  refine e_bin o_168_8 rfl ?_
  refine e_c 1 o_168_9 rfl ?_
  refine e_bin o_168_10 rfl ?_
  refine e_c 1 o_168_11 rfl ?_
  refine e_if_1 o_168_12 (fun z => ?_) (fun z => ?_)
  · have k := k.1 z
    refine e_c 6 o_168_17 rfl ?_
    refine e_al o_168_19 rfl ?_
    refine e_gI o_168_20 (sk_69 (h := h) hs) ?_
    refine e_bin o_168_23 rfl ?_
    refine e_il o_168_24 rfl ?_
    refine e_bin o_168_25 rfl ?_
    refine e_is (ls' := [.ref 69, .int x1, .int ((6 * (xI h 69 18)) + x1), .null, .null]) o_168_26 (Nat.le_of_ble_eq_true rfl) rfl ?_
    refine e_al o_168_27 rfl ?_
    refine e_gR (r := 87) o_168_28 (sk_69 (h := h) hs) (sr_69_31 (h := h) hs) (by decide) ?_
    refine e_il o_168_31 rfl ?_
    obtain ⟨q, k⟩ := k
    refine e_ia (n := 12) o_168_32 (sk_87 (h := h) hs) (sn_87 (h := h) hs) q ?_
    refine e_al o_168_33 rfl ?_
    refine e_gR (r := 86) o_168_34 (sk_69 (h := h) hs) (sr_69_30 (h := h) hs) (by decide) ?_
    refine e_il o_168_37 rfl ?_
    obtain ⟨q, k⟩ := k
    refine e_ia (n := 12) o_168_38 (sk_86 (h := h) hs) (sn_86 (h := h) hs) q ?_
    refine e_bin o_168_39 rfl ?_
    refine e_is (ls' := [.ref 69, .int x1, .int ((6 * (xI h 69 18)) + x1), .int ((xI h 87 (tn ((6 * (xI h 69 18)) + x1))) - (xI h 86 (tn ((6 * (xI h 69 18)) + x1)))), .null]) o_168_40 (Nat.le_of_ble_eq_true rfl) rfl ?_
    refine e_al o_168_41 rfl ?_
    refine e_il o_168_42 rfl ?_
    refine e_clI (as := [.ref 69, .int x1]) (rest := []) o_168_43 rfl rfl (x_okd cl_168_169 ml_169 (Nat.le_of_ble_eq_true rfl) (Nat.le_of_ble_eq_true rfl)) (x_rc0 (ci := 9) (sk_69 (h := h) hs) mo_169) k ?_
    rintro v2 h1 ⟨sh1, k⟩
    refine e_is (ls' := [.ref 69, .int x1, .int ((6 * (xI h 69 18)) + x1), .int ((xI h 87 (tn ((6 * (xI h 69 18)) + x1))) - (xI h 86 (tn ((6 * (xI h 69 18)) + x1)))), .int v2]) o_168_46 (Nat.le_of_ble_eq_true rfl) rfl ?_
    refine e_al o_168_48 rfl ?_
    refine e_gR (r := 85) o_168_49 (sk_69 (h := h1) sh1) (sr_69_29 (h := h1) sh1) (by decide) ?_
    refine e_il o_168_52 rfl ?_
    obtain ⟨q, k⟩ := k
    refine e_ia (n := 12) o_168_53 (sk_85 (h := h1) sh1) (sn_85 (h := h1) sh1) q ?_
    refine e_c 2 o_168_54 rfl ?_
    refine e_if_1 o_168_55 (fun z => ?_) (fun z => ?_)
    · have k := k.1 z
      refine e_al o_168_65 rfl ?_
      refine e_gR (r := 85) o_168_66 (sk_69 (h := h1) sh1) (sr_69_29 (h := h1) sh1) (by decide) ?_
      refine e_il o_168_69 rfl ?_
      obtain ⟨q, k⟩ := k
      refine e_ia (n := 12) o_168_70 (sk_85 (h := h1) sh1) (sn_85 (h := h1) sh1) q ?_
      refine e_i0_1 o_168_71 (fun z => ?_) (fun z => ?_)
      · have k := k.1 z
        refine e_il o_168_83 rfl ?_
        refine e_i0_5 o_168_85 (fun z => ?_) (fun z => ?_)
        · have k := k.1 z
          refine e_c 0 o_168_92 rfl ?_
          exact e_retI o_168_93 k
        · have k := k.2 z
          refine e_c 4 o_168_88 rfl ?_
          refine e_go o_168_89 ?_
          exact e_retI o_168_93 k
      · have k := k.2 z
        refine e_il o_168_74 rfl ?_
        refine e_il o_168_76 rfl ?_
        refine e_if_1 o_168_77 (fun z => ?_) (fun z => ?_)
        · have k := k.1 z
          refine e_c 0 o_168_92 rfl ?_
          exact e_retI o_168_93 k
        · have k := k.2 z
          refine e_go o_168_80 ?_
          refine e_c 4 o_168_88 rfl ?_
          refine e_go o_168_89 ?_
          exact e_retI o_168_93 k
    · have k := k.2 z
      refine e_c 4 o_168_58 rfl ?_
      refine e_il o_168_59 rfl ?_
      refine e_bin o_168_61 rfl ?_
      refine e_il o_168_62 rfl ?_
      obtain ⟨q, k⟩ := k
      refine e_div o_168_63 q ?_
      exact e_retI o_168_64 k
  · have k := k.2 z
    refine e_c 0 o_168_15 rfl ?_
    exact e_retI o_168_16 k
set_option maxHeartbeats 4000000 in
set_option maxRecDepth 100000 in
theorem B_169_0 {x1 : Int32} {h : XH} {Q : Value → XH → Prop} (hs : Sh h) (k : InB ((6 * (xI h 69 18)) + x1) 12 ∧ (Ev 169 20 [.ref 69, .int x1, .int ((6 * (xI h 69 18)) + x1), .int 0, .int (xI h 86 (tn ((6 * (xI h 69 18)) + x1)))] [] h Q)) : Ev 169 0 (x_ini 169 [.ref 69, .int x1]) [] h Q := by
  rw [show x_ini 169 [.ref 69, .int x1] = [.ref 69, .int x1, .null, .null, .null] from x_inid ml_169 rfl]
  refine e_c 6 o_169_0 rfl ?_
  refine e_al o_169_2 rfl ?_
  refine e_gI o_169_3 (sk_69 (h := h) hs) ?_
  refine e_bin o_169_6 rfl ?_
  refine e_il o_169_7 rfl ?_
  refine e_bin o_169_8 rfl ?_
  refine e_is (ls' := [.ref 69, .int x1, .int ((6 * (xI h 69 18)) + x1), .null, .null]) o_169_9 (Nat.le_of_ble_eq_true rfl) rfl ?_
  refine e_c 0 o_169_10 rfl ?_
  refine e_is (ls' := [.ref 69, .int x1, .int ((6 * (xI h 69 18)) + x1), .int 0, .null]) o_169_11 (Nat.le_of_ble_eq_true rfl) rfl ?_
  refine e_al o_169_12 rfl ?_
  refine e_gR (r := 86) o_169_13 (sk_69 (h := h) hs) (sr_69_30 (h := h) hs) (by decide) ?_
  refine e_il o_169_16 rfl ?_
  obtain ⟨q, k⟩ := k
  refine e_ia (n := 12) o_169_17 (sk_86 (h := h) hs) (sn_86 (h := h) hs) q ?_
  refine e_is (ls' := [.ref 69, .int x1, .int ((6 * (xI h 69 18)) + x1), .int 0, .int (xI h 86 (tn ((6 * (xI h 69 18)) + x1)))]) o_169_18 (Nat.le_of_ble_eq_true rfl) rfl ?_
  exact Ev.less (ls := [.ref 69, .int x1, .int ((6 * (xI h 69 18)) + x1), .int 0, .int (xI h 86 (tn ((6 * (xI h 69 18)) + x1)))]) ⟨Or.inr rfl, Or.inr rfl, Or.inr rfl, Or.inr rfl, Or.inr rfl, trivial⟩ k
set_option maxHeartbeats 4000000 in
set_option maxRecDepth 100000 in
theorem B_169_20 {x1 : Int32} {x2 : Int32} {x3 : Int32} {x4 : Int32} {h : XH} {Q : Value → XH → Prop} (hs : Sh h) (k : InB x2 12 ∧ ((((xI h 87 (tn x2)) ≤ x4) → Q (.int x3) h) ∧ (¬ ((xI h 87 (tn x2)) ≤ x4) → ClI 170 [.ref 69, .int x1, .int x4] h (fun v2 h1 => Sh h1 ∧ (((¬ v2 = 1) → Ev 169 20 [.ref 69, .int x1, .int x2, .int x3, .int (x4 + 1)] [] h1 Q) ∧ (¬ (¬ v2 = 1) → Ev 169 20 [.ref 69, .int x1, .int x2, .int (x3 + 1), .int (x4 + 1)] [] h1 Q)))))) : Ev 169 20 [.ref 69, .int x1, .int x2, .int x3, .int x4] [] h Q := by
  refine e_il o_169_20 rfl ?_
  refine e_al o_169_22 rfl ?_
  refine e_gR (r := 87) o_169_23 (sk_69 (h := h) hs) (sr_69_31 (h := h) hs) (by decide) ?_
  refine e_il o_169_26 rfl ?_
  obtain ⟨q, k⟩ := k
  refine e_ia (n := 12) o_169_27 (sk_87 (h := h) hs) (sn_87 (h := h) hs) q ?_
  refine e_if_3 o_169_28 (fun z => ?_) (fun z => ?_)
  · have k := k.1 z
    refine e_il o_169_51 rfl ?_
    exact e_retI o_169_52 k
  · have k := k.2 z
    refine e_al o_169_31 rfl ?_
    refine e_il o_169_32 rfl ?_
    refine e_il o_169_33 rfl ?_
    refine e_clI (as := [.ref 69, .int x1, .int x4]) (rest := []) o_169_35 rfl rfl (x_okd cl_169_170 ml_170 (Nat.le_of_ble_eq_true rfl) (Nat.le_of_ble_eq_true rfl)) (x_rc0 (ci := 9) (sk_69 (h := h) hs) mo_170) k ?_
    rintro v2 h1 ⟨sh1, k⟩
    refine e_c 1 o_169_38 rfl ?_
    refine e_if_1 o_169_39 (fun z => ?_) (fun z => ?_)
    · have k := k.1 z
      refine e_inc (ls' := [.ref 69, .int x1, .int x2, .int x3, .int (x4 + 1)]) o_169_45 rfl rfl rfl ?_
      refine e_go o_169_48 ?_
      exact Ev.less (ls := [.ref 69, .int x1, .int x2, .int x3, .int (x4 + 1)]) ⟨Or.inr rfl, Or.inr rfl, Or.inr rfl, Or.inr rfl, Or.inr rfl, trivial⟩ k
    · have k := k.2 z
      refine e_inc (ls' := [.ref 69, .int x1, .int x2, .int (x3 + 1), .int x4]) o_169_42 rfl rfl rfl ?_
      refine e_inc (ls' := [.ref 69, .int x1, .int x2, .int (x3 + 1), .int (x4 + 1)]) o_169_45 rfl rfl rfl ?_
      refine e_go o_169_48 ?_
      exact Ev.less (ls := [.ref 69, .int x1, .int x2, .int (x3 + 1), .int (x4 + 1)]) ⟨Or.inr rfl, Or.inr rfl, Or.inr rfl, Or.inr rfl, Or.inr rfl, trivial⟩ k
set_option maxHeartbeats 4000000 in
set_option maxRecDepth 100000 in
theorem B_170_0 {x1 : Int32} {x2 : Int32} {h : XH} {Q : Value → XH → Prop} (hs : Sh h) (k : InB (8 + x1) 16 ∧ (InB 14 16 ∧ (InB x2 72 ∧ (InB x2 72 ∧ (ClI 171 [.ref 69, .int (xI (xsI (xsI h 106 (tn 14) (xI h 106 (tn (8 + x1)))) 69 58 0) 89 (tn x2)), .int (xI (xsI (xsI h 106 (tn 14) (xI h 106 (tn (8 + x1)))) 69 58 0) 90 (tn x2))] (xsI (xsI h 106 (tn 14) (xI h 106 (tn (8 + x1)))) 69 58 0) (fun v2 h1 => Sh h1 ∧ ((((xI h1 69 58) = 0) → InB x2 72 ∧ (InB x2 72 ∧ (ClI 171 [.ref 69, .int (xI h1 90 (tn x2)), .int (xI h1 91 (tn x2))] h1 (fun v4 h3 => Sh h3 ∧ ((((xI h3 69 58) = 0) → InB x2 72 ∧ (((¬ (xI h3 88 (tn x2)) = 0) → InB x2 72 ∧ (((¬ (xI h3 88 (tn x2)) = 1) → ((v2 ≤ v4) → (((0 : Int32) = 0) → Q (.int 0) h3) ∧ (¬ ((0 : Int32) = 0) → Q (.int 1) h3)) ∧ (¬ (v2 ≤ v4) → (((1 : Int32) = 0) → Q (.int 0) h3) ∧ (¬ ((1 : Int32) = 0) → Q (.int 1) h3))) ∧ (¬ (¬ (xI h3 88 (tn x2)) = 1) → ((¬ v2 = v4) → (((0 : Int32) = 0) → Q (.int 0) h3) ∧ (¬ ((0 : Int32) = 0) → Q (.int 1) h3)) ∧ (¬ (¬ v2 = v4) → (((1 : Int32) = 0) → Q (.int 0) h3) ∧ (¬ ((1 : Int32) = 0) → Q (.int 1) h3))))) ∧ (¬ (¬ (xI h3 88 (tn x2)) = 0) → ((v4 ≤ v2) → (((0 : Int32) = 0) → Q (.int 0) h3) ∧ (¬ ((0 : Int32) = 0) → Q (.int 1) h3)) ∧ (¬ (v4 ≤ v2) → (((1 : Int32) = 0) → Q (.int 0) h3) ∧ (¬ ((1 : Int32) = 0) → Q (.int 1) h3))))) ∧ (¬ ((xI h3 69 58) = 0) → Q (.int 2) h3)))))) ∧ (¬ ((xI h1 69 58) = 0) → Q (.int 2) h1)))))))) : Ev 170 0 (x_ini 170 [.ref 69, .int x1, .int x2]) [] h Q := by
  rw [show x_ini 170 [.ref 69, .int x1, .int x2] = [.ref 69, .int x1, .int x2, .null, .null, .null] from x_inid ml_170 rfl]
  refine e_al o_170_0 rfl ?_
  refine e_gR (r := 106) o_170_1 (sk_69 (h := h) hs) (sr_69_56 (h := h) hs) (by decide) ?_
  refine e_c 14 o_170_4 rfl ?_
  refine e_al o_170_6 rfl ?_
  refine e_gR (r := 106) o_170_7 (sk_69 (h := h) hs) (sr_69_56 (h := h) hs) (by decide) ?_
  refine e_c 8 o_170_10 rfl ?_
  refine e_il o_170_12 rfl ?_
  refine e_bin o_170_13 rfl ?_
  obtain ⟨q, k⟩ := k
  refine e_ia (n := 16) o_170_14 (sk_106 (h := h) hs) (sn_106 (h := h) hs) q ?_
  obtain ⟨q, k⟩ := k
  refine e_ias (n := 16) o_170_15 (sk_106 (h := h) hs) (by decide) (sn_106 (h := h) hs) q ?_
  refine e_al o_170_16 rfl ?_
  refine e_c 0 o_170_17 rfl ?_
  refine e_pZ o_170_18 (sk_69 (h := h) hs) (by decide) ?_
  refine e_al o_170_21 rfl ?_
  refine e_al o_170_22 rfl ?_
  refine e_gR (r := 89) o_170_23 (sk_69 (h := h) hs) (sr_69_34 (h := h) hs) (by decide) ?_
  refine e_il o_170_26 rfl ?_
  obtain ⟨q, k⟩ := k
  refine e_ia (n := 72) o_170_27 (sk_89 (h := h) hs) (sn_89 (h := h) hs) q ?_
  refine e_al o_170_28 rfl ?_
  refine e_gR (r := 90) o_170_29 (sk_69 (h := h) hs) (sr_69_35 (h := h) hs) (by decide) ?_
  refine e_il o_170_32 rfl ?_
  obtain ⟨q, k⟩ := k
  refine e_ia (n := 72) o_170_33 (sk_90 (h := h) hs) (sn_90 (h := h) hs) q ?_
  refine e_clI (as := [.ref 69, .int (xI (xsI (xsI h 106 (tn 14) (xI h 106 (tn (8 + x1)))) 69 58 0) 89 (tn x2)), .int (xI (xsI (xsI h 106 (tn 14) (xI h 106 (tn (8 + x1)))) 69 58 0) 90 (tn x2))]) (rest := []) o_170_34 rfl rfl (x_okd cl_170_171 ml_171 (Nat.le_of_ble_eq_true rfl) (Nat.le_of_ble_eq_true rfl)) (x_rc0 (ci := 9) (sk_69 (h := h) hs) mo_171) k ?_
  rintro v2 h1 ⟨sh1, k⟩
  refine e_is (ls' := [.ref 69, .int x1, .int x2, .int v2, .null, .null]) o_170_37 (Nat.le_of_ble_eq_true rfl) rfl ?_
  refine e_al o_170_38 rfl ?_
  refine e_gI o_170_39 (sk_69 (h := h1) sh1) ?_
  refine e_i0_0 o_170_42 (fun z => ?_) (fun z => ?_)
  · have k := k.1 z
    refine e_al o_170_47 rfl ?_
    refine e_al o_170_48 rfl ?_
    refine e_gR (r := 90) o_170_49 (sk_69 (h := h1) sh1) (sr_69_35 (h := h1) sh1) (by decide) ?_
    refine e_il o_170_52 rfl ?_
    obtain ⟨q, k⟩ := k
    refine e_ia (n := 72) o_170_53 (sk_90 (h := h1) sh1) (sn_90 (h := h1) sh1) q ?_
    refine e_al o_170_54 rfl ?_
    refine e_gR (r := 91) o_170_55 (sk_69 (h := h1) sh1) (sr_69_36 (h := h1) sh1) (by decide) ?_
    refine e_il o_170_58 rfl ?_
    obtain ⟨q, k⟩ := k
    refine e_ia (n := 72) o_170_59 (sk_91 (h := h1) sh1) (sn_91 (h := h1) sh1) q ?_
    refine e_clI (as := [.ref 69, .int (xI h1 90 (tn x2)), .int (xI h1 91 (tn x2))]) (rest := []) o_170_60 rfl rfl (x_okd cl_170_171 ml_171 (Nat.le_of_ble_eq_true rfl) (Nat.le_of_ble_eq_true rfl)) (x_rc0 (ci := 9) (sk_69 (h := h1) sh1) mo_171) k ?_
    rintro v4 h3 ⟨sh3, k⟩
    refine e_is (ls' := [.ref 69, .int x1, .int x2, .int v2, .int v4, .null]) o_170_63 (Nat.le_of_ble_eq_true rfl) rfl ?_
    refine e_al o_170_65 rfl ?_
    refine e_gI o_170_66 (sk_69 (h := h3) sh3) ?_
    refine e_i0_0 o_170_69 (fun z => ?_) (fun z => ?_)
    · have k := k.1 z
      refine e_al o_170_74 rfl ?_
      refine e_gR (r := 88) o_170_75 (sk_69 (h := h3) sh3) (sr_69_33 (h := h3) sh3) (by decide) ?_
      refine e_il o_170_78 rfl ?_
      obtain ⟨q, k⟩ := k
      refine e_ia (n := 72) o_170_79 (sk_88 (h := h3) sh3) (sn_88 (h := h3) sh3) q ?_
      refine e_i0_1 o_170_80 (fun z => ?_) (fun z => ?_)
      · have k := k.1 z
        refine e_al o_170_97 rfl ?_
        refine e_gR (r := 88) o_170_98 (sk_69 (h := h3) sh3) (sr_69_33 (h := h3) sh3) (by decide) ?_
        refine e_il o_170_101 rfl ?_
        obtain ⟨q, k⟩ := k
        refine e_ia (n := 72) o_170_102 (sk_88 (h := h3) sh3) (sn_88 (h := h3) sh3) q ?_
        refine e_c 1 o_170_103 rfl ?_
        refine e_if_1 o_170_104 (fun z => ?_) (fun z => ?_)
        · have k := k.1 z
          refine e_il o_170_121 rfl ?_
          refine e_il o_170_122 rfl ?_
          refine e_if_5 o_170_124 (fun z => ?_) (fun z => ?_)
          · have k := k.1 z
            refine e_c 0 o_170_131 rfl ?_
            refine e_is (ls' := [.ref 69, .int x1, .int x2, .int v2, .int v4, .int 0]) o_170_132 (Nat.le_of_ble_eq_true rfl) rfl ?_
            refine e_il o_170_134 rfl ?_
            refine e_i0_0 o_170_136 (fun z => ?_) (fun z => ?_)
            · have k := k.1 z
              refine e_c 0 o_170_143 rfl ?_
              exact e_retI o_170_144 k
            · have k := k.2 z
              refine e_c 1 o_170_139 rfl ?_
              refine e_go o_170_140 ?_
              exact e_retI o_170_144 k
          · have k := k.2 z
            refine e_c 1 o_170_127 rfl ?_
            refine e_go o_170_128 ?_
            refine e_is (ls' := [.ref 69, .int x1, .int x2, .int v2, .int v4, .int 1]) o_170_132 (Nat.le_of_ble_eq_true rfl) rfl ?_
            refine e_il o_170_134 rfl ?_
            refine e_i0_0 o_170_136 (fun z => ?_) (fun z => ?_)
            · have k := k.1 z
              refine e_c 0 o_170_143 rfl ?_
              exact e_retI o_170_144 k
            · have k := k.2 z
              refine e_c 1 o_170_139 rfl ?_
              refine e_go o_170_140 ?_
              exact e_retI o_170_144 k
        · have k := k.2 z
          refine e_il o_170_107 rfl ?_
          refine e_il o_170_108 rfl ?_
          refine e_if_1 o_170_110 (fun z => ?_) (fun z => ?_)
          · have k := k.1 z
            refine e_c 0 o_170_117 rfl ?_
            refine e_go o_170_118 ?_
            refine e_is (ls' := [.ref 69, .int x1, .int x2, .int v2, .int v4, .int 0]) o_170_132 (Nat.le_of_ble_eq_true rfl) rfl ?_
            refine e_il o_170_134 rfl ?_
            refine e_i0_0 o_170_136 (fun z => ?_) (fun z => ?_)
            · have k := k.1 z
              refine e_c 0 o_170_143 rfl ?_
              exact e_retI o_170_144 k
            · have k := k.2 z
              refine e_c 1 o_170_139 rfl ?_
              refine e_go o_170_140 ?_
              exact e_retI o_170_144 k
          · have k := k.2 z
            refine e_c 1 o_170_113 rfl ?_
            refine e_go o_170_114 ?_
            refine e_is (ls' := [.ref 69, .int x1, .int x2, .int v2, .int v4, .int 1]) o_170_132 (Nat.le_of_ble_eq_true rfl) rfl ?_
            refine e_il o_170_134 rfl ?_
            refine e_i0_0 o_170_136 (fun z => ?_) (fun z => ?_)
            · have k := k.1 z
              refine e_c 0 o_170_143 rfl ?_
              exact e_retI o_170_144 k
            · have k := k.2 z
              refine e_c 1 o_170_139 rfl ?_
              refine e_go o_170_140 ?_
              exact e_retI o_170_144 k
      · have k := k.2 z
        refine e_il o_170_83 rfl ?_
        refine e_il o_170_84 rfl ?_
        refine e_if_3 o_170_86 (fun z => ?_) (fun z => ?_)
        · have k := k.1 z
          refine e_c 0 o_170_93 rfl ?_
          refine e_go o_170_94 ?_
          refine e_is (ls' := [.ref 69, .int x1, .int x2, .int v2, .int v4, .int 0]) o_170_132 (Nat.le_of_ble_eq_true rfl) rfl ?_
          refine e_il o_170_134 rfl ?_
          refine e_i0_0 o_170_136 (fun z => ?_) (fun z => ?_)
          · have k := k.1 z
            refine e_c 0 o_170_143 rfl ?_
            exact e_retI o_170_144 k
          · have k := k.2 z
            refine e_c 1 o_170_139 rfl ?_
            refine e_go o_170_140 ?_
            exact e_retI o_170_144 k
        · have k := k.2 z
          refine e_c 1 o_170_89 rfl ?_
          refine e_go o_170_90 ?_
          refine e_is (ls' := [.ref 69, .int x1, .int x2, .int v2, .int v4, .int 1]) o_170_132 (Nat.le_of_ble_eq_true rfl) rfl ?_
          refine e_il o_170_134 rfl ?_
          refine e_i0_0 o_170_136 (fun z => ?_) (fun z => ?_)
          · have k := k.1 z
            refine e_c 0 o_170_143 rfl ?_
            exact e_retI o_170_144 k
          · have k := k.2 z
            refine e_c 1 o_170_139 rfl ?_
            refine e_go o_170_140 ?_
            exact e_retI o_170_144 k
    · have k := k.2 z
      refine e_c 2 o_170_72 rfl ?_
      exact e_retI o_170_73 k
  · have k := k.2 z
    refine e_c 2 o_170_45 rfl ?_
    exact e_retI o_170_46 k
set_option maxHeartbeats 4000000 in
set_option maxRecDepth 100000 in
theorem B_171_0 {x1 : Int32} {x2 : Int32} {h : XH} {Q : Value → XH → Prop} (hs : Sh h) (k : Ev 171 5 [.ref 69, .null, .int x2, .int 0, .int x1, .null, .null, .null] [] h Q) : Ev 171 0 (x_ini 171 [.ref 69, .int x1, .int x2]) [] h Q := by
  rw [show x_ini 171 [.ref 69, .int x1, .int x2] = [.ref 69, .int x1, .int x2, .null, .null, .null, .null, .null] from x_inid ml_171 rfl]
  refine e_c 0 o_171_0 rfl ?_
  refine e_is (ls' := [.ref 69, .int x1, .int x2, .int 0, .null, .null, .null, .null]) o_171_1 (Nat.le_of_ble_eq_true rfl) rfl ?_
  refine e_il o_171_2 rfl ?_
  refine e_is (ls' := [.ref 69, .int x1, .int x2, .int 0, .int x1, .null, .null, .null]) o_171_3 (Nat.le_of_ble_eq_true rfl) rfl ?_
  exact Ev.less (ls := [.ref 69, .null, .int x2, .int 0, .int x1, .null, .null, .null]) ⟨Or.inr rfl, Or.inl rfl, Or.inr rfl, Or.inr rfl, Or.inr rfl, Or.inl rfl, Or.inl rfl, Or.inl rfl, trivial⟩ k
set_option maxHeartbeats 4000000 in
set_option maxRecDepth 100000 in
theorem B_171_5 {x2 : Int32} {x3 : Int32} {x4 : Int32} {h : XH} {Q : Value → XH → Prop} (hs : Sh h) (k : ((x2 ≤ x4) → InB 0 400 ∧ (Q (.int (xI h 107 (tn 0))) h)) ∧ (¬ (x2 ≤ x4) → InB x4 840 ∧ (((2 ≤ (xI h 103 (tn x4))) → InB ((x3 + (-1)) - 1) 400 ∧ (InB (x3 + (-1)) 400 ∧ (((¬ (xI h 103 (tn x4)) = 5) → Ev 171 104 [.ref 69, .null, .int x2, .int (x3 + (-1)), .int x4, .int (xI h 103 (tn x4)), .int (xI h 107 (tn ((x3 + (-1)) - 1))), .int (xI h 107 (tn (x3 + (-1))))] [] h Q) ∧ (¬ (¬ (xI h 103 (tn x4)) = 5) → ((¬ (xI h 107 (tn (x3 + (-1)))) = 0) → Ev 171 104 [.ref 69, .null, .int x2, .int (x3 + (-1)), .int x4, .int (xI h 103 (tn x4)), .int (xI h 107 (tn ((x3 + (-1)) - 1))), .int (xI h 107 (tn (x3 + (-1))))] [] h Q) ∧ (¬ (¬ (xI h 107 (tn (x3 + (-1)))) = 0) → Q (.int 0) (xsI h 69 58 1)))))) ∧ (¬ (2 ≤ (xI h 103 (tn x4))) → ((¬ (xI h 103 (tn x4)) = 0) → InB x4 840 ∧ (InB (xI h 104 (tn x4)) 16 ∧ (InB x3 400 ∧ (Ev 171 159 [.ref 69, .null, .int x2, .int (x3 + 1), .int x4, .null, .null, .null] [] (xsI h 107 (tn x3) (xI h 106 (tn (xI h 104 (tn x4))))) Q)))) ∧ (¬ (¬ (xI h 103 (tn x4)) = 0) → InB x4 840 ∧ (InB x3 400 ∧ (Ev 171 159 [.ref 69, .null, .int x2, .int (x3 + 1), .int x4, .null, .null, .null] [] (xsI h 107 (tn x3) (xI h 104 (tn x4))) Q))))))) : Ev 171 5 [.ref 69, .null, .int x2, .int x3, .int x4, .null, .null, .null] [] h Q := by
  refine e_il o_171_5 rfl ?_
  refine e_il o_171_7 rfl ?_
  refine e_if_3 o_171_8 (fun z => ?_) (fun z => ?_)
  · have k := k.1 z
    refine e_al o_171_165 rfl ?_
    refine e_gR (r := 107) o_171_166 (sk_69 (h := h) hs) (sr_69_57 (h := h) hs) (by decide) ?_
    refine e_c 0 o_171_169 rfl ?_
    obtain ⟨q, k⟩ := k
    refine e_ia (n := 400) o_171_170 (sk_107 (h := h) hs) (sn_107 (h := h) hs) q ?_
    exact e_retI o_171_171 k
  · have k := k.2 z
    refine e_al o_171_11 rfl ?_
    refine e_gR (r := 103) o_171_12 (sk_69 (h := h) hs) (sr_69_52 (h := h) hs) (by decide) ?_
    refine e_il o_171_15 rfl ?_
    obtain ⟨q, k⟩ := k
    refine e_ia (n := 840) o_171_17 (sk_103 (h := h) hs) (sn_103 (h := h) hs) q ?_
    refine e_is (ls' := [.ref 69, .null, .int x2, .int x3, .int x4, .int (xI h 103 (tn x4)), .null, .null]) o_171_18 (Nat.le_of_ble_eq_true rfl) rfl ?_
    refine e_il o_171_20 rfl ?_
    refine e_c 2 o_171_22 rfl ?_
    refine e_if_3 o_171_23 (fun z => ?_) (fun z => ?_)
    · have k := k.1 z
      refine e_inc (ls' := [.ref 69, .null, .int x2, .int (x3 + (-1)), .int x4, .int (xI h 103 (tn x4)), .null, .null]) o_171_65 rfl rfl rfl ?_
      refine e_al o_171_68 rfl ?_
      refine e_gR (r := 107) o_171_69 (sk_69 (h := h) hs) (sr_69_57 (h := h) hs) (by decide) ?_
      refine e_il o_171_72 rfl ?_
      refine e_c 1 o_171_73 rfl ?_
      refine e_bin o_171_74 rfl ?_
      obtain ⟨q, k⟩ := k
      refine e_ia (n := 400) o_171_75 (sk_107 (h := h) hs) (sn_107 (h := h) hs) q ?_
      refine e_is (ls' := [.ref 69, .null, .int x2, .int (x3 + (-1)), .int x4, .int (xI h 103 (tn x4)), .int (xI h 107 (tn ((x3 + (-1)) - 1))), .null]) o_171_76 (Nat.le_of_ble_eq_true rfl) rfl ?_
      refine e_al o_171_78 rfl ?_
      refine e_gR (r := 107) o_171_79 (sk_69 (h := h) hs) (sr_69_57 (h := h) hs) (by decide) ?_
      refine e_il o_171_82 rfl ?_
      obtain ⟨q, k⟩ := k
      refine e_ia (n := 400) o_171_83 (sk_107 (h := h) hs) (sn_107 (h := h) hs) q ?_
      refine e_is (ls' := [.ref 69, .null, .int x2, .int (x3 + (-1)), .int x4, .int (xI h 103 (tn x4)), .int (xI h 107 (tn ((x3 + (-1)) - 1))), .int (xI h 107 (tn (x3 + (-1))))]) o_171_84 (Nat.le_of_ble_eq_true rfl) rfl ?_
      refine e_il o_171_86 rfl ?_
      refine e_c 5 o_171_88 rfl ?_
      refine e_if_1 o_171_89 (fun z => ?_) (fun z => ?_)
      · have k := k.1 z
        exact Ev.less (ls := [.ref 69, .null, .int x2, .int (x3 + (-1)), .int x4, .int (xI h 103 (tn x4)), .int (xI h 107 (tn ((x3 + (-1)) - 1))), .int (xI h 107 (tn (x3 + (-1))))]) ⟨Or.inr rfl, Or.inl rfl, Or.inr rfl, Or.inr rfl, Or.inr rfl, Or.inr rfl, Or.inr rfl, Or.inr rfl, trivial⟩ k
      · have k := k.2 z
        refine e_il o_171_92 rfl ?_
        refine e_i0_1 o_171_94 (fun z => ?_) (fun z => ?_)
        · have k := k.1 z
          exact Ev.less (ls := [.ref 69, .null, .int x2, .int (x3 + (-1)), .int x4, .int (xI h 103 (tn x4)), .int (xI h 107 (tn ((x3 + (-1)) - 1))), .int (xI h 107 (tn (x3 + (-1))))]) ⟨Or.inr rfl, Or.inl rfl, Or.inr rfl, Or.inr rfl, Or.inr rfl, Or.inr rfl, Or.inr rfl, Or.inr rfl, trivial⟩ k
        · have k := k.2 z
          refine e_al o_171_97 rfl ?_
          refine e_c 1 o_171_98 rfl ?_
          refine e_pZ o_171_99 (sk_69 (h := h) hs) (by decide) ?_
          refine e_c 0 o_171_102 rfl ?_
          exact e_retI o_171_103 k
    · have k := k.2 z
      refine e_al o_171_26 rfl ?_
      refine e_gR (r := 107) o_171_27 (sk_69 (h := h) hs) (sr_69_57 (h := h) hs) (by decide) ?_
      refine e_il o_171_30 rfl ?_
      refine e_il o_171_31 rfl ?_
      refine e_i0_1 o_171_33 (fun z => ?_) (fun z => ?_)
      · have k := k.1 z
        refine e_al o_171_46 rfl ?_
        refine e_gR (r := 106) o_171_47 (sk_69 (h := h) hs) (sr_69_56 (h := h) hs) (by decide) ?_
        refine e_al o_171_50 rfl ?_
        refine e_gR (r := 104) o_171_51 (sk_69 (h := h) hs) (sr_69_53 (h := h) hs) (by decide) ?_
        refine e_il o_171_54 rfl ?_
        obtain ⟨q, k⟩ := k
        refine e_ia (n := 840) o_171_56 (sk_104 (h := h) hs) (sn_104 (h := h) hs) q ?_
        obtain ⟨q, k⟩ := k
        refine e_ia (n := 16) o_171_57 (sk_106 (h := h) hs) (sn_106 (h := h) hs) q ?_
        obtain ⟨q, k⟩ := k
        refine e_ias (n := 400) o_171_58 (sk_107 (h := h) hs) (by decide) (sn_107 (h := h) hs) q ?_
        refine e_inc (ls' := [.ref 69, .null, .int x2, .int (x3 + 1), .int x4, .int (xI h 103 (tn x4)), .null, .null]) o_171_59 rfl rfl rfl ?_
        refine e_go o_171_62 ?_
        exact Ev.less (ls := [.ref 69, .null, .int x2, .int (x3 + 1), .int x4, .null, .null, .null]) ⟨Or.inr rfl, Or.inl rfl, Or.inr rfl, Or.inr rfl, Or.inr rfl, Or.inl rfl, Or.inl rfl, Or.inl rfl, trivial⟩ k
      · have k := k.2 z
        refine e_al o_171_36 rfl ?_
        refine e_gR (r := 104) o_171_37 (sk_69 (h := h) hs) (sr_69_53 (h := h) hs) (by decide) ?_
        refine e_il o_171_40 rfl ?_
        obtain ⟨q, k⟩ := k
        refine e_ia (n := 840) o_171_42 (sk_104 (h := h) hs) (sn_104 (h := h) hs) q ?_
        refine e_go o_171_43 ?_
        obtain ⟨q, k⟩ := k
        refine e_ias (n := 400) o_171_58 (sk_107 (h := h) hs) (by decide) (sn_107 (h := h) hs) q ?_
        refine e_inc (ls' := [.ref 69, .null, .int x2, .int (x3 + 1), .int x4, .int (xI h 103 (tn x4)), .null, .null]) o_171_59 rfl rfl rfl ?_
        refine e_go o_171_62 ?_
        exact Ev.less (ls := [.ref 69, .null, .int x2, .int (x3 + 1), .int x4, .null, .null, .null]) ⟨Or.inr rfl, Or.inl rfl, Or.inr rfl, Or.inr rfl, Or.inr rfl, Or.inl rfl, Or.inl rfl, Or.inl rfl, trivial⟩ k
set_option maxHeartbeats 4000000 in
set_option maxRecDepth 100000 in
theorem B_171_104 {x2 : Int32} {x3 : Int32} {x4 : Int32} {x5 : Int32} {x6 : Int32} {x7 : Int32} {h : XH} {Q : Value → XH → Prop} (hs : Sh h) (k : ((¬ x5 = 2) → ((¬ x5 = 3) → ((¬ x5 = 4) → ¬ x7 = 0 ∧ (InB (x3 - 1) 400 ∧ (Ev 171 159 [.ref 69, .null, .int x2, .int x3, .int x4, .null, .null, .null] [] (xsI h 107 (tn (x3 - 1)) (x6 / x7)) Q))) ∧ (¬ (¬ x5 = 4) → InB (x3 - 1) 400 ∧ (Ev 171 159 [.ref 69, .null, .int x2, .int x3, .int x4, .null, .null, .null] [] (xsI h 107 (tn (x3 - 1)) (x6 * x7)) Q))) ∧ (¬ (¬ x5 = 3) → InB (x3 - 1) 400 ∧ (Ev 171 159 [.ref 69, .null, .int x2, .int x3, .int x4, .null, .null, .null] [] (xsI h 107 (tn (x3 - 1)) (x6 - x7)) Q))) ∧ (¬ (¬ x5 = 2) → InB (x3 - 1) 400 ∧ (Ev 171 159 [.ref 69, .null, .int x2, .int x3, .int x4, .null, .null, .null] [] (xsI h 107 (tn (x3 - 1)) (x6 + x7)) Q))) : Ev 171 104 [.ref 69, .null, .int x2, .int x3, .int x4, .int x5, .int x6, .int x7] [] h Q := by
  refine e_al o_171_104 rfl ?_
  refine e_gR (r := 107) o_171_105 (sk_69 (h := h) hs) (sr_69_57 (h := h) hs) (by decide) ?_
  refine e_il o_171_108 rfl ?_
  refine e_c 1 o_171_109 rfl ?_
  refine e_bin o_171_110 rfl ?_
  refine e_il o_171_111 rfl ?_
  refine e_c 2 o_171_113 rfl ?_
  refine e_if_1 o_171_114 (fun z => ?_) (fun z => ?_)
  · have k := k.1 z
    refine e_il o_171_125 rfl ?_
    refine e_c 3 o_171_127 rfl ?_
    refine e_if_1 o_171_128 (fun z => ?_) (fun z => ?_)
    · have k := k.1 z
      refine e_il o_171_139 rfl ?_
      refine e_c 4 o_171_141 rfl ?_
      refine e_if_1 o_171_142 (fun z => ?_) (fun z => ?_)
      · have k := k.1 z
        refine e_il o_171_153 rfl ?_
        refine e_il o_171_155 rfl ?_
        obtain ⟨q, k⟩ := k
        refine e_div o_171_157 q ?_
        obtain ⟨q, k⟩ := k
        refine e_ias (n := 400) o_171_158 (sk_107 (h := h) hs) (by decide) (sn_107 (h := h) hs) q ?_
        exact Ev.less (ls := [.ref 69, .null, .int x2, .int x3, .int x4, .null, .null, .null]) ⟨Or.inr rfl, Or.inl rfl, Or.inr rfl, Or.inr rfl, Or.inr rfl, Or.inl rfl, Or.inl rfl, Or.inl rfl, trivial⟩ k
      · have k := k.2 z
        refine e_il o_171_145 rfl ?_
        refine e_il o_171_147 rfl ?_
        refine e_bin o_171_149 rfl ?_
        refine e_go o_171_150 ?_
        obtain ⟨q, k⟩ := k
        refine e_ias (n := 400) o_171_158 (sk_107 (h := h) hs) (by decide) (sn_107 (h := h) hs) q ?_
        exact Ev.less (ls := [.ref 69, .null, .int x2, .int x3, .int x4, .null, .null, .null]) ⟨Or.inr rfl, Or.inl rfl, Or.inr rfl, Or.inr rfl, Or.inr rfl, Or.inl rfl, Or.inl rfl, Or.inl rfl, trivial⟩ k
    · have k := k.2 z
      refine e_il o_171_131 rfl ?_
      refine e_il o_171_133 rfl ?_
      refine e_bin o_171_135 rfl ?_
      refine e_go o_171_136 ?_
      obtain ⟨q, k⟩ := k
      refine e_ias (n := 400) o_171_158 (sk_107 (h := h) hs) (by decide) (sn_107 (h := h) hs) q ?_
      exact Ev.less (ls := [.ref 69, .null, .int x2, .int x3, .int x4, .null, .null, .null]) ⟨Or.inr rfl, Or.inl rfl, Or.inr rfl, Or.inr rfl, Or.inr rfl, Or.inl rfl, Or.inl rfl, Or.inl rfl, trivial⟩ k
  · have k := k.2 z
    refine e_il o_171_117 rfl ?_
    refine e_il o_171_119 rfl ?_
    refine e_bin o_171_121 rfl ?_
    refine e_go o_171_122 ?_
    obtain ⟨q, k⟩ := k
    refine e_ias (n := 400) o_171_158 (sk_107 (h := h) hs) (by decide) (sn_107 (h := h) hs) q ?_
    exact Ev.less (ls := [.ref 69, .null, .int x2, .int x3, .int x4, .null, .null, .null]) ⟨Or.inr rfl, Or.inl rfl, Or.inr rfl, Or.inr rfl, Or.inr rfl, Or.inl rfl, Or.inl rfl, Or.inl rfl, trivial⟩ k
set_option maxHeartbeats 4000000 in
set_option maxRecDepth 100000 in
theorem B_171_159 {x2 : Int32} {x3 : Int32} {x4 : Int32} {h : XH} {Q : Value → XH → Prop} (hs : Sh h) (k : Ev 171 5 [.ref 69, .null, .int x2, .int x3, .int (x4 + 1), .null, .null, .null] [] h Q) : Ev 171 159 [.ref 69, .null, .int x2, .int x3, .int x4, .null, .null, .null] [] h Q := by
  refine e_inc (ls' := [.ref 69, .null, .int x2, .int x3, .int (x4 + 1), .null, .null, .null]) o_171_159 rfl rfl rfl ?_
  refine e_go o_171_162 ?_
  exact Ev.less (ls := [.ref 69, .null, .int x2, .int x3, .int (x4 + 1), .null, .null, .null]) ⟨Or.inr rfl, Or.inl rfl, Or.inr rfl, Or.inr rfl, Or.inr rfl, Or.inl rfl, Or.inl rfl, Or.inl rfl, trivial⟩ k
set_option maxHeartbeats 4000000 in
set_option maxRecDepth 100000 in
theorem B_172_0 {x1 : Int32} {h : XH} {Q : Value → XH → Prop} (hs : Sh h) (k : InB 17 20 ∧ (InB 18 20 ∧ (InB 19 20 ∧ (Ev 172 26 [.ref 69, .int x1, .int 0, .null] [] (xsI (xsI h 109 (tn 17) 1) 109 (tn 19) ((xI (xsI h 109 (tn 17) 1) 109 (tn 18)) - x1)) Q)))) : Ev 172 0 (x_ini 172 [.ref 69, .int x1]) [] h Q := by
  rw [show x_ini 172 [.ref 69, .int x1] = [.ref 69, .int x1, .null, .null] from x_inid ml_172 rfl]
  refine e_al o_172_0 rfl ?_
  refine e_gR (r := 109) o_172_1 (sk_69 (h := h) hs) (sr_69_60 (h := h) hs) (by decide) ?_
  refine e_c 17 o_172_4 rfl ?_
  refine e_c 1 o_172_6 rfl ?_
  obtain ⟨q, k⟩ := k
  refine e_ias (n := 20) o_172_7 (sk_109 (h := h) hs) (by decide) (sn_109 (h := h) hs) q ?_
  refine e_al o_172_8 rfl ?_
  refine e_gR (r := 109) o_172_9 (sk_69 (h := h) hs) (sr_69_60 (h := h) hs) (by decide) ?_
  refine e_c 19 o_172_12 rfl ?_
  refine e_al o_172_14 rfl ?_
  refine e_gR (r := 109) o_172_15 (sk_69 (h := h) hs) (sr_69_60 (h := h) hs) (by decide) ?_
  refine e_c 18 o_172_18 rfl ?_
  obtain ⟨q, k⟩ := k
  refine e_ia (n := 20) o_172_20 (sk_109 (h := h) hs) (sn_109 (h := h) hs) q ?_
  refine e_il o_172_21 rfl ?_
  refine e_bin o_172_22 rfl ?_
  obtain ⟨q, k⟩ := k
  refine e_ias (n := 20) o_172_23 (sk_109 (h := h) hs) (by decide) (sn_109 (h := h) hs) q ?_
  refine e_c 0 o_172_24 rfl ?_
  refine e_is (ls' := [.ref 69, .int x1, .int 0, .null]) o_172_25 (Nat.le_of_ble_eq_true rfl) rfl ?_
  exact Ev.less (ls := [.ref 69, .int x1, .int 0, .null]) ⟨Or.inr rfl, Or.inr rfl, Or.inr rfl, Or.inl rfl, trivial⟩ k
set_option maxHeartbeats 4000000 in
set_option maxRecDepth 100000 in
theorem B_172_26 {x1 : Int32} {x2 : Int32} {h : XH} {Q : Value → XH → Prop} (hs : Sh h) (k : InB (xI h 69 18) 2 ∧ ((((xI h 84 (tn (xI h 69 18))) ≤ x2) → Q .null h) ∧ (¬ ((xI h 84 (tn (xI h 69 18))) ≤ x2) → Ev 172 41 [.ref 69, .int x1, .int x2, .int x1] [] h Q))) : Ev 172 26 [.ref 69, .int x1, .int x2, .null] [] h Q := by
  refine e_il o_172_26 rfl ?_
  refine e_al o_172_27 rfl ?_
  refine e_gR (r := 84) o_172_28 (sk_69 (h := h) hs) (sr_69_28 (h := h) hs) (by decide) ?_
  refine e_al o_172_31 rfl ?_
  refine e_gI o_172_32 (sk_69 (h := h) hs) ?_
  obtain ⟨q, k⟩ := k
  refine e_ia (n := 2) o_172_35 (sk_84 (h := h) hs) (sn_84 (h := h) hs) q ?_
  refine e_if_3 o_172_36 (fun z => ?_) (fun z => ?_)
  · have k := k.1 z
    exact e_ret0 o_172_99 k
  · have k := k.2 z
    refine e_il o_172_39 rfl ?_
    refine e_is (ls' := [.ref 69, .int x1, .int x2, .int x1]) o_172_40 (Nat.le_of_ble_eq_true rfl) rfl ?_
    exact Ev.less (ls := [.ref 69, .int x1, .int x2, .int x1]) ⟨Or.inr rfl, Or.inr rfl, Or.inr rfl, Or.inr rfl, trivial⟩ k
set_option maxHeartbeats 4000000 in
set_option maxRecDepth 100000 in
theorem B_172_41 {x1 : Int32} {x2 : Int32} {x3 : Int32} {h : XH} {Q : Value → XH → Prop} (hs : Sh h) (k : InB 18 20 ∧ ((((xI h 109 (tn 18)) ≤ x3) → Ev 172 26 [.ref 69, .int x1, .int (x2 + 1), .null] [] h Q) ∧ (¬ ((xI h 109 (tn 18)) ≤ x3) → InB x3 301 ∧ (ClI 173 [.int (xI h 111 (tn x3)), .int x2] h (fun v2 h1 => Sh h1 ∧ (InB (8 + x2) 20 ∧ (((v2 = (xI h1 109 (tn (8 + x2)))) → Ev 172 41 [.ref 69, .int x1, .int x2, .int (x3 + 1)] [] h1 Q) ∧ (¬ (v2 = (xI h1 109 (tn (8 + x2)))) → InB 16 20 ∧ (InB 16 20 ∧ (Ev 172 41 [.ref 69, .int x1, .int x2, .int (x3 + 1)] [] (xsI h1 109 (tn 16) ((xI h1 109 (tn 16)) ||| (1 <<< (x2 &&& 31)))) Q)))))))))) : Ev 172 41 [.ref 69, .int x1, .int x2, .int x3] [] h Q := by
  refine e_il o_172_41 rfl ?_
  refine e_al o_172_42 rfl ?_
  refine e_gR (r := 109) o_172_43 (sk_69 (h := h) hs) (sr_69_60 (h := h) hs) (by decide) ?_
  refine e_c 18 o_172_46 rfl ?_
  obtain ⟨q, k⟩ := k
  refine e_ia (n := 20) o_172_48 (sk_109 (h := h) hs) (sn_109 (h := h) hs) q ?_
  refine e_if_3 o_172_49 (fun z => ?_) (fun z => ?_)
  · have k := k.1 z
    refine e_inc (ls' := [.ref 69, .int x1, .int (x2 + 1), .int x3]) o_172_93 rfl rfl rfl ?_
    refine e_go o_172_96 ?_
    exact Ev.less (ls := [.ref 69, .int x1, .int (x2 + 1), .null]) ⟨Or.inr rfl, Or.inr rfl, Or.inr rfl, Or.inl rfl, trivial⟩ k
  · have k := k.2 z
    refine e_al o_172_52 rfl ?_
    refine e_gR (r := 111) o_172_53 (sk_69 (h := h) hs) (sr_69_63 (h := h) hs) (by decide) ?_
    refine e_il o_172_56 rfl ?_
    obtain ⟨q, k⟩ := k
    refine e_ia (n := 301) o_172_57 (sk_111 (h := h) hs) (sn_111 (h := h) hs) q ?_
    refine e_il o_172_58 rfl ?_
    refine e_clI (as := [.int (xI h 111 (tn x3)), .int x2]) (rest := []) o_172_59 rfl rfl (x_okd cl_172_173 ml_173 (Nat.le_of_ble_eq_true rfl) (Nat.le_of_ble_eq_true rfl)) (rfl) k ?_
    rintro v2 h1 ⟨sh1, k⟩
    refine e_al o_172_62 rfl ?_
    refine e_gR (r := 109) o_172_63 (sk_69 (h := h1) sh1) (sr_69_60 (h := h1) sh1) (by decide) ?_
    refine e_c 8 o_172_66 rfl ?_
    refine e_il o_172_68 rfl ?_
    refine e_bin o_172_69 rfl ?_
    obtain ⟨q, k⟩ := k
    refine e_ia (n := 20) o_172_70 (sk_109 (h := h1) sh1) (sn_109 (h := h1) sh1) q ?_
    refine e_if_0 o_172_71 (fun z => ?_) (fun z => ?_)
    · have k := k.1 z
      refine e_inc (ls' := [.ref 69, .int x1, .int x2, .int (x3 + 1)]) o_172_87 rfl rfl rfl ?_
      refine e_go o_172_90 ?_
      exact Ev.less (ls := [.ref 69, .int x1, .int x2, .int (x3 + 1)]) ⟨Or.inr rfl, Or.inr rfl, Or.inr rfl, Or.inr rfl, trivial⟩ k
    · have k := k.2 z
      refine e_al o_172_74 rfl ?_
      refine e_gR (r := 109) o_172_75 (sk_69 (h := h1) sh1) (sr_69_60 (h := h1) sh1) (by decide) ?_
      refine e_c 16 o_172_78 rfl ?_
      refine e_dup2 o_172_80 ⟨rfl, rfl⟩ ?_
      obtain ⟨q, k⟩ := k
      refine e_ia (n := 20) o_172_81 (sk_109 (h := h1) sh1) (sn_109 (h := h1) sh1) q ?_
      refine e_c 1 o_172_82 rfl ?_
      refine e_il o_172_83 rfl ?_
      refine e_bin o_172_84 rfl ?_
      refine e_bin o_172_85 rfl ?_
      obtain ⟨q, k⟩ := k
      refine e_ias (n := 20) o_172_86 (sk_109 (h := h1) sh1) (by decide) (sn_109 (h := h1) sh1) q ?_
      refine e_inc (ls' := [.ref 69, .int x1, .int x2, .int (x3 + 1)]) o_172_87 rfl rfl rfl ?_
      refine e_go o_172_90 ?_
      exact Ev.less (ls := [.ref 69, .int x1, .int x2, .int (x3 + 1)]) ⟨Or.inr rfl, Or.inr rfl, Or.inr rfl, Or.inr rfl, trivial⟩ k
set_option maxHeartbeats 4000000 in
set_option maxRecDepth 100000 in
theorem B_173_0 {x0 : Int32} {x1 : Int32} {h : XH} {Q : Value → XH → Prop} (hs : Sh h) (k : Ev 173 4 [.null, .int x1, .int x0, .int 0] [] h Q) : Ev 173 0 (x_ini 173 [.int x0, .int x1]) [] h Q := by
  rw [show x_ini 173 [.int x0, .int x1] = [.int x0, .int x1, .null, .null] from x_inid ml_173 rfl]
  refine e_il o_173_0 rfl ?_
  refine e_is (ls' := [.int x0, .int x1, .int x0, .null]) o_173_1 (Nat.le_of_ble_eq_true rfl) rfl ?_
  refine e_c 0 o_173_2 rfl ?_
  refine e_is (ls' := [.int x0, .int x1, .int x0, .int 0]) o_173_3 (Nat.le_of_ble_eq_true rfl) rfl ?_
  exact Ev.less (ls := [.null, .int x1, .int x0, .int 0]) ⟨Or.inl rfl, Or.inr rfl, Or.inr rfl, Or.inr rfl, trivial⟩ k
set_option maxHeartbeats 4000000 in
set_option maxRecDepth 100000 in
theorem B_173_4 {x1 : Int32} {x2 : Int32} {x3 : Int32} {h : XH} {Q : Value → XH → Prop} (hs : Sh h) (k : ((x1 ≤ x3) → Q (.int (x2 - x2 / 5 * 5)) h) ∧ (¬ (x1 ≤ x3) → Ev 173 4 [.null, .int x1, .int (x2 / 5), .int (x3 + 1)] [] h Q)) : Ev 173 4 [.null, .int x1, .int x2, .int x3] [] h Q := by
  refine e_il o_173_4 rfl ?_
  refine e_il o_173_5 rfl ?_
  refine e_if_3 o_173_6 (fun z => ?_) (fun z => ?_)
  · have k := k.1 z
    refine e_il o_173_19 rfl ?_
    refine e_c 5 o_173_20 rfl ?_
    refine e_rem o_173_21 (by decide) ?_
    exact e_retI o_173_22 k
  · have k := k.2 z
    refine e_il o_173_9 rfl ?_
    refine e_c 5 o_173_10 rfl ?_
    refine e_div o_173_11 (by decide) ?_
    refine e_is (ls' := [.null, .int x1, .int (x2 / 5), .int x3]) o_173_12 (Nat.le_of_ble_eq_true rfl) rfl ?_
    refine e_inc (ls' := [.null, .int x1, .int (x2 / 5), .int (x3 + 1)]) o_173_13 rfl rfl rfl ?_
    refine e_go o_173_16 ?_
    exact Ev.less (ls := [.null, .int x1, .int (x2 / 5), .int (x3 + 1)]) ⟨Or.inl rfl, Or.inr rfl, Or.inr rfl, Or.inr rfl, trivial⟩ k
set_option maxHeartbeats 4000000 in
set_option maxRecDepth 100000 in
theorem B_174_0  {h : XH} {Q : Value → XH → Prop} (hs : Sh h) (k : Ev 174 2 [.ref 69, .int 0] [] h Q) : Ev 174 0 (x_ini 174 [.ref 69]) [] h Q := by
  rw [show x_ini 174 [.ref 69] = [.ref 69, .null] from x_inid ml_174 rfl]
  refine e_c 0 o_174_0 rfl ?_
  refine e_is (ls' := [.ref 69, .int 0]) o_174_1 (Nat.le_of_ble_eq_true rfl) rfl ?_
  exact Ev.less (ls := [.ref 69, .int 0]) ⟨Or.inr rfl, Or.inr rfl, trivial⟩ k
set_option maxHeartbeats 4000000 in
set_option maxRecDepth 100000 in
theorem B_174_2 {x1 : Int32} {h : XH} {Q : Value → XH → Prop} (hs : Sh h) (k : ((20 ≤ x1) → Q .null h) ∧ (¬ (20 ≤ x1) → InB x1 20 ∧ (InB x1 20 ∧ (Ev 174 2 [.ref 69, .int (x1 + 1)] [] (xsI h 108 (tn x1) (xI h 109 (tn x1))) Q)))) : Ev 174 2 [.ref 69, .int x1] [] h Q := by
  refine e_il o_174_2 rfl ?_
  refine e_c 20 o_174_3 rfl ?_
  refine e_if_3 o_174_5 (fun z => ?_) (fun z => ?_)
  · have k := k.1 z
    exact e_ret0 o_174_26 k
  · have k := k.2 z
    refine e_al o_174_8 rfl ?_
    refine e_gR (r := 108) o_174_9 (sk_69 (h := h) hs) (sr_69_59 (h := h) hs) (by decide) ?_
    refine e_il o_174_12 rfl ?_
    refine e_al o_174_13 rfl ?_
    refine e_gR (r := 109) o_174_14 (sk_69 (h := h) hs) (sr_69_60 (h := h) hs) (by decide) ?_
    refine e_il o_174_17 rfl ?_
    obtain ⟨q, k⟩ := k
    refine e_ia (n := 20) o_174_18 (sk_109 (h := h) hs) (sn_109 (h := h) hs) q ?_
    obtain ⟨q, k⟩ := k
    refine e_ias (n := 20) o_174_19 (sk_108 (h := h) hs) (by decide) (sn_108 (h := h) hs) q ?_
    refine e_inc (ls' := [.ref 69, .int (x1 + 1)]) o_174_20 rfl rfl rfl ?_
    refine e_go o_174_23 ?_
    exact Ev.less (ls := [.ref 69, .int (x1 + 1)]) ⟨Or.inr rfl, Or.inr rfl, trivial⟩ k
set_option maxHeartbeats 4000000 in
set_option maxRecDepth 100000 in
theorem B_175_0 {x1 : Int32} {x2 : Int32} {x3 : Int32} {x4 : Int32} {x5 : Int32} {h : XH} {Q : Value → XH → Prop} (hs : Sh h) (k : ((((xI h 69 2) + 20) ≤ 2000) → ClV 176 [.ref 69, .int x1] h (fun h1 => Sh h1 ∧ (ClV 176 [.ref 69, .int x2] h1 (fun h3 => Sh h3 ∧ (ClV 176 [.ref 69, .int x3] h3 (fun h5 => Sh h5 ∧ (ClV 176 [.ref 69, .int x4] h5 (fun h7 => Sh h7 ∧ (ClV 176 [.ref 69, .int x5] h7 (fun h9 => Sh h9 ∧ (Q (.int (xI h9 69 2)) h9))))))))))) ∧ (¬ (((xI h 69 2) + 20) ≤ 2000) → Q (.int (-1)) h)) : Ev 175 0 (x_ini 175 [.ref 69, .int x1, .int x2, .int x3, .int x4, .int x5]) [] h Q := by
  rw [show x_ini 175 [.ref 69, .int x1, .int x2, .int x3, .int x4, .int x5] = [.ref 69, .int x1, .int x2, .int x3, .int x4, .int x5] from x_inid ml_175 rfl]
  refine e_al o_175_0 rfl ?_
  refine e_gI o_175_1 (sk_69 (h := h) hs) ?_
  refine e_c 20 o_175_4 rfl ?_
  refine e_bin o_175_6 rfl ?_
  refine e_c 2000 o_175_7 rfl ?_
  refine e_if_5 o_175_10 (fun z => ?_) (fun z => ?_)
  · have k := k.1 z
    refine e_al o_175_15 rfl ?_
    refine e_il o_175_16 rfl ?_
    refine e_clV (as := [.ref 69, .int x1]) (rest := []) o_175_17 rfl rfl (x_okd cl_175_176 ml_176 (Nat.le_of_ble_eq_true rfl) (Nat.le_of_ble_eq_true rfl)) (x_rc0 (ci := 9) (sk_69 (h := h) hs) mo_176) k ?_
    rintro h1 ⟨sh1, k⟩
    refine e_al o_175_20 rfl ?_
    refine e_il o_175_21 rfl ?_
    refine e_clV (as := [.ref 69, .int x2]) (rest := []) o_175_22 rfl rfl (x_okd cl_175_176 ml_176 (Nat.le_of_ble_eq_true rfl) (Nat.le_of_ble_eq_true rfl)) (x_rc0 (ci := 9) (sk_69 (h := h1) sh1) mo_176) k ?_
    rintro h3 ⟨sh3, k⟩
    refine e_al o_175_25 rfl ?_
    refine e_il o_175_26 rfl ?_
    refine e_clV (as := [.ref 69, .int x3]) (rest := []) o_175_27 rfl rfl (x_okd cl_175_176 ml_176 (Nat.le_of_ble_eq_true rfl) (Nat.le_of_ble_eq_true rfl)) (x_rc0 (ci := 9) (sk_69 (h := h3) sh3) mo_176) k ?_
    rintro h5 ⟨sh5, k⟩
    refine e_al o_175_30 rfl ?_
    refine e_il o_175_31 rfl ?_
    refine e_clV (as := [.ref 69, .int x4]) (rest := []) o_175_33 rfl rfl (x_okd cl_175_176 ml_176 (Nat.le_of_ble_eq_true rfl) (Nat.le_of_ble_eq_true rfl)) (x_rc0 (ci := 9) (sk_69 (h := h5) sh5) mo_176) k ?_
    rintro h7 ⟨sh7, k⟩
    refine e_al o_175_36 rfl ?_
    refine e_il o_175_37 rfl ?_
    refine e_clV (as := [.ref 69, .int x5]) (rest := []) o_175_39 rfl rfl (x_okd cl_175_176 ml_176 (Nat.le_of_ble_eq_true rfl) (Nat.le_of_ble_eq_true rfl)) (x_rc0 (ci := 9) (sk_69 (h := h7) sh7) mo_176) k ?_
    rintro h9 ⟨sh9, k⟩
    refine e_al o_175_42 rfl ?_
    refine e_gI o_175_43 (sk_69 (h := h9) sh9) ?_
    exact e_retI o_175_46 k
  · have k := k.2 z
    refine e_c (-1) o_175_13 rfl ?_
    exact e_retI o_175_14 k
set_option maxHeartbeats 4000000 in
set_option maxRecDepth 100000 in
theorem B_176_0 {x1 : Int32} {h : XH} {Q : Value → XH → Prop} (hs : Sh h) (k : Ev 176 3 [.ref 69, .int x1, .int 24] [] h Q) : Ev 176 0 (x_ini 176 [.ref 69, .int x1]) [] h Q := by
  rw [show x_ini 176 [.ref 69, .int x1] = [.ref 69, .int x1, .null] from x_inid ml_176 rfl]
  refine e_c 24 o_176_0 rfl ?_
  refine e_is (ls' := [.ref 69, .int x1, .int 24]) o_176_2 (Nat.le_of_ble_eq_true rfl) rfl ?_
  exact Ev.less (ls := [.ref 69, .int x1, .int 24]) ⟨Or.inr rfl, Or.inr rfl, Or.inr rfl, trivial⟩ k
set_option maxHeartbeats 4000000 in
set_option maxRecDepth 100000 in
theorem B_176_3 {x1 : Int32} {x2 : Int32} {h : XH} {Q : Value → XH → Prop} (hs : Sh h) (k : ((x2 < 0) → Q .null h) ∧ (¬ (x2 < 0) → InB (xI h 69 2) 2000 ∧ (∀ h1 : XH, h1 = (xsI (xsI h 70 (tn (xI h 69 2)) (((x1 >>> (x2 &&& 31)) : Int32).toInt8.toInt32 : Int32).toInt8.toInt32) 69 2 ((xI (xsI h 70 (tn (xI h 69 2)) (((x1 >>> (x2 &&& 31)) : Int32).toInt8.toInt32 : Int32).toInt8.toInt32) 69 2) + 1)) → (Ev 176 3 [.ref 69, .int x1, .int (x2 + (-8))] [] h1 Q)))) : Ev 176 3 [.ref 69, .int x1, .int x2] [] h Q := by
  refine e_il o_176_3 rfl ?_
  refine e_i0_2 o_176_4 (fun z => ?_) (fun z => ?_)
  · have k := k.1 z
    exact e_ret0 o_176_36 k
  · have k := k.2 z
    refine e_al o_176_7 rfl ?_
    refine e_gR (r := 70) o_176_8 (sk_69 (h := h) hs) (sr_69_1 (h := h) hs) (by decide) ?_
    refine e_al o_176_11 rfl ?_
    refine e_gI o_176_12 (sk_69 (h := h) hs) ?_
    refine e_il o_176_15 rfl ?_
    refine e_il o_176_16 rfl ?_
    refine e_bin o_176_17 rfl ?_
    refine e_i2b o_176_18 ?_
    obtain ⟨q, k⟩ := k
    refine e_bas (n := 2000) o_176_19 (sk_70 (h := h) hs) (sn_70 (h := h) hs) q ?_
    refine e_al o_176_20 rfl ?_
    refine e_dup o_176_21 rfl ?_
    refine e_gI o_176_22 (sk_69 (h := h) hs) ?_
    refine e_c 1 o_176_25 rfl ?_
    refine e_bin o_176_26 rfl ?_
    refine e_pI o_176_27 (sk_69 (h := h) hs) ?_
    obtain ⟨h1, eh1⟩ : ∃ z : XH, z = (xsI (xsI h 70 (tn (xI h 69 2)) (((x1 >>> (x2 &&& 31)) : Int32).toInt8.toInt32 : Int32).toInt8.toInt32) 69 2 ((xI (xsI h 70 (tn (xI h 69 2)) (((x1 >>> (x2 &&& 31)) : Int32).toInt8.toInt32 : Int32).toInt8.toInt32) 69 2) + 1)) := ⟨_, rfl⟩
    show Ev 176 30 [.ref 69, .int x1, .int x2] [] (xsI (xsI h 70 (tn (xI h 69 2)) (((x1 >>> (x2 &&& 31)) : Int32).toInt8.toInt32 : Int32).toInt8.toInt32) 69 2 ((xI (xsI h 70 (tn (xI h 69 2)) (((x1 >>> (x2 &&& 31)) : Int32).toInt8.toInt32 : Int32).toInt8.toInt32) 69 2) + 1)) Q
    rw [← eh1]
    have sh1 : Sh h1 := by rw [eh1]; exact (sh_I (sh_I hs (by decide)) (by decide))
    have k := k h1 eh1
    refine e_inc (ls' := [.ref 69, .int x1, .int (x2 + (-8))]) o_176_30 rfl rfl rfl ?_
    refine e_go o_176_33 ?_
    exact Ev.less (ls := [.ref 69, .int x1, .int (x2 + (-8))]) ⟨Or.inr rfl, Or.inr rfl, Or.inr rfl, trivial⟩ k
set_option maxHeartbeats 4000000 in
set_option maxRecDepth 100000 in
theorem B_177_0 {x1 : Int32} {h : XH} {Q : Value → XH → Prop} (hs : Sh h) (k : ((x1 < 0) → Q (.int (-1)) h) ∧ (¬ (x1 < 0) → ((x1 ≤ (xI h 69 2)) → Q (.int (xI (xsI h 69 2 ((xI h 69 2) - x1)) 69 2)) (xsI h 69 2 ((xI h 69 2) - x1))) ∧ (¬ (x1 ≤ (xI h 69 2)) → Q (.int (-1)) h))) : Ev 177 0 (x_ini 177 [.ref 69, .int x1]) [] h Q := by
  rw [show x_ini 177 [.ref 69, .int x1] = [.ref 69, .int x1] from x_inid ml_177 rfl]
  refine e_il o_177_0 rfl ?_
  refine e_i0_2 o_177_1 (fun z => ?_) (fun z => ?_)
  · have k := k.1 z
    refine e_c (-1) o_177_12 rfl ?_
    exact e_retI o_177_13 k
  · have k := k.2 z
    refine e_il o_177_4 rfl ?_
    refine e_al o_177_5 rfl ?_
    refine e_gI o_177_6 (sk_69 (h := h) hs) ?_
    refine e_if_5 o_177_9 (fun z => ?_) (fun z => ?_)
    · have k := k.1 z
      refine e_al o_177_14 rfl ?_
      refine e_dup o_177_15 rfl ?_
      refine e_gI o_177_16 (sk_69 (h := h) hs) ?_
      refine e_il o_177_19 rfl ?_
      refine e_bin o_177_20 rfl ?_
      refine e_pI o_177_21 (sk_69 (h := h) hs) ?_
      refine e_al o_177_24 rfl ?_
      refine e_gI o_177_25 (sk_69 (h := h) hs) ?_
      exact e_retI o_177_28 k
    · have k := k.2 z
      refine e_c (-1) o_177_12 rfl ?_
      exact e_retI o_177_13 k
set_option maxHeartbeats 4000000 in
set_option maxRecDepth 100000 in
theorem B_178_0  {h : XH} {Q : Value → XH → Prop} (hs : Sh h) (k : Ev 178 10 [.ref 69, .int 0] [] (xsI h 69 4 (xI h 69 2)) Q) : Ev 178 0 (x_ini 178 [.ref 69]) [] h Q := by
  rw [show x_ini 178 [.ref 69] = [.ref 69, .null] from x_inid ml_178 rfl]
  refine e_al o_178_0 rfl ?_
  refine e_al o_178_1 rfl ?_
  refine e_gI o_178_2 (sk_69 (h := h) hs) ?_
  refine e_pI o_178_5 (sk_69 (h := h) hs) ?_
  refine e_c 0 o_178_8 rfl ?_
  refine e_is (ls' := [.ref 69, .int 0]) o_178_9 (Nat.le_of_ble_eq_true rfl) rfl ?_
  exact Ev.less (ls := [.ref 69, .int 0]) ⟨Or.inr rfl, Or.inr rfl, trivial⟩ k
set_option maxHeartbeats 4000000 in
set_option maxRecDepth 100000 in
theorem B_178_10 {x1 : Int32} {h : XH} {Q : Value → XH → Prop} (hs : Sh h) (k : (((xI h 69 4) ≤ x1) → ClV 179 [.ref 69] (xsI h 69 2 0) (fun h1 => Sh h1 ∧ (∀ h3 : XH, h3 = (xsI (xsI (xsI (xsI (xsI h1 69 11 0) 69 12 0) 69 13 0) 69 15 0) 69 19 (1 - (xI (xsI (xsI (xsI (xsI h1 69 11 0) 69 12 0) 69 13 0) 69 15 0) 69 18))) → (InB (xI (xsI (xsI h3 69 20 0) 69 39 0) 69 19) 2 ∧ (InB (xI (xsI (xsI (xsI h3 69 20 0) 69 39 0) 79 (tn (xI (xsI (xsI h3 69 20 0) 69 39 0) 69 19)) 0) 69 19) 2 ∧ (∀ h4 : XH, h4 = (xsI (xsI (xsI (xsI h3 69 20 0) 69 39 0) 79 (tn (xI (xsI (xsI h3 69 20 0) 69 39 0) 69 19)) 0) 84 (tn (xI (xsI (xsI (xsI h3 69 20 0) 69 39 0) 79 (tn (xI (xsI (xsI h3 69 20 0) 69 39 0) 69 19)) 0) 69 19)) 0) → (InB (xI h4 69 19) 2 ∧ (InB (xI (xsI h4 83 (tn (xI h4 69 19)) 1) 69 19) 2 ∧ (InB (xI (xsI (xsI h4 83 (tn (xI h4 69 19)) 1) 92 (tn (xI (xsI h4 83 (tn (xI h4 69 19)) 1) 69 19)) 0) 69 19) 2 ∧ (∀ h5 : XH, h5 = (xsI (xsI (xsI h4 83 (tn (xI h4 69 19)) 1) 92 (tn (xI (xsI h4 83 (tn (xI h4 69 19)) 1) 69 19)) 0) 93 (tn (xI (xsI (xsI h4 83 (tn (xI h4 69 19)) 1) 92 (tn (xI (xsI h4 83 (tn (xI h4 69 19)) 1) 69 19)) 0) 69 19)) 0) → (Ev 178 137 [.ref 69, .int 0] [] h5 Q))))))))))) ∧ (¬ ((xI h 69 4) ≤ x1) → InB x1 2000 ∧ (InB x1 2000 ∧ (Ev 178 10 [.ref 69, .int (x1 + 1)] [] (xsI h 71 (tn x1) ((xI h 70 (tn x1)) : Int32).toInt8.toInt32) Q)))) : Ev 178 10 [.ref 69, .int x1] [] h Q := by
  refine e_il o_178_10 rfl ?_
  refine e_al o_178_11 rfl ?_
  refine e_gI o_178_12 (sk_69 (h := h) hs) ?_
  refine e_if_3 o_178_15 (fun z => ?_) (fun z => ?_)
  · have k := k.1 z
    refine e_al o_178_36 rfl ?_
    refine e_c 0 o_178_37 rfl ?_
    refine e_pI o_178_38 (sk_69 (h := h) hs) ?_
    refine e_al o_178_41 rfl ?_
    refine e_clV (as := [.ref 69]) (rest := []) o_178_42 rfl rfl (x_okd cl_178_179 ml_179 (Nat.le_of_ble_eq_true rfl) (Nat.le_of_ble_eq_true rfl)) (x_rc0 (ci := 9) (sk_69 (h := h) hs) mo_179) k ?_
    rintro h1 ⟨sh1, k⟩
    refine e_al o_178_45 rfl ?_
    refine e_c 0 o_178_46 rfl ?_
    refine e_pI o_178_47 (sk_69 (h := h1) sh1) ?_
    refine e_al o_178_50 rfl ?_
    refine e_c 0 o_178_51 rfl ?_
    refine e_pI o_178_52 (sk_69 (h := h1) sh1) ?_
    refine e_al o_178_55 rfl ?_
    refine e_c 0 o_178_56 rfl ?_
    refine e_pI o_178_57 (sk_69 (h := h1) sh1) ?_
    refine e_al o_178_60 rfl ?_
    refine e_c 0 o_178_61 rfl ?_
    refine e_pI o_178_62 (sk_69 (h := h1) sh1) ?_
    refine e_al o_178_65 rfl ?_
    refine e_c 1 o_178_66 rfl ?_
    refine e_al o_178_67 rfl ?_
    refine e_gI o_178_68 (sk_69 (h := h1) sh1) ?_
    refine e_bin o_178_71 rfl ?_
    refine e_pI o_178_72 (sk_69 (h := h1) sh1) ?_
    obtain ⟨h3, eh3⟩ : ∃ z : XH, z = (xsI (xsI (xsI (xsI (xsI h1 69 11 0) 69 12 0) 69 13 0) 69 15 0) 69 19 (1 - (xI (xsI (xsI (xsI (xsI h1 69 11 0) 69 12 0) 69 13 0) 69 15 0) 69 18))) := ⟨_, rfl⟩
    show Ev 178 75 [.ref 69, .int x1] [] (xsI (xsI (xsI (xsI (xsI h1 69 11 0) 69 12 0) 69 13 0) 69 15 0) 69 19 (1 - (xI (xsI (xsI (xsI (xsI h1 69 11 0) 69 12 0) 69 13 0) 69 15 0) 69 18))) Q
    rw [← eh3]
    have sh3 : Sh h3 := by rw [eh3]; exact (sh_I (sh_I (sh_I (sh_I (sh_I sh1 (by decide)) (by decide)) (by decide)) (by decide)) (by decide))
    have k := k h3 eh3
    refine e_al o_178_75 rfl ?_
    refine e_c 0 o_178_76 rfl ?_
    refine e_pI o_178_77 (sk_69 (h := h3) sh3) ?_
    refine e_al o_178_80 rfl ?_
    refine e_c 0 o_178_81 rfl ?_
    refine e_pI o_178_82 (sk_69 (h := h3) sh3) ?_
    refine e_al o_178_85 rfl ?_
    refine e_gR (r := 79) o_178_86 (sk_69 (h := h3) sh3) (sr_69_23 (h := h3) sh3) (by decide) ?_
    refine e_al o_178_89 rfl ?_
    refine e_gI o_178_90 (sk_69 (h := h3) sh3) ?_
    refine e_c 0 o_178_93 rfl ?_
    obtain ⟨q, k⟩ := k
    refine e_ias (n := 2) o_178_94 (sk_79 (h := h3) sh3) (by decide) (sn_79 (h := h3) sh3) q ?_
    refine e_al o_178_95 rfl ?_
    refine e_gR (r := 84) o_178_96 (sk_69 (h := h3) sh3) (sr_69_28 (h := h3) sh3) (by decide) ?_
    refine e_al o_178_99 rfl ?_
    refine e_gI o_178_100 (sk_69 (h := h3) sh3) ?_
    refine e_c 0 o_178_103 rfl ?_
    obtain ⟨q, k⟩ := k
    refine e_ias (n := 2) o_178_104 (sk_84 (h := h3) sh3) (by decide) (sn_84 (h := h3) sh3) q ?_
    obtain ⟨h4, eh4⟩ : ∃ z : XH, z = (xsI (xsI (xsI (xsI h3 69 20 0) 69 39 0) 79 (tn (xI (xsI (xsI h3 69 20 0) 69 39 0) 69 19)) 0) 84 (tn (xI (xsI (xsI (xsI h3 69 20 0) 69 39 0) 79 (tn (xI (xsI (xsI h3 69 20 0) 69 39 0) 69 19)) 0) 69 19)) 0) := ⟨_, rfl⟩
    show Ev 178 105 [.ref 69, .int x1] [] (xsI (xsI (xsI (xsI h3 69 20 0) 69 39 0) 79 (tn (xI (xsI (xsI h3 69 20 0) 69 39 0) 69 19)) 0) 84 (tn (xI (xsI (xsI (xsI h3 69 20 0) 69 39 0) 79 (tn (xI (xsI (xsI h3 69 20 0) 69 39 0) 69 19)) 0) 69 19)) 0) Q
    rw [← eh4]
    have sh4 : Sh h4 := by rw [eh4]; exact (sh_I (sh_I (sh_I (sh_I sh3 (by decide)) (by decide)) (by decide)) (by decide))
    have k := k h4 eh4
    refine e_al o_178_105 rfl ?_
    refine e_gR (r := 83) o_178_106 (sk_69 (h := h4) sh4) (sr_69_27 (h := h4) sh4) (by decide) ?_
    refine e_al o_178_109 rfl ?_
    refine e_gI o_178_110 (sk_69 (h := h4) sh4) ?_
    refine e_c 1 o_178_113 rfl ?_
    obtain ⟨q, k⟩ := k
    refine e_ias (n := 2) o_178_114 (sk_83 (h := h4) sh4) (by decide) (sn_83 (h := h4) sh4) q ?_
    refine e_al o_178_115 rfl ?_
    refine e_gR (r := 92) o_178_116 (sk_69 (h := h4) sh4) (sr_69_37 (h := h4) sh4) (by decide) ?_
    refine e_al o_178_119 rfl ?_
    refine e_gI o_178_120 (sk_69 (h := h4) sh4) ?_
    refine e_c 0 o_178_123 rfl ?_
    obtain ⟨q, k⟩ := k
    refine e_ias (n := 2) o_178_124 (sk_92 (h := h4) sh4) (by decide) (sn_92 (h := h4) sh4) q ?_
    refine e_al o_178_125 rfl ?_
    refine e_gR (r := 93) o_178_126 (sk_69 (h := h4) sh4) (sr_69_38 (h := h4) sh4) (by decide) ?_
    refine e_al o_178_129 rfl ?_
    refine e_gI o_178_130 (sk_69 (h := h4) sh4) ?_
    refine e_c 0 o_178_133 rfl ?_
    obtain ⟨q, k⟩ := k
    refine e_ias (n := 2) o_178_134 (sk_93 (h := h4) sh4) (by decide) (sn_93 (h := h4) sh4) q ?_
    obtain ⟨h5, eh5⟩ : ∃ z : XH, z = (xsI (xsI (xsI h4 83 (tn (xI h4 69 19)) 1) 92 (tn (xI (xsI h4 83 (tn (xI h4 69 19)) 1) 69 19)) 0) 93 (tn (xI (xsI (xsI h4 83 (tn (xI h4 69 19)) 1) 92 (tn (xI (xsI h4 83 (tn (xI h4 69 19)) 1) 69 19)) 0) 69 19)) 0) := ⟨_, rfl⟩
    show Ev 178 135 [.ref 69, .int x1] [] (xsI (xsI (xsI h4 83 (tn (xI h4 69 19)) 1) 92 (tn (xI (xsI h4 83 (tn (xI h4 69 19)) 1) 69 19)) 0) 93 (tn (xI (xsI (xsI h4 83 (tn (xI h4 69 19)) 1) 92 (tn (xI (xsI h4 83 (tn (xI h4 69 19)) 1) 69 19)) 0) 69 19)) 0) Q
    rw [← eh5]
    have sh5 : Sh h5 := by rw [eh5]; exact (sh_I (sh_I (sh_I sh4 (by decide)) (by decide)) (by decide))
    have k := k h5 eh5
    refine e_c 0 o_178_135 rfl ?_
    refine e_is (ls' := [.ref 69, .int 0]) o_178_136 (Nat.le_of_ble_eq_true rfl) rfl ?_
    exact Ev.less (ls := [.ref 69, .int 0]) ⟨Or.inr rfl, Or.inr rfl, trivial⟩ k
  · have k := k.2 z
    refine e_al o_178_18 rfl ?_
    refine e_gR (r := 71) o_178_19 (sk_69 (h := h) hs) (sr_69_3 (h := h) hs) (by decide) ?_
    refine e_il o_178_22 rfl ?_
    refine e_al o_178_23 rfl ?_
    refine e_gR (r := 70) o_178_24 (sk_69 (h := h) hs) (sr_69_1 (h := h) hs) (by decide) ?_
    refine e_il o_178_27 rfl ?_
    obtain ⟨q, k⟩ := k
    refine e_ba (n := 2000) o_178_28 (Or.inl (sk_70 (h := h) hs)) (sn_70 (h := h) hs) q ?_
    obtain ⟨q, k⟩ := k
    refine e_bas (n := 2000) o_178_29 (sk_71 (h := h) hs) (sn_71 (h := h) hs) q ?_
    refine e_inc (ls' := [.ref 69, .int (x1 + 1)]) o_178_30 rfl rfl rfl ?_
    refine e_go o_178_33 ?_
    exact Ev.less (ls := [.ref 69, .int (x1 + 1)]) ⟨Or.inr rfl, Or.inr rfl, trivial⟩ k
set_option maxHeartbeats 4000000 in
set_option maxRecDepth 100000 in
theorem B_178_137 {x1 : Int32} {h : XH} {Q : Value → XH → Prop} (hs : Sh h) (k : ((8 ≤ x1) → Ev 178 214 [.ref 69, .null] [] (xsI (xsI (xsI h 69 32 (36 * (xI h 69 19))) 69 45 (130 * (xI (xsI h 69 32 (36 * (xI h 69 19))) 69 19))) 69 51 (420 * (xI (xsI (xsI h 69 32 (36 * (xI h 69 19))) 69 45 (130 * (xI (xsI h 69 32 (36 * (xI h 69 19))) 69 19))) 69 19))) Q) ∧ (¬ (8 ≤ x1) → InB ((8 * (xI h 69 19)) + x1) 16 ∧ (InB ((8 * (xI (xsI h 96 (tn ((8 * (xI h 69 19)) + x1)) 0) 69 19)) + x1) 16 ∧ (Ev 178 137 [.ref 69, .int (x1 + 1)] [] (xsI (xsI h 96 (tn ((8 * (xI h 69 19)) + x1)) 0) 97 (tn ((8 * (xI (xsI h 96 (tn ((8 * (xI h 69 19)) + x1)) 0) 69 19)) + x1)) 0) Q)))) : Ev 178 137 [.ref 69, .int x1] [] h Q := by
  refine e_il o_178_137 rfl ?_
  refine e_c 8 o_178_138 rfl ?_
  refine e_if_3 o_178_140 (fun z => ?_) (fun z => ?_)
  · have k := k.1 z
    refine e_al o_178_179 rfl ?_
    refine e_c 36 o_178_180 rfl ?_
    refine e_al o_178_182 rfl ?_
    refine e_gI o_178_183 (sk_69 (h := h) hs) ?_
    refine e_bin o_178_186 rfl ?_
    refine e_pI o_178_187 (sk_69 (h := h) hs) ?_
    refine e_al o_178_190 rfl ?_
    refine e_c 130 o_178_191 rfl ?_
    refine e_al o_178_194 rfl ?_
    refine e_gI o_178_195 (sk_69 (h := h) hs) ?_
    refine e_bin o_178_198 rfl ?_
    refine e_pI o_178_199 (sk_69 (h := h) hs) ?_
    refine e_al o_178_202 rfl ?_
    refine e_c 420 o_178_203 rfl ?_
    refine e_al o_178_206 rfl ?_
    refine e_gI o_178_207 (sk_69 (h := h) hs) ?_
    refine e_bin o_178_210 rfl ?_
    refine e_pI o_178_211 (sk_69 (h := h) hs) ?_
    exact Ev.less (ls := [.ref 69, .null]) ⟨Or.inr rfl, Or.inl rfl, trivial⟩ k
  · have k := k.2 z
    refine e_al o_178_143 rfl ?_
    refine e_gR (r := 96) o_178_144 (sk_69 (h := h) hs) (sr_69_43 (h := h) hs) (by decide) ?_
    refine e_c 8 o_178_147 rfl ?_
    refine e_al o_178_149 rfl ?_
    refine e_gI o_178_150 (sk_69 (h := h) hs) ?_
    refine e_bin o_178_153 rfl ?_
    refine e_il o_178_154 rfl ?_
    refine e_bin o_178_155 rfl ?_
    refine e_c 0 o_178_156 rfl ?_
    obtain ⟨q, k⟩ := k
    refine e_ias (n := 16) o_178_157 (sk_96 (h := h) hs) (by decide) (sn_96 (h := h) hs) q ?_
    refine e_al o_178_158 rfl ?_
    refine e_gR (r := 97) o_178_159 (sk_69 (h := h) hs) (sr_69_44 (h := h) hs) (by decide) ?_
    refine e_c 8 o_178_162 rfl ?_
    refine e_al o_178_164 rfl ?_
    refine e_gI o_178_165 (sk_69 (h := h) hs) ?_
    refine e_bin o_178_168 rfl ?_
    refine e_il o_178_169 rfl ?_
    refine e_bin o_178_170 rfl ?_
    refine e_c 0 o_178_171 rfl ?_
    obtain ⟨q, k⟩ := k
    refine e_ias (n := 16) o_178_172 (sk_97 (h := h) hs) (by decide) (sn_97 (h := h) hs) q ?_
    refine e_inc (ls' := [.ref 69, .int (x1 + 1)]) o_178_173 rfl rfl rfl ?_
    refine e_go o_178_176 ?_
    exact Ev.less (ls := [.ref 69, .int (x1 + 1)]) ⟨Or.inr rfl, Or.inr rfl, trivial⟩ k
set_option maxHeartbeats 4000000 in
set_option maxRecDepth 100000 in
theorem B_178_214  {h : XH} {Q : Value → XH → Prop} (hs : Sh h) (k : ((¬ (xI h 69 13) = 0) → Ev 178 236 [.ref 69, .null] [] h Q) ∧ (¬ (¬ (xI h 69 13) = 0) → ClI 185 [.ref 69, .int 0] h (fun v2 h1 => Sh h1 ∧ (((¬ v2 = 0) → Ev 178 236 [.ref 69, .null] [] h1 Q) ∧ (¬ (¬ v2 = 0) → ClV 186 [.ref 69] h1 (fun h3 => Sh h3 ∧ (Ev 178 214 [.ref 69, .null] [] h3 Q))))))) : Ev 178 214 [.ref 69, .null] [] h Q := by
  refine e_al o_178_214 rfl ?_
  refine e_gI o_178_215 (sk_69 (h := h) hs) ?_
  refine e_i0_1 o_178_218 (fun z => ?_) (fun z => ?_)
  · have k := k.1 z
    exact Ev.less (ls := [.ref 69, .null]) ⟨Or.inr rfl, Or.inl rfl, trivial⟩ k
  · have k := k.2 z
    refine e_al o_178_221 rfl ?_
    refine e_c 0 o_178_222 rfl ?_
    refine e_clI (as := [.ref 69, .int 0]) (rest := []) o_178_223 rfl rfl (x_okd cl_178_185 ml_185 (Nat.le_of_ble_eq_true rfl) (Nat.le_of_ble_eq_true rfl)) (x_rc0 (ci := 9) (sk_69 (h := h) hs) mo_185) k ?_
    rintro v2 h1 ⟨sh1, k⟩
    refine e_i0_1 o_178_226 (fun z => ?_) (fun z => ?_)
    · have k := k.1 z
      exact Ev.less (ls := [.ref 69, .null]) ⟨Or.inr rfl, Or.inl rfl, trivial⟩ k
    · have k := k.2 z
      refine e_al o_178_229 rfl ?_
      refine e_clV (as := [.ref 69]) (rest := []) o_178_230 rfl rfl (x_okd cl_178_186 ml_186 (Nat.le_of_ble_eq_true rfl) (Nat.le_of_ble_eq_true rfl)) (x_rc0 (ci := 9) (sk_69 (h := h1) sh1) mo_186) k ?_
      rintro h3 ⟨sh3, k⟩
      refine e_go o_178_233 ?_
      exact Ev.less (ls := [.ref 69, .null]) ⟨Or.inr rfl, Or.inl rfl, trivial⟩ k
set_option maxHeartbeats 4000000 in
set_option maxRecDepth 100000 in
theorem B_178_236  {h : XH} {Q : Value → XH → Prop} (hs : Sh h) (k : ((¬ (xI h 69 13) = 0) → Ev 178 254 [.ref 69, .null] [] h Q) ∧ (¬ (¬ (xI h 69 13) = 0) → ((¬ (xI h 69 15) = 0) → Ev 178 254 [.ref 69, .null] [] h Q) ∧ (¬ (¬ (xI h 69 15) = 0) → ClV 203 [.ref 69] h (fun h1 => Sh h1 ∧ (Ev 178 254 [.ref 69, .null] [] h1 Q))))) : Ev 178 236 [.ref 69, .null] [] h Q := by
  refine e_al o_178_236 rfl ?_
  refine e_gI o_178_237 (sk_69 (h := h) hs) ?_
  refine e_i0_1 o_178_240 (fun z => ?_) (fun z => ?_)
  · have k := k.1 z
    exact Ev.less (ls := [.ref 69, .null]) ⟨Or.inr rfl, Or.inl rfl, trivial⟩ k
  · have k := k.2 z
    refine e_al o_178_243 rfl ?_
    refine e_gI o_178_244 (sk_69 (h := h) hs) ?_
    refine e_i0_1 o_178_247 (fun z => ?_) (fun z => ?_)
    · have k := k.1 z
      exact Ev.less (ls := [.ref 69, .null]) ⟨Or.inr rfl, Or.inl rfl, trivial⟩ k
    · have k := k.2 z
      refine e_al o_178_250 rfl ?_
      refine e_clV (as := [.ref 69]) (rest := []) o_178_251 rfl rfl (x_okd cl_178_203 ml_203 (Nat.le_of_ble_eq_true rfl) (Nat.le_of_ble_eq_true rfl)) (x_rc0 (ci := 9) (sk_69 (h := h) hs) mo_203) k ?_
      rintro h1 ⟨sh1, k⟩
      exact Ev.less (ls := [.ref 69, .null]) ⟨Or.inr rfl, Or.inl rfl, trivial⟩ k
set_option maxHeartbeats 4000000 in
set_option maxRecDepth 100000 in
theorem B_178_254  {h : XH} {Q : Value → XH → Prop} (hs : Sh h) (k : (((xI h 69 13) ≤ 0) → (((xI h 69 15) ≤ 0) → (((xI (xsI h 69 17 (-1)) 69 13) ≤ 0) → (((xI (xsI h 69 17 (-1)) 69 15) ≤ 0) → ClV 161 [.ref 69] (xsI (xsI h 69 17 (-1)) 69 18 (xI (xsI h 69 17 (-1)) 69 19)) (fun h1 => Sh h1 ∧ (ClV 174 [.ref 69] h1 (fun h3 => Sh h3 ∧ (Ev 178 339 [.ref 69, .int 0] [] (xsI (xsI h3 69 65 0) 69 71 0) Q))))) ∧ (¬ ((xI (xsI h 69 17 (-1)) 69 15) ≤ 0) → Q (.int (xI (xsI h 69 17 (-1)) 69 15)) (xsI h 69 17 (-1)))) ∧ (¬ ((xI (xsI h 69 17 (-1)) 69 13) ≤ 0) → Q (.int (xI (xsI h 69 17 (-1)) 69 13)) (xsI h 69 17 (-1)))) ∧ (¬ ((xI h 69 15) ≤ 0) → (((xI (xsI h 69 17 (xI h 69 16)) 69 13) ≤ 0) → (((xI (xsI h 69 17 (xI h 69 16)) 69 15) ≤ 0) → ClV 161 [.ref 69] (xsI (xsI h 69 17 (xI h 69 16)) 69 18 (xI (xsI h 69 17 (xI h 69 16)) 69 19)) (fun h5 => Sh h5 ∧ (ClV 174 [.ref 69] h5 (fun h7 => Sh h7 ∧ (Ev 178 339 [.ref 69, .int 0] [] (xsI (xsI h7 69 65 0) 69 71 0) Q))))) ∧ (¬ ((xI (xsI h 69 17 (xI h 69 16)) 69 15) ≤ 0) → Q (.int (xI (xsI h 69 17 (xI h 69 16)) 69 15)) (xsI h 69 17 (xI h 69 16)))) ∧ (¬ ((xI (xsI h 69 17 (xI h 69 16)) 69 13) ≤ 0) → Q (.int (xI (xsI h 69 17 (xI h 69 16)) 69 13)) (xsI h 69 17 (xI h 69 16))))) ∧ (¬ ((xI h 69 13) ≤ 0) → (((xI (xsI h 69 17 (xI h 69 14)) 69 13) ≤ 0) → (((xI (xsI h 69 17 (xI h 69 14)) 69 15) ≤ 0) → ClV 161 [.ref 69] (xsI (xsI h 69 17 (xI h 69 14)) 69 18 (xI (xsI h 69 17 (xI h 69 14)) 69 19)) (fun h9 => Sh h9 ∧ (ClV 174 [.ref 69] h9 (fun h11 => Sh h11 ∧ (Ev 178 339 [.ref 69, .int 0] [] (xsI (xsI h11 69 65 0) 69 71 0) Q))))) ∧ (¬ ((xI (xsI h 69 17 (xI h 69 14)) 69 15) ≤ 0) → Q (.int (xI (xsI h 69 17 (xI h 69 14)) 69 15)) (xsI h 69 17 (xI h 69 14)))) ∧ (¬ ((xI (xsI h 69 17 (xI h 69 14)) 69 13) ≤ 0) → Q (.int (xI (xsI h 69 17 (xI h 69 14)) 69 13)) (xsI h 69 17 (xI h 69 14))))) : Ev 178 254 [.ref 69, .null] [] h Q := by
  refine e_al o_178_254 rfl ?_
  refine e_al o_178_255 rfl ?_
  refine e_gI o_178_256 (sk_69 (h := h) hs) ?_
  refine e_i0_5 o_178_259 (fun z => ?_) (fun z => ?_)
  · have k := k.1 z
    refine e_al o_178_269 rfl ?_
    refine e_gI o_178_270 (sk_69 (h := h) hs) ?_
    refine e_i0_5 o_178_273 (fun z => ?_) (fun z => ?_)
    · have k := k.1 z
      refine e_c (-1) o_178_283 rfl ?_
      refine e_pI o_178_284 (sk_69 (h := h) hs) ?_
      refine e_al o_178_287 rfl ?_
      refine e_gI o_178_288 (sk_69 (h := h) hs) ?_
      refine e_i0_5 o_178_291 (fun z => ?_) (fun z => ?_)
      · have k := k.1 z
        refine e_al o_178_299 rfl ?_
        refine e_gI o_178_300 (sk_69 (h := h) hs) ?_
        refine e_i0_5 o_178_303 (fun z => ?_) (fun z => ?_)
        · have k := k.1 z
          refine e_al o_178_311 rfl ?_
          refine e_al o_178_312 rfl ?_
          refine e_gI o_178_313 (sk_69 (h := h) hs) ?_
          refine e_pI o_178_316 (sk_69 (h := h) hs) ?_
          refine e_al o_178_319 rfl ?_
          refine e_clV (as := [.ref 69]) (rest := []) o_178_320 rfl rfl (x_okd cl_178_161 ml_161 (Nat.le_of_ble_eq_true rfl) (Nat.le_of_ble_eq_true rfl)) (x_rc0 (ci := 9) (sk_69 (h := h) hs) mo_161) k ?_
          rintro h1 ⟨sh1, k⟩
          refine e_al o_178_323 rfl ?_
          refine e_clV (as := [.ref 69]) (rest := []) o_178_324 rfl rfl (x_okd cl_178_174 ml_174 (Nat.le_of_ble_eq_true rfl) (Nat.le_of_ble_eq_true rfl)) (x_rc0 (ci := 9) (sk_69 (h := h1) sh1) mo_174) k ?_
          rintro h3 ⟨sh3, k⟩
          refine e_al o_178_327 rfl ?_
          refine e_c 0 o_178_328 rfl ?_
          refine e_pI o_178_329 (sk_69 (h := h3) sh3) ?_
          refine e_al o_178_332 rfl ?_
          refine e_c 0 o_178_333 rfl ?_
          refine e_pI o_178_334 (sk_69 (h := h3) sh3) ?_
          refine e_c 0 o_178_337 rfl ?_
          refine e_is (ls' := [.ref 69, .int 0]) o_178_338 (Nat.le_of_ble_eq_true rfl) rfl ?_
          exact Ev.less (ls := [.ref 69, .int 0]) ⟨Or.inr rfl, Or.inr rfl, trivial⟩ k
        · have k := k.2 z
          refine e_al o_178_306 rfl ?_
          refine e_gI o_178_307 (sk_69 (h := h) hs) ?_
          exact e_retI o_178_310 k
      · have k := k.2 z
        refine e_al o_178_294 rfl ?_
        refine e_gI o_178_295 (sk_69 (h := h) hs) ?_
        exact e_retI o_178_298 k
    · have k := k.2 z
      refine e_al o_178_276 rfl ?_
      refine e_gI o_178_277 (sk_69 (h := h) hs) ?_
      refine e_go o_178_280 ?_
      refine e_pI o_178_284 (sk_69 (h := h) hs) ?_
      refine e_al o_178_287 rfl ?_
      refine e_gI o_178_288 (sk_69 (h := h) hs) ?_
      refine e_i0_5 o_178_291 (fun z => ?_) (fun z => ?_)
      · have k := k.1 z
        refine e_al o_178_299 rfl ?_
        refine e_gI o_178_300 (sk_69 (h := h) hs) ?_
        refine e_i0_5 o_178_303 (fun z => ?_) (fun z => ?_)
        · have k := k.1 z
          refine e_al o_178_311 rfl ?_
          refine e_al o_178_312 rfl ?_
          refine e_gI o_178_313 (sk_69 (h := h) hs) ?_
          refine e_pI o_178_316 (sk_69 (h := h) hs) ?_
          refine e_al o_178_319 rfl ?_
          refine e_clV (as := [.ref 69]) (rest := []) o_178_320 rfl rfl (x_okd cl_178_161 ml_161 (Nat.le_of_ble_eq_true rfl) (Nat.le_of_ble_eq_true rfl)) (x_rc0 (ci := 9) (sk_69 (h := h) hs) mo_161) k ?_
          rintro h5 ⟨sh5, k⟩
          refine e_al o_178_323 rfl ?_
          refine e_clV (as := [.ref 69]) (rest := []) o_178_324 rfl rfl (x_okd cl_178_174 ml_174 (Nat.le_of_ble_eq_true rfl) (Nat.le_of_ble_eq_true rfl)) (x_rc0 (ci := 9) (sk_69 (h := h5) sh5) mo_174) k ?_
          rintro h7 ⟨sh7, k⟩
          refine e_al o_178_327 rfl ?_
          refine e_c 0 o_178_328 rfl ?_
          refine e_pI o_178_329 (sk_69 (h := h7) sh7) ?_
          refine e_al o_178_332 rfl ?_
          refine e_c 0 o_178_333 rfl ?_
          refine e_pI o_178_334 (sk_69 (h := h7) sh7) ?_
          refine e_c 0 o_178_337 rfl ?_
          refine e_is (ls' := [.ref 69, .int 0]) o_178_338 (Nat.le_of_ble_eq_true rfl) rfl ?_
          exact Ev.less (ls := [.ref 69, .int 0]) ⟨Or.inr rfl, Or.inr rfl, trivial⟩ k
        · have k := k.2 z
          refine e_al o_178_306 rfl ?_
          refine e_gI o_178_307 (sk_69 (h := h) hs) ?_
          exact e_retI o_178_310 k
      · have k := k.2 z
        refine e_al o_178_294 rfl ?_
        refine e_gI o_178_295 (sk_69 (h := h) hs) ?_
        exact e_retI o_178_298 k
  · have k := k.2 z
    refine e_al o_178_262 rfl ?_
    refine e_gI o_178_263 (sk_69 (h := h) hs) ?_
    refine e_go o_178_266 ?_
    refine e_pI o_178_284 (sk_69 (h := h) hs) ?_
    refine e_al o_178_287 rfl ?_
    refine e_gI o_178_288 (sk_69 (h := h) hs) ?_
    refine e_i0_5 o_178_291 (fun z => ?_) (fun z => ?_)
    · have k := k.1 z
      refine e_al o_178_299 rfl ?_
      refine e_gI o_178_300 (sk_69 (h := h) hs) ?_
      refine e_i0_5 o_178_303 (fun z => ?_) (fun z => ?_)
      · have k := k.1 z
        refine e_al o_178_311 rfl ?_
        refine e_al o_178_312 rfl ?_
        refine e_gI o_178_313 (sk_69 (h := h) hs) ?_
        refine e_pI o_178_316 (sk_69 (h := h) hs) ?_
        refine e_al o_178_319 rfl ?_
        refine e_clV (as := [.ref 69]) (rest := []) o_178_320 rfl rfl (x_okd cl_178_161 ml_161 (Nat.le_of_ble_eq_true rfl) (Nat.le_of_ble_eq_true rfl)) (x_rc0 (ci := 9) (sk_69 (h := h) hs) mo_161) k ?_
        rintro h9 ⟨sh9, k⟩
        refine e_al o_178_323 rfl ?_
        refine e_clV (as := [.ref 69]) (rest := []) o_178_324 rfl rfl (x_okd cl_178_174 ml_174 (Nat.le_of_ble_eq_true rfl) (Nat.le_of_ble_eq_true rfl)) (x_rc0 (ci := 9) (sk_69 (h := h9) sh9) mo_174) k ?_
        rintro h11 ⟨sh11, k⟩
        refine e_al o_178_327 rfl ?_
        refine e_c 0 o_178_328 rfl ?_
        refine e_pI o_178_329 (sk_69 (h := h11) sh11) ?_
        refine e_al o_178_332 rfl ?_
        refine e_c 0 o_178_333 rfl ?_
        refine e_pI o_178_334 (sk_69 (h := h11) sh11) ?_
        refine e_c 0 o_178_337 rfl ?_
        refine e_is (ls' := [.ref 69, .int 0]) o_178_338 (Nat.le_of_ble_eq_true rfl) rfl ?_
        exact Ev.less (ls := [.ref 69, .int 0]) ⟨Or.inr rfl, Or.inr rfl, trivial⟩ k
      · have k := k.2 z
        refine e_al o_178_306 rfl ?_
        refine e_gI o_178_307 (sk_69 (h := h) hs) ?_
        exact e_retI o_178_310 k
    · have k := k.2 z
      refine e_al o_178_294 rfl ?_
      refine e_gI o_178_295 (sk_69 (h := h) hs) ?_
      exact e_retI o_178_298 k
set_option maxHeartbeats 4000000 in
set_option maxRecDepth 100000 in
theorem B_178_339 {x1 : Int32} {h : XH} {Q : Value → XH → Prop} (hs : Sh h) (k : ((3 ≤ x1) → Q (.int 0) h) ∧ (¬ (3 ≤ x1) → InB x1 3 ∧ (Ev 178 339 [.ref 69, .int (x1 + 1)] [] (xsI h 122 (tn x1) 0) Q))) : Ev 178 339 [.ref 69, .int x1] [] h Q := by
  refine e_il o_178_339 rfl ?_
  refine e_c 3 o_178_340 rfl ?_
  refine e_if_3 o_178_341 (fun z => ?_) (fun z => ?_)
  · have k := k.1 z
    refine e_c 0 o_178_357 rfl ?_
    exact e_retI o_178_358 k
  · have k := k.2 z
    refine e_al o_178_344 rfl ?_
    refine e_gR (r := 122) o_178_345 (sk_69 (h := h) hs) (sr_69_76 (h := h) hs) (by decide) ?_
    refine e_il o_178_348 rfl ?_
    refine e_c 0 o_178_349 rfl ?_
    obtain ⟨q, k⟩ := k
    refine e_zas (n := 3) o_178_350 (sk_122 (h := h) hs) (by decide) (sn_122 (h := h) hs) q ?_
    refine e_inc (ls' := [.ref 69, .int (x1 + 1)]) o_178_351 rfl rfl rfl ?_
    refine e_go o_178_354 ?_
    exact Ev.less (ls := [.ref 69, .int (x1 + 1)]) ⟨Or.inr rfl, Or.inr rfl, trivial⟩ k
set_option maxHeartbeats 4000000 in
set_option maxRecDepth 100000 in
theorem B_179_0  {h : XH} {Q : Value → XH → Prop} (hs : Sh h) (k : Ev 179 7 [.ref 69, .int 0, .null, .null, .null, .null, .null, .null] [] (xsI h 69 10 0) Q) : Ev 179 0 (x_ini 179 [.ref 69]) [] h Q := by
  rw [show x_ini 179 [.ref 69] = [.ref 69, .null, .null, .null, .null, .null, .null, .null] from x_inid ml_179 rfl]
  refine e_al o_179_0 rfl ?_
  refine e_c 0 o_179_1 rfl ?_
  refine e_pI o_179_2 (sk_69 (h := h) hs) ?_
  refine e_c 0 o_179_5 rfl ?_
  refine e_is (ls' := [.ref 69, .int 0, .null, .null, .null, .null, .null, .null]) o_179_6 (Nat.le_of_ble_eq_true rfl) rfl ?_
  exact Ev.less (ls := [.ref 69, .int 0, .null, .null, .null, .null, .null, .null]) ⟨Or.inr rfl, Or.inr rfl, Or.inl rfl, Or.inl rfl, Or.inl rfl, Or.inl rfl, Or.inl rfl, Or.inl rfl, trivial⟩ k
set_option maxHeartbeats 4000000 in
set_option maxRecDepth 100000 in
theorem B_179_7 {x1 : Int32} {h : XH} {Q : Value → XH → Prop} (hs : Sh h) (k : ((400 < (xI h 69 10)) → Q .null h) ∧ (¬ (400 < (xI h 69 10)) → ClI 180 [.ref 69, .int x1] h (fun v2 h1 => Sh h1 ∧ (((x1 < (xI h1 69 4)) → ((v2 = 9) → Ev 179 67 [.ref 69, .int x1, .null, .null, .null, .null, .null, .null] [] h1 Q) ∧ (¬ (v2 = 9) → ((v2 = 10) → Ev 179 67 [.ref 69, .int x1, .null, .null, .null, .null, .null, .null] [] h1 Q) ∧ (¬ (v2 = 10) → ((v2 = 13) → Ev 179 67 [.ref 69, .int x1, .null, .null, .null, .null, .null, .null] [] h1 Q) ∧ (¬ (v2 = 13) → ((¬ v2 = 32) → ClI 182 [.int v2] h1 (fun v4 h3 => Sh h3 ∧ (((v4 = 0) → ClI 183 [.int v2] h3 (fun v6 h5 => Sh h5 ∧ (((v6 = 0) → ClI 180 [.ref 69, .int (x1 + 1)] h5 (fun v8 h7 => Sh h7 ∧ (ClI 184 [.ref 69, .int x1, .int v2, .int v8] h7 (fun v10 h9 => Sh h9 ∧ (Ev 179 291 [.ref 69, .int (x1 + v10), .null, .null, .null, .null, .null, .null] [] h9 Q))))) ∧ (¬ (v6 = 0) → Ev 179 208 [.ref 69, .int x1, .null, .int 0, .int 0, .null, .null, .null] [] h5 Q)))) ∧ (¬ (v4 = 0) → Ev 179 85 [.ref 69, .int x1, .null, .int 0, .long 0, .null, .null, .null] [] h3 Q)))) ∧ (¬ (¬ v2 = 32) → Ev 179 67 [.ref 69, .int x1, .null, .null, .null, .null, .null, .null] [] h1 Q))))) ∧ (¬ (x1 < (xI h1 69 4)) → ClV 181 [.ref 69, .int 0, .int (xI h1 69 4), .int 0, .long 0] h1 (fun h11 => Sh h11 ∧ (Q .null h11))))))) : Ev 179 7 [.ref 69, .int x1, .null, .null, .null, .null, .null, .null] [] h Q := by
  refine e_al o_179_7 rfl ?_
  refine e_gI o_179_8 (sk_69 (h := h) hs) ?_
  refine e_c 400 o_179_11 rfl ?_
  refine e_if_4 o_179_14 (fun z => ?_) (fun z => ?_)
  · have k := k.1 z
    exact e_ret0 o_179_294 k
  · have k := k.2 z
    refine e_al o_179_17 rfl ?_
    refine e_il o_179_18 rfl ?_
    refine e_clI (as := [.ref 69, .int x1]) (rest := []) o_179_19 rfl rfl (x_okd cl_179_180 ml_180 (Nat.le_of_ble_eq_true rfl) (Nat.le_of_ble_eq_true rfl)) (x_rc0 (ci := 9) (sk_69 (h := h) hs) mo_180) k ?_
    rintro v2 h1 ⟨sh1, k⟩
    refine e_is (ls' := [.ref 69, .int x1, .int v2, .null, .null, .null, .null, .null]) o_179_22 (Nat.le_of_ble_eq_true rfl) rfl ?_
    refine e_il o_179_23 rfl ?_
    refine e_al o_179_24 rfl ?_
    refine e_gI o_179_25 (sk_69 (h := h1) sh1) ?_
    refine e_if_2 o_179_28 (fun z => ?_) (fun z => ?_)
    · have k := k.1 z
      refine e_il o_179_43 rfl ?_
      refine e_c 9 o_179_44 rfl ?_
      refine e_if_0 o_179_46 (fun z => ?_) (fun z => ?_)
      · have k := k.1 z
        exact Ev.less (ls := [.ref 69, .int x1, .null, .null, .null, .null, .null, .null]) ⟨Or.inr rfl, Or.inr rfl, Or.inl rfl, Or.inl rfl, Or.inl rfl, Or.inl rfl, Or.inl rfl, Or.inl rfl, trivial⟩ k
      · have k := k.2 z
        refine e_il o_179_49 rfl ?_
        refine e_c 10 o_179_50 rfl ?_
        refine e_if_0 o_179_52 (fun z => ?_) (fun z => ?_)
        · have k := k.1 z
          exact Ev.less (ls := [.ref 69, .int x1, .null, .null, .null, .null, .null, .null]) ⟨Or.inr rfl, Or.inr rfl, Or.inl rfl, Or.inl rfl, Or.inl rfl, Or.inl rfl, Or.inl rfl, Or.inl rfl, trivial⟩ k
        · have k := k.2 z
          refine e_il o_179_55 rfl ?_
          refine e_c 13 o_179_56 rfl ?_
          refine e_if_0 o_179_58 (fun z => ?_) (fun z => ?_)
          · have k := k.1 z
            exact Ev.less (ls := [.ref 69, .int x1, .null, .null, .null, .null, .null, .null]) ⟨Or.inr rfl, Or.inr rfl, Or.inl rfl, Or.inl rfl, Or.inl rfl, Or.inl rfl, Or.inl rfl, Or.inl rfl, trivial⟩ k
          · have k := k.2 z
            refine e_il o_179_61 rfl ?_
            refine e_c 32 o_179_62 rfl ?_
            refine e_if_1 o_179_64 (fun z => ?_) (fun z => ?_)
            · have k := k.1 z
              refine e_il o_179_73 rfl ?_
              refine e_clI (as := [.int v2]) (rest := []) o_179_74 rfl rfl (x_okd cl_179_182 ml_182 (Nat.le_of_ble_eq_true rfl) (Nat.le_of_ble_eq_true rfl)) (rfl) k ?_
              rintro v4 h3 ⟨sh3, k⟩
              refine e_i0_0 o_179_77 (fun z => ?_) (fun z => ?_)
              · have k := k.1 z
                refine e_il o_179_196 rfl ?_
                refine e_clI (as := [.int v2]) (rest := []) o_179_197 rfl rfl (x_okd cl_179_183 ml_183 (Nat.le_of_ble_eq_true rfl) (Nat.le_of_ble_eq_true rfl)) (rfl) k ?_
                rintro v6 h5 ⟨sh5, k⟩
                refine e_i0_0 o_179_200 (fun z => ?_) (fun z => ?_)
                · have k := k.1 z
                  refine e_il o_179_275 rfl ?_
                  refine e_al o_179_276 rfl ?_
                  refine e_il o_179_277 rfl ?_
                  refine e_il o_179_278 rfl ?_
                  refine e_al o_179_279 rfl ?_
                  refine e_il o_179_280 rfl ?_
                  refine e_c 1 o_179_281 rfl ?_
                  refine e_bin o_179_282 rfl ?_
                  refine e_clI (as := [.ref 69, .int (x1 + 1)]) (rest := [.int v2, .int x1, .ref 69, .int x1]) o_179_283 rfl rfl (x_okd cl_179_180 ml_180 (Nat.le_of_ble_eq_true rfl) (Nat.le_of_ble_eq_true rfl)) (x_rc0 (ci := 9) (sk_69 (h := h5) sh5) mo_180) k ?_
                  rintro v8 h7 ⟨sh7, k⟩
                  refine e_clI (as := [.ref 69, .int x1, .int v2, .int v8]) (rest := [.int x1]) o_179_286 rfl rfl (x_okd cl_179_184 ml_184 (Nat.le_of_ble_eq_true rfl) (Nat.le_of_ble_eq_true rfl)) (x_rc0 (ci := 9) (sk_69 (h := h7) sh7) mo_184) k ?_
                  rintro v10 h9 ⟨sh9, k⟩
                  refine e_bin o_179_289 rfl ?_
                  refine e_is (ls' := [.ref 69, .int (x1 + v10), .int v2, .null, .null, .null, .null, .null]) o_179_290 (Nat.le_of_ble_eq_true rfl) rfl ?_
                  exact Ev.less (ls := [.ref 69, .int (x1 + v10), .null, .null, .null, .null, .null, .null]) ⟨Or.inr rfl, Or.inr rfl, Or.inl rfl, Or.inl rfl, Or.inl rfl, Or.inl rfl, Or.inl rfl, Or.inl rfl, trivial⟩ k
                · have k := k.2 z
                  refine e_c 0 o_179_203 rfl ?_
                  refine e_is (ls' := [.ref 69, .int x1, .int v2, .int 0, .null, .null, .null, .null]) o_179_204 (Nat.le_of_ble_eq_true rfl) rfl ?_
                  refine e_c 0 o_179_205 rfl ?_
                  refine e_is (ls' := [.ref 69, .int x1, .int v2, .int 0, .int 0, .null, .null, .null]) o_179_206 (Nat.le_of_ble_eq_true rfl) rfl ?_
                  exact Ev.less (ls := [.ref 69, .int x1, .null, .int 0, .int 0, .null, .null, .null]) ⟨Or.inr rfl, Or.inr rfl, Or.inl rfl, Or.inr rfl, Or.inr rfl, Or.inl rfl, Or.inl rfl, Or.inl rfl, trivial⟩ k
              · have k := k.2 z
                refine e_c 0 o_179_80 rfl ?_
                refine e_is (ls' := [.ref 69, .int x1, .int v2, .int 0, .null, .null, .null, .null]) o_179_81 (Nat.le_of_ble_eq_true rfl) rfl ?_
                refine e_lc 0 o_179_82 rfl ?_
                refine e_lst (ls' := [.ref 69, .int x1, .int v2, .int 0, .long 0, .null, .null, .null]) o_179_83 (Nat.le_of_ble_eq_true rfl) rfl ?_
                exact Ev.less (ls := [.ref 69, .int x1, .null, .int 0, .long 0, .null, .null, .null]) ⟨Or.inr rfl, Or.inr rfl, Or.inl rfl, Or.inr rfl, Or.inr rfl, Or.inl rfl, Or.inl rfl, Or.inl rfl, trivial⟩ k
            · have k := k.2 z
              exact Ev.less (ls := [.ref 69, .int x1, .null, .null, .null, .null, .null, .null]) ⟨Or.inr rfl, Or.inr rfl, Or.inl rfl, Or.inl rfl, Or.inl rfl, Or.inl rfl, Or.inl rfl, Or.inl rfl, trivial⟩ k
    · have k := k.2 z
      refine e_al o_179_31 rfl ?_
      refine e_c 0 o_179_32 rfl ?_
      refine e_al o_179_33 rfl ?_
      refine e_gI o_179_34 (sk_69 (h := h1) sh1) ?_
      refine e_c 0 o_179_37 rfl ?_
      refine e_lc 0 o_179_38 rfl ?_
      refine e_clV (as := [.ref 69, .int 0, .int (xI h1 69 4), .int 0, .long 0]) (rest := []) o_179_39 rfl rfl (x_okd cl_179_181 ml_181 (Nat.le_of_ble_eq_true rfl) (Nat.le_of_ble_eq_true rfl)) (x_rc0 (ci := 9) (sk_69 (h := h1) sh1) mo_181) k ?_
      rintro h11 ⟨sh11, k⟩
      exact e_ret0 o_179_42 k
set_option maxHeartbeats 4000000 in
set_option maxRecDepth 100000 in
theorem B_179_67 {x1 : Int32} {h : XH} {Q : Value → XH → Prop} (hs : Sh h) (k : Ev 179 291 [.ref 69, .int (x1 + 1), .null, .null, .null, .null, .null, .null] [] h Q) : Ev 179 67 [.ref 69, .int x1, .null, .null, .null, .null, .null, .null] [] h Q := by
  refine e_inc (ls' := [.ref 69, .int (x1 + 1), .null, .null, .null, .null, .null, .null]) o_179_67 rfl rfl rfl ?_
  refine e_go o_179_70 ?_
  exact Ev.less (ls := [.ref 69, .int (x1 + 1), .null, .null, .null, .null, .null, .null]) ⟨Or.inr rfl, Or.inr rfl, Or.inl rfl, Or.inl rfl, Or.inl rfl, Or.inl rfl, Or.inl rfl, Or.inl rfl, trivial⟩ k
set_option maxHeartbeats 4000000 in
set_option maxRecDepth 100000 in
theorem B_179_85 {x1 : Int32} {x3 : Int32} {x4 : Int64} {h : XH} {Q : Value → XH → Prop} (hs : Sh h) (k : ClI 180 [.ref 69, .int (x1 + x3)] h (fun v2 h1 => Sh h1 ∧ (ClI 182 [.int v2] h1 (fun v4 h3 => Sh h3 ∧ (((v4 = 0) → ((x3 ≤ 8) → ((7 < x3) → Ev 179 179 [.ref 69, .int x1, .null, .int x3, .long x4, .null, .int 1, .null] [] h3 Q) ∧ (¬ (7 < x3) → Ev 179 146 [.ref 69, .int x1, .null, .int x3, .long x4, .null, .int 1, .int 0] [] h3 Q)) ∧ (¬ (x3 ≤ 8) → ((7 < x3) → Ev 179 179 [.ref 69, .int x1, .null, .int x3, .long x4, .null, .int 3, .null] [] h3 Q) ∧ (¬ (7 < x3) → Ev 179 146 [.ref 69, .int x1, .null, .int x3, .long x4, .null, .int 3, .int 0] [] h3 Q))) ∧ (¬ (v4 = 0) → ((8 ≤ x3) → Ev 179 118 [.ref 69, .int x1, .null, .int x3, .long x4, .null, .null, .null] [] h3 Q) ∧ (¬ (8 ≤ x3) → ClI 180 [.ref 69, .int (x1 + x3)] h3 (fun v6 h5 => Sh h5 ∧ (ClL 160 [.long x4, .int v6] h5 (fun v8 h7 => Sh h7 ∧ (Ev 179 118 [.ref 69, .int x1, .null, .int x3, .long v8, .null, .null, .null] [] h7 Q))))))))))) : Ev 179 85 [.ref 69, .int x1, .null, .int x3, .long x4, .null, .null, .null] [] h Q := by
  refine e_al o_179_85 rfl ?_
  refine e_il o_179_86 rfl ?_
  refine e_il o_179_87 rfl ?_
  refine e_bin o_179_88 rfl ?_
  refine e_clI (as := [.ref 69, .int (x1 + x3)]) (rest := []) o_179_89 rfl rfl (x_okd cl_179_180 ml_180 (Nat.le_of_ble_eq_true rfl) (Nat.le_of_ble_eq_true rfl)) (x_rc0 (ci := 9) (sk_69 (h := h) hs) mo_180) k ?_
  rintro v2 h1 ⟨sh1, k⟩
  refine e_clI (as := [.int v2]) (rest := []) o_179_92 rfl rfl (x_okd cl_179_182 ml_182 (Nat.le_of_ble_eq_true rfl) (Nat.le_of_ble_eq_true rfl)) (rfl) k ?_
  rintro v4 h3 ⟨sh3, k⟩
  refine e_i0_0 o_179_95 (fun z => ?_) (fun z => ?_)
  · have k := k.1 z
    refine e_il o_179_124 rfl ?_
    refine e_c 8 o_179_125 rfl ?_
    refine e_if_5 o_179_127 (fun z => ?_) (fun z => ?_)
    · have k := k.1 z
      refine e_c 1 o_179_134 rfl ?_
      refine e_is (ls' := [.ref 69, .int x1, .null, .int x3, .long x4, .null, .int 1, .null]) o_179_135 (Nat.le_of_ble_eq_true rfl) rfl ?_
      refine e_il o_179_137 rfl ?_
      refine e_c 7 o_179_138 rfl ?_
      refine e_if_4 o_179_140 (fun z => ?_) (fun z => ?_)
      · have k := k.1 z
        exact Ev.less (ls := [.ref 69, .int x1, .null, .int x3, .long x4, .null, .int 1, .null]) ⟨Or.inr rfl, Or.inr rfl, Or.inl rfl, Or.inr rfl, Or.inr rfl, Or.inl rfl, Or.inr rfl, Or.inl rfl, trivial⟩ k
      · have k := k.2 z
        refine e_c 0 o_179_143 rfl ?_
        refine e_is (ls' := [.ref 69, .int x1, .null, .int x3, .long x4, .null, .int 1, .int 0]) o_179_144 (Nat.le_of_ble_eq_true rfl) rfl ?_
        exact Ev.less (ls := [.ref 69, .int x1, .null, .int x3, .long x4, .null, .int 1, .int 0]) ⟨Or.inr rfl, Or.inr rfl, Or.inl rfl, Or.inr rfl, Or.inr rfl, Or.inl rfl, Or.inr rfl, Or.inr rfl, trivial⟩ k
    · have k := k.2 z
      refine e_c 3 o_179_130 rfl ?_
      refine e_go o_179_131 ?_
      refine e_is (ls' := [.ref 69, .int x1, .null, .int x3, .long x4, .null, .int 3, .null]) o_179_135 (Nat.le_of_ble_eq_true rfl) rfl ?_
      refine e_il o_179_137 rfl ?_
      refine e_c 7 o_179_138 rfl ?_
      refine e_if_4 o_179_140 (fun z => ?_) (fun z => ?_)
      · have k := k.1 z
        exact Ev.less (ls := [.ref 69, .int x1, .null, .int x3, .long x4, .null, .int 3, .null]) ⟨Or.inr rfl, Or.inr rfl, Or.inl rfl, Or.inr rfl, Or.inr rfl, Or.inl rfl, Or.inr rfl, Or.inl rfl, trivial⟩ k
      · have k := k.2 z
        refine e_c 0 o_179_143 rfl ?_
        refine e_is (ls' := [.ref 69, .int x1, .null, .int x3, .long x4, .null, .int 3, .int 0]) o_179_144 (Nat.le_of_ble_eq_true rfl) rfl ?_
        exact Ev.less (ls := [.ref 69, .int x1, .null, .int x3, .long x4, .null, .int 3, .int 0]) ⟨Or.inr rfl, Or.inr rfl, Or.inl rfl, Or.inr rfl, Or.inr rfl, Or.inl rfl, Or.inr rfl, Or.inr rfl, trivial⟩ k
  · have k := k.2 z
    refine e_il o_179_98 rfl ?_
    refine e_c 8 o_179_99 rfl ?_
    refine e_if_3 o_179_101 (fun z => ?_) (fun z => ?_)
    · have k := k.1 z
      exact Ev.less (ls := [.ref 69, .int x1, .null, .int x3, .long x4, .null, .null, .null]) ⟨Or.inr rfl, Or.inr rfl, Or.inl rfl, Or.inr rfl, Or.inr rfl, Or.inl rfl, Or.inl rfl, Or.inl rfl, trivial⟩ k
    · have k := k.2 z
      refine e_ll o_179_104 rfl ?_
      refine e_al o_179_106 rfl ?_
      refine e_il o_179_107 rfl ?_
      refine e_il o_179_108 rfl ?_
      refine e_bin o_179_109 rfl ?_
      refine e_clI (as := [.ref 69, .int (x1 + x3)]) (rest := [.long x4]) o_179_110 rfl rfl (x_okd cl_179_180 ml_180 (Nat.le_of_ble_eq_true rfl) (Nat.le_of_ble_eq_true rfl)) (x_rc0 (ci := 9) (sk_69 (h := h3) sh3) mo_180) k ?_
      rintro v6 h5 ⟨sh5, k⟩
      refine e_clL (as := [.long x4, .int v6]) (rest := []) o_179_113 rfl rfl (x_okd cl_179_160 ml_160 (Nat.le_of_ble_eq_true rfl) (Nat.le_of_ble_eq_true rfl)) (rfl) k ?_
      rintro v8 h7 ⟨sh7, k⟩
      refine e_lst (ls' := [.ref 69, .int x1, .null, .int x3, .long v8, .null, .null, .null]) o_179_116 (Nat.le_of_ble_eq_true rfl) rfl ?_
      exact Ev.less (ls := [.ref 69, .int x1, .null, .int x3, .long v8, .null, .null, .null]) ⟨Or.inr rfl, Or.inr rfl, Or.inl rfl, Or.inr rfl, Or.inr rfl, Or.inl rfl, Or.inl rfl, Or.inl rfl, trivial⟩ k
set_option maxHeartbeats 4000000 in
set_option maxRecDepth 100000 in
theorem B_179_118 {x1 : Int32} {x3 : Int32} {x4 : Int64} {h : XH} {Q : Value → XH → Prop} (hs : Sh h) (k : Ev 179 85 [.ref 69, .int x1, .null, .int (x3 + 1), .long x4, .null, .null, .null] [] h Q) : Ev 179 118 [.ref 69, .int x1, .null, .int x3, .long x4, .null, .null, .null] [] h Q := by
  refine e_inc (ls' := [.ref 69, .int x1, .null, .int (x3 + 1), .long x4, .null, .null, .null]) o_179_118 rfl rfl rfl ?_
  refine e_go o_179_121 ?_
  exact Ev.less (ls := [.ref 69, .int x1, .null, .int (x3 + 1), .long x4, .null, .null, .null]) ⟨Or.inr rfl, Or.inr rfl, Or.inl rfl, Or.inr rfl, Or.inr rfl, Or.inl rfl, Or.inl rfl, Or.inl rfl, trivial⟩ k
set_option maxHeartbeats 4000000 in
set_option maxRecDepth 100000 in
theorem B_179_146 {x1 : Int32} {x3 : Int32} {x4 : Int64} {x6 : Int32} {x7 : Int32} {h : XH} {Q : Value → XH → Prop} (hs : Sh h) (k : ((16 ≤ x7) → Ev 179 179 [.ref 69, .int x1, .null, .int x3, .long x4, .null, .int x6, .null] [] h Q) ∧ (¬ (16 ≤ x7) → InB x7 16 ∧ (((¬ (lg_cmp (xL h 76 (tn x7)) x4) = 0) → Ev 179 173 [.ref 69, .int x1, .null, .int x3, .long x4, .null, .int x6, .int x7] [] h Q) ∧ (¬ (¬ (lg_cmp (xL h 76 (tn x7)) x4) = 0) → Ev 179 173 [.ref 69, .int x1, .null, .int x3, .long x4, .null, .int (20 + x7), .int x7] [] h Q)))) : Ev 179 146 [.ref 69, .int x1, .null, .int x3, .long x4, .null, .int x6, .int x7] [] h Q := by
  refine e_il o_179_146 rfl ?_
  refine e_c 16 o_179_148 rfl ?_
  refine e_if_3 o_179_150 (fun z => ?_) (fun z => ?_)
  · have k := k.1 z
    exact Ev.less (ls := [.ref 69, .int x1, .null, .int x3, .long x4, .null, .int x6, .null]) ⟨Or.inr rfl, Or.inr rfl, Or.inl rfl, Or.inr rfl, Or.inr rfl, Or.inl rfl, Or.inr rfl, Or.inl rfl, trivial⟩ k
  · have k := k.2 z
    refine e_al o_179_153 rfl ?_
    refine e_gR (r := 76) o_179_154 (sk_69 (h := h) hs) (sr_69_9 (h := h) hs) (by decide) ?_
    refine e_il o_179_157 rfl ?_
    obtain ⟨q, k⟩ := k
    refine e_la (n := 16) o_179_159 (sk_76 (h := h) hs) (sn_76 (h := h) hs) q ?_
    refine e_ll o_179_160 rfl ?_
    refine e_lcmp o_179_162 ?_
    refine e_i0_1 o_179_163 (fun z => ?_) (fun z => ?_)
    · have k := k.1 z
      exact Ev.less (ls := [.ref 69, .int x1, .null, .int x3, .long x4, .null, .int x6, .int x7]) ⟨Or.inr rfl, Or.inr rfl, Or.inl rfl, Or.inr rfl, Or.inr rfl, Or.inl rfl, Or.inr rfl, Or.inr rfl, trivial⟩ k
    · have k := k.2 z
      refine e_c 20 o_179_166 rfl ?_
      refine e_il o_179_168 rfl ?_
      refine e_bin o_179_170 rfl ?_
      refine e_is (ls' := [.ref 69, .int x1, .null, .int x3, .long x4, .null, .int (20 + x7), .int x7]) o_179_171 (Nat.le_of_ble_eq_true rfl) rfl ?_
      exact Ev.less (ls := [.ref 69, .int x1, .null, .int x3, .long x4, .null, .int (20 + x7), .int x7]) ⟨Or.inr rfl, Or.inr rfl, Or.inl rfl, Or.inr rfl, Or.inr rfl, Or.inl rfl, Or.inr rfl, Or.inr rfl, trivial⟩ k
set_option maxHeartbeats 4000000 in
set_option maxRecDepth 100000 in
theorem B_179_173 {x1 : Int32} {x3 : Int32} {x4 : Int64} {x6 : Int32} {x7 : Int32} {h : XH} {Q : Value → XH → Prop} (hs : Sh h) (k : Ev 179 146 [.ref 69, .int x1, .null, .int x3, .long x4, .null, .int x6, .int (x7 + 1)] [] h Q) : Ev 179 173 [.ref 69, .int x1, .null, .int x3, .long x4, .null, .int x6, .int x7] [] h Q := by
  refine e_inc (ls' := [.ref 69, .int x1, .null, .int x3, .long x4, .null, .int x6, .int (x7 + 1)]) o_179_173 rfl rfl rfl ?_
  refine e_go o_179_176 ?_
  exact Ev.less (ls := [.ref 69, .int x1, .null, .int x3, .long x4, .null, .int x6, .int (x7 + 1)]) ⟨Or.inr rfl, Or.inr rfl, Or.inl rfl, Or.inr rfl, Or.inr rfl, Or.inl rfl, Or.inr rfl, Or.inr rfl, trivial⟩ k
set_option maxHeartbeats 4000000 in
set_option maxRecDepth 100000 in
theorem B_179_179 {x1 : Int32} {x3 : Int32} {x4 : Int64} {x6 : Int32} {h : XH} {Q : Value → XH → Prop} (hs : Sh h) (k : ClV 181 [.ref 69, .int x6, .int x1, .int 0, .long x4] h (fun h1 => Sh h1 ∧ (Ev 179 291 [.ref 69, .int (x1 + x3), .null, .null, .null, .null, .null, .null] [] h1 Q))) : Ev 179 179 [.ref 69, .int x1, .null, .int x3, .long x4, .null, .int x6, .null] [] h Q := by
  refine e_al o_179_179 rfl ?_
  refine e_il o_179_180 rfl ?_
  refine e_il o_179_182 rfl ?_
  refine e_c 0 o_179_183 rfl ?_
  refine e_ll o_179_184 rfl ?_
  refine e_clV (as := [.ref 69, .int x6, .int x1, .int 0, .long x4]) (rest := []) o_179_186 rfl rfl (x_okd cl_179_181 ml_181 (Nat.le_of_ble_eq_true rfl) (Nat.le_of_ble_eq_true rfl)) (x_rc0 (ci := 9) (sk_69 (h := h) hs) mo_181) k ?_
  rintro h1 ⟨sh1, k⟩
  refine e_il o_179_189 rfl ?_
  refine e_il o_179_190 rfl ?_
  refine e_bin o_179_191 rfl ?_
  refine e_is (ls' := [.ref 69, .int (x1 + x3), .null, .int x3, .long x4, .null, .int x6, .null]) o_179_192 (Nat.le_of_ble_eq_true rfl) rfl ?_
  refine e_go o_179_193 ?_
  exact Ev.less (ls := [.ref 69, .int (x1 + x3), .null, .null, .null, .null, .null, .null]) ⟨Or.inr rfl, Or.inr rfl, Or.inl rfl, Or.inl rfl, Or.inl rfl, Or.inl rfl, Or.inl rfl, Or.inl rfl, trivial⟩ k
set_option maxHeartbeats 4000000 in
set_option maxRecDepth 100000 in
theorem B_179_208 {x1 : Int32} {x3 : Int32} {x4 : Int32} {h : XH} {Q : Value → XH → Prop} (hs : Sh h) (k : ClI 180 [.ref 69, .int (x1 + x3)] h (fun v2 h1 => Sh h1 ∧ (ClI 183 [.int v2] h1 (fun v4 h3 => Sh h3 ∧ (((v4 = 0) → ((x3 ≤ 4) → ClV 181 [.ref 69, .int 2, .int x1, .int x4, .long 0] h3 (fun h5 => Sh h5 ∧ (Ev 179 291 [.ref 69, .int (x1 + x3), .null, .null, .null, .null, .null, .null] [] h5 Q))) ∧ (¬ (x3 ≤ 4) → ClV 181 [.ref 69, .int 3, .int x1, .int x4, .long 0] h3 (fun h7 => Sh h7 ∧ (Ev 179 291 [.ref 69, .int (x1 + x3), .null, .null, .null, .null, .null, .null] [] h7 Q)))) ∧ (¬ (v4 = 0) → ((4 ≤ x3) → Ev 179 244 [.ref 69, .int x1, .null, .int x3, .int x4, .null, .null, .null] [] h3 Q) ∧ (¬ (4 ≤ x3) → ClI 180 [.ref 69, .int (x1 + x3)] h3 (fun v10 h9 => Sh h9 ∧ (Ev 179 244 [.ref 69, .int x1, .null, .int x3, .int (((10 * x4) + v10) - 48), .null, .null, .null] [] h9 Q))))))))) : Ev 179 208 [.ref 69, .int x1, .null, .int x3, .int x4, .null, .null, .null] [] h Q := by
  refine e_al o_179_208 rfl ?_
  refine e_il o_179_209 rfl ?_
  refine e_il o_179_210 rfl ?_
  refine e_bin o_179_211 rfl ?_
  refine e_clI (as := [.ref 69, .int (x1 + x3)]) (rest := []) o_179_212 rfl rfl (x_okd cl_179_180 ml_180 (Nat.le_of_ble_eq_true rfl) (Nat.le_of_ble_eq_true rfl)) (x_rc0 (ci := 9) (sk_69 (h := h) hs) mo_180) k ?_
  rintro v2 h1 ⟨sh1, k⟩
  refine e_clI (as := [.int v2]) (rest := []) o_179_215 rfl rfl (x_okd cl_179_183 ml_183 (Nat.le_of_ble_eq_true rfl) (Nat.le_of_ble_eq_true rfl)) (rfl) k ?_
  rintro v4 h3 ⟨sh3, k⟩
  refine e_i0_0 o_179_218 (fun z => ?_) (fun z => ?_)
  · have k := k.1 z
    refine e_al o_179_250 rfl ?_
    refine e_il o_179_251 rfl ?_
    refine e_c 4 o_179_252 rfl ?_
    refine e_if_5 o_179_253 (fun z => ?_) (fun z => ?_)
    · have k := k.1 z
      refine e_c 2 o_179_260 rfl ?_
      refine e_il o_179_261 rfl ?_
      refine e_il o_179_262 rfl ?_
      refine e_lc 0 o_179_264 rfl ?_
      refine e_clV (as := [.ref 69, .int 2, .int x1, .int x4, .long 0]) (rest := []) o_179_265 rfl rfl (x_okd cl_179_181 ml_181 (Nat.le_of_ble_eq_true rfl) (Nat.le_of_ble_eq_true rfl)) (x_rc0 (ci := 9) (sk_69 (h := h3) sh3) mo_181) k ?_
      rintro h5 ⟨sh5, k⟩
      refine e_il o_179_268 rfl ?_
      refine e_il o_179_269 rfl ?_
      refine e_bin o_179_270 rfl ?_
      refine e_is (ls' := [.ref 69, .int (x1 + x3), .null, .int x3, .int x4, .null, .null, .null]) o_179_271 (Nat.le_of_ble_eq_true rfl) rfl ?_
      refine e_go o_179_272 ?_
      exact Ev.less (ls := [.ref 69, .int (x1 + x3), .null, .null, .null, .null, .null, .null]) ⟨Or.inr rfl, Or.inr rfl, Or.inl rfl, Or.inl rfl, Or.inl rfl, Or.inl rfl, Or.inl rfl, Or.inl rfl, trivial⟩ k
    · have k := k.2 z
      refine e_c 3 o_179_256 rfl ?_
      refine e_go o_179_257 ?_
      refine e_il o_179_261 rfl ?_
      refine e_il o_179_262 rfl ?_
      refine e_lc 0 o_179_264 rfl ?_
      refine e_clV (as := [.ref 69, .int 3, .int x1, .int x4, .long 0]) (rest := []) o_179_265 rfl rfl (x_okd cl_179_181 ml_181 (Nat.le_of_ble_eq_true rfl) (Nat.le_of_ble_eq_true rfl)) (x_rc0 (ci := 9) (sk_69 (h := h3) sh3) mo_181) k ?_
      rintro h7 ⟨sh7, k⟩
      refine e_il o_179_268 rfl ?_
      refine e_il o_179_269 rfl ?_
      refine e_bin o_179_270 rfl ?_
      refine e_is (ls' := [.ref 69, .int (x1 + x3), .null, .int x3, .int x4, .null, .null, .null]) o_179_271 (Nat.le_of_ble_eq_true rfl) rfl ?_
      refine e_go o_179_272 ?_
      exact Ev.less (ls := [.ref 69, .int (x1 + x3), .null, .null, .null, .null, .null, .null]) ⟨Or.inr rfl, Or.inr rfl, Or.inl rfl, Or.inl rfl, Or.inl rfl, Or.inl rfl, Or.inl rfl, Or.inl rfl, trivial⟩ k
  · have k := k.2 z
    refine e_il o_179_221 rfl ?_
    refine e_c 4 o_179_222 rfl ?_
    refine e_if_3 o_179_223 (fun z => ?_) (fun z => ?_)
    · have k := k.1 z
      exact Ev.less (ls := [.ref 69, .int x1, .null, .int x3, .int x4, .null, .null, .null]) ⟨Or.inr rfl, Or.inr rfl, Or.inl rfl, Or.inr rfl, Or.inr rfl, Or.inl rfl, Or.inl rfl, Or.inl rfl, trivial⟩ k
    · have k := k.2 z
      refine e_c 10 o_179_226 rfl ?_
      refine e_il o_179_228 rfl ?_
      refine e_bin o_179_230 rfl ?_
      refine e_al o_179_231 rfl ?_
      refine e_il o_179_232 rfl ?_
      refine e_il o_179_233 rfl ?_
      refine e_bin o_179_234 rfl ?_
      refine e_clI (as := [.ref 69, .int (x1 + x3)]) (rest := [.int (10 * x4)]) o_179_235 rfl rfl (x_okd cl_179_180 ml_180 (Nat.le_of_ble_eq_true rfl) (Nat.le_of_ble_eq_true rfl)) (x_rc0 (ci := 9) (sk_69 (h := h3) sh3) mo_180) k ?_
      rintro v10 h9 ⟨sh9, k⟩
      refine e_bin o_179_238 rfl ?_
      refine e_c 48 o_179_239 rfl ?_
      refine e_bin o_179_241 rfl ?_
      refine e_is (ls' := [.ref 69, .int x1, .null, .int x3, .int (((10 * x4) + v10) - 48), .null, .null, .null]) o_179_242 (Nat.le_of_ble_eq_true rfl) rfl ?_
      exact Ev.less (ls := [.ref 69, .int x1, .null, .int x3, .int (((10 * x4) + v10) - 48), .null, .null, .null]) ⟨Or.inr rfl, Or.inr rfl, Or.inl rfl, Or.inr rfl, Or.inr rfl, Or.inl rfl, Or.inl rfl, Or.inl rfl, trivial⟩ k
set_option maxHeartbeats 4000000 in
set_option maxRecDepth 100000 in
theorem B_179_244 {x1 : Int32} {x3 : Int32} {x4 : Int32} {h : XH} {Q : Value → XH → Prop} (hs : Sh h) (k : Ev 179 208 [.ref 69, .int x1, .null, .int (x3 + 1), .int x4, .null, .null, .null] [] h Q) : Ev 179 244 [.ref 69, .int x1, .null, .int x3, .int x4, .null, .null, .null] [] h Q := by
  refine e_inc (ls' := [.ref 69, .int x1, .null, .int (x3 + 1), .int x4, .null, .null, .null]) o_179_244 rfl rfl rfl ?_
  refine e_go o_179_247 ?_
  exact Ev.less (ls := [.ref 69, .int x1, .null, .int (x3 + 1), .int x4, .null, .null, .null]) ⟨Or.inr rfl, Or.inr rfl, Or.inl rfl, Or.inr rfl, Or.inr rfl, Or.inl rfl, Or.inl rfl, Or.inl rfl, trivial⟩ k
set_option maxHeartbeats 4000000 in
set_option maxRecDepth 100000 in
theorem B_179_291 {x1 : Int32} {h : XH} {Q : Value → XH → Prop} (hs : Sh h) (k : Ev 179 7 [.ref 69, .int x1, .null, .null, .null, .null, .null, .null] [] h Q) : Ev 179 291 [.ref 69, .int x1, .null, .null, .null, .null, .null, .null] [] h Q := by
  refine e_go o_179_291 ?_
  exact Ev.less (ls := [.ref 69, .int x1, .null, .null, .null, .null, .null, .null]) ⟨Or.inr rfl, Or.inr rfl, Or.inl rfl, Or.inl rfl, Or.inl rfl, Or.inl rfl, Or.inl rfl, Or.inl rfl, trivial⟩ k
set_option maxHeartbeats 4000000 in
set_option maxRecDepth 100000 in
theorem B_180_0 {x1 : Int32} {h : XH} {Q : Value → XH → Prop} (hs : Sh h) (k : (((xI h 69 4) ≤ x1) → Q (.int 0) h) ∧ (¬ ((xI h 69 4) ≤ x1) → InB x1 2000 ∧ (Q (.int ((xI h 71 (tn x1)) &&& 255)) h))) : Ev 180 0 (x_ini 180 [.ref 69, .int x1]) [] h Q := by
  rw [show x_ini 180 [.ref 69, .int x1] = [.ref 69, .int x1] from x_inid ml_180 rfl]
  refine e_il o_180_0 rfl ?_
  refine e_al o_180_1 rfl ?_
  refine e_gI o_180_2 (sk_69 (h := h) hs) ?_
  refine e_if_3 o_180_5 (fun z => ?_) (fun z => ?_)
  · have k := k.1 z
    refine e_c 0 o_180_21 rfl ?_
    exact e_retI o_180_22 k
  · have k := k.2 z
    refine e_al o_180_8 rfl ?_
    refine e_gR (r := 71) o_180_9 (sk_69 (h := h) hs) (sr_69_3 (h := h) hs) (by decide) ?_
    refine e_il o_180_12 rfl ?_
    obtain ⟨q, k⟩ := k
    refine e_ba (n := 2000) o_180_13 (Or.inl (sk_71 (h := h) hs)) (sn_71 (h := h) hs) q ?_
    refine e_c 255 o_180_14 rfl ?_
    refine e_bin o_180_17 rfl ?_
    refine e_go o_180_18 ?_
    exact e_retI o_180_22 k
set_option maxHeartbeats 4000000 in
set_option maxRecDepth 100000 in
theorem B_181_0 {x1 : Int32} {x2 : Int32} {x3 : Int32} {x4 : Int64} {h : XH} {Q : Value → XH → Prop} (hs : Sh h) (k : InB (xI h 69 10) 403 ∧ (InB (xI (xsI h 72 (tn (xI h 69 10)) x1) 69 10) 403 ∧ (InB (xI (xsI (xsI h 72 (tn (xI h 69 10)) x1) 73 (tn (xI (xsI h 72 (tn (xI h 69 10)) x1) 69 10)) x2) 69 10) 403 ∧ (∀ h1 : XH, h1 = (xsI (xsI (xsI h 72 (tn (xI h 69 10)) x1) 73 (tn (xI (xsI h 72 (tn (xI h 69 10)) x1) 69 10)) x2) 74 (tn (xI (xsI (xsI h 72 (tn (xI h 69 10)) x1) 73 (tn (xI (xsI h 72 (tn (xI h 69 10)) x1) 69 10)) x2) 69 10)) x3) → (InB (xI h1 69 10) 403 ∧ (Q .null (xsI (xsL h1 75 (tn (xI h1 69 10)) x4) 69 10 ((xI (xsL h1 75 (tn (xI h1 69 10)) x4) 69 10) + 1)))))))) : Ev 181 0 (x_ini 181 [.ref 69, .int x1, .int x2, .int x3, .long x4]) [] h Q := by
  rw [show x_ini 181 [.ref 69, .int x1, .int x2, .int x3, .long x4] = [.ref 69, .int x1, .int x2, .int x3, .long x4, .null] from x_inid ml_181 rfl]
  refine e_al o_181_0 rfl ?_
  refine e_gR (r := 72) o_181_1 (sk_69 (h := h) hs) (sr_69_5 (h := h) hs) (by decide) ?_
  refine e_al o_181_4 rfl ?_
  refine e_gI o_181_5 (sk_69 (h := h) hs) ?_
  refine e_il o_181_8 rfl ?_
  obtain ⟨q, k⟩ := k
  refine e_ias (n := 403) o_181_9 (sk_72 (h := h) hs) (by decide) (sn_72 (h := h) hs) q ?_
  refine e_al o_181_10 rfl ?_
  refine e_gR (r := 73) o_181_11 (sk_69 (h := h) hs) (sr_69_6 (h := h) hs) (by decide) ?_
  refine e_al o_181_14 rfl ?_
  refine e_gI o_181_15 (sk_69 (h := h) hs) ?_
  refine e_il o_181_18 rfl ?_
  obtain ⟨q, k⟩ := k
  refine e_ias (n := 403) o_181_19 (sk_73 (h := h) hs) (by decide) (sn_73 (h := h) hs) q ?_
  refine e_al o_181_20 rfl ?_
  refine e_gR (r := 74) o_181_21 (sk_69 (h := h) hs) (sr_69_7 (h := h) hs) (by decide) ?_
  refine e_al o_181_24 rfl ?_
  refine e_gI o_181_25 (sk_69 (h := h) hs) ?_
  refine e_il o_181_28 rfl ?_
  obtain ⟨q, k⟩ := k
  refine e_ias (n := 403) o_181_29 (sk_74 (h := h) hs) (by decide) (sn_74 (h := h) hs) q ?_
  obtain ⟨h1, eh1⟩ : ∃ z : XH, z = (xsI (xsI (xsI h 72 (tn (xI h 69 10)) x1) 73 (tn (xI (xsI h 72 (tn (xI h 69 10)) x1) 69 10)) x2) 74 (tn (xI (xsI (xsI h 72 (tn (xI h 69 10)) x1) 73 (tn (xI (xsI h 72 (tn (xI h 69 10)) x1) 69 10)) x2) 69 10)) x3) := ⟨_, rfl⟩
  show Ev 181 30 [.ref 69, .int x1, .int x2, .int x3, .long x4, .null] [] (xsI (xsI (xsI h 72 (tn (xI h 69 10)) x1) 73 (tn (xI (xsI h 72 (tn (xI h 69 10)) x1) 69 10)) x2) 74 (tn (xI (xsI (xsI h 72 (tn (xI h 69 10)) x1) 73 (tn (xI (xsI h 72 (tn (xI h 69 10)) x1) 69 10)) x2) 69 10)) x3) Q
  rw [← eh1]
  have sh1 : Sh h1 := by rw [eh1]; exact (sh_I (sh_I (sh_I hs (by decide)) (by decide)) (by decide))
  have k := k h1 eh1
  refine e_al o_181_30 rfl ?_
  refine e_gR (r := 75) o_181_31 (sk_69 (h := h1) sh1) (sr_69_8 (h := h1) sh1) (by decide) ?_
  refine e_al o_181_34 rfl ?_
  refine e_gI o_181_35 (sk_69 (h := h1) sh1) ?_
  refine e_ll o_181_38 rfl ?_
  obtain ⟨q, k⟩ := k
  refine e_las (n := 403) o_181_40 (sk_75 (h := h1) sh1) (sn_75 (h := h1) sh1) q ?_
  refine e_al o_181_41 rfl ?_
  refine e_dup o_181_42 rfl ?_
  refine e_gI o_181_43 (sk_69 (h := h1) sh1) ?_
  refine e_c 1 o_181_46 rfl ?_
  refine e_bin o_181_47 rfl ?_
  refine e_pI o_181_48 (sk_69 (h := h1) sh1) ?_
  exact e_ret0 o_181_51 k
set_option maxHeartbeats 4000000 in
set_option maxRecDepth 100000 in
theorem B_182_0 {x0 : Int32} {h : XH} {Q : Value → XH → Prop} (hs : Sh h) (k : ((x0 < 97) → Q (.int 0) h) ∧ (¬ (x0 < 97) → ((122 < x0) → Q (.int 0) h) ∧ (¬ (122 < x0) → Q (.int 1) h))) : Ev 182 0 (x_ini 182 [.int x0]) [] h Q := by
  rw [show x_ini 182 [.int x0] = [.int x0] from x_inid ml_182 rfl]
  refine e_il o_182_0 rfl ?_
  refine e_c 97 o_182_1 rfl ?_
  refine e_if_2 o_182_3 (fun z => ?_) (fun z => ?_)
  · have k := k.1 z
    refine e_c 0 o_182_16 rfl ?_
    exact e_retZ o_182_17 (by decide) k
  · have k := k.2 z
    refine e_il o_182_6 rfl ?_
    refine e_c 122 o_182_7 rfl ?_
    refine e_if_4 o_182_9 (fun z => ?_) (fun z => ?_)
    · have k := k.1 z
      refine e_c 0 o_182_16 rfl ?_
      exact e_retZ o_182_17 (by decide) k
    · have k := k.2 z
      refine e_c 1 o_182_12 rfl ?_
      refine e_go o_182_13 ?_
      exact e_retZ o_182_17 (by decide) k
set_option maxHeartbeats 4000000 in
set_option maxRecDepth 100000 in
theorem B_183_0 {x0 : Int32} {h : XH} {Q : Value → XH → Prop} (hs : Sh h) (k : ((x0 < 48) → Q (.int 0) h) ∧ (¬ (x0 < 48) → ((57 < x0) → Q (.int 0) h) ∧ (¬ (57 < x0) → Q (.int 1) h))) : Ev 183 0 (x_ini 183 [.int x0]) [] h Q := by
  rw [show x_ini 183 [.int x0] = [.int x0] from x_inid ml_183 rfl]
  refine e_il o_183_0 rfl ?_
  refine e_c 48 o_183_1 rfl ?_
  refine e_if_2 o_183_3 (fun z => ?_) (fun z => ?_)
  · have k := k.1 z
    refine e_c 0 o_183_16 rfl ?_
    exact e_retZ o_183_17 (by decide) k
  · have k := k.2 z
    refine e_il o_183_6 rfl ?_
    refine e_c 57 o_183_7 rfl ?_
    refine e_if_4 o_183_9 (fun z => ?_) (fun z => ?_)
    · have k := k.1 z
      refine e_c 0 o_183_16 rfl ?_
      exact e_retZ o_183_17 (by decide) k
    · have k := k.2 z
      refine e_c 1 o_183_12 rfl ?_
      refine e_go o_183_13 ?_
      exact e_retZ o_183_17 (by decide) k
set_option maxHeartbeats 4000000 in
set_option maxRecDepth 100000 in
theorem B_184_0 {x1 : Int32} {x2 : Int32} {x3 : Int32} {h : XH} {Q : Value → XH → Prop} (hs : Sh h) (k : ((¬ x2 = 59) → ((¬ x2 = 61) → ((¬ x2 = 40) → ((¬ x2 = 41) → ((¬ x2 = 43) → Ev 184 55 [.ref 69, .int x1, .int x2, .null, .int 3] [] h Q) ∧ (¬ (¬ x2 = 43) → Ev 184 55 [.ref 69, .int x1, .int x2, .null, .int 8] [] h Q)) ∧ (¬ (¬ x2 = 41) → ((¬ x2 = 43) → Ev 184 55 [.ref 69, .int x1, .int x2, .null, .int 7] [] h Q) ∧ (¬ (¬ x2 = 43) → Ev 184 55 [.ref 69, .int x1, .int x2, .null, .int 8] [] h Q))) ∧ (¬ (¬ x2 = 40) → ((¬ x2 = 43) → Ev 184 55 [.ref 69, .int x1, .int x2, .null, .int 6] [] h Q) ∧ (¬ (¬ x2 = 43) → Ev 184 55 [.ref 69, .int x1, .int x2, .null, .int 8] [] h Q))) ∧ (¬ (¬ x2 = 61) → ((¬ x2 = 43) → Ev 184 55 [.ref 69, .int x1, .int x2, .null, .int 5] [] h Q) ∧ (¬ (¬ x2 = 43) → Ev 184 55 [.ref 69, .int x1, .int x2, .null, .int 8] [] h Q))) ∧ (¬ (¬ x2 = 59) → ((¬ x2 = 43) → Ev 184 55 [.ref 69, .int x1, .int x2, .null, .int 4] [] h Q) ∧ (¬ (¬ x2 = 43) → Ev 184 55 [.ref 69, .int x1, .int x2, .null, .int 8] [] h Q))) : Ev 184 0 (x_ini 184 [.ref 69, .int x1, .int x2, .int x3]) [] h Q := by
  rw [show x_ini 184 [.ref 69, .int x1, .int x2, .int x3] = [.ref 69, .int x1, .int x2, .int x3, .null] from x_inid ml_184 rfl]
  refine e_il o_184_0 rfl ?_
  refine e_c 59 o_184_1 rfl ?_
  refine e_if_1 o_184_3 (fun z => ?_) (fun z => ?_)
  · have k := k.1 z
    refine e_il o_184_10 rfl ?_
    refine e_c 61 o_184_11 rfl ?_
    refine e_if_1 o_184_13 (fun z => ?_) (fun z => ?_)
    · have k := k.1 z
      refine e_il o_184_20 rfl ?_
      refine e_c 40 o_184_21 rfl ?_
      refine e_if_1 o_184_23 (fun z => ?_) (fun z => ?_)
      · have k := k.1 z
        refine e_il o_184_31 rfl ?_
        refine e_c 41 o_184_32 rfl ?_
        refine e_if_1 o_184_34 (fun z => ?_) (fun z => ?_)
        · have k := k.1 z
          refine e_c 3 o_184_42 rfl ?_
          refine e_is (ls' := [.ref 69, .int x1, .int x2, .int x3, .int 3]) o_184_43 (Nat.le_of_ble_eq_true rfl) rfl ?_
          refine e_il o_184_45 rfl ?_
          refine e_c 43 o_184_46 rfl ?_
          refine e_if_1 o_184_48 (fun z => ?_) (fun z => ?_)
          · have k := k.1 z
            exact Ev.less (ls := [.ref 69, .int x1, .int x2, .null, .int 3]) ⟨Or.inr rfl, Or.inr rfl, Or.inr rfl, Or.inl rfl, Or.inr rfl, trivial⟩ k
          · have k := k.2 z
            refine e_c 8 o_184_51 rfl ?_
            refine e_is (ls' := [.ref 69, .int x1, .int x2, .int x3, .int 8]) o_184_53 (Nat.le_of_ble_eq_true rfl) rfl ?_
            exact Ev.less (ls := [.ref 69, .int x1, .int x2, .null, .int 8]) ⟨Or.inr rfl, Or.inr rfl, Or.inr rfl, Or.inl rfl, Or.inr rfl, trivial⟩ k
        · have k := k.2 z
          refine e_c 7 o_184_37 rfl ?_
          refine e_go o_184_39 ?_
          refine e_is (ls' := [.ref 69, .int x1, .int x2, .int x3, .int 7]) o_184_43 (Nat.le_of_ble_eq_true rfl) rfl ?_
          refine e_il o_184_45 rfl ?_
          refine e_c 43 o_184_46 rfl ?_
          refine e_if_1 o_184_48 (fun z => ?_) (fun z => ?_)
          · have k := k.1 z
            exact Ev.less (ls := [.ref 69, .int x1, .int x2, .null, .int 7]) ⟨Or.inr rfl, Or.inr rfl, Or.inr rfl, Or.inl rfl, Or.inr rfl, trivial⟩ k
          · have k := k.2 z
            refine e_c 8 o_184_51 rfl ?_
            refine e_is (ls' := [.ref 69, .int x1, .int x2, .int x3, .int 8]) o_184_53 (Nat.le_of_ble_eq_true rfl) rfl ?_
            exact Ev.less (ls := [.ref 69, .int x1, .int x2, .null, .int 8]) ⟨Or.inr rfl, Or.inr rfl, Or.inr rfl, Or.inl rfl, Or.inr rfl, trivial⟩ k
      · have k := k.2 z
        refine e_c 6 o_184_26 rfl ?_
        refine e_go o_184_28 ?_
        refine e_is (ls' := [.ref 69, .int x1, .int x2, .int x3, .int 6]) o_184_43 (Nat.le_of_ble_eq_true rfl) rfl ?_
        refine e_il o_184_45 rfl ?_
        refine e_c 43 o_184_46 rfl ?_
        refine e_if_1 o_184_48 (fun z => ?_) (fun z => ?_)
        · have k := k.1 z
          exact Ev.less (ls := [.ref 69, .int x1, .int x2, .null, .int 6]) ⟨Or.inr rfl, Or.inr rfl, Or.inr rfl, Or.inl rfl, Or.inr rfl, trivial⟩ k
        · have k := k.2 z
          refine e_c 8 o_184_51 rfl ?_
          refine e_is (ls' := [.ref 69, .int x1, .int x2, .int x3, .int 8]) o_184_53 (Nat.le_of_ble_eq_true rfl) rfl ?_
          exact Ev.less (ls := [.ref 69, .int x1, .int x2, .null, .int 8]) ⟨Or.inr rfl, Or.inr rfl, Or.inr rfl, Or.inl rfl, Or.inr rfl, trivial⟩ k
    · have k := k.2 z
      refine e_c 5 o_184_16 rfl ?_
      refine e_go o_184_17 ?_
      refine e_is (ls' := [.ref 69, .int x1, .int x2, .int x3, .int 5]) o_184_43 (Nat.le_of_ble_eq_true rfl) rfl ?_
      refine e_il o_184_45 rfl ?_
      refine e_c 43 o_184_46 rfl ?_
      refine e_if_1 o_184_48 (fun z => ?_) (fun z => ?_)
      · have k := k.1 z
        exact Ev.less (ls := [.ref 69, .int x1, .int x2, .null, .int 5]) ⟨Or.inr rfl, Or.inr rfl, Or.inr rfl, Or.inl rfl, Or.inr rfl, trivial⟩ k
      · have k := k.2 z
        refine e_c 8 o_184_51 rfl ?_
        refine e_is (ls' := [.ref 69, .int x1, .int x2, .int x3, .int 8]) o_184_53 (Nat.le_of_ble_eq_true rfl) rfl ?_
        exact Ev.less (ls := [.ref 69, .int x1, .int x2, .null, .int 8]) ⟨Or.inr rfl, Or.inr rfl, Or.inr rfl, Or.inl rfl, Or.inr rfl, trivial⟩ k
  · have k := k.2 z
    refine e_c 4 o_184_6 rfl ?_
    refine e_go o_184_7 ?_
    refine e_is (ls' := [.ref 69, .int x1, .int x2, .int x3, .int 4]) o_184_43 (Nat.le_of_ble_eq_true rfl) rfl ?_
    refine e_il o_184_45 rfl ?_
    refine e_c 43 o_184_46 rfl ?_
    refine e_if_1 o_184_48 (fun z => ?_) (fun z => ?_)
    · have k := k.1 z
      exact Ev.less (ls := [.ref 69, .int x1, .int x2, .null, .int 4]) ⟨Or.inr rfl, Or.inr rfl, Or.inr rfl, Or.inl rfl, Or.inr rfl, trivial⟩ k
    · have k := k.2 z
      refine e_c 8 o_184_51 rfl ?_
      refine e_is (ls' := [.ref 69, .int x1, .int x2, .int x3, .int 8]) o_184_53 (Nat.le_of_ble_eq_true rfl) rfl ?_
      exact Ev.less (ls := [.ref 69, .int x1, .int x2, .null, .int 8]) ⟨Or.inr rfl, Or.inr rfl, Or.inr rfl, Or.inl rfl, Or.inr rfl, trivial⟩ k
set_option maxHeartbeats 4000000 in
set_option maxRecDepth 100000 in
theorem B_184_55 {x1 : Int32} {x2 : Int32} {x4 : Int32} {h : XH} {Q : Value → XH → Prop} (hs : Sh h) (k : ((¬ x2 = 45) → Ev 184 65 [.ref 69, .int x1, .int x2, .null, .int x4] [] h Q) ∧ (¬ (¬ x2 = 45) → Ev 184 65 [.ref 69, .int x1, .int x2, .null, .int 9] [] h Q)) : Ev 184 55 [.ref 69, .int x1, .int x2, .null, .int x4] [] h Q := by
  refine e_il o_184_55 rfl ?_
  refine e_c 45 o_184_56 rfl ?_
  refine e_if_1 o_184_58 (fun z => ?_) (fun z => ?_)
  · have k := k.1 z
    exact Ev.less (ls := [.ref 69, .int x1, .int x2, .null, .int x4]) ⟨Or.inr rfl, Or.inr rfl, Or.inr rfl, Or.inl rfl, Or.inr rfl, trivial⟩ k
  · have k := k.2 z
    refine e_c 9 o_184_61 rfl ?_
    refine e_is (ls' := [.ref 69, .int x1, .int x2, .null, .int 9]) o_184_63 (Nat.le_of_ble_eq_true rfl) rfl ?_
    exact Ev.less (ls := [.ref 69, .int x1, .int x2, .null, .int 9]) ⟨Or.inr rfl, Or.inr rfl, Or.inr rfl, Or.inl rfl, Or.inr rfl, trivial⟩ k
set_option maxHeartbeats 4000000 in
set_option maxRecDepth 100000 in
theorem B_184_65 {x1 : Int32} {x2 : Int32} {x4 : Int32} {h : XH} {Q : Value → XH → Prop} (hs : Sh h) (k : ((¬ x2 = 42) → Ev 184 75 [.ref 69, .int x1, .int x2, .null, .int x4] [] h Q) ∧ (¬ (¬ x2 = 42) → Ev 184 75 [.ref 69, .int x1, .int x2, .null, .int 10] [] h Q)) : Ev 184 65 [.ref 69, .int x1, .int x2, .null, .int x4] [] h Q := by
  refine e_il o_184_65 rfl ?_
  refine e_c 42 o_184_66 rfl ?_
  refine e_if_1 o_184_68 (fun z => ?_) (fun z => ?_)
  · have k := k.1 z
    exact Ev.less (ls := [.ref 69, .int x1, .int x2, .null, .int x4]) ⟨Or.inr rfl, Or.inr rfl, Or.inr rfl, Or.inl rfl, Or.inr rfl, trivial⟩ k
  · have k := k.2 z
    refine e_c 10 o_184_71 rfl ?_
    refine e_is (ls' := [.ref 69, .int x1, .int x2, .null, .int 10]) o_184_73 (Nat.le_of_ble_eq_true rfl) rfl ?_
    exact Ev.less (ls := [.ref 69, .int x1, .int x2, .null, .int 10]) ⟨Or.inr rfl, Or.inr rfl, Or.inr rfl, Or.inl rfl, Or.inr rfl, trivial⟩ k
set_option maxHeartbeats 4000000 in
set_option maxRecDepth 100000 in
theorem B_184_75 {x1 : Int32} {x2 : Int32} {x4 : Int32} {h : XH} {Q : Value → XH → Prop} (hs : Sh h) (k : ((¬ x2 = 47) → Ev 184 85 [.ref 69, .int x1, .int x2, .null, .int x4] [] h Q) ∧ (¬ (¬ x2 = 47) → Ev 184 85 [.ref 69, .int x1, .int x2, .null, .int 15] [] h Q)) : Ev 184 75 [.ref 69, .int x1, .int x2, .null, .int x4] [] h Q := by
  refine e_il o_184_75 rfl ?_
  refine e_c 47 o_184_76 rfl ?_
  refine e_if_1 o_184_78 (fun z => ?_) (fun z => ?_)
  · have k := k.1 z
    exact Ev.less (ls := [.ref 69, .int x1, .int x2, .null, .int x4]) ⟨Or.inr rfl, Or.inr rfl, Or.inr rfl, Or.inl rfl, Or.inr rfl, trivial⟩ k
  · have k := k.2 z
    refine e_c 15 o_184_81 rfl ?_
    refine e_is (ls' := [.ref 69, .int x1, .int x2, .null, .int 15]) o_184_83 (Nat.le_of_ble_eq_true rfl) rfl ?_
    exact Ev.less (ls := [.ref 69, .int x1, .int x2, .null, .int 15]) ⟨Or.inr rfl, Or.inr rfl, Or.inr rfl, Or.inl rfl, Or.inr rfl, trivial⟩ k
set_option maxHeartbeats 4000000 in
set_option maxRecDepth 100000 in
theorem B_184_85 {x1 : Int32} {x2 : Int32} {x4 : Int32} {h : XH} {Q : Value → XH → Prop} (hs : Sh h) (k : ((¬ x2 = 60) → Ev 184 95 [.ref 69, .int x1, .int x2, .null, .int x4] [] h Q) ∧ (¬ (¬ x2 = 60) → Ev 184 95 [.ref 69, .int x1, .int x2, .null, .int 13] [] h Q)) : Ev 184 85 [.ref 69, .int x1, .int x2, .null, .int x4] [] h Q := by
  refine e_il o_184_85 rfl ?_
  refine e_c 60 o_184_86 rfl ?_
  refine e_if_1 o_184_88 (fun z => ?_) (fun z => ?_)
  · have k := k.1 z
    exact Ev.less (ls := [.ref 69, .int x1, .int x2, .null, .int x4]) ⟨Or.inr rfl, Or.inr rfl, Or.inr rfl, Or.inl rfl, Or.inr rfl, trivial⟩ k
  · have k := k.2 z
    refine e_c 13 o_184_91 rfl ?_
    refine e_is (ls' := [.ref 69, .int x1, .int x2, .null, .int 13]) o_184_93 (Nat.le_of_ble_eq_true rfl) rfl ?_
    exact Ev.less (ls := [.ref 69, .int x1, .int x2, .null, .int 13]) ⟨Or.inr rfl, Or.inr rfl, Or.inr rfl, Or.inl rfl, Or.inr rfl, trivial⟩ k
set_option maxHeartbeats 4000000 in
set_option maxRecDepth 100000 in
theorem B_184_95 {x1 : Int32} {x2 : Int32} {x4 : Int32} {h : XH} {Q : Value → XH → Prop} (hs : Sh h) (k : ((¬ x2 = 62) → Ev 184 105 [.ref 69, .int x1, .null, .null, .int x4] [] h Q) ∧ (¬ (¬ x2 = 62) → Ev 184 105 [.ref 69, .int x1, .null, .null, .int 16] [] h Q)) : Ev 184 95 [.ref 69, .int x1, .int x2, .null, .int x4] [] h Q := by
  refine e_il o_184_95 rfl ?_
  refine e_c 62 o_184_96 rfl ?_
  refine e_if_1 o_184_98 (fun z => ?_) (fun z => ?_)
  · have k := k.1 z
    exact Ev.less (ls := [.ref 69, .int x1, .null, .null, .int x4]) ⟨Or.inr rfl, Or.inr rfl, Or.inl rfl, Or.inl rfl, Or.inr rfl, trivial⟩ k
  · have k := k.2 z
    refine e_c 16 o_184_101 rfl ?_
    refine e_is (ls' := [.ref 69, .int x1, .int x2, .null, .int 16]) o_184_103 (Nat.le_of_ble_eq_true rfl) rfl ?_
    exact Ev.less (ls := [.ref 69, .int x1, .null, .null, .int 16]) ⟨Or.inr rfl, Or.inr rfl, Or.inl rfl, Or.inl rfl, Or.inr rfl, trivial⟩ k
set_option maxHeartbeats 4000000 in
set_option maxRecDepth 100000 in
theorem B_184_105 {x1 : Int32} {x4 : Int32} {h : XH} {Q : Value → XH → Prop} (hs : Sh h) (k : ClV 181 [.ref 69, .int x4, .int x1, .int 0, .long 0] h (fun h1 => Sh h1 ∧ (Q (.int 1) h1))) : Ev 184 105 [.ref 69, .int x1, .null, .null, .int x4] [] h Q := by
  refine e_al o_184_105 rfl ?_
  refine e_il o_184_106 rfl ?_
  refine e_il o_184_108 rfl ?_
  refine e_c 0 o_184_109 rfl ?_
  refine e_lc 0 o_184_110 rfl ?_
  refine e_clV (as := [.ref 69, .int x4, .int x1, .int 0, .long 0]) (rest := []) o_184_111 rfl rfl (x_okd cl_184_181 ml_181 (Nat.le_of_ble_eq_true rfl) (Nat.le_of_ble_eq_true rfl)) (x_rc0 (ci := 9) (sk_69 (h := h) hs) mo_181) k ?_
  rintro h1 ⟨sh1, k⟩
  refine e_c 1 o_184_114 rfl ?_
  exact e_retI o_184_115 k
set_option maxHeartbeats 4000000 in
set_option maxRecDepth 100000 in
theorem B_185_0 {x1 : Int32} {h : XH} {Q : Value → XH → Prop} (hs : Sh h) (k : ((¬ (xI h 69 13) = 0) → Q (.int 0) h) ∧ (¬ (¬ (xI h 69 13) = 0) → InB (xI h 69 11) 403 ∧ (((¬ (xI h 72 (tn (xI h 69 11))) = x1) → Q (.int 0) h) ∧ (¬ (¬ (xI h 72 (tn (xI h 69 11))) = x1) → Q (.int 1) h)))) : Ev 185 0 (x_ini 185 [.ref 69, .int x1]) [] h Q := by
  rw [show x_ini 185 [.ref 69, .int x1] = [.ref 69, .int x1] from x_inid ml_185 rfl]
  refine e_al o_185_0 rfl ?_
  refine e_gI o_185_1 (sk_69 (h := h) hs) ?_
  refine e_i0_1 o_185_4 (fun z => ?_) (fun z => ?_)
  · have k := k.1 z
    refine e_c 0 o_185_24 rfl ?_
    exact e_retZ o_185_25 (by decide) k
  · have k := k.2 z
    refine e_al o_185_7 rfl ?_
    refine e_gR (r := 72) o_185_8 (sk_69 (h := h) hs) (sr_69_5 (h := h) hs) (by decide) ?_
    refine e_al o_185_11 rfl ?_
    refine e_gI o_185_12 (sk_69 (h := h) hs) ?_
    obtain ⟨q, k⟩ := k
    refine e_ia (n := 403) o_185_15 (sk_72 (h := h) hs) (sn_72 (h := h) hs) q ?_
    refine e_il o_185_16 rfl ?_
    refine e_if_1 o_185_17 (fun z => ?_) (fun z => ?_)
    · have k := k.1 z
      refine e_c 0 o_185_24 rfl ?_
      exact e_retZ o_185_25 (by decide) k
    · have k := k.2 z
      refine e_c 1 o_185_20 rfl ?_
      refine e_go o_185_21 ?_
      exact e_retZ o_185_25 (by decide) k
set_option maxHeartbeats 4000000 in
set_option maxRecDepth 100000 in
theorem B_186_0  {h : XH} {Q : Value → XH → Prop} (hs : Sh h) (k : InB (xI (xsI h 69 42 0) 69 11) 403 ∧ ((((xI (xsI h 69 42 0) 72 (tn (xI (xsI h 69 42 0) 69 11))) = 20) → InB (xI (xsI h 69 42 0) 69 19) 2 ∧ (((¬ (xI (xsI h 69 42 0) 79 (tn (xI (xsI h 69 42 0) 69 19))) = 8) → Ev 186 83 [.ref 69, .null, .null, .null] [] (xsI h 69 42 0) Q) ∧ (¬ (¬ (xI (xsI h 69 42 0) 79 (tn (xI (xsI h 69 42 0) 69 19))) = 8) → ClV 187 [.ref 69, .int 2] (xsI h 69 42 0) (fun h1 => Sh h1 ∧ (Ev 186 83 [.ref 69, .null, .null, .null] [] h1 Q))))) ∧ (¬ ((xI (xsI h 69 42 0) 72 (tn (xI (xsI h 69 42 0) 69 11))) = 20) → (((xI (xsI h 69 42 0) 72 (tn (xI (xsI h 69 42 0) 69 11))) = 21) → ClV 190 [.ref 69] (xsI h 69 42 0) (fun h3 => Sh h3 ∧ (ClV 191 [.ref 69, .int 1] h3 (fun h5 => Sh h5 ∧ (Ev 186 115 [.ref 69, .int (xI h3 69 11), .int (-1), .int 0] [] h5 Q))))) ∧ (¬ ((xI (xsI h 69 42 0) 72 (tn (xI (xsI h 69 42 0) 69 11))) = 21) → (((xI (xsI h 69 42 0) 72 (tn (xI (xsI h 69 42 0) 69 11))) = 22) → InB (xI (xsI h 69 42 0) 69 19) 2 ∧ (((¬ (xI (xsI h 69 42 0) 84 (tn (xI (xsI h 69 42 0) 69 19))) = 6) → Ev 186 219 [.ref 69, .null, .null, .null] [] (xsI h 69 42 0) Q) ∧ (¬ (¬ (xI (xsI h 69 42 0) 84 (tn (xI (xsI h 69 42 0) 69 19))) = 6) → ClV 187 [.ref 69, .int 2] (xsI h 69 42 0) (fun h7 => Sh h7 ∧ (Ev 186 219 [.ref 69, .null, .null, .null] [] h7 Q))))) ∧ (¬ ((xI (xsI h 69 42 0) 72 (tn (xI (xsI h 69 42 0) 69 11))) = 22) → (((xI (xsI h 69 42 0) 72 (tn (xI (xsI h 69 42 0) 69 11))) = 23) → ClV 187 [.ref 69, .int 1] (xsI h 69 42 0) (fun h9 => Sh h9 ∧ (Ev 186 295 [.null, .null, .null, .null] [] h9 Q))) ∧ (¬ ((xI (xsI h 69 42 0) 72 (tn (xI (xsI h 69 42 0) 69 11))) = 23) → (((xI (xsI h 69 42 0) 72 (tn (xI (xsI h 69 42 0) 69 11))) = 24) → ClV 187 [.ref 69, .int 1] (xsI h 69 42 0) (fun h11 => Sh h11 ∧ (Ev 186 295 [.null, .null, .null, .null] [] h11 Q))) ∧ (¬ ((xI (xsI h 69 42 0) 72 (tn (xI (xsI h 69 42 0) 69 11))) = 24) → (((xI (xsI h 69 42 0) 72 (tn (xI (xsI h 69 42 0) 69 11))) = 25) → ClV 187 [.ref 69, .int 1] (xsI h 69 42 0) (fun h13 => Sh h13 ∧ (Ev 186 295 [.null, .null, .null, .null] [] h13 Q))) ∧ (¬ ((xI (xsI h 69 42 0) 72 (tn (xI (xsI h 69 42 0) 69 11))) = 25) → (((xI (xsI h 69 42 0) 72 (tn (xI (xsI h 69 42 0) 69 11))) = 26) → ClV 187 [.ref 69, .int 1] (xsI h 69 42 0) (fun h15 => Sh h15 ∧ (Ev 186 295 [.null, .null, .null, .null] [] h15 Q))) ∧ (¬ ((xI (xsI h 69 42 0) 72 (tn (xI (xsI h 69 42 0) 69 11))) = 26) → (((xI (xsI h 69 42 0) 72 (tn (xI (xsI h 69 42 0) 69 11))) = 27) → ClV 190 [.ref 69] (xsI h 69 42 0) (fun h17 => Sh h17 ∧ (ClI 193 [.ref 69, .int 0, .int 100] h17 (fun v20 h19 => Sh h19 ∧ (InB (xI h17 69 19) 2 ∧ (ClV 191 [.ref 69, .int 4] (xsI h19 92 (tn (xI h17 69 19)) v20) (fun h21 => Sh h21 ∧ (Ev 186 295 [.null, .null, .null, .null] [] h21 Q)))))))) ∧ (¬ ((xI (xsI h 69 42 0) 72 (tn (xI (xsI h 69 42 0) 69 11))) = 27) → (((xI (xsI h 69 42 0) 72 (tn (xI (xsI h 69 42 0) 69 11))) = 28) → ClV 190 [.ref 69] (xsI h 69 42 0) (fun h23 => Sh h23 ∧ (ClI 193 [.ref 69, .int 0, .int 9999] h23 (fun v26 h25 => Sh h25 ∧ (InB (xI h23 69 19) 2 ∧ (ClV 191 [.ref 69, .int 4] (xsI h25 93 (tn (xI h23 69 19)) v26) (fun h27 => Sh h27 ∧ (Ev 186 295 [.null, .null, .null, .null] [] h27 Q)))))))) ∧ (¬ ((xI (xsI h 69 42 0) 72 (tn (xI (xsI h 69 42 0) 69 11))) = 28) → ClV 187 [.ref 69, .int 1] (xsI h 69 42 0) (fun h29 => Sh h29 ∧ (Ev 186 295 [.null, .null, .null, .null] [] h29 Q))))))))))))) : Ev 186 0 (x_ini 186 [.ref 69]) [] h Q := by
  rw [show x_ini 186 [.ref 69] = [.ref 69, .null, .null, .null] from x_inid ml_186 rfl]
  refine e_al o_186_0 rfl ?_
  refine e_c 0 o_186_1 rfl ?_
  refine e_pZ o_186_2 (sk_69 (h := h) hs) (by decide) ?_
  refine e_al o_186_5 rfl ?_
  refine e_gR (r := 72) o_186_6 (sk_69 (h := h) hs) (sr_69_5 (h := h) hs) (by decide) ?_
  refine e_al o_186_9 rfl ?_
  refine e_gI o_186_10 (sk_69 (h := h) hs) ?_
  obtain ⟨q, k⟩ := k
  refine e_ia (n := 403) o_186_13 (sk_72 (h := h) hs) (sn_72 (h := h) hs) q ?_
  refine e_swc o_186_14 (by decide) ?_
  refine ⟨fun z => ?_, fun z => ?_⟩
  · have k := k.1 z
    refine e_al o_186_64 rfl ?_
    refine e_gR (r := 79) o_186_65 (sk_69 (h := h) hs) (sr_69_23 (h := h) hs) (by decide) ?_
    refine e_al o_186_68 rfl ?_
    refine e_gI o_186_69 (sk_69 (h := h) hs) ?_
    obtain ⟨q, k⟩ := k
    refine e_ia (n := 2) o_186_72 (sk_79 (h := h) hs) (sn_79 (h := h) hs) q ?_
    refine e_c 8 o_186_73 rfl ?_
    refine e_if_1 o_186_75 (fun z => ?_) (fun z => ?_)
    · have k := k.1 z
      exact Ev.less (ls := [.ref 69, .null, .null, .null]) ⟨Or.inr rfl, Or.inl rfl, Or.inl rfl, Or.inl rfl, trivial⟩ k
    · have k := k.2 z
      refine e_al o_186_78 rfl ?_
      refine e_c 2 o_186_79 rfl ?_
      refine e_clV (as := [.ref 69, .int 2]) (rest := []) o_186_80 rfl rfl (x_okd cl_186_187 ml_187 (Nat.le_of_ble_eq_true rfl) (Nat.le_of_ble_eq_true rfl)) (x_rc0 (ci := 9) (sk_69 (h := h) hs) mo_187) k ?_
      rintro h1 ⟨sh1, k⟩
      exact Ev.less (ls := [.ref 69, .null, .null, .null]) ⟨Or.inr rfl, Or.inl rfl, Or.inl rfl, Or.inl rfl, trivial⟩ k
  · have k := k.2 z
    refine ⟨fun z => ?_, fun z => ?_⟩
    · have k := k.1 z
      refine e_al o_186_97 rfl ?_
      refine e_clV (as := [.ref 69]) (rest := []) o_186_98 rfl rfl (x_okd cl_186_190 ml_190 (Nat.le_of_ble_eq_true rfl) (Nat.le_of_ble_eq_true rfl)) (x_rc0 (ci := 9) (sk_69 (h := h) hs) mo_190) k ?_
      rintro h3 ⟨sh3, k⟩
      refine e_al o_186_101 rfl ?_
      refine e_gI o_186_102 (sk_69 (h := h3) sh3) ?_
      refine e_is (ls' := [.ref 69, .int (xI h3 69 11), .null, .null]) o_186_105 (Nat.le_of_ble_eq_true rfl) rfl ?_
      refine e_al o_186_106 rfl ?_
      refine e_c 1 o_186_107 rfl ?_
      refine e_clV (as := [.ref 69, .int 1]) (rest := []) o_186_108 rfl rfl (x_okd cl_186_191 ml_191 (Nat.le_of_ble_eq_true rfl) (Nat.le_of_ble_eq_true rfl)) (x_rc0 (ci := 9) (sk_69 (h := h3) sh3) mo_191) k ?_
      rintro h5 ⟨sh5, k⟩
      refine e_c (-1) o_186_111 rfl ?_
      refine e_is (ls' := [.ref 69, .int (xI h3 69 11), .int (-1), .null]) o_186_112 (Nat.le_of_ble_eq_true rfl) rfl ?_
      refine e_c 0 o_186_113 rfl ?_
      refine e_is (ls' := [.ref 69, .int (xI h3 69 11), .int (-1), .int 0]) o_186_114 (Nat.le_of_ble_eq_true rfl) rfl ?_
      exact Ev.less (ls := [.ref 69, .int (xI h3 69 11), .int (-1), .int 0]) ⟨Or.inr rfl, Or.inr rfl, Or.inr rfl, Or.inr rfl, trivial⟩ k
    · have k := k.2 z
      refine ⟨fun z => ?_, fun z => ?_⟩
      · have k := k.1 z
        refine e_al o_186_200 rfl ?_
        refine e_gR (r := 84) o_186_201 (sk_69 (h := h) hs) (sr_69_28 (h := h) hs) (by decide) ?_
        refine e_al o_186_204 rfl ?_
        refine e_gI o_186_205 (sk_69 (h := h) hs) ?_
        obtain ⟨q, k⟩ := k
        refine e_ia (n := 2) o_186_208 (sk_84 (h := h) hs) (sn_84 (h := h) hs) q ?_
        refine e_c 6 o_186_209 rfl ?_
        refine e_if_1 o_186_211 (fun z => ?_) (fun z => ?_)
        · have k := k.1 z
          exact Ev.less (ls := [.ref 69, .null, .null, .null]) ⟨Or.inr rfl, Or.inl rfl, Or.inl rfl, Or.inl rfl, trivial⟩ k
        · have k := k.2 z
          refine e_al o_186_214 rfl ?_
          refine e_c 2 o_186_215 rfl ?_
          refine e_clV (as := [.ref 69, .int 2]) (rest := []) o_186_216 rfl rfl (x_okd cl_186_187 ml_187 (Nat.le_of_ble_eq_true rfl) (Nat.le_of_ble_eq_true rfl)) (x_rc0 (ci := 9) (sk_69 (h := h) hs) mo_187) k ?_
          rintro h7 ⟨sh7, k⟩
          exact Ev.less (ls := [.ref 69, .null, .null, .null]) ⟨Or.inr rfl, Or.inl rfl, Or.inl rfl, Or.inl rfl, trivial⟩ k
      · have k := k.2 z
        refine ⟨fun z => ?_, fun z => ?_⟩
        · have k := k.1 z
          refine e_al o_186_290 rfl ?_
          refine e_c 1 o_186_291 rfl ?_
          refine e_clV (as := [.ref 69, .int 1]) (rest := []) o_186_292 rfl rfl (x_okd cl_186_187 ml_187 (Nat.le_of_ble_eq_true rfl) (Nat.le_of_ble_eq_true rfl)) (x_rc0 (ci := 9) (sk_69 (h := h) hs) mo_187) k ?_
          rintro h9 ⟨sh9, k⟩
          exact Ev.less (ls := [.null, .null, .null, .null]) ⟨Or.inl rfl, Or.inl rfl, Or.inl rfl, Or.inl rfl, trivial⟩ k
        · have k := k.2 z
          refine ⟨fun z => ?_, fun z => ?_⟩
          · have k := k.1 z
            refine e_al o_186_290 rfl ?_
            refine e_c 1 o_186_291 rfl ?_
            refine e_clV (as := [.ref 69, .int 1]) (rest := []) o_186_292 rfl rfl (x_okd cl_186_187 ml_187 (Nat.le_of_ble_eq_true rfl) (Nat.le_of_ble_eq_true rfl)) (x_rc0 (ci := 9) (sk_69 (h := h) hs) mo_187) k ?_
            rintro h11 ⟨sh11, k⟩
            exact Ev.less (ls := [.null, .null, .null, .null]) ⟨Or.inl rfl, Or.inl rfl, Or.inl rfl, Or.inl rfl, trivial⟩ k
          · have k := k.2 z
            refine ⟨fun z => ?_, fun z => ?_⟩
            · have k := k.1 z
              refine e_al o_186_290 rfl ?_
              refine e_c 1 o_186_291 rfl ?_
              refine e_clV (as := [.ref 69, .int 1]) (rest := []) o_186_292 rfl rfl (x_okd cl_186_187 ml_187 (Nat.le_of_ble_eq_true rfl) (Nat.le_of_ble_eq_true rfl)) (x_rc0 (ci := 9) (sk_69 (h := h) hs) mo_187) k ?_
              rintro h13 ⟨sh13, k⟩
              exact Ev.less (ls := [.null, .null, .null, .null]) ⟨Or.inl rfl, Or.inl rfl, Or.inl rfl, Or.inl rfl, trivial⟩ k
            · have k := k.2 z
              refine ⟨fun z => ?_, fun z => ?_⟩
              · have k := k.1 z
                refine e_al o_186_290 rfl ?_
                refine e_c 1 o_186_291 rfl ?_
                refine e_clV (as := [.ref 69, .int 1]) (rest := []) o_186_292 rfl rfl (x_okd cl_186_187 ml_187 (Nat.le_of_ble_eq_true rfl) (Nat.le_of_ble_eq_true rfl)) (x_rc0 (ci := 9) (sk_69 (h := h) hs) mo_187) k ?_
                rintro h15 ⟨sh15, k⟩
                exact Ev.less (ls := [.null, .null, .null, .null]) ⟨Or.inl rfl, Or.inl rfl, Or.inl rfl, Or.inl rfl, trivial⟩ k
              · have k := k.2 z
                refine ⟨fun z => ?_, fun z => ?_⟩
                · have k := k.1 z
                  refine e_al o_186_233 rfl ?_
                  refine e_clV (as := [.ref 69]) (rest := []) o_186_234 rfl rfl (x_okd cl_186_190 ml_190 (Nat.le_of_ble_eq_true rfl) (Nat.le_of_ble_eq_true rfl)) (x_rc0 (ci := 9) (sk_69 (h := h) hs) mo_190) k ?_
                  rintro h17 ⟨sh17, k⟩
                  refine e_al o_186_237 rfl ?_
                  refine e_gR (r := 92) o_186_238 (sk_69 (h := h17) sh17) (sr_69_37 (h := h17) sh17) (by decide) ?_
                  refine e_al o_186_241 rfl ?_
                  refine e_gI o_186_242 (sk_69 (h := h17) sh17) ?_
                  refine e_al o_186_245 rfl ?_
                  refine e_c 0 o_186_246 rfl ?_
                  refine e_c 100 o_186_247 rfl ?_
                  refine e_clI (as := [.ref 69, .int 0, .int 100]) (rest := [.int (xI h17 69 19), .ref 92]) o_186_249 rfl rfl (x_okd cl_186_193 ml_193 (Nat.le_of_ble_eq_true rfl) (Nat.le_of_ble_eq_true rfl)) (x_rc0 (ci := 9) (sk_69 (h := h17) sh17) mo_193) k ?_
                  rintro v20 h19 ⟨sh19, k⟩
                  obtain ⟨q, k⟩ := k
                  refine e_ias (n := 2) o_186_252 (sk_92 (h := h19) sh19) (by decide) (sn_92 (h := h19) sh19) q ?_
                  refine e_al o_186_253 rfl ?_
                  refine e_c 4 o_186_254 rfl ?_
                  refine e_clV (as := [.ref 69, .int 4]) (rest := []) o_186_255 rfl rfl (x_okd cl_186_191 ml_191 (Nat.le_of_ble_eq_true rfl) (Nat.le_of_ble_eq_true rfl)) (x_rc0 (ci := 9) (sk_69 (h := h19) sh19) mo_191) k ?_
                  rintro h21 ⟨sh21, k⟩
                  refine e_go o_186_258 ?_
                  exact Ev.less (ls := [.null, .null, .null, .null]) ⟨Or.inl rfl, Or.inl rfl, Or.inl rfl, Or.inl rfl, trivial⟩ k
                · have k := k.2 z
                  refine ⟨fun z => ?_, fun z => ?_⟩
                  · have k := k.1 z
                    refine e_al o_186_261 rfl ?_
                    refine e_clV (as := [.ref 69]) (rest := []) o_186_262 rfl rfl (x_okd cl_186_190 ml_190 (Nat.le_of_ble_eq_true rfl) (Nat.le_of_ble_eq_true rfl)) (x_rc0 (ci := 9) (sk_69 (h := h) hs) mo_190) k ?_
                    rintro h23 ⟨sh23, k⟩
                    refine e_al o_186_265 rfl ?_
                    refine e_gR (r := 93) o_186_266 (sk_69 (h := h23) sh23) (sr_69_38 (h := h23) sh23) (by decide) ?_
                    refine e_al o_186_269 rfl ?_
                    refine e_gI o_186_270 (sk_69 (h := h23) sh23) ?_
                    refine e_al o_186_273 rfl ?_
                    refine e_c 0 o_186_274 rfl ?_
                    refine e_c 9999 o_186_275 rfl ?_
                    refine e_clI (as := [.ref 69, .int 0, .int 9999]) (rest := [.int (xI h23 69 19), .ref 93]) o_186_278 rfl rfl (x_okd cl_186_193 ml_193 (Nat.le_of_ble_eq_true rfl) (Nat.le_of_ble_eq_true rfl)) (x_rc0 (ci := 9) (sk_69 (h := h23) sh23) mo_193) k ?_
                    rintro v26 h25 ⟨sh25, k⟩
                    obtain ⟨q, k⟩ := k
                    refine e_ias (n := 2) o_186_281 (sk_93 (h := h25) sh25) (by decide) (sn_93 (h := h25) sh25) q ?_
                    refine e_al o_186_282 rfl ?_
                    refine e_c 4 o_186_283 rfl ?_
                    refine e_clV (as := [.ref 69, .int 4]) (rest := []) o_186_284 rfl rfl (x_okd cl_186_191 ml_191 (Nat.le_of_ble_eq_true rfl) (Nat.le_of_ble_eq_true rfl)) (x_rc0 (ci := 9) (sk_69 (h := h25) sh25) mo_191) k ?_
                    rintro h27 ⟨sh27, k⟩
                    refine e_go o_186_287 ?_
                    exact Ev.less (ls := [.null, .null, .null, .null]) ⟨Or.inl rfl, Or.inl rfl, Or.inl rfl, Or.inl rfl, trivial⟩ k
                  · have k := k.2 z
                    refine e_al o_186_290 rfl ?_
                    refine e_c 1 o_186_291 rfl ?_
                    refine e_clV (as := [.ref 69, .int 1]) (rest := []) o_186_292 rfl rfl (x_okd cl_186_187 ml_187 (Nat.le_of_ble_eq_true rfl) (Nat.le_of_ble_eq_true rfl)) (x_rc0 (ci := 9) (sk_69 (h := h) hs) mo_187) k ?_
                    rintro h29 ⟨sh29, k⟩
                    exact Ev.less (ls := [.null, .null, .null, .null]) ⟨Or.inl rfl, Or.inl rfl, Or.inl rfl, Or.inl rfl, trivial⟩ k
set_option maxHeartbeats 4000000 in
set_option maxRecDepth 100000 in
theorem B_186_83  {h : XH} {Q : Value → XH → Prop} (hs : Sh h) (k : ((¬ (xI h 69 13) = 0) → Ev 186 295 [.null, .null, .null, .null] [] h Q) ∧ (¬ (¬ (xI h 69 13) = 0) → ClV 188 [.ref 69] h (fun h1 => Sh h1 ∧ (Ev 186 295 [.null, .null, .null, .null] [] h1 Q)))) : Ev 186 83 [.ref 69, .null, .null, .null] [] h Q := by
  refine e_al o_186_83 rfl ?_
  refine e_gI o_186_84 (sk_69 (h := h) hs) ?_
  refine e_i0_1 o_186_87 (fun z => ?_) (fun z => ?_)
  · have k := k.1 z
    exact Ev.less (ls := [.null, .null, .null, .null]) ⟨Or.inl rfl, Or.inl rfl, Or.inl rfl, Or.inl rfl, trivial⟩ k
  · have k := k.2 z
    refine e_al o_186_90 rfl ?_
    refine e_clV (as := [.ref 69]) (rest := []) o_186_91 rfl rfl (x_okd cl_186_188 ml_188 (Nat.le_of_ble_eq_true rfl) (Nat.le_of_ble_eq_true rfl)) (x_rc0 (ci := 9) (sk_69 (h := h) hs) mo_188) k ?_
    rintro h1 ⟨sh1, k⟩
    refine e_go o_186_94 ?_
    exact Ev.less (ls := [.null, .null, .null, .null]) ⟨Or.inl rfl, Or.inl rfl, Or.inl rfl, Or.inl rfl, trivial⟩ k
set_option maxHeartbeats 4000000 in
set_option maxRecDepth 100000 in
theorem B_186_115 {x1 : Int32} {x2 : Int32} {x3 : Int32} {h : XH} {Q : Value → XH → Prop} (hs : Sh h) (k : (((xI h 69 20) ≤ x3) → Ev 186 170 [.ref 69, .int x1, .int x2, .null] [] h Q) ∧ (¬ ((xI h 69 20) ≤ x3) → ((¬ (xI h 69 13) = 0) → Ev 186 170 [.ref 69, .int x1, .int x2, .null] [] h Q) ∧ (¬ (¬ (xI h 69 13) = 0) → InB x3 14 ∧ (InB x1 403 ∧ (((¬ (lg_cmp (xL h 77 (tn x3)) (xL h 75 (tn x1))) = 0) → Ev 186 164 [.ref 69, .int x1, .int x2, .int x3] [] h Q) ∧ (¬ (¬ (lg_cmp (xL h 77 (tn x3)) (xL h 75 (tn x1))) = 0) → InB x3 14 ∧ (((8 ≤ (xI h 78 (tn x3))) → Ev 186 164 [.ref 69, .int x1, .int x2, .int x3] [] h Q) ∧ (¬ (8 ≤ (xI h 78 (tn x3))) → InB x3 14 ∧ (Ev 186 164 [.ref 69, .int x1, .int (xI h 78 (tn x3)), .int x3] [] h Q))))))))) : Ev 186 115 [.ref 69, .int x1, .int x2, .int x3] [] h Q := by
  refine e_il o_186_115 rfl ?_
  refine e_al o_186_116 rfl ?_
  refine e_gI o_186_117 (sk_69 (h := h) hs) ?_
  refine e_if_3 o_186_120 (fun z => ?_) (fun z => ?_)
  · have k := k.1 z
    exact Ev.less (ls := [.ref 69, .int x1, .int x2, .null]) ⟨Or.inr rfl, Or.inr rfl, Or.inr rfl, Or.inl rfl, trivial⟩ k
  · have k := k.2 z
    refine e_al o_186_123 rfl ?_
    refine e_gI o_186_124 (sk_69 (h := h) hs) ?_
    refine e_i0_1 o_186_127 (fun z => ?_) (fun z => ?_)
    · have k := k.1 z
      exact Ev.less (ls := [.ref 69, .int x1, .int x2, .null]) ⟨Or.inr rfl, Or.inr rfl, Or.inr rfl, Or.inl rfl, trivial⟩ k
    · have k := k.2 z
      refine e_al o_186_130 rfl ?_
      refine e_gR (r := 77) o_186_131 (sk_69 (h := h) hs) (sr_69_21 (h := h) hs) (by decide) ?_
      refine e_il o_186_134 rfl ?_
      obtain ⟨q, k⟩ := k
      refine e_la (n := 14) o_186_135 (sk_77 (h := h) hs) (sn_77 (h := h) hs) q ?_
      refine e_al o_186_136 rfl ?_
      refine e_gR (r := 75) o_186_137 (sk_69 (h := h) hs) (sr_69_8 (h := h) hs) (by decide) ?_
      refine e_il o_186_140 rfl ?_
      obtain ⟨q, k⟩ := k
      refine e_la (n := 403) o_186_141 (sk_75 (h := h) hs) (sn_75 (h := h) hs) q ?_
      refine e_lcmp o_186_142 ?_
      refine e_i0_1 o_186_143 (fun z => ?_) (fun z => ?_)
      · have k := k.1 z
        exact Ev.less (ls := [.ref 69, .int x1, .int x2, .int x3]) ⟨Or.inr rfl, Or.inr rfl, Or.inr rfl, Or.inr rfl, trivial⟩ k
      · have k := k.2 z
        refine e_al o_186_146 rfl ?_
        refine e_gR (r := 78) o_186_147 (sk_69 (h := h) hs) (sr_69_22 (h := h) hs) (by decide) ?_
        refine e_il o_186_150 rfl ?_
        obtain ⟨q, k⟩ := k
        refine e_ia (n := 14) o_186_151 (sk_78 (h := h) hs) (sn_78 (h := h) hs) q ?_
        refine e_c 8 o_186_152 rfl ?_
        refine e_if_3 o_186_154 (fun z => ?_) (fun z => ?_)
        · have k := k.1 z
          exact Ev.less (ls := [.ref 69, .int x1, .int x2, .int x3]) ⟨Or.inr rfl, Or.inr rfl, Or.inr rfl, Or.inr rfl, trivial⟩ k
        · have k := k.2 z
          refine e_al o_186_157 rfl ?_
          refine e_gR (r := 78) o_186_158 (sk_69 (h := h) hs) (sr_69_22 (h := h) hs) (by decide) ?_
          refine e_il o_186_161 rfl ?_
          obtain ⟨q, k⟩ := k
          refine e_ia (n := 14) o_186_162 (sk_78 (h := h) hs) (sn_78 (h := h) hs) q ?_
          refine e_is (ls' := [.ref 69, .int x1, .int (xI h 78 (tn x3)), .int x3]) o_186_163 (Nat.le_of_ble_eq_true rfl) rfl ?_
          exact Ev.less (ls := [.ref 69, .int x1, .int (xI h 78 (tn x3)), .int x3]) ⟨Or.inr rfl, Or.inr rfl, Or.inr rfl, Or.inr rfl, trivial⟩ k
set_option maxHeartbeats 4000000 in
set_option maxRecDepth 100000 in
theorem B_186_164 {x1 : Int32} {x2 : Int32} {x3 : Int32} {h : XH} {Q : Value → XH → Prop} (hs : Sh h) (k : Ev 186 115 [.ref 69, .int x1, .int x2, .int (x3 + 1)] [] h Q) : Ev 186 164 [.ref 69, .int x1, .int x2, .int x3] [] h Q := by
  refine e_inc (ls' := [.ref 69, .int x1, .int x2, .int (x3 + 1)]) o_186_164 rfl rfl rfl ?_
  refine e_go o_186_167 ?_
  exact Ev.less (ls := [.ref 69, .int x1, .int x2, .int (x3 + 1)]) ⟨Or.inr rfl, Or.inr rfl, Or.inr rfl, Or.inr rfl, trivial⟩ k
set_option maxHeartbeats 4000000 in
set_option maxRecDepth 100000 in
theorem B_186_170 {x1 : Int32} {x2 : Int32} {h : XH} {Q : Value → XH → Prop} (hs : Sh h) (k : ((¬ (xI h 69 13) = 0) → Ev 186 187 [.ref 69, .null, .int x2, .null] [] h Q) ∧ (¬ (¬ (xI h 69 13) = 0) → ((0 ≤ x2) → Ev 186 187 [.ref 69, .null, .int x2, .null] [] h Q) ∧ (¬ (0 ≤ x2) → ClV 192 [.ref 69, .int 4, .int x1] h (fun h1 => Sh h1 ∧ (Ev 186 187 [.ref 69, .null, .int x2, .null] [] h1 Q))))) : Ev 186 170 [.ref 69, .int x1, .int x2, .null] [] h Q := by
  refine e_al o_186_170 rfl ?_
  refine e_gI o_186_171 (sk_69 (h := h) hs) ?_
  refine e_i0_1 o_186_174 (fun z => ?_) (fun z => ?_)
  · have k := k.1 z
    exact Ev.less (ls := [.ref 69, .null, .int x2, .null]) ⟨Or.inr rfl, Or.inl rfl, Or.inr rfl, Or.inl rfl, trivial⟩ k
  · have k := k.2 z
    refine e_il o_186_177 rfl ?_
    refine e_i0_3 o_186_178 (fun z => ?_) (fun z => ?_)
    · have k := k.1 z
      exact Ev.less (ls := [.ref 69, .null, .int x2, .null]) ⟨Or.inr rfl, Or.inl rfl, Or.inr rfl, Or.inl rfl, trivial⟩ k
    · have k := k.2 z
      refine e_al o_186_181 rfl ?_
      refine e_c 4 o_186_182 rfl ?_
      refine e_il o_186_183 rfl ?_
      refine e_clV (as := [.ref 69, .int 4, .int x1]) (rest := []) o_186_184 rfl rfl (x_okd cl_186_192 ml_192 (Nat.le_of_ble_eq_true rfl) (Nat.le_of_ble_eq_true rfl)) (x_rc0 (ci := 9) (sk_69 (h := h) hs) mo_192) k ?_
      rintro h1 ⟨sh1, k⟩
      exact Ev.less (ls := [.ref 69, .null, .int x2, .null]) ⟨Or.inr rfl, Or.inl rfl, Or.inr rfl, Or.inl rfl, trivial⟩ k
set_option maxHeartbeats 4000000 in
set_option maxRecDepth 100000 in
theorem B_186_187 {x2 : Int32} {h : XH} {Q : Value → XH → Prop} (hs : Sh h) (k : ClV 195 [.ref 69, .int x2] (xsI h 69 42 1) (fun h1 => Sh h1 ∧ (Ev 186 295 [.null, .null, .null, .null] [] h1 Q))) : Ev 186 187 [.ref 69, .null, .int x2, .null] [] h Q := by
  refine e_al o_186_187 rfl ?_
  refine e_c 1 o_186_188 rfl ?_
  refine e_pZ o_186_189 (sk_69 (h := h) hs) (by decide) ?_
  refine e_al o_186_192 rfl ?_
  refine e_il o_186_193 rfl ?_
  refine e_clV (as := [.ref 69, .int x2]) (rest := []) o_186_194 rfl rfl (x_okd cl_186_195 ml_195 (Nat.le_of_ble_eq_true rfl) (Nat.le_of_ble_eq_true rfl)) (x_rc0 (ci := 9) (sk_69 (h := h) hs) mo_195) k ?_
  rintro h1 ⟨sh1, k⟩
  refine e_go o_186_197 ?_
  exact Ev.less (ls := [.null, .null, .null, .null]) ⟨Or.inl rfl, Or.inl rfl, Or.inl rfl, Or.inl rfl, trivial⟩ k
set_option maxHeartbeats 4000000 in
set_option maxRecDepth 100000 in
theorem B_186_219  {h : XH} {Q : Value → XH → Prop} (hs : Sh h) (k : ((¬ (xI h 69 13) = 0) → Ev 186 295 [.null, .null, .null, .null] [] h Q) ∧ (¬ (¬ (xI h 69 13) = 0) → ClV 201 [.ref 69] h (fun h1 => Sh h1 ∧ (Ev 186 295 [.null, .null, .null, .null] [] h1 Q)))) : Ev 186 219 [.ref 69, .null, .null, .null] [] h Q := by
  refine e_al o_186_219 rfl ?_
  refine e_gI o_186_220 (sk_69 (h := h) hs) ?_
  refine e_i0_1 o_186_223 (fun z => ?_) (fun z => ?_)
  · have k := k.1 z
    exact Ev.less (ls := [.null, .null, .null, .null]) ⟨Or.inl rfl, Or.inl rfl, Or.inl rfl, Or.inl rfl, trivial⟩ k
  · have k := k.2 z
    refine e_al o_186_226 rfl ?_
    refine e_clV (as := [.ref 69]) (rest := []) o_186_227 rfl rfl (x_okd cl_186_201 ml_201 (Nat.le_of_ble_eq_true rfl) (Nat.le_of_ble_eq_true rfl)) (x_rc0 (ci := 9) (sk_69 (h := h) hs) mo_201) k ?_
    rintro h1 ⟨sh1, k⟩
    refine e_go o_186_230 ?_
    exact Ev.less (ls := [.null, .null, .null, .null]) ⟨Or.inl rfl, Or.inl rfl, Or.inl rfl, Or.inl rfl, trivial⟩ k
set_option maxHeartbeats 4000000 in
set_option maxRecDepth 100000 in
theorem B_186_295  {h : XH} {Q : Value → XH → Prop} (hs : Sh h) (k : Q .null h) : Ev 186 295 [.null, .null, .null, .null] [] h Q := by
  exact e_ret0 o_186_295 k
