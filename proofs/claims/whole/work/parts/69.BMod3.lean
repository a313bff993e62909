set_option maxHeartbeats 4000000 in
set_option maxRecDepth 100000 in
theorem B_243_0 {x1 : Int32} {h : XH} {Q : Value → XH → Prop} (hs : Sh h) (k : Ev 243 4 [.ref 69, .int x1, .int 1, .int 0] [] h Q) : Ev 243 0 (x_ini 243 [.ref 69, .int x1]) [] h Q := by
  rw [show x_ini 243 [.ref 69, .int x1] = [.ref 69, .int x1, .null, .null] from x_inid ml_243 rfl]
  refine e_c 1 o_243_0 rfl ?_
  refine e_is (ls' := [.ref 69, .int x1, .int 1, .null]) o_243_1 (Nat.le_of_ble_eq_true rfl) rfl ?_
  refine e_c 0 o_243_2 rfl ?_
  refine e_is (ls' := [.ref 69, .int x1, .int 1, .int 0]) o_243_3 (Nat.le_of_ble_eq_true rfl) rfl ?_
  exact Ev.less (ls := [.ref 69, .int x1, .int 1, .int 0]) ⟨Or.inr rfl, Or.inr rfl, Or.inr rfl, Or.inr rfl, trivial⟩ k
set_option maxHeartbeats 4000000 in
set_option maxRecDepth 100000 in
theorem B_243_4 {x1 : Int32} {x2 : Int32} {x3 : Int32} {h : XH} {Q : Value → XH → Prop} (hs : Sh h) (k : ((x1 ≤ x3) → Q (.int x2) h) ∧ (¬ (x1 ≤ x3) → InB ((8 * (xI h 69 18)) + x3) 16 ∧ (Ev 243 4 [.ref 69, .int x1, .int (x2 * ((xI h 80 (tn ((8 * (xI h 69 18)) + x3))) + 1)), .int (x3 + 1)] [] h Q))) : Ev 243 4 [.ref 69, .int x1, .int x2, .int x3] [] h Q := by
  refine e_il o_243_4 rfl ?_
  refine e_il o_243_5 rfl ?_
  refine e_if_3 o_243_6 (fun z => ?_) (fun z => ?_)
  · have k := k.1 z
    refine e_il o_243_34 rfl ?_
    exact e_retI o_243_35 k
  · have k := k.2 z
    refine e_il o_243_9 rfl ?_
    refine e_al o_243_10 rfl ?_
    refine e_gR (r := 80) o_243_11 (sk_69 (h := h) hs) (sr_69_24 (h := h) hs) (by decide) ?_
    refine e_c 8 o_243_14 rfl ?_
    refine e_al o_243_16 rfl ?_
    refine e_gI o_243_17 (sk_69 (h := h) hs) ?_
    refine e_bin o_243_20 rfl ?_
    refine e_il o_243_21 rfl ?_
    refine e_bin o_243_22 rfl ?_
    obtain ⟨q, k⟩ := k
    refine e_ia (n := 16) o_243_23 (sk_80 (h := h) hs) (sn_80 (h := h) hs) q ?_
    refine e_c 1 o_243_24 rfl ?_
    refine e_bin o_243_25 rfl ?_
    refine e_bin o_243_26 rfl ?_
    refine e_is (ls' := [.ref 69, .int x1, .int (x2 * ((xI h 80 (tn ((8 * (xI h 69 18)) + x3))) + 1)), .int x3]) o_243_27 (Nat.le_of_ble_eq_true rfl) rfl ?_
    refine e_inc (ls' := [.ref 69, .int x1, .int (x2 * ((xI h 80 (tn ((8 * (xI h 69 18)) + x3))) + 1)), .int (x3 + 1)]) o_243_28 rfl rfl rfl ?_
    refine e_go o_243_31 ?_
    exact Ev.less (ls := [.ref 69, .int x1, .int (x2 * ((xI h 80 (tn ((8 * (xI h 69 18)) + x3))) + 1)), .int (x3 + 1)]) ⟨Or.inr rfl, Or.inr rfl, Or.inr rfl, Or.inr rfl, trivial⟩ k
set_option maxHeartbeats 4000000 in
set_option maxRecDepth 100000 in
theorem B_244_0 {x1 : Int32} {x2 : Int32} {h : XH} {Q : Value → XH → Prop} (hs : Sh h) (k : ClI 209 [.ref 69, .int x1] h (fun v2 h1 => Sh h1 ∧ (((v2 = 0) → Ev 244 17 [.null, .null, .null, .null, .null, .null, .null] [] h1 Q) ∧ (¬ (v2 = 0) → ClI 207 [.int x2, .int 0, .int 1] h1 (fun v4 h3 => Sh h3 ∧ (((¬ v4 = 0) → InB ((6 * (xI h3 69 18)) + x1) 12 ∧ (InB ((6 * (xI h3 69 18)) + x1) 12 ∧ (Ev 244 47 [.ref 69, .int x1, .int x2, .int ((6 * (xI h3 69 18)) + x1), .int ((xI h3 87 (tn ((6 * (xI h3 69 18)) + x1))) - (xI h3 86 (tn ((6 * (xI h3 69 18)) + x1)))), .int 0, .null] [] h3 Q))) ∧ (¬ (¬ v4 = 0) → Ev 244 17 [.null, .null, .null, .null, .null, .null, .null] [] h3 Q))))))) : Ev 244 0 (x_ini 244 [.ref 69, .int x1, .int x2]) [] h Q := by
  rw [show x_ini 244 [.ref 69, .int x1, .int x2] = [.ref 69, .int x1, .int x2, .null, .null, .null, .null] from x_inid ml_244 rfl]
  refine e_al o_244_0 rfl ?_
  refine e_il o_244_1 rfl ?_
  refine e_clI (as := [.ref 69, .int x1]) (rest := []) o_244_2 rfl rfl (x_okd cl_244_209 ml_209 (Nat.le_of_ble_eq_true rfl) (Nat.le_of_ble_eq_true rfl)) (x_rc0 (ci := 9) (sk_69 (h := h) hs) mo_209) k ?_
  rintro v2 h1 ⟨sh1, k⟩
  refine e_i0_0 o_244_5 (fun z => ?_) (fun z => ?_)
  · have k := k.1 z
    exact Ev.less (ls := [.null, .null, .null, .null, .null, .null, .null]) ⟨Or.inl rfl, Or.inl rfl, Or.inl rfl, Or.inl rfl, Or.inl rfl, Or.inl rfl, Or.inl rfl, trivial⟩ k
  · have k := k.2 z
    refine e_il o_244_8 rfl ?_
    refine e_c 0 o_244_9 rfl ?_
    refine e_c 1 o_244_10 rfl ?_
    refine e_clI (as := [.int x2, .int 0, .int 1]) (rest := []) o_244_11 rfl rfl (x_okd cl_244_207 ml_207 (Nat.le_of_ble_eq_true rfl) (Nat.le_of_ble_eq_true rfl)) (rfl) k ?_
    rintro v4 h3 ⟨sh3, k⟩
    refine e_i0_1 o_244_14 (fun z => ?_) (fun z => ?_)
    · have k := k.1 z
      refine e_c 6 o_244_19 rfl ?_
      refine e_al o_244_21 rfl ?_
      refine e_gI o_244_22 (sk_69 (h := h3) sh3) ?_
      refine e_bin o_244_25 rfl ?_
      refine e_il o_244_26 rfl ?_
      refine e_bin o_244_27 rfl ?_
      refine e_is (ls' := [.ref 69, .int x1, .int x2, .int ((6 * (xI h3 69 18)) + x1), .null, .null, .null]) o_244_28 (Nat.le_of_ble_eq_true rfl) rfl ?_
      refine e_al o_244_29 rfl ?_
      refine e_gR (r := 87) o_244_30 (sk_69 (h := h3) sh3) (sr_69_31 (h := h3) sh3) (by decide) ?_
      refine e_il o_244_33 rfl ?_
      obtain ⟨q, k⟩ := k
      refine e_ia (n := 12) o_244_34 (sk_87 (h := h3) sh3) (sn_87 (h := h3) sh3) q ?_
      refine e_al o_244_35 rfl ?_
      refine e_gR (r := 86) o_244_36 (sk_69 (h := h3) sh3) (sr_69_30 (h := h3) sh3) (by decide) ?_
      refine e_il o_244_39 rfl ?_
      obtain ⟨q, k⟩ := k
      refine e_ia (n := 12) o_244_40 (sk_86 (h := h3) sh3) (sn_86 (h := h3) sh3) q ?_
      refine e_bin o_244_41 rfl ?_
      refine e_is (ls' := [.ref 69, .int x1, .int x2, .int ((6 * (xI h3 69 18)) + x1), .int ((xI h3 87 (tn ((6 * (xI h3 69 18)) + x1))) - (xI h3 86 (tn ((6 * (xI h3 69 18)) + x1)))), .null, .null]) o_244_42 (Nat.le_of_ble_eq_true rfl) rfl ?_
      refine e_c 0 o_244_44 rfl ?_
      refine e_is (ls' := [.ref 69, .int x1, .int x2, .int ((6 * (xI h3 69 18)) + x1), .int ((xI h3 87 (tn ((6 * (xI h3 69 18)) + x1))) - (xI h3 86 (tn ((6 * (xI h3 69 18)) + x1)))), .int 0, .null]) o_244_45 (Nat.le_of_ble_eq_true rfl) rfl ?_
      exact Ev.less (ls := [.ref 69, .int x1, .int x2, .int ((6 * (xI h3 69 18)) + x1), .int ((xI h3 87 (tn ((6 * (xI h3 69 18)) + x1))) - (xI h3 86 (tn ((6 * (xI h3 69 18)) + x1)))), .int 0, .null]) ⟨Or.inr rfl, Or.inr rfl, Or.inr rfl, Or.inr rfl, Or.inr rfl, Or.inr rfl, Or.inl rfl, trivial⟩ k
    · have k := k.2 z
      exact Ev.less (ls := [.null, .null, .null, .null, .null, .null, .null]) ⟨Or.inl rfl, Or.inl rfl, Or.inl rfl, Or.inl rfl, Or.inl rfl, Or.inl rfl, Or.inl rfl, trivial⟩ k
set_option maxHeartbeats 4000000 in
set_option maxRecDepth 100000 in
theorem B_244_17  {h : XH} {Q : Value → XH → Prop} (hs : Sh h) (k : Q (.int (-1)) h) : Ev 244 17 [.null, .null, .null, .null, .null, .null, .null] [] h Q := by
  refine e_c (-1) o_244_17 rfl ?_
  exact e_retI o_244_18 k
set_option maxHeartbeats 4000000 in
set_option maxRecDepth 100000 in
theorem B_244_47 {x1 : Int32} {x2 : Int32} {x3 : Int32} {x4 : Int32} {x5 : Int32} {h : XH} {Q : Value → XH → Prop} (hs : Sh h) (k : ((6 ≤ x5) → Ev 244 71 [.ref 69, .int x1, .int x2, .int x3, .int x4, .int 0, .null] [] h Q) ∧ (¬ (6 ≤ x5) → InB x5 6 ∧ (Ev 244 47 [.ref 69, .int x1, .int x2, .int x3, .int x4, .int (x5 + 1), .null] [] (xsI h 116 (tn x5) 0) Q))) : Ev 244 47 [.ref 69, .int x1, .int x2, .int x3, .int x4, .int x5, .null] [] h Q := by
  refine e_il o_244_47 rfl ?_
  refine e_c 6 o_244_49 rfl ?_
  refine e_if_3 o_244_51 (fun z => ?_) (fun z => ?_)
  · have k := k.1 z
    refine e_c 0 o_244_68 rfl ?_
    refine e_is (ls' := [.ref 69, .int x1, .int x2, .int x3, .int x4, .int 0, .null]) o_244_69 (Nat.le_of_ble_eq_true rfl) rfl ?_
    exact Ev.less (ls := [.ref 69, .int x1, .int x2, .int x3, .int x4, .int 0, .null]) ⟨Or.inr rfl, Or.inr rfl, Or.inr rfl, Or.inr rfl, Or.inr rfl, Or.inr rfl, Or.inl rfl, trivial⟩ k
  · have k := k.2 z
    refine e_al o_244_54 rfl ?_
    refine e_gR (r := 116) o_244_55 (sk_69 (h := h) hs) (sr_69_69 (h := h) hs) (by decide) ?_
    refine e_il o_244_58 rfl ?_
    refine e_c 0 o_244_60 rfl ?_
    obtain ⟨q, k⟩ := k
    refine e_ias (n := 6) o_244_61 (sk_116 (h := h) hs) (by decide) (sn_116 (h := h) hs) q ?_
    refine e_inc (ls' := [.ref 69, .int x1, .int x2, .int x3, .int x4, .int (x5 + 1), .null]) o_244_62 rfl rfl rfl ?_
    refine e_go o_244_65 ?_
    exact Ev.less (ls := [.ref 69, .int x1, .int x2, .int x3, .int x4, .int (x5 + 1), .null]) ⟨Or.inr rfl, Or.inr rfl, Or.inr rfl, Or.inr rfl, Or.inr rfl, Or.inr rfl, Or.inl rfl, trivial⟩ k
set_option maxHeartbeats 4000000 in
set_option maxRecDepth 100000 in
theorem B_244_71 {x1 : Int32} {x2 : Int32} {x3 : Int32} {x4 : Int32} {x5 : Int32} {h : XH} {Q : Value → XH → Prop} (hs : Sh h) (k : InB (xI h 69 18) 2 ∧ ((((xI h 83 (tn (xI h 69 18))) ≤ x5) → Ev 244 152 [.ref 69, .null, .int x2, .null, .int x4, .int 0, .int 1] [] h Q) ∧ (¬ ((xI h 83 (tn (xI h 69 18))) ≤ x5) → ClV 237 [.ref 69, .int x5] h (fun h1 => Sh h1 ∧ (ClV 167 [.ref 69] h1 (fun h3 => Sh h3 ∧ (Ev 244 98 [.ref 69, .int x1, .int x2, .int x3, .int x4, .int x5, .int 0] [] h3 Q))))))) : Ev 244 71 [.ref 69, .int x1, .int x2, .int x3, .int x4, .int x5, .null] [] h Q := by
  refine e_il o_244_71 rfl ?_
  refine e_al o_244_73 rfl ?_
  refine e_gR (r := 83) o_244_74 (sk_69 (h := h) hs) (sr_69_27 (h := h) hs) (by decide) ?_
  refine e_al o_244_77 rfl ?_
  refine e_gI o_244_78 (sk_69 (h := h) hs) ?_
  obtain ⟨q, k⟩ := k
  refine e_ia (n := 2) o_244_81 (sk_83 (h := h) hs) (sn_83 (h := h) hs) q ?_
  refine e_if_3 o_244_82 (fun z => ?_) (fun z => ?_)
  · have k := k.1 z
    refine e_c 0 o_244_146 rfl ?_
    refine e_is (ls' := [.ref 69, .int x1, .int x2, .int x3, .int x4, .int 0, .null]) o_244_147 (Nat.le_of_ble_eq_true rfl) rfl ?_
    refine e_c 1 o_244_149 rfl ?_
    refine e_is (ls' := [.ref 69, .int x1, .int x2, .int x3, .int x4, .int 0, .int 1]) o_244_150 (Nat.le_of_ble_eq_true rfl) rfl ?_
    exact Ev.less (ls := [.ref 69, .null, .int x2, .null, .int x4, .int 0, .int 1]) ⟨Or.inr rfl, Or.inl rfl, Or.inr rfl, Or.inl rfl, Or.inr rfl, Or.inr rfl, Or.inr rfl, trivial⟩ k
  · have k := k.2 z
    refine e_al o_244_85 rfl ?_
    refine e_il o_244_86 rfl ?_
    refine e_clV (as := [.ref 69, .int x5]) (rest := []) o_244_88 rfl rfl (x_okd cl_244_237 ml_237 (Nat.le_of_ble_eq_true rfl) (Nat.le_of_ble_eq_true rfl)) (x_rc0 (ci := 9) (sk_69 (h := h) hs) mo_237) k ?_
    rintro h1 ⟨sh1, k⟩
    refine e_al o_244_91 rfl ?_
    refine e_clV (as := [.ref 69]) (rest := []) o_244_92 rfl rfl (x_okd cl_244_167 ml_167 (Nat.le_of_ble_eq_true rfl) (Nat.le_of_ble_eq_true rfl)) (x_rc0 (ci := 9) (sk_69 (h := h1) sh1) mo_167) k ?_
    rintro h3 ⟨sh3, k⟩
    refine e_c 0 o_244_95 rfl ?_
    refine e_is (ls' := [.ref 69, .int x1, .int x2, .int x3, .int x4, .int x5, .int 0]) o_244_96 (Nat.le_of_ble_eq_true rfl) rfl ?_
    exact Ev.less (ls := [.ref 69, .int x1, .int x2, .int x3, .int x4, .int x5, .int 0]) ⟨Or.inr rfl, Or.inr rfl, Or.inr rfl, Or.inr rfl, Or.inr rfl, Or.inr rfl, Or.inr rfl, trivial⟩ k
set_option maxHeartbeats 4000000 in
set_option maxRecDepth 100000 in
theorem B_244_98 {x1 : Int32} {x2 : Int32} {x3 : Int32} {x4 : Int32} {x5 : Int32} {x6 : Int32} {h : XH} {Q : Value → XH → Prop} (hs : Sh h) (k : ((x4 ≤ x6) → Ev 244 71 [.ref 69, .int x1, .int x2, .int x3, .int x4, .int (x5 + 1), .null] [] h Q) ∧ (¬ (x4 ≤ x6) → InB x3 12 ∧ (ClI 170 [.ref 69, .int x1, .int ((xI h 86 (tn x3)) + x6)] h (fun v2 h1 => Sh h1 ∧ (((v2 = 1) → Ev 244 134 [.ref 69, .int x1, .int x2, .int x3, .int x4, .int x5, .int x6] [] h1 Q) ∧ (¬ (v2 = 1) → InB x6 6 ∧ (InB x6 6 ∧ (Ev 244 134 [.ref 69, .int x1, .int x2, .int x3, .int x4, .int x5, .int x6] [] (xsI h1 116 (tn x6) ((xI h1 116 (tn x6)) + 1)) Q)))))))) : Ev 244 98 [.ref 69, .int x1, .int x2, .int x3, .int x4, .int x5, .int x6] [] h Q := by
  refine e_il o_244_98 rfl ?_
  refine e_il o_244_100 rfl ?_
  refine e_if_3 o_244_102 (fun z => ?_) (fun z => ?_)
  · have k := k.1 z
    refine e_inc (ls' := [.ref 69, .int x1, .int x2, .int x3, .int x4, .int (x5 + 1), .int x6]) o_244_140 rfl rfl rfl ?_
    refine e_go o_244_143 ?_
    exact Ev.less (ls := [.ref 69, .int x1, .int x2, .int x3, .int x4, .int (x5 + 1), .null]) ⟨Or.inr rfl, Or.inr rfl, Or.inr rfl, Or.inr rfl, Or.inr rfl, Or.inr rfl, Or.inl rfl, trivial⟩ k
  · have k := k.2 z
    refine e_al o_244_105 rfl ?_
    refine e_il o_244_106 rfl ?_
    refine e_al o_244_107 rfl ?_
    refine e_gR (r := 86) o_244_108 (sk_69 (h := h) hs) (sr_69_30 (h := h) hs) (by decide) ?_
    refine e_il o_244_111 rfl ?_
    obtain ⟨q, k⟩ := k
    refine e_ia (n := 12) o_244_112 (sk_86 (h := h) hs) (sn_86 (h := h) hs) q ?_
    refine e_il o_244_113 rfl ?_
    refine e_bin o_244_115 rfl ?_
    refine e_clI (as := [.ref 69, .int x1, .int ((xI h 86 (tn x3)) + x6)]) (rest := []) o_244_116 rfl rfl (x_okd cl_244_170 ml_170 (Nat.le_of_ble_eq_true rfl) (Nat.le_of_ble_eq_true rfl)) (x_rc0 (ci := 9) (sk_69 (h := h) hs) mo_170) k ?_
    rintro v2 h1 ⟨sh1, k⟩
    refine e_c 1 o_244_119 rfl ?_
    refine e_if_0 o_244_120 (fun z => ?_) (fun z => ?_)
    · have k := k.1 z
      exact Ev.less (ls := [.ref 69, .int x1, .int x2, .int x3, .int x4, .int x5, .int x6]) ⟨Or.inr rfl, Or.inr rfl, Or.inr rfl, Or.inr rfl, Or.inr rfl, Or.inr rfl, Or.inr rfl, trivial⟩ k
    · have k := k.2 z
      refine e_al o_244_123 rfl ?_
      refine e_gR (r := 116) o_244_124 (sk_69 (h := h1) sh1) (sr_69_69 (h := h1) sh1) (by decide) ?_
      refine e_il o_244_127 rfl ?_
      refine e_dup2 o_244_129 ⟨rfl, rfl⟩ ?_
      obtain ⟨q, k⟩ := k
      refine e_ia (n := 6) o_244_130 (sk_116 (h := h1) sh1) (sn_116 (h := h1) sh1) q ?_
      refine e_c 1 o_244_131 rfl ?_
      refine e_bin o_244_132 rfl ?_
      obtain ⟨q, k⟩ := k
      refine e_ias (n := 6) o_244_133 (sk_116 (h := h1) sh1) (by decide) (sn_116 (h := h1) sh1) q ?_
      exact Ev.less (ls := [.ref 69, .int x1, .int x2, .int x3, .int x4, .int x5, .int x6]) ⟨Or.inr rfl, Or.inr rfl, Or.inr rfl, Or.inr rfl, Or.inr rfl, Or.inr rfl, Or.inr rfl, trivial⟩ k
set_option maxHeartbeats 4000000 in
set_option maxRecDepth 100000 in
theorem B_244_134 {x1 : Int32} {x2 : Int32} {x3 : Int32} {x4 : Int32} {x5 : Int32} {x6 : Int32} {h : XH} {Q : Value → XH → Prop} (hs : Sh h) (k : Ev 244 98 [.ref 69, .int x1, .int x2, .int x3, .int x4, .int x5, .int (x6 + 1)] [] h Q) : Ev 244 134 [.ref 69, .int x1, .int x2, .int x3, .int x4, .int x5, .int x6] [] h Q := by
  refine e_inc (ls' := [.ref 69, .int x1, .int x2, .int x3, .int x4, .int x5, .int (x6 + 1)]) o_244_134 rfl rfl rfl ?_
  refine e_go o_244_137 ?_
  exact Ev.less (ls := [.ref 69, .int x1, .int x2, .int x3, .int x4, .int x5, .int (x6 + 1)]) ⟨Or.inr rfl, Or.inr rfl, Or.inr rfl, Or.inr rfl, Or.inr rfl, Or.inr rfl, Or.inr rfl, trivial⟩ k
set_option maxHeartbeats 4000000 in
set_option maxRecDepth 100000 in
theorem B_244_152 {x2 : Int32} {x4 : Int32} {x5 : Int32} {x6 : Int32} {h : XH} {Q : Value → XH → Prop} (hs : Sh h) (k : ((x4 ≤ x6) → ((¬ x2 = 0) → InB x5 6 ∧ (Q (.int (xI h 116 (tn x5))) h)) ∧ (¬ (¬ x2 = 0) → Q (.int x5) h)) ∧ (¬ (x4 ≤ x6) → InB x6 6 ∧ (InB x5 6 ∧ ((((xI h 116 (tn x6)) ≤ (xI h 116 (tn x5))) → Ev 244 180 [.ref 69, .null, .int x2, .null, .int x4, .int x5, .int x6] [] h Q) ∧ (¬ ((xI h 116 (tn x6)) ≤ (xI h 116 (tn x5))) → Ev 244 180 [.ref 69, .null, .int x2, .null, .int x4, .int x6, .int x6] [] h Q))))) : Ev 244 152 [.ref 69, .null, .int x2, .null, .int x4, .int x5, .int x6] [] h Q := by
  refine e_il o_244_152 rfl ?_
  refine e_il o_244_154 rfl ?_
  refine e_if_3 o_244_156 (fun z => ?_) (fun z => ?_)
  · have k := k.1 z
    refine e_il o_244_186 rfl ?_
    refine e_i0_1 o_244_187 (fun z => ?_) (fun z => ?_)
    · have k := k.1 z
      refine e_al o_244_195 rfl ?_
      refine e_gR (r := 116) o_244_196 (sk_69 (h := h) hs) (sr_69_69 (h := h) hs) (by decide) ?_
      refine e_il o_244_199 rfl ?_
      obtain ⟨q, k⟩ := k
      refine e_ia (n := 6) o_244_201 (sk_116 (h := h) hs) (sn_116 (h := h) hs) q ?_
      exact e_retI o_244_202 k
    · have k := k.2 z
      refine e_il o_244_190 rfl ?_
      refine e_go o_244_192 ?_
      exact e_retI o_244_202 k
  · have k := k.2 z
    refine e_al o_244_159 rfl ?_
    refine e_gR (r := 116) o_244_160 (sk_69 (h := h) hs) (sr_69_69 (h := h) hs) (by decide) ?_
    refine e_il o_244_163 rfl ?_
    obtain ⟨q, k⟩ := k
    refine e_ia (n := 6) o_244_165 (sk_116 (h := h) hs) (sn_116 (h := h) hs) q ?_
    refine e_al o_244_166 rfl ?_
    refine e_gR (r := 116) o_244_167 (sk_69 (h := h) hs) (sr_69_69 (h := h) hs) (by decide) ?_
    refine e_il o_244_170 rfl ?_
    obtain ⟨q, k⟩ := k
    refine e_ia (n := 6) o_244_172 (sk_116 (h := h) hs) (sn_116 (h := h) hs) q ?_
    refine e_if_5 o_244_173 (fun z => ?_) (fun z => ?_)
    · have k := k.1 z
      exact Ev.less (ls := [.ref 69, .null, .int x2, .null, .int x4, .int x5, .int x6]) ⟨Or.inr rfl, Or.inl rfl, Or.inr rfl, Or.inl rfl, Or.inr rfl, Or.inr rfl, Or.inr rfl, trivial⟩ k
    · have k := k.2 z
      refine e_il o_244_176 rfl ?_
      refine e_is (ls' := [.ref 69, .null, .int x2, .null, .int x4, .int x6, .int x6]) o_244_178 (Nat.le_of_ble_eq_true rfl) rfl ?_
      exact Ev.less (ls := [.ref 69, .null, .int x2, .null, .int x4, .int x6, .int x6]) ⟨Or.inr rfl, Or.inl rfl, Or.inr rfl, Or.inl rfl, Or.inr rfl, Or.inr rfl, Or.inr rfl, trivial⟩ k
set_option maxHeartbeats 4000000 in
set_option maxRecDepth 100000 in
theorem B_244_180 {x2 : Int32} {x4 : Int32} {x5 : Int32} {x6 : Int32} {h : XH} {Q : Value → XH → Prop} (hs : Sh h) (k : Ev 244 152 [.ref 69, .null, .int x2, .null, .int x4, .int x5, .int (x6 + 1)] [] h Q) : Ev 244 180 [.ref 69, .null, .int x2, .null, .int x4, .int x5, .int x6] [] h Q := by
  refine e_inc (ls' := [.ref 69, .null, .int x2, .null, .int x4, .int x5, .int (x6 + 1)]) o_244_180 rfl rfl rfl ?_
  refine e_go o_244_183 ?_
  exact Ev.less (ls := [.ref 69, .null, .int x2, .null, .int x4, .int x5, .int (x6 + 1)]) ⟨Or.inr rfl, Or.inl rfl, Or.inr rfl, Or.inl rfl, Or.inr rfl, Or.inr rfl, Or.inr rfl, trivial⟩ k
set_option maxHeartbeats 4000000 in
set_option maxRecDepth 100000 in
theorem B_245_0 {x1 : Int32} {h : XH} {Q : Value → XH → Prop} (hs : Sh h) (k : ClI 207 [.int x1, .int 0, .int 2] h (fun v2 h1 => Sh h1 ∧ (((¬ v2 = 0) → ClV 239 [.ref 69] h1 (fun h3 => Sh h3 ∧ (Ev 245 19 [.ref 69, .int x1, .int 0, .int 1, .null] [] h3 Q))) ∧ (¬ (¬ v2 = 0) → Q (.int (-1)) h1)))) : Ev 245 0 (x_ini 245 [.ref 69, .int x1]) [] h Q := by
  rw [show x_ini 245 [.ref 69, .int x1] = [.ref 69, .int x1, .null, .null, .null] from x_inid ml_245 rfl]
  refine e_il o_245_0 rfl ?_
  refine e_c 0 o_245_1 rfl ?_
  refine e_c 2 o_245_2 rfl ?_
  refine e_clI (as := [.int x1, .int 0, .int 2]) (rest := []) o_245_3 rfl rfl (x_okd cl_245_207 ml_207 (Nat.le_of_ble_eq_true rfl) (Nat.le_of_ble_eq_true rfl)) (rfl) k ?_
  rintro v2 h1 ⟨sh1, k⟩
  refine e_i0_1 o_245_6 (fun z => ?_) (fun z => ?_)
  · have k := k.1 z
    refine e_al o_245_11 rfl ?_
    refine e_clV (as := [.ref 69]) (rest := []) o_245_12 rfl rfl (x_okd cl_245_239 ml_239 (Nat.le_of_ble_eq_true rfl) (Nat.le_of_ble_eq_true rfl)) (x_rc0 (ci := 9) (sk_69 (h := h1) sh1) mo_239) k ?_
    rintro h3 ⟨sh3, k⟩
    refine e_c 0 o_245_15 rfl ?_
    refine e_is (ls' := [.ref 69, .int x1, .int 0, .null, .null]) o_245_16 (Nat.le_of_ble_eq_true rfl) rfl ?_
    refine e_c 1 o_245_17 rfl ?_
    refine e_is (ls' := [.ref 69, .int x1, .int 0, .int 1, .null]) o_245_18 (Nat.le_of_ble_eq_true rfl) rfl ?_
    exact Ev.less (ls := [.ref 69, .int x1, .int 0, .int 1, .null]) ⟨Or.inr rfl, Or.inr rfl, Or.inr rfl, Or.inr rfl, Or.inl rfl, trivial⟩ k
  · have k := k.2 z
    refine e_c (-1) o_245_9 rfl ?_
    exact e_retI o_245_10 k
set_option maxHeartbeats 4000000 in
set_option maxRecDepth 100000 in
theorem B_245_19 {x1 : Int32} {x2 : Int32} {x3 : Int32} {h : XH} {Q : Value → XH → Prop} (hs : Sh h) (k : InB (xI h 69 18) 2 ∧ ((((xI h 83 (tn (xI h 69 18))) ≤ x3) → ((¬ x1 = 0) → ((¬ x1 = 1) → ClI 235 [.ref 69, .int x2] h (fun v2 h1 => Sh h1 ∧ (Q (.int v2) h1))) ∧ (¬ (¬ x1 = 1) → InB x2 2000 ∧ (ClI 246 [.ref 69, .int (xI h 115 (tn x2))] h (fun v4 h3 => Sh h3 ∧ (Q (.int v4) h3))))) ∧ (¬ (¬ x1 = 0) → Q (.int x2) h)) ∧ (¬ ((xI h 83 (tn (xI h 69 18))) ≤ x3) → InB x3 2000 ∧ (ClI 246 [.ref 69, .int (xI h 115 (tn x3))] h (fun v6 h5 => Sh h5 ∧ (InB x2 2000 ∧ (ClI 246 [.ref 69, .int (xI h5 115 (tn x2))] h5 (fun v8 h7 => Sh h7 ∧ (((0 < (v6 - v8)) → Ev 245 19 [.ref 69, .int x1, .int x3, .int (x3 + 1), .null] [] h7 Q) ∧ (¬ (0 < (v6 - v8)) → ((¬ (v6 - v8) = 0) → Ev 245 19 [.ref 69, .int x1, .int x2, .int (x3 + 1), .null] [] h7 Q) ∧ (¬ (¬ (v6 - v8) = 0) → ClI 235 [.ref 69, .int x3] h7 (fun v10 h9 => Sh h9 ∧ (ClI 235 [.ref 69, .int x2] h9 (fun v12 h11 => Sh h11 ∧ (((v12 ≤ v10) → Ev 245 19 [.ref 69, .int x1, .int x2, .int (x3 + 1), .null] [] h11 Q) ∧ (¬ (v12 ≤ v10) → Ev 245 19 [.ref 69, .int x1, .int x3, .int (x3 + 1), .null] [] h11 Q)))))))))))))))) : Ev 245 19 [.ref 69, .int x1, .int x2, .int x3, .null] [] h Q := by
  refine e_il o_245_19 rfl ?_
  refine e_al o_245_20 rfl ?_
  refine e_gR (r := 83) o_245_21 (sk_69 (h := h) hs) (sr_69_27 (h := h) hs) (by decide) ?_
  refine e_al o_245_24 rfl ?_
  refine e_gI o_245_25 (sk_69 (h := h) hs) ?_
  obtain ⟨q, k⟩ := k
  refine e_ia (n := 2) o_245_28 (sk_83 (h := h) hs) (sn_83 (h := h) hs) q ?_
  refine e_if_3 o_245_29 (fun z => ?_) (fun z => ?_)
  · have k := k.1 z
    refine e_il o_245_86 rfl ?_
    refine e_i0_1 o_245_87 (fun z => ?_) (fun z => ?_)
    · have k := k.1 z
      refine e_il o_245_94 rfl ?_
      refine e_c 1 o_245_95 rfl ?_
      refine e_if_1 o_245_96 (fun z => ?_) (fun z => ?_)
      · have k := k.1 z
        refine e_al o_245_112 rfl ?_
        refine e_il o_245_113 rfl ?_
        refine e_clI (as := [.ref 69, .int x2]) (rest := []) o_245_114 rfl rfl (x_okd cl_245_235 ml_235 (Nat.le_of_ble_eq_true rfl) (Nat.le_of_ble_eq_true rfl)) (x_rc0 (ci := 9) (sk_69 (h := h) hs) mo_235) k ?_
        rintro v2 h1 ⟨sh1, k⟩
        exact e_retI o_245_117 k
      · have k := k.2 z
        refine e_al o_245_99 rfl ?_
        refine e_al o_245_100 rfl ?_
        refine e_gR (r := 115) o_245_101 (sk_69 (h := h) hs) (sr_69_68 (h := h) hs) (by decide) ?_
        refine e_il o_245_104 rfl ?_
        obtain ⟨q, k⟩ := k
        refine e_ia (n := 2000) o_245_105 (sk_115 (h := h) hs) (sn_115 (h := h) hs) q ?_
        refine e_clI (as := [.ref 69, .int (xI h 115 (tn x2))]) (rest := []) o_245_106 rfl rfl (x_okd cl_245_246 ml_246 (Nat.le_of_ble_eq_true rfl) (Nat.le_of_ble_eq_true rfl)) (x_rc0 (ci := 9) (sk_69 (h := h) hs) mo_246) k ?_
        rintro v4 h3 ⟨sh3, k⟩
        refine e_go o_245_109 ?_
        exact e_retI o_245_117 k
    · have k := k.2 z
      refine e_il o_245_90 rfl ?_
      refine e_go o_245_91 ?_
      exact e_retI o_245_117 k
  · have k := k.2 z
    refine e_al o_245_32 rfl ?_
    refine e_al o_245_33 rfl ?_
    refine e_gR (r := 115) o_245_34 (sk_69 (h := h) hs) (sr_69_68 (h := h) hs) (by decide) ?_
    refine e_il o_245_37 rfl ?_
    obtain ⟨q, k⟩ := k
    refine e_ia (n := 2000) o_245_38 (sk_115 (h := h) hs) (sn_115 (h := h) hs) q ?_
    refine e_clI (as := [.ref 69, .int (xI h 115 (tn x3))]) (rest := []) o_245_39 rfl rfl (x_okd cl_245_246 ml_246 (Nat.le_of_ble_eq_true rfl) (Nat.le_of_ble_eq_true rfl)) (x_rc0 (ci := 9) (sk_69 (h := h) hs) mo_246) k ?_
    rintro v6 h5 ⟨sh5, k⟩
    refine e_al o_245_42 rfl ?_
    refine e_al o_245_43 rfl ?_
    refine e_gR (r := 115) o_245_44 (sk_69 (h := h5) sh5) (sr_69_68 (h := h5) sh5) (by decide) ?_
    refine e_il o_245_47 rfl ?_
    obtain ⟨q, k⟩ := k
    refine e_ia (n := 2000) o_245_48 (sk_115 (h := h5) sh5) (sn_115 (h := h5) sh5) q ?_
    refine e_clI (as := [.ref 69, .int (xI h5 115 (tn x2))]) (rest := [.int v6]) o_245_49 rfl rfl (x_okd cl_245_246 ml_246 (Nat.le_of_ble_eq_true rfl) (Nat.le_of_ble_eq_true rfl)) (x_rc0 (ci := 9) (sk_69 (h := h5) sh5) mo_246) k ?_
    rintro v8 h7 ⟨sh7, k⟩
    refine e_bin o_245_52 rfl ?_
    refine e_is (ls' := [.ref 69, .int x1, .int x2, .int x3, .int (v6 - v8)]) o_245_53 (Nat.le_of_ble_eq_true rfl) rfl ?_
    refine e_il o_245_55 rfl ?_
    refine e_i0_4 o_245_57 (fun z => ?_) (fun z => ?_)
    · have k := k.1 z
      refine e_il o_245_78 rfl ?_
      refine e_is (ls' := [.ref 69, .int x1, .int x3, .int x3, .int (v6 - v8)]) o_245_79 (Nat.le_of_ble_eq_true rfl) rfl ?_
      refine e_inc (ls' := [.ref 69, .int x1, .int x3, .int (x3 + 1), .int (v6 - v8)]) o_245_80 rfl rfl rfl ?_
      refine e_go o_245_83 ?_
      exact Ev.less (ls := [.ref 69, .int x1, .int x3, .int (x3 + 1), .null]) ⟨Or.inr rfl, Or.inr rfl, Or.inr rfl, Or.inr rfl, Or.inl rfl, trivial⟩ k
    · have k := k.2 z
      refine e_il o_245_60 rfl ?_
      refine e_i0_1 o_245_62 (fun z => ?_) (fun z => ?_)
      · have k := k.1 z
        refine e_inc (ls' := [.ref 69, .int x1, .int x2, .int (x3 + 1), .int (v6 - v8)]) o_245_80 rfl rfl rfl ?_
        refine e_go o_245_83 ?_
        exact Ev.less (ls := [.ref 69, .int x1, .int x2, .int (x3 + 1), .null]) ⟨Or.inr rfl, Or.inr rfl, Or.inr rfl, Or.inr rfl, Or.inl rfl, trivial⟩ k
      · have k := k.2 z
        refine e_al o_245_65 rfl ?_
        refine e_il o_245_66 rfl ?_
        refine e_clI (as := [.ref 69, .int x3]) (rest := []) o_245_67 rfl rfl (x_okd cl_245_235 ml_235 (Nat.le_of_ble_eq_true rfl) (Nat.le_of_ble_eq_true rfl)) (x_rc0 (ci := 9) (sk_69 (h := h7) sh7) mo_235) k ?_
        rintro v10 h9 ⟨sh9, k⟩
        refine e_al o_245_70 rfl ?_
        refine e_il o_245_71 rfl ?_
        refine e_clI (as := [.ref 69, .int x2]) (rest := [.int v10]) o_245_72 rfl rfl (x_okd cl_245_235 ml_235 (Nat.le_of_ble_eq_true rfl) (Nat.le_of_ble_eq_true rfl)) (x_rc0 (ci := 9) (sk_69 (h := h9) sh9) mo_235) k ?_
        rintro v12 h11 ⟨sh11, k⟩
        refine e_if_3 o_245_75 (fun z => ?_) (fun z => ?_)
        · have k := k.1 z
          refine e_inc (ls' := [.ref 69, .int x1, .int x2, .int (x3 + 1), .int (v6 - v8)]) o_245_80 rfl rfl rfl ?_
          refine e_go o_245_83 ?_
          exact Ev.less (ls := [.ref 69, .int x1, .int x2, .int (x3 + 1), .null]) ⟨Or.inr rfl, Or.inr rfl, Or.inr rfl, Or.inr rfl, Or.inl rfl, trivial⟩ k
        · have k := k.2 z
          refine e_il o_245_78 rfl ?_
          refine e_is (ls' := [.ref 69, .int x1, .int x3, .int x3, .int (v6 - v8)]) o_245_79 (Nat.le_of_ble_eq_true rfl) rfl ?_
          refine e_inc (ls' := [.ref 69, .int x1, .int x3, .int (x3 + 1), .int (v6 - v8)]) o_245_80 rfl rfl rfl ?_
          refine e_go o_245_83 ?_
          exact Ev.less (ls := [.ref 69, .int x1, .int x3, .int (x3 + 1), .null]) ⟨Or.inr rfl, Or.inr rfl, Or.inr rfl, Or.inr rfl, Or.inl rfl, trivial⟩ k
set_option maxHeartbeats 4000000 in
set_option maxRecDepth 100000 in
theorem B_246_0 {x1 : Int32} {h : XH} {Q : Value → XH → Prop} (hs : Sh h) (k : Ev 246 4 [.ref 69, .int x1, .int 0, .int 0] [] h Q) : Ev 246 0 (x_ini 246 [.ref 69, .int x1]) [] h Q := by
  rw [show x_ini 246 [.ref 69, .int x1] = [.ref 69, .int x1, .null, .null] from x_inid ml_246 rfl]
  refine e_c 0 o_246_0 rfl ?_
  refine e_is (ls' := [.ref 69, .int x1, .int 0, .null]) o_246_1 (Nat.le_of_ble_eq_true rfl) rfl ?_
  refine e_c 0 o_246_2 rfl ?_
  refine e_is (ls' := [.ref 69, .int x1, .int 0, .int 0]) o_246_3 (Nat.le_of_ble_eq_true rfl) rfl ?_
  exact Ev.less (ls := [.ref 69, .int x1, .int 0, .int 0]) ⟨Or.inr rfl, Or.inr rfl, Or.inr rfl, Or.inr rfl, trivial⟩ k
set_option maxHeartbeats 4000000 in
set_option maxRecDepth 100000 in
theorem B_246_4 {x1 : Int32} {x2 : Int32} {x3 : Int32} {h : XH} {Q : Value → XH → Prop} (hs : Sh h) (k : InB (xI h 69 18) 2 ∧ ((((xI h 84 (tn (xI h 69 18))) ≤ x3) → Q (.int x2) h) ∧ (¬ ((xI h 84 (tn (xI h 69 18))) ≤ x3) → ClI 173 [.int x1, .int x3] h (fun v2 h1 => Sh h1 ∧ (((¬ v2 = 4) → Ev 246 4 [.ref 69, .int x1, .int x2, .int (x3 + 1)] [] h1 Q) ∧ (¬ (¬ v2 = 4) → Ev 246 4 [.ref 69, .int x1, .int (x2 + 1), .int (x3 + 1)] [] h1 Q)))))) : Ev 246 4 [.ref 69, .int x1, .int x2, .int x3] [] h Q := by
  refine e_il o_246_4 rfl ?_
  refine e_al o_246_5 rfl ?_
  refine e_gR (r := 84) o_246_6 (sk_69 (h := h) hs) (sr_69_28 (h := h) hs) (by decide) ?_
  refine e_al o_246_9 rfl ?_
  refine e_gI o_246_10 (sk_69 (h := h) hs) ?_
  obtain ⟨q, k⟩ := k
  refine e_ia (n := 2) o_246_13 (sk_84 (h := h) hs) (sn_84 (h := h) hs) q ?_
  refine e_if_3 o_246_14 (fun z => ?_) (fun z => ?_)
  · have k := k.1 z
    refine e_il o_246_35 rfl ?_
    exact e_retI o_246_36 k
  · have k := k.2 z
    refine e_il o_246_17 rfl ?_
    refine e_il o_246_18 rfl ?_
    refine e_clI (as := [.int x1, .int x3]) (rest := []) o_246_19 rfl rfl (x_okd cl_246_173 ml_173 (Nat.le_of_ble_eq_true rfl) (Nat.le_of_ble_eq_true rfl)) (rfl) k ?_
    rintro v2 h1 ⟨sh1, k⟩
    refine e_c 4 o_246_22 rfl ?_
    refine e_if_1 o_246_23 (fun z => ?_) (fun z => ?_)
    · have k := k.1 z
      refine e_inc (ls' := [.ref 69, .int x1, .int x2, .int (x3 + 1)]) o_246_29 rfl rfl rfl ?_
      refine e_go o_246_32 ?_
      exact Ev.less (ls := [.ref 69, .int x1, .int x2, .int (x3 + 1)]) ⟨Or.inr rfl, Or.inr rfl, Or.inr rfl, Or.inr rfl, trivial⟩ k
    · have k := k.2 z
      refine e_inc (ls' := [.ref 69, .int x1, .int (x2 + 1), .int x3]) o_246_26 rfl rfl rfl ?_
      refine e_inc (ls' := [.ref 69, .int x1, .int (x2 + 1), .int (x3 + 1)]) o_246_29 rfl rfl rfl ?_
      refine e_go o_246_32 ?_
      exact Ev.less (ls := [.ref 69, .int x1, .int (x2 + 1), .int (x3 + 1)]) ⟨Or.inr rfl, Or.inr rfl, Or.inr rfl, Or.inr rfl, trivial⟩ k
set_option maxHeartbeats 4000000 in
set_option maxRecDepth 100000 in
theorem B_247_0 {x1 : Int32} {x2 : Int32} {x3 : Int32} {h : XH} {Q : Value → XH → Prop} (hs : Sh h) (k : ClI 209 [.ref 69, .int x1] h (fun v2 h1 => Sh h1 ∧ (((v2 = 0) → Q (.int (-1)) h1) ∧ (¬ (v2 = 0) → ClI 209 [.ref 69, .int x2] h1 (fun v4 h3 => Sh h3 ∧ (((v4 = 0) → Q (.int (-1)) h3) ∧ (¬ (v4 = 0) → ((x1 = x2) → Q (.int (-1)) h3) ∧ (¬ (x1 = x2) → (((-1) ≤ x3) → ClV 239 [.ref 69] h3 (fun h5 => Sh h5 ∧ (Ev 247 38 [.ref 69, .int x1, .int x2, .int x3, .int 0, .int 0] [] h5 Q))) ∧ (¬ ((-1) ≤ x3) → Q (.int (-1)) h3))))))))) : Ev 247 0 (x_ini 247 [.ref 69, .int x1, .int x2, .int x3]) [] h Q := by
  rw [show x_ini 247 [.ref 69, .int x1, .int x2, .int x3] = [.ref 69, .int x1, .int x2, .int x3, .null, .null] from x_inid ml_247 rfl]
  refine e_al o_247_0 rfl ?_
  refine e_il o_247_1 rfl ?_
  refine e_clI (as := [.ref 69, .int x1]) (rest := []) o_247_2 rfl rfl (x_okd cl_247_209 ml_209 (Nat.le_of_ble_eq_true rfl) (Nat.le_of_ble_eq_true rfl)) (x_rc0 (ci := 9) (sk_69 (h := h) hs) mo_209) k ?_
  rintro v2 h1 ⟨sh1, k⟩
  refine e_i0_0 o_247_5 (fun z => ?_) (fun z => ?_)
  · have k := k.1 z
    refine e_c (-1) o_247_26 rfl ?_
    exact e_retI o_247_27 k
  · have k := k.2 z
    refine e_al o_247_8 rfl ?_
    refine e_il o_247_9 rfl ?_
    refine e_clI (as := [.ref 69, .int x2]) (rest := []) o_247_10 rfl rfl (x_okd cl_247_209 ml_209 (Nat.le_of_ble_eq_true rfl) (Nat.le_of_ble_eq_true rfl)) (x_rc0 (ci := 9) (sk_69 (h := h1) sh1) mo_209) k ?_
    rintro v4 h3 ⟨sh3, k⟩
    refine e_i0_0 o_247_13 (fun z => ?_) (fun z => ?_)
    · have k := k.1 z
      refine e_c (-1) o_247_26 rfl ?_
      exact e_retI o_247_27 k
    · have k := k.2 z
      refine e_il o_247_16 rfl ?_
      refine e_il o_247_17 rfl ?_
      refine e_if_0 o_247_18 (fun z => ?_) (fun z => ?_)
      · have k := k.1 z
        refine e_c (-1) o_247_26 rfl ?_
        exact e_retI o_247_27 k
      · have k := k.2 z
        refine e_il o_247_21 rfl ?_
        refine e_c (-1) o_247_22 rfl ?_
        refine e_if_3 o_247_23 (fun z => ?_) (fun z => ?_)
        · have k := k.1 z
          refine e_al o_247_28 rfl ?_
          refine e_clV (as := [.ref 69]) (rest := []) o_247_29 rfl rfl (x_okd cl_247_239 ml_239 (Nat.le_of_ble_eq_true rfl) (Nat.le_of_ble_eq_true rfl)) (x_rc0 (ci := 9) (sk_69 (h := h3) sh3) mo_239) k ?_
          rintro h5 ⟨sh5, k⟩
          refine e_c 0 o_247_32 rfl ?_
          refine e_is (ls' := [.ref 69, .int x1, .int x2, .int x3, .int 0, .null]) o_247_33 (Nat.le_of_ble_eq_true rfl) rfl ?_
          refine e_c 0 o_247_35 rfl ?_
          refine e_is (ls' := [.ref 69, .int x1, .int x2, .int x3, .int 0, .int 0]) o_247_36 (Nat.le_of_ble_eq_true rfl) rfl ?_
          exact Ev.less (ls := [.ref 69, .int x1, .int x2, .int x3, .int 0, .int 0]) ⟨Or.inr rfl, Or.inr rfl, Or.inr rfl, Or.inr rfl, Or.inr rfl, Or.inr rfl, trivial⟩ k
        · have k := k.2 z
          refine e_c (-1) o_247_26 rfl ?_
          exact e_retI o_247_27 k
set_option maxHeartbeats 4000000 in
set_option maxRecDepth 100000 in
theorem B_247_38 {x1 : Int32} {x2 : Int32} {x3 : Int32} {x4 : Int32} {x5 : Int32} {h : XH} {Q : Value → XH → Prop} (hs : Sh h) (k : InB (xI h 69 18) 2 ∧ ((((xI h 83 (tn (xI h 69 18))) ≤ x5) → ((¬ x3 = (-1)) → Q (.int (-1)) h) ∧ (¬ (¬ x3 = (-1)) → Q (.int x4) h)) ∧ (¬ ((xI h 83 (tn (xI h 69 18))) ≤ x5) → ClI 248 [.ref 69, .int x5, .int x1, .int x2] h (fun v2 h1 => Sh h1 ∧ (((¬ v2 = 0) → ((¬ x4 = x3) → Ev 247 38 [.ref 69, .int x1, .int x2, .int x3, .int (x4 + 1), .int (x5 + 1)] [] h1 Q) ∧ (¬ (¬ x4 = x3) → Q (.int x5) h1)) ∧ (¬ (¬ v2 = 0) → Ev 247 38 [.ref 69, .int x1, .int x2, .int x3, .int x4, .int (x5 + 1)] [] h1 Q)))))) : Ev 247 38 [.ref 69, .int x1, .int x2, .int x3, .int x4, .int x5] [] h Q := by
  refine e_il o_247_38 rfl ?_
  refine e_al o_247_40 rfl ?_
  refine e_gR (r := 83) o_247_41 (sk_69 (h := h) hs) (sr_69_27 (h := h) hs) (by decide) ?_
  refine e_al o_247_44 rfl ?_
  refine e_gI o_247_45 (sk_69 (h := h) hs) ?_
  obtain ⟨q, k⟩ := k
  refine e_ia (n := 2) o_247_48 (sk_83 (h := h) hs) (sn_83 (h := h) hs) q ?_
  refine e_if_3 o_247_49 (fun z => ?_) (fun z => ?_)
  · have k := k.1 z
    refine e_il o_247_84 rfl ?_
    refine e_c (-1) o_247_85 rfl ?_
    refine e_if_1 o_247_86 (fun z => ?_) (fun z => ?_)
    · have k := k.1 z
      refine e_c (-1) o_247_94 rfl ?_
      exact e_retI o_247_95 k
    · have k := k.2 z
      refine e_il o_247_89 rfl ?_
      refine e_go o_247_91 ?_
      exact e_retI o_247_95 k
  · have k := k.2 z
    refine e_al o_247_52 rfl ?_
    refine e_il o_247_53 rfl ?_
    refine e_il o_247_55 rfl ?_
    refine e_il o_247_56 rfl ?_
    refine e_clI (as := [.ref 69, .int x5, .int x1, .int x2]) (rest := []) o_247_57 rfl rfl (x_okd cl_247_248 ml_248 (Nat.le_of_ble_eq_true rfl) (Nat.le_of_ble_eq_true rfl)) (x_rc0 (ci := 9) (sk_69 (h := h) hs) mo_248) k ?_
    rintro v2 h1 ⟨sh1, k⟩
    refine e_i0_1 o_247_60 (fun z => ?_) (fun z => ?_)
    · have k := k.1 z
      refine e_il o_247_66 rfl ?_
      refine e_il o_247_68 rfl ?_
      refine e_if_1 o_247_69 (fun z => ?_) (fun z => ?_)
      · have k := k.1 z
        refine e_inc (ls' := [.ref 69, .int x1, .int x2, .int x3, .int (x4 + 1), .int x5]) o_247_75 rfl rfl rfl ?_
        refine e_inc (ls' := [.ref 69, .int x1, .int x2, .int x3, .int (x4 + 1), .int (x5 + 1)]) o_247_78 rfl rfl rfl ?_
        refine e_go o_247_81 ?_
        exact Ev.less (ls := [.ref 69, .int x1, .int x2, .int x3, .int (x4 + 1), .int (x5 + 1)]) ⟨Or.inr rfl, Or.inr rfl, Or.inr rfl, Or.inr rfl, Or.inr rfl, Or.inr rfl, trivial⟩ k
      · have k := k.2 z
        refine e_il o_247_72 rfl ?_
        exact e_retI o_247_74 k
    · have k := k.2 z
      refine e_go o_247_63 ?_
      refine e_inc (ls' := [.ref 69, .int x1, .int x2, .int x3, .int x4, .int (x5 + 1)]) o_247_78 rfl rfl rfl ?_
      refine e_go o_247_81 ?_
      exact Ev.less (ls := [.ref 69, .int x1, .int x2, .int x3, .int x4, .int (x5 + 1)]) ⟨Or.inr rfl, Or.inr rfl, Or.inr rfl, Or.inr rfl, Or.inr rfl, Or.inr rfl, trivial⟩ k
set_option maxHeartbeats 4000000 in
set_option maxRecDepth 100000 in
theorem B_248_0 {x1 : Int32} {x2 : Int32} {x3 : Int32} {h : XH} {Q : Value → XH → Prop} (hs : Sh h) (k : Ev 248 3 [.ref 69, .int x1, .int x2, .int x3, .int 0] [] h Q) : Ev 248 0 (x_ini 248 [.ref 69, .int x1, .int x2, .int x3]) [] h Q := by
  rw [show x_ini 248 [.ref 69, .int x1, .int x2, .int x3] = [.ref 69, .int x1, .int x2, .int x3, .null] from x_inid ml_248 rfl]
  refine e_c 0 o_248_0 rfl ?_
  refine e_is (ls' := [.ref 69, .int x1, .int x2, .int x3, .int 0]) o_248_1 (Nat.le_of_ble_eq_true rfl) rfl ?_
  exact Ev.less (ls := [.ref 69, .int x1, .int x2, .int x3, .int 0]) ⟨Or.inr rfl, Or.inr rfl, Or.inr rfl, Or.inr rfl, Or.inr rfl, trivial⟩ k
set_option maxHeartbeats 4000000 in
set_option maxRecDepth 100000 in
theorem B_248_3 {x1 : Int32} {x2 : Int32} {x3 : Int32} {x4 : Int32} {h : XH} {Q : Value → XH → Prop} (hs : Sh h) (k : InB (xI h 69 18) 2 ∧ ((((xI h 79 (tn (xI h 69 18))) ≤ x4) → Ev 248 63 [.ref 69, .int x1, .int x2, .int x3, .int 0] [] h Q) ∧ (¬ ((xI h 79 (tn (xI h 69 18))) ≤ x4) → InB ((8 * (xI h 69 18)) + x4) 16 ∧ (((¬ (xI h 82 (tn ((8 * (xI h 69 18)) + x4))) = 0) → Ev 248 54 [.ref 69, .int x1, .int x2, .int x3, .int x4] [] h Q) ∧ (¬ (¬ (xI h 82 (tn ((8 * (xI h 69 18)) + x4))) = 0) → ClI 236 [.ref 69, .int x1, .int x4] h (fun v2 h1 => Sh h1 ∧ (InB x4 20 ∧ (((v2 = (xI h1 108 (tn x4))) → Ev 248 54 [.ref 69, .int x1, .int x2, .int x3, .int x4] [] h1 Q) ∧ (¬ (v2 = (xI h1 108 (tn x4))) → Q (.int 0) h1))))))))) : Ev 248 3 [.ref 69, .int x1, .int x2, .int x3, .int x4] [] h Q := by
  refine e_il o_248_3 rfl ?_
  refine e_al o_248_5 rfl ?_
  refine e_gR (r := 79) o_248_6 (sk_69 (h := h) hs) (sr_69_23 (h := h) hs) (by decide) ?_
  refine e_al o_248_9 rfl ?_
  refine e_gI o_248_10 (sk_69 (h := h) hs) ?_
  obtain ⟨q, k⟩ := k
  refine e_ia (n := 2) o_248_13 (sk_79 (h := h) hs) (sn_79 (h := h) hs) q ?_
  refine e_if_3 o_248_14 (fun z => ?_) (fun z => ?_)
  · have k := k.1 z
    refine e_c 0 o_248_60 rfl ?_
    refine e_is (ls' := [.ref 69, .int x1, .int x2, .int x3, .int 0]) o_248_61 (Nat.le_of_ble_eq_true rfl) rfl ?_
    exact Ev.less (ls := [.ref 69, .int x1, .int x2, .int x3, .int 0]) ⟨Or.inr rfl, Or.inr rfl, Or.inr rfl, Or.inr rfl, Or.inr rfl, trivial⟩ k
  · have k := k.2 z
    refine e_al o_248_17 rfl ?_
    refine e_gR (r := 82) o_248_18 (sk_69 (h := h) hs) (sr_69_26 (h := h) hs) (by decide) ?_
    refine e_c 8 o_248_21 rfl ?_
    refine e_al o_248_23 rfl ?_
    refine e_gI o_248_24 (sk_69 (h := h) hs) ?_
    refine e_bin o_248_27 rfl ?_
    refine e_il o_248_28 rfl ?_
    refine e_bin o_248_30 rfl ?_
    obtain ⟨q, k⟩ := k
    refine e_ia (n := 16) o_248_31 (sk_82 (h := h) hs) (sn_82 (h := h) hs) q ?_
    refine e_i0_1 o_248_32 (fun z => ?_) (fun z => ?_)
    · have k := k.1 z
      exact Ev.less (ls := [.ref 69, .int x1, .int x2, .int x3, .int x4]) ⟨Or.inr rfl, Or.inr rfl, Or.inr rfl, Or.inr rfl, Or.inr rfl, trivial⟩ k
    · have k := k.2 z
      refine e_al o_248_35 rfl ?_
      refine e_il o_248_36 rfl ?_
      refine e_il o_248_37 rfl ?_
      refine e_clI (as := [.ref 69, .int x1, .int x4]) (rest := []) o_248_39 rfl rfl (x_okd cl_248_236 ml_236 (Nat.le_of_ble_eq_true rfl) (Nat.le_of_ble_eq_true rfl)) (x_rc0 (ci := 9) (sk_69 (h := h) hs) mo_236) k ?_
      rintro v2 h1 ⟨sh1, k⟩
      refine e_al o_248_42 rfl ?_
      refine e_gR (r := 108) o_248_43 (sk_69 (h := h1) sh1) (sr_69_59 (h := h1) sh1) (by decide) ?_
      refine e_il o_248_46 rfl ?_
      obtain ⟨q, k⟩ := k
      refine e_ia (n := 20) o_248_48 (sk_108 (h := h1) sh1) (sn_108 (h := h1) sh1) q ?_
      refine e_if_0 o_248_49 (fun z => ?_) (fun z => ?_)
      · have k := k.1 z
        exact Ev.less (ls := [.ref 69, .int x1, .int x2, .int x3, .int x4]) ⟨Or.inr rfl, Or.inr rfl, Or.inr rfl, Or.inr rfl, Or.inr rfl, trivial⟩ k
      · have k := k.2 z
        refine e_c 0 o_248_52 rfl ?_
        exact e_retZ o_248_53 (by decide) k
set_option maxHeartbeats 4000000 in
set_option maxRecDepth 100000 in
theorem B_248_54 {x1 : Int32} {x2 : Int32} {x3 : Int32} {x4 : Int32} {h : XH} {Q : Value → XH → Prop} (hs : Sh h) (k : Ev 248 3 [.ref 69, .int x1, .int x2, .int x3, .int (x4 + 1)] [] h Q) : Ev 248 54 [.ref 69, .int x1, .int x2, .int x3, .int x4] [] h Q := by
  refine e_inc (ls' := [.ref 69, .int x1, .int x2, .int x3, .int (x4 + 1)]) o_248_54 rfl rfl rfl ?_
  refine e_go o_248_57 ?_
  exact Ev.less (ls := [.ref 69, .int x1, .int x2, .int x3, .int (x4 + 1)]) ⟨Or.inr rfl, Or.inr rfl, Or.inr rfl, Or.inr rfl, Or.inr rfl, trivial⟩ k
set_option maxHeartbeats 4000000 in
set_option maxRecDepth 100000 in
theorem B_248_63 {x1 : Int32} {x2 : Int32} {x3 : Int32} {x4 : Int32} {h : XH} {Q : Value → XH → Prop} (hs : Sh h) (k : InB (xI h 69 18) 2 ∧ ((((xI h 83 (tn (xI h 69 18))) ≤ x4) → Q (.int 1) h) ∧ (¬ ((xI h 83 (tn (xI h 69 18))) ≤ x4) → InB x4 2000 ∧ (ClI 173 [.int (xI h 115 (tn x4)), .int x3] h (fun v2 h1 => Sh h1 ∧ (InB x1 2000 ∧ (ClI 173 [.int (xI h1 115 (tn x1)), .int x3] h1 (fun v4 h3 => Sh h3 ∧ (((v4 ≤ v2) → Ev 248 114 [.ref 69, .int x1, .int x2, .int x3, .int x4] [] h3 Q) ∧ (¬ (v4 ≤ v2) → ClI 249 [.ref 69, .int x1, .int x4, .int 1] h3 (fun v6 h5 => Sh h5 ∧ (((v6 = 0) → Ev 248 114 [.ref 69, .int x1, .int x2, .int x3, .int x4] [] h5 Q) ∧ (¬ (v6 = 0) → Q (.int 0) h5))))))))))))) : Ev 248 63 [.ref 69, .int x1, .int x2, .int x3, .int x4] [] h Q := by
  refine e_il o_248_63 rfl ?_
  refine e_al o_248_65 rfl ?_
  refine e_gR (r := 83) o_248_66 (sk_69 (h := h) hs) (sr_69_27 (h := h) hs) (by decide) ?_
  refine e_al o_248_69 rfl ?_
  refine e_gI o_248_70 (sk_69 (h := h) hs) ?_
  obtain ⟨q, k⟩ := k
  refine e_ia (n := 2) o_248_73 (sk_83 (h := h) hs) (sn_83 (h := h) hs) q ?_
  refine e_if_3 o_248_74 (fun z => ?_) (fun z => ?_)
  · have k := k.1 z
    refine e_c 1 o_248_157 rfl ?_
    exact e_retZ o_248_158 (by decide) k
  · have k := k.2 z
    refine e_al o_248_77 rfl ?_
    refine e_gR (r := 115) o_248_78 (sk_69 (h := h) hs) (sr_69_68 (h := h) hs) (by decide) ?_
    refine e_il o_248_81 rfl ?_
    obtain ⟨q, k⟩ := k
    refine e_ia (n := 2000) o_248_83 (sk_115 (h := h) hs) (sn_115 (h := h) hs) q ?_
    refine e_il o_248_84 rfl ?_
    refine e_clI (as := [.int (xI h 115 (tn x4)), .int x3]) (rest := []) o_248_85 rfl rfl (x_okd cl_248_173 ml_173 (Nat.le_of_ble_eq_true rfl) (Nat.le_of_ble_eq_true rfl)) (rfl) k ?_
    rintro v2 h1 ⟨sh1, k⟩
    refine e_al o_248_88 rfl ?_
    refine e_gR (r := 115) o_248_89 (sk_69 (h := h1) sh1) (sr_69_68 (h := h1) sh1) (by decide) ?_
    refine e_il o_248_92 rfl ?_
    obtain ⟨q, k⟩ := k
    refine e_ia (n := 2000) o_248_93 (sk_115 (h := h1) sh1) (sn_115 (h := h1) sh1) q ?_
    refine e_il o_248_94 rfl ?_
    refine e_clI (as := [.int (xI h1 115 (tn x1)), .int x3]) (rest := [.int v2]) o_248_95 rfl rfl (x_okd cl_248_173 ml_173 (Nat.le_of_ble_eq_true rfl) (Nat.le_of_ble_eq_true rfl)) (rfl) k ?_
    rintro v4 h3 ⟨sh3, k⟩
    refine e_if_3 o_248_98 (fun z => ?_) (fun z => ?_)
    · have k := k.1 z
      exact Ev.less (ls := [.ref 69, .int x1, .int x2, .int x3, .int x4]) ⟨Or.inr rfl, Or.inr rfl, Or.inr rfl, Or.inr rfl, Or.inr rfl, trivial⟩ k
    · have k := k.2 z
      refine e_al o_248_101 rfl ?_
      refine e_il o_248_102 rfl ?_
      refine e_il o_248_103 rfl ?_
      refine e_c 1 o_248_105 rfl ?_
      refine e_clI (as := [.ref 69, .int x1, .int x4, .int 1]) (rest := []) o_248_106 rfl rfl (x_okd cl_248_249 ml_249 (Nat.le_of_ble_eq_true rfl) (Nat.le_of_ble_eq_true rfl)) (x_rc0 (ci := 9) (sk_69 (h := h3) sh3) mo_249) k ?_
      rintro v6 h5 ⟨sh5, k⟩
      refine e_i0_0 o_248_109 (fun z => ?_) (fun z => ?_)
      · have k := k.1 z
        exact Ev.less (ls := [.ref 69, .int x1, .int x2, .int x3, .int x4]) ⟨Or.inr rfl, Or.inr rfl, Or.inr rfl, Or.inr rfl, Or.inr rfl, trivial⟩ k
      · have k := k.2 z
        refine e_c 0 o_248_112 rfl ?_
        exact e_retZ o_248_113 (by decide) k
set_option maxHeartbeats 4000000 in
set_option maxRecDepth 100000 in
theorem B_248_114 {x1 : Int32} {x2 : Int32} {x3 : Int32} {x4 : Int32} {h : XH} {Q : Value → XH → Prop} (hs : Sh h) (k : InB x4 2000 ∧ (ClI 173 [.int (xI h 115 (tn x4)), .int x2] h (fun v2 h1 => Sh h1 ∧ (InB x1 2000 ∧ (ClI 173 [.int (xI h1 115 (tn x1)), .int x2] h1 (fun v4 h3 => Sh h3 ∧ (((v4 ≤ v2) → Ev 248 151 [.ref 69, .int x1, .int x2, .int x3, .int x4] [] h3 Q) ∧ (¬ (v4 ≤ v2) → ClI 249 [.ref 69, .int x1, .int x4, .int 2] h3 (fun v6 h5 => Sh h5 ∧ (((v6 = 0) → Ev 248 151 [.ref 69, .int x1, .int x2, .int x3, .int x4] [] h5 Q) ∧ (¬ (v6 = 0) → Q (.int 0) h5))))))))))) : Ev 248 114 [.ref 69, .int x1, .int x2, .int x3, .int x4] [] h Q := by
  refine e_al o_248_114 rfl ?_
  refine e_gR (r := 115) o_248_115 (sk_69 (h := h) hs) (sr_69_68 (h := h) hs) (by decide) ?_
  refine e_il o_248_118 rfl ?_
  obtain ⟨q, k⟩ := k
  refine e_ia (n := 2000) o_248_120 (sk_115 (h := h) hs) (sn_115 (h := h) hs) q ?_
  refine e_il o_248_121 rfl ?_
  refine e_clI (as := [.int (xI h 115 (tn x4)), .int x2]) (rest := []) o_248_122 rfl rfl (x_okd cl_248_173 ml_173 (Nat.le_of_ble_eq_true rfl) (Nat.le_of_ble_eq_true rfl)) (rfl) k ?_
  rintro v2 h1 ⟨sh1, k⟩
  refine e_al o_248_125 rfl ?_
  refine e_gR (r := 115) o_248_126 (sk_69 (h := h1) sh1) (sr_69_68 (h := h1) sh1) (by decide) ?_
  refine e_il o_248_129 rfl ?_
  obtain ⟨q, k⟩ := k
  refine e_ia (n := 2000) o_248_130 (sk_115 (h := h1) sh1) (sn_115 (h := h1) sh1) q ?_
  refine e_il o_248_131 rfl ?_
  refine e_clI (as := [.int (xI h1 115 (tn x1)), .int x2]) (rest := [.int v2]) o_248_132 rfl rfl (x_okd cl_248_173 ml_173 (Nat.le_of_ble_eq_true rfl) (Nat.le_of_ble_eq_true rfl)) (rfl) k ?_
  rintro v4 h3 ⟨sh3, k⟩
  refine e_if_3 o_248_135 (fun z => ?_) (fun z => ?_)
  · have k := k.1 z
    exact Ev.less (ls := [.ref 69, .int x1, .int x2, .int x3, .int x4]) ⟨Or.inr rfl, Or.inr rfl, Or.inr rfl, Or.inr rfl, Or.inr rfl, trivial⟩ k
  · have k := k.2 z
    refine e_al o_248_138 rfl ?_
    refine e_il o_248_139 rfl ?_
    refine e_il o_248_140 rfl ?_
    refine e_c 2 o_248_142 rfl ?_
    refine e_clI (as := [.ref 69, .int x1, .int x4, .int 2]) (rest := []) o_248_143 rfl rfl (x_okd cl_248_249 ml_249 (Nat.le_of_ble_eq_true rfl) (Nat.le_of_ble_eq_true rfl)) (x_rc0 (ci := 9) (sk_69 (h := h3) sh3) mo_249) k ?_
    rintro v6 h5 ⟨sh5, k⟩
    refine e_i0_0 o_248_146 (fun z => ?_) (fun z => ?_)
    · have k := k.1 z
      exact Ev.less (ls := [.ref 69, .int x1, .int x2, .int x3, .int x4]) ⟨Or.inr rfl, Or.inr rfl, Or.inr rfl, Or.inr rfl, Or.inr rfl, trivial⟩ k
    · have k := k.2 z
      refine e_c 0 o_248_149 rfl ?_
      exact e_retZ o_248_150 (by decide) k
set_option maxHeartbeats 4000000 in
set_option maxRecDepth 100000 in
theorem B_248_151 {x1 : Int32} {x2 : Int32} {x3 : Int32} {x4 : Int32} {h : XH} {Q : Value → XH → Prop} (hs : Sh h) (k : Ev 248 63 [.ref 69, .int x1, .int x2, .int x3, .int (x4 + 1)] [] h Q) : Ev 248 151 [.ref 69, .int x1, .int x2, .int x3, .int x4] [] h Q := by
  refine e_inc (ls' := [.ref 69, .int x1, .int x2, .int x3, .int (x4 + 1)]) o_248_151 rfl rfl rfl ?_
  refine e_go o_248_154 ?_
  exact Ev.less (ls := [.ref 69, .int x1, .int x2, .int x3, .int (x4 + 1)]) ⟨Or.inr rfl, Or.inr rfl, Or.inr rfl, Or.inr rfl, Or.inr rfl, trivial⟩ k
set_option maxHeartbeats 4000000 in
set_option maxRecDepth 100000 in
theorem B_249_0 {x1 : Int32} {x2 : Int32} {x3 : Int32} {h : XH} {Q : Value → XH → Prop} (hs : Sh h) (k : Ev 249 3 [.ref 69, .int x1, .int x2, .int x3, .int 0] [] h Q) : Ev 249 0 (x_ini 249 [.ref 69, .int x1, .int x2, .int x3]) [] h Q := by
  rw [show x_ini 249 [.ref 69, .int x1, .int x2, .int x3] = [.ref 69, .int x1, .int x2, .int x3, .null] from x_inid ml_249 rfl]
  refine e_c 0 o_249_0 rfl ?_
  refine e_is (ls' := [.ref 69, .int x1, .int x2, .int x3, .int 0]) o_249_1 (Nat.le_of_ble_eq_true rfl) rfl ?_
  exact Ev.less (ls := [.ref 69, .int x1, .int x2, .int x3, .int 0]) ⟨Or.inr rfl, Or.inr rfl, Or.inr rfl, Or.inr rfl, Or.inr rfl, trivial⟩ k
set_option maxHeartbeats 4000000 in
set_option maxRecDepth 100000 in
theorem B_249_3 {x1 : Int32} {x2 : Int32} {x3 : Int32} {x4 : Int32} {h : XH} {Q : Value → XH → Prop} (hs : Sh h) (k : InB (xI h 69 18) 2 ∧ ((((xI h 79 (tn (xI h 69 18))) ≤ x4) → Q (.int 1) h) ∧ (¬ ((xI h 79 (tn (xI h 69 18))) ≤ x4) → InB ((8 * (xI h 69 18)) + x4) 16 ∧ ((((xI h 82 (tn ((8 * (xI h 69 18)) + x4))) = x3) → Ev 249 3 [.ref 69, .int x1, .int x2, .int x3, .int (x4 + 1)] [] h Q) ∧ (¬ ((xI h 82 (tn ((8 * (xI h 69 18)) + x4))) = x3) → ClI 236 [.ref 69, .int x1, .int x4] h (fun v2 h1 => Sh h1 ∧ (ClI 236 [.ref 69, .int x2, .int x4] h1 (fun v4 h3 => Sh h3 ∧ (((v2 = v4) → Ev 249 3 [.ref 69, .int x1, .int x2, .int x3, .int (x4 + 1)] [] h3 Q) ∧ (¬ (v2 = v4) → Q (.int 0) h3)))))))))) : Ev 249 3 [.ref 69, .int x1, .int x2, .int x3, .int x4] [] h Q := by
  refine e_il o_249_3 rfl ?_
  refine e_al o_249_5 rfl ?_
  refine e_gR (r := 79) o_249_6 (sk_69 (h := h) hs) (sr_69_23 (h := h) hs) (by decide) ?_
  refine e_al o_249_9 rfl ?_
  refine e_gI o_249_10 (sk_69 (h := h) hs) ?_
  obtain ⟨q, k⟩ := k
  refine e_ia (n := 2) o_249_13 (sk_79 (h := h) hs) (sn_79 (h := h) hs) q ?_
  refine e_if_3 o_249_14 (fun z => ?_) (fun z => ?_)
  · have k := k.1 z
    refine e_c 1 o_249_61 rfl ?_
    exact e_retZ o_249_62 (by decide) k
  · have k := k.2 z
    refine e_al o_249_17 rfl ?_
    refine e_gR (r := 82) o_249_18 (sk_69 (h := h) hs) (sr_69_26 (h := h) hs) (by decide) ?_
    refine e_c 8 o_249_21 rfl ?_
    refine e_al o_249_23 rfl ?_
    refine e_gI o_249_24 (sk_69 (h := h) hs) ?_
    refine e_bin o_249_27 rfl ?_
    refine e_il o_249_28 rfl ?_
    refine e_bin o_249_30 rfl ?_
    obtain ⟨q, k⟩ := k
    refine e_ia (n := 16) o_249_31 (sk_82 (h := h) hs) (sn_82 (h := h) hs) q ?_
    refine e_il o_249_32 rfl ?_
    refine e_if_0 o_249_33 (fun z => ?_) (fun z => ?_)
    · have k := k.1 z
      refine e_inc (ls' := [.ref 69, .int x1, .int x2, .int x3, .int (x4 + 1)]) o_249_55 rfl rfl rfl ?_
      refine e_go o_249_58 ?_
      exact Ev.less (ls := [.ref 69, .int x1, .int x2, .int x3, .int (x4 + 1)]) ⟨Or.inr rfl, Or.inr rfl, Or.inr rfl, Or.inr rfl, Or.inr rfl, trivial⟩ k
    · have k := k.2 z
      refine e_al o_249_36 rfl ?_
      refine e_il o_249_37 rfl ?_
      refine e_il o_249_38 rfl ?_
      refine e_clI (as := [.ref 69, .int x1, .int x4]) (rest := []) o_249_40 rfl rfl (x_okd cl_249_236 ml_236 (Nat.le_of_ble_eq_true rfl) (Nat.le_of_ble_eq_true rfl)) (x_rc0 (ci := 9) (sk_69 (h := h) hs) mo_236) k ?_
      rintro v2 h1 ⟨sh1, k⟩
      refine e_al o_249_43 rfl ?_
      refine e_il o_249_44 rfl ?_
      refine e_il o_249_45 rfl ?_
      refine e_clI (as := [.ref 69, .int x2, .int x4]) (rest := [.int v2]) o_249_47 rfl rfl (x_okd cl_249_236 ml_236 (Nat.le_of_ble_eq_true rfl) (Nat.le_of_ble_eq_true rfl)) (x_rc0 (ci := 9) (sk_69 (h := h1) sh1) mo_236) k ?_
      rintro v4 h3 ⟨sh3, k⟩
      refine e_if_0 o_249_50 (fun z => ?_) (fun z => ?_)
      · have k := k.1 z
        refine e_inc (ls' := [.ref 69, .int x1, .int x2, .int x3, .int (x4 + 1)]) o_249_55 rfl rfl rfl ?_
        refine e_go o_249_58 ?_
        exact Ev.less (ls := [.ref 69, .int x1, .int x2, .int x3, .int (x4 + 1)]) ⟨Or.inr rfl, Or.inr rfl, Or.inr rfl, Or.inr rfl, Or.inr rfl, trivial⟩ k
      · have k := k.2 z
        refine e_c 0 o_249_53 rfl ?_
        exact e_retZ o_249_54 (by decide) k
set_option maxHeartbeats 4000000 in
set_option maxRecDepth 100000 in
theorem B_250_0 {x1 : Int32} {x2 : Int32} {h : XH} {Q : Value → XH → Prop} (hs : Sh h) (k : ClI 251 [.int x1] h (fun v2 h1 => Sh h1 ∧ (((v2 = 0) → Q (.int (-1)) h1) ∧ (¬ (v2 = 0) → ClI 207 [.int x2, .int 0, .int 1] h1 (fun v4 h3 => Sh h3 ∧ (((¬ v4 = 0) → ClV 252 [.ref 69, .int x1] h3 (fun h5 => Sh h5 ∧ (ClV 253 [.ref 69] h5 (fun h7 => Sh h7 ∧ (Ev 250 29 [.ref 69, .null, .int x2, .int 0, .null] [] h7 Q))))) ∧ (¬ (¬ v4 = 0) → Q (.int (-1)) h3))))))) : Ev 250 0 (x_ini 250 [.ref 69, .int x1, .int x2]) [] h Q := by
  rw [show x_ini 250 [.ref 69, .int x1, .int x2] = [.ref 69, .int x1, .int x2, .null, .null] from x_inid ml_250 rfl]
  refine e_il o_250_0 rfl ?_
  refine e_clI (as := [.int x1]) (rest := []) o_250_1 rfl rfl (x_okd cl_250_251 ml_251 (Nat.le_of_ble_eq_true rfl) (Nat.le_of_ble_eq_true rfl)) (rfl) k ?_
  rintro v2 h1 ⟨sh1, k⟩
  refine e_i0_0 o_250_4 (fun z => ?_) (fun z => ?_)
  · have k := k.1 z
    refine e_c (-1) o_250_16 rfl ?_
    exact e_retI o_250_17 k
  · have k := k.2 z
    refine e_il o_250_7 rfl ?_
    refine e_c 0 o_250_8 rfl ?_
    refine e_c 1 o_250_9 rfl ?_
    refine e_clI (as := [.int x2, .int 0, .int 1]) (rest := []) o_250_10 rfl rfl (x_okd cl_250_207 ml_207 (Nat.le_of_ble_eq_true rfl) (Nat.le_of_ble_eq_true rfl)) (rfl) k ?_
    rintro v4 h3 ⟨sh3, k⟩
    refine e_i0_1 o_250_13 (fun z => ?_) (fun z => ?_)
    · have k := k.1 z
      refine e_al o_250_18 rfl ?_
      refine e_il o_250_19 rfl ?_
      refine e_clV (as := [.ref 69, .int x1]) (rest := []) o_250_20 rfl rfl (x_okd cl_250_252 ml_252 (Nat.le_of_ble_eq_true rfl) (Nat.le_of_ble_eq_true rfl)) (x_rc0 (ci := 9) (sk_69 (h := h3) sh3) mo_252) k ?_
      rintro h5 ⟨sh5, k⟩
      refine e_al o_250_23 rfl ?_
      refine e_clV (as := [.ref 69]) (rest := []) o_250_24 rfl rfl (x_okd cl_250_253 ml_253 (Nat.le_of_ble_eq_true rfl) (Nat.le_of_ble_eq_true rfl)) (x_rc0 (ci := 9) (sk_69 (h := h5) sh5) mo_253) k ?_
      rintro h7 ⟨sh7, k⟩
      refine e_c 0 o_250_27 rfl ?_
      refine e_is (ls' := [.ref 69, .int x1, .int x2, .int 0, .null]) o_250_28 (Nat.le_of_ble_eq_true rfl) rfl ?_
      exact Ev.less (ls := [.ref 69, .null, .int x2, .int 0, .null]) ⟨Or.inr rfl, Or.inl rfl, Or.inr rfl, Or.inr rfl, Or.inl rfl, trivial⟩ k
    · have k := k.2 z
      refine e_c (-1) o_250_16 rfl ?_
      exact e_retI o_250_17 k
set_option maxHeartbeats 4000000 in
set_option maxRecDepth 100000 in
theorem B_250_29 {x2 : Int32} {x3 : Int32} {h : XH} {Q : Value → XH → Prop} (hs : Sh h) (k : InB (xI h 69 18) 2 ∧ ((((xI h 83 (tn (xI h 69 18))) ≤ x3) → Q (.int (-2)) h) ∧ (¬ ((xI h 83 (tn (xI h 69 18))) ≤ x3) → InB x3 2000 ∧ (InB (xI h 115 (tn x3)) 15625 ∧ ((((xI h 117 (tn (xI h 115 (tn x3)))) < 0) → InB x3 2000 ∧ (InB (xI h 115 (tn x3)) 15625 ∧ (Ev 250 29 [.ref 69, .null, .int x2, .int (x3 + 1), .null] [] (xsI h 117 (tn (xI h 115 (tn x3))) x3) Q))) ∧ (¬ ((xI h 117 (tn (xI h 115 (tn x3)))) < 0) → ((¬ x2 = 0) → Q (.int x3) h) ∧ (¬ (¬ x2 = 0) → Q (.int (xI h 117 (tn (xI h 115 (tn x3))))) h))))))) : Ev 250 29 [.ref 69, .null, .int x2, .int x3, .null] [] h Q := by
  refine e_il o_250_29 rfl ?_
  refine e_al o_250_30 rfl ?_
  refine e_gR (r := 83) o_250_31 (sk_69 (h := h) hs) (sr_69_27 (h := h) hs) (by decide) ?_
  refine e_al o_250_34 rfl ?_
  refine e_gI o_250_35 (sk_69 (h := h) hs) ?_
  obtain ⟨q, k⟩ := k
  refine e_ia (n := 2) o_250_38 (sk_83 (h := h) hs) (sn_83 (h := h) hs) q ?_
  refine e_if_3 o_250_39 (fun z => ?_) (fun z => ?_)
  · have k := k.1 z
    refine e_c (-2) o_250_89 rfl ?_
    exact e_retI o_250_91 k
  · have k := k.2 z
    refine e_al o_250_42 rfl ?_
    refine e_gR (r := 117) o_250_43 (sk_69 (h := h) hs) (sr_69_70 (h := h) hs) (by decide) ?_
    refine e_al o_250_46 rfl ?_
    refine e_gR (r := 115) o_250_47 (sk_69 (h := h) hs) (sr_69_68 (h := h) hs) (by decide) ?_
    refine e_il o_250_50 rfl ?_
    obtain ⟨q, k⟩ := k
    refine e_ia (n := 2000) o_250_51 (sk_115 (h := h) hs) (sn_115 (h := h) hs) q ?_
    obtain ⟨q, k⟩ := k
    refine e_ia (n := 15625) o_250_52 (sk_117 (h := h) hs) (sn_117 (h := h) hs) q ?_
    refine e_is (ls' := [.ref 69, .null, .int x2, .int x3, .int (xI h 117 (tn (xI h 115 (tn x3))))]) o_250_53 (Nat.le_of_ble_eq_true rfl) rfl ?_
    refine e_il o_250_55 rfl ?_
    refine e_i0_2 o_250_57 (fun z => ?_) (fun z => ?_)
    · have k := k.1 z
      refine e_al o_250_71 rfl ?_
      refine e_gR (r := 117) o_250_72 (sk_69 (h := h) hs) (sr_69_70 (h := h) hs) (by decide) ?_
      refine e_al o_250_75 rfl ?_
      refine e_gR (r := 115) o_250_76 (sk_69 (h := h) hs) (sr_69_68 (h := h) hs) (by decide) ?_
      refine e_il o_250_79 rfl ?_
      obtain ⟨q, k⟩ := k
      refine e_ia (n := 2000) o_250_80 (sk_115 (h := h) hs) (sn_115 (h := h) hs) q ?_
      refine e_il o_250_81 rfl ?_
      obtain ⟨q, k⟩ := k
      refine e_ias (n := 15625) o_250_82 (sk_117 (h := h) hs) (by decide) (sn_117 (h := h) hs) q ?_
      refine e_inc (ls' := [.ref 69, .null, .int x2, .int (x3 + 1), .int (xI h 117 (tn (xI h 115 (tn x3))))]) o_250_83 rfl rfl rfl ?_
      refine e_go o_250_86 ?_
      exact Ev.less (ls := [.ref 69, .null, .int x2, .int (x3 + 1), .null]) ⟨Or.inr rfl, Or.inl rfl, Or.inr rfl, Or.inr rfl, Or.inl rfl, trivial⟩ k
    · have k := k.2 z
      refine e_il o_250_60 rfl ?_
      refine e_i0_1 o_250_61 (fun z => ?_) (fun z => ?_)
      · have k := k.1 z
        refine e_il o_250_69 rfl ?_
        exact e_retI o_250_70 k
      · have k := k.2 z
        refine e_il o_250_64 rfl ?_
        refine e_go o_250_66 ?_
        exact e_retI o_250_70 k
set_option maxHeartbeats 4000000 in
set_option maxRecDepth 100000 in
theorem B_251_0 {x0 : Int32} {h : XH} {Q : Value → XH → Prop} (hs : Sh h) (k : ClI 207 [.int x0, .int 0, .int 30] h (fun v2 h1 => Sh h1 ∧ ((v2 = 0 ∨ v2 = 1) ∧ Q (.int v2) h1))) : Ev 251 0 (x_ini 251 [.int x0]) [] h Q := by
  rw [show x_ini 251 [.int x0] = [.int x0] from x_inid ml_251 rfl]
  refine e_il o_251_0 rfl ?_
  refine e_c 0 o_251_1 rfl ?_
  refine e_c 30 o_251_2 rfl ?_
  refine e_clI (as := [.int x0, .int 0, .int 30]) (rest := []) o_251_4 rfl rfl (x_okd cl_251_207 ml_207 (Nat.le_of_ble_eq_true rfl) (Nat.le_of_ble_eq_true rfl)) (rfl) k ?_
  rintro v2 h1 ⟨sh1, k⟩
  exact e_retZ o_251_7 k.1 k.2
set_option maxHeartbeats 4000000 in
set_option maxRecDepth 100000 in
theorem B_252_0 {x1 : Int32} {h : XH} {Q : Value → XH → Prop} (hs : Sh h) (k : Ev 252 2 [.ref 69, .int x1, .int 0] [] h Q) : Ev 252 0 (x_ini 252 [.ref 69, .int x1]) [] h Q := by
  rw [show x_ini 252 [.ref 69, .int x1] = [.ref 69, .int x1, .null] from x_inid ml_252 rfl]
  refine e_c 0 o_252_0 rfl ?_
  refine e_is (ls' := [.ref 69, .int x1, .int 0]) o_252_1 (Nat.le_of_ble_eq_true rfl) rfl ?_
  exact Ev.less (ls := [.ref 69, .int x1, .int 0]) ⟨Or.inr rfl, Or.inr rfl, Or.inr rfl, trivial⟩ k
set_option maxHeartbeats 4000000 in
set_option maxRecDepth 100000 in
theorem B_252_2 {x1 : Int32} {x2 : Int32} {h : XH} {Q : Value → XH → Prop} (hs : Sh h) (k : InB (xI h 69 18) 2 ∧ ((((xI h 83 (tn (xI h 69 18))) ≤ x2) → Q .null h) ∧ (¬ ((xI h 83 (tn (xI h 69 18))) ≤ x2) → ClV 162 [.ref 69, .int x2] h (fun h1 => Sh h1 ∧ (ClV 213 [.ref 69, .int x1] h1 (fun h3 => Sh h3 ∧ (ClI 165 [.ref 69] h3 (fun v6 h5 => Sh h5 ∧ (InB x2 2000 ∧ (Ev 252 2 [.ref 69, .int x1, .int (x2 + 1)] [] (xsI h5 115 (tn x2) v6) Q)))))))))) : Ev 252 2 [.ref 69, .int x1, .int x2] [] h Q := by
  refine e_il o_252_2 rfl ?_
  refine e_al o_252_3 rfl ?_
  refine e_gR (r := 83) o_252_4 (sk_69 (h := h) hs) (sr_69_27 (h := h) hs) (by decide) ?_
  refine e_al o_252_7 rfl ?_
  refine e_gI o_252_8 (sk_69 (h := h) hs) ?_
  obtain ⟨q, k⟩ := k
  refine e_ia (n := 2) o_252_11 (sk_83 (h := h) hs) (sn_83 (h := h) hs) q ?_
  refine e_if_3 o_252_12 (fun z => ?_) (fun z => ?_)
  · have k := k.1 z
    exact e_ret0 o_252_41 k
  · have k := k.2 z
    refine e_al o_252_15 rfl ?_
    refine e_il o_252_16 rfl ?_
    refine e_clV (as := [.ref 69, .int x2]) (rest := []) o_252_17 rfl rfl (x_okd cl_252_162 ml_162 (Nat.le_of_ble_eq_true rfl) (Nat.le_of_ble_eq_true rfl)) (x_rc0 (ci := 9) (sk_69 (h := h) hs) mo_162) k ?_
    rintro h1 ⟨sh1, k⟩
    refine e_al o_252_20 rfl ?_
    refine e_il o_252_21 rfl ?_
    refine e_clV (as := [.ref 69, .int x1]) (rest := []) o_252_22 rfl rfl (x_okd cl_252_213 ml_213 (Nat.le_of_ble_eq_true rfl) (Nat.le_of_ble_eq_true rfl)) (x_rc0 (ci := 9) (sk_69 (h := h1) sh1) mo_213) k ?_
    rintro h3 ⟨sh3, k⟩
    refine e_al o_252_25 rfl ?_
    refine e_gR (r := 115) o_252_26 (sk_69 (h := h3) sh3) (sr_69_68 (h := h3) sh3) (by decide) ?_
    refine e_il o_252_29 rfl ?_
    refine e_al o_252_30 rfl ?_
    refine e_clI (as := [.ref 69]) (rest := [.int x2, .ref 115]) o_252_31 rfl rfl (x_okd cl_252_165 ml_165 (Nat.le_of_ble_eq_true rfl) (Nat.le_of_ble_eq_true rfl)) (x_rc0 (ci := 9) (sk_69 (h := h3) sh3) mo_165) k ?_
    rintro v6 h5 ⟨sh5, k⟩
    obtain ⟨q, k⟩ := k
    refine e_ias (n := 2000) o_252_34 (sk_115 (h := h5) sh5) (by decide) (sn_115 (h := h5) sh5) q ?_
    refine e_inc (ls' := [.ref 69, .int x1, .int (x2 + 1)]) o_252_35 rfl rfl rfl ?_
    refine e_go o_252_38 ?_
    exact Ev.less (ls := [.ref 69, .int x1, .int (x2 + 1)]) ⟨Or.inr rfl, Or.inr rfl, Or.inr rfl, trivial⟩ k
set_option maxHeartbeats 4000000 in
set_option maxRecDepth 100000 in
theorem B_253_0  {h : XH} {Q : Value → XH → Prop} (hs : Sh h) (k : Ev 253 2 [.ref 69, .int 0] [] h Q) : Ev 253 0 (x_ini 253 [.ref 69]) [] h Q := by
  rw [show x_ini 253 [.ref 69] = [.ref 69, .null] from x_inid ml_253 rfl]
  refine e_c 0 o_253_0 rfl ?_
  refine e_is (ls' := [.ref 69, .int 0]) o_253_1 (Nat.le_of_ble_eq_true rfl) rfl ?_
  exact Ev.less (ls := [.ref 69, .int 0]) ⟨Or.inr rfl, Or.inr rfl, trivial⟩ k
set_option maxHeartbeats 4000000 in
set_option maxRecDepth 100000 in
theorem B_253_2 {x1 : Int32} {h : XH} {Q : Value → XH → Prop} (hs : Sh h) (k : ((15625 ≤ x1) → Q .null h) ∧ (¬ (15625 ≤ x1) → InB x1 15625 ∧ (Ev 253 2 [.ref 69, .int (x1 + 1)] [] (xsI h 117 (tn x1) (-1)) Q))) : Ev 253 2 [.ref 69, .int x1] [] h Q := by
  refine e_il o_253_2 rfl ?_
  refine e_c 15625 o_253_3 rfl ?_
  refine e_if_3 o_253_6 (fun z => ?_) (fun z => ?_)
  · have k := k.1 z
    exact e_ret0 o_253_22 k
  · have k := k.2 z
    refine e_al o_253_9 rfl ?_
    refine e_gR (r := 117) o_253_10 (sk_69 (h := h) hs) (sr_69_70 (h := h) hs) (by decide) ?_
    refine e_il o_253_13 rfl ?_
    refine e_c (-1) o_253_14 rfl ?_
    obtain ⟨q, k⟩ := k
    refine e_ias (n := 15625) o_253_15 (sk_117 (h := h) hs) (by decide) (sn_117 (h := h) hs) q ?_
    refine e_inc (ls' := [.ref 69, .int (x1 + 1)]) o_253_16 rfl rfl rfl ?_
    refine e_go o_253_19 ?_
    exact Ev.less (ls := [.ref 69, .int (x1 + 1)]) ⟨Or.inr rfl, Or.inr rfl, trivial⟩ k
set_option maxHeartbeats 4000000 in
set_option maxRecDepth 100000 in
theorem B_254_0 {x1 : Int32} {x2 : Int32} {h : XH} {Q : Value → XH → Prop} (hs : Sh h) (k : ClI 251 [.int x1] h (fun v2 h1 => Sh h1 ∧ (((v2 = 0) → Q (.int (-1)) h1) ∧ (¬ (v2 = 0) → ClI 207 [.int x2, .int 0, .int 1] h1 (fun v4 h3 => Sh h3 ∧ (((¬ v4 = 0) → ClV 252 [.ref 69, .int x1] h3 (fun h5 => Sh h5 ∧ (Ev 254 29 [.ref 69, .null, .int x2, .int (-2), .int 0] [] h5 Q))) ∧ (¬ (¬ v4 = 0) → Q (.int (-1)) h3))))))) : Ev 254 0 (x_ini 254 [.ref 69, .int x1, .int x2]) [] h Q := by
  rw [show x_ini 254 [.ref 69, .int x1, .int x2] = [.ref 69, .int x1, .int x2, .null, .null] from x_inid ml_254 rfl]
  refine e_il o_254_0 rfl ?_
  refine e_clI (as := [.int x1]) (rest := []) o_254_1 rfl rfl (x_okd cl_254_251 ml_251 (Nat.le_of_ble_eq_true rfl) (Nat.le_of_ble_eq_true rfl)) (rfl) k ?_
  rintro v2 h1 ⟨sh1, k⟩
  refine e_i0_0 o_254_4 (fun z => ?_) (fun z => ?_)
  · have k := k.1 z
    refine e_c (-1) o_254_16 rfl ?_
    exact e_retI o_254_17 k
  · have k := k.2 z
    refine e_il o_254_7 rfl ?_
    refine e_c 0 o_254_8 rfl ?_
    refine e_c 1 o_254_9 rfl ?_
    refine e_clI (as := [.int x2, .int 0, .int 1]) (rest := []) o_254_10 rfl rfl (x_okd cl_254_207 ml_207 (Nat.le_of_ble_eq_true rfl) (Nat.le_of_ble_eq_true rfl)) (rfl) k ?_
    rintro v4 h3 ⟨sh3, k⟩
    refine e_i0_1 o_254_13 (fun z => ?_) (fun z => ?_)
    · have k := k.1 z
      refine e_al o_254_18 rfl ?_
      refine e_il o_254_19 rfl ?_
      refine e_clV (as := [.ref 69, .int x1]) (rest := []) o_254_20 rfl rfl (x_okd cl_254_252 ml_252 (Nat.le_of_ble_eq_true rfl) (Nat.le_of_ble_eq_true rfl)) (x_rc0 (ci := 9) (sk_69 (h := h3) sh3) mo_252) k ?_
      rintro h5 ⟨sh5, k⟩
      refine e_c (-2) o_254_23 rfl ?_
      refine e_is (ls' := [.ref 69, .int x1, .int x2, .int (-2), .null]) o_254_25 (Nat.le_of_ble_eq_true rfl) rfl ?_
      refine e_c 0 o_254_26 rfl ?_
      refine e_is (ls' := [.ref 69, .int x1, .int x2, .int (-2), .int 0]) o_254_27 (Nat.le_of_ble_eq_true rfl) rfl ?_
      exact Ev.less (ls := [.ref 69, .null, .int x2, .int (-2), .int 0]) ⟨Or.inr rfl, Or.inl rfl, Or.inr rfl, Or.inr rfl, Or.inr rfl, trivial⟩ k
    · have k := k.2 z
      refine e_c (-1) o_254_16 rfl ?_
      exact e_retI o_254_17 k
set_option maxHeartbeats 4000000 in
set_option maxRecDepth 100000 in
theorem B_254_29 {x2 : Int32} {x3 : Int32} {x4 : Int32} {h : XH} {Q : Value → XH → Prop} (hs : Sh h) (k : InB (xI h 69 18) 2 ∧ ((((1 <<< ((xI h 84 (tn (xI h 69 18))) &&& 31)) ≤ x4) → ((x3 < 0) → Q (.int x3) h) ∧ (¬ (x3 < 0) → ((¬ x2 = 1) → ClI 255 [.int x3] h (fun v2 h1 => Sh h1 ∧ (Q (.int v2) h1))) ∧ (¬ (¬ x2 = 1) → Q (.int x3) h))) ∧ (¬ ((1 <<< ((xI h 84 (tn (xI h 69 18))) &&& 31)) ≤ x4) → ((x3 < 0) → ClI 256 [.ref 69, .int x4] h (fun v4 h3 => Sh h3 ∧ (((v4 = 0) → Ev 254 29 [.ref 69, .null, .int x2, .int x3, .int (x4 + 1)] [] h3 Q) ∧ (¬ (v4 = 0) → Ev 254 29 [.ref 69, .null, .int x2, .int x4, .int (x4 + 1)] [] h3 Q)))) ∧ (¬ (x3 < 0) → ClI 255 [.int x4] h (fun v6 h5 => Sh h5 ∧ (ClI 255 [.int x3] h5 (fun v8 h7 => Sh h7 ∧ (((v8 ≤ v6) → Ev 254 29 [.ref 69, .null, .int x2, .int x3, .int (x4 + 1)] [] h7 Q) ∧ (¬ (v8 ≤ v6) → ClI 256 [.ref 69, .int x4] h7 (fun v10 h9 => Sh h9 ∧ (((v10 = 0) → Ev 254 29 [.ref 69, .null, .int x2, .int x3, .int (x4 + 1)] [] h9 Q) ∧ (¬ (v10 = 0) → Ev 254 29 [.ref 69, .null, .int x2, .int x4, .int (x4 + 1)] [] h9 Q)))))))))))) : Ev 254 29 [.ref 69, .null, .int x2, .int x3, .int x4] [] h Q := by
  refine e_il o_254_29 rfl ?_
  refine e_c 1 o_254_31 rfl ?_
  refine e_al o_254_32 rfl ?_
  refine e_gR (r := 84) o_254_33 (sk_69 (h := h) hs) (sr_69_28 (h := h) hs) (by decide) ?_
  refine e_al o_254_36 rfl ?_
  refine e_gI o_254_37 (sk_69 (h := h) hs) ?_
  obtain ⟨q, k⟩ := k
  refine e_ia (n := 2) o_254_40 (sk_84 (h := h) hs) (sn_84 (h := h) hs) q ?_
  refine e_bin o_254_41 rfl ?_
  refine e_if_3 o_254_42 (fun z => ?_) (fun z => ?_)
  · have k := k.1 z
    refine e_il o_254_79 rfl ?_
    refine e_i0_2 o_254_80 (fun z => ?_) (fun z => ?_)
    · have k := k.1 z
      refine e_il o_254_88 rfl ?_
      refine e_go o_254_89 ?_
      exact e_retI o_254_96 k
    · have k := k.2 z
      refine e_il o_254_83 rfl ?_
      refine e_c 1 o_254_84 rfl ?_
      refine e_if_1 o_254_85 (fun z => ?_) (fun z => ?_)
      · have k := k.1 z
        refine e_il o_254_92 rfl ?_
        refine e_clI (as := [.int x3]) (rest := []) o_254_93 rfl rfl (x_okd cl_254_255 ml_255 (Nat.le_of_ble_eq_true rfl) (Nat.le_of_ble_eq_true rfl)) (rfl) k ?_
        rintro v2 h1 ⟨sh1, k⟩
        exact e_retI o_254_96 k
      · have k := k.2 z
        refine e_il o_254_88 rfl ?_
        refine e_go o_254_89 ?_
        exact e_retI o_254_96 k
  · have k := k.2 z
    refine e_il o_254_45 rfl ?_
    refine e_i0_2 o_254_46 (fun z => ?_) (fun z => ?_)
    · have k := k.1 z
      refine e_al o_254_61 rfl ?_
      refine e_il o_254_62 rfl ?_
      refine e_clI (as := [.ref 69, .int x4]) (rest := []) o_254_64 rfl rfl (x_okd cl_254_256 ml_256 (Nat.le_of_ble_eq_true rfl) (Nat.le_of_ble_eq_true rfl)) (x_rc0 (ci := 9) (sk_69 (h := h) hs) mo_256) k ?_
      rintro v4 h3 ⟨sh3, k⟩
      refine e_i0_0 o_254_67 (fun z => ?_) (fun z => ?_)
      · have k := k.1 z
        refine e_inc (ls' := [.ref 69, .null, .int x2, .int x3, .int (x4 + 1)]) o_254_73 rfl rfl rfl ?_
        refine e_go o_254_76 ?_
        exact Ev.less (ls := [.ref 69, .null, .int x2, .int x3, .int (x4 + 1)]) ⟨Or.inr rfl, Or.inl rfl, Or.inr rfl, Or.inr rfl, Or.inr rfl, trivial⟩ k
      · have k := k.2 z
        refine e_il o_254_70 rfl ?_
        refine e_is (ls' := [.ref 69, .null, .int x2, .int x4, .int x4]) o_254_72 (Nat.le_of_ble_eq_true rfl) rfl ?_
        refine e_inc (ls' := [.ref 69, .null, .int x2, .int x4, .int (x4 + 1)]) o_254_73 rfl rfl rfl ?_
        refine e_go o_254_76 ?_
        exact Ev.less (ls := [.ref 69, .null, .int x2, .int x4, .int (x4 + 1)]) ⟨Or.inr rfl, Or.inl rfl, Or.inr rfl, Or.inr rfl, Or.inr rfl, trivial⟩ k
    · have k := k.2 z
      refine e_il o_254_49 rfl ?_
      refine e_clI (as := [.int x4]) (rest := []) o_254_51 rfl rfl (x_okd cl_254_255 ml_255 (Nat.le_of_ble_eq_true rfl) (Nat.le_of_ble_eq_true rfl)) (rfl) k ?_
      rintro v6 h5 ⟨sh5, k⟩
      refine e_il o_254_54 rfl ?_
      refine e_clI (as := [.int x3]) (rest := [.int v6]) o_254_55 rfl rfl (x_okd cl_254_255 ml_255 (Nat.le_of_ble_eq_true rfl) (Nat.le_of_ble_eq_true rfl)) (rfl) k ?_
      rintro v8 h7 ⟨sh7, k⟩
      refine e_if_3 o_254_58 (fun z => ?_) (fun z => ?_)
      · have k := k.1 z
        refine e_inc (ls' := [.ref 69, .null, .int x2, .int x3, .int (x4 + 1)]) o_254_73 rfl rfl rfl ?_
        refine e_go o_254_76 ?_
        exact Ev.less (ls := [.ref 69, .null, .int x2, .int x3, .int (x4 + 1)]) ⟨Or.inr rfl, Or.inl rfl, Or.inr rfl, Or.inr rfl, Or.inr rfl, trivial⟩ k
      · have k := k.2 z
        refine e_al o_254_61 rfl ?_
        refine e_il o_254_62 rfl ?_
        refine e_clI (as := [.ref 69, .int x4]) (rest := []) o_254_64 rfl rfl (x_okd cl_254_256 ml_256 (Nat.le_of_ble_eq_true rfl) (Nat.le_of_ble_eq_true rfl)) (x_rc0 (ci := 9) (sk_69 (h := h7) sh7) mo_256) k ?_
        rintro v10 h9 ⟨sh9, k⟩
        refine e_i0_0 o_254_67 (fun z => ?_) (fun z => ?_)
        · have k := k.1 z
          refine e_inc (ls' := [.ref 69, .null, .int x2, .int x3, .int (x4 + 1)]) o_254_73 rfl rfl rfl ?_
          refine e_go o_254_76 ?_
          exact Ev.less (ls := [.ref 69, .null, .int x2, .int x3, .int (x4 + 1)]) ⟨Or.inr rfl, Or.inl rfl, Or.inr rfl, Or.inr rfl, Or.inr rfl, trivial⟩ k
        · have k := k.2 z
          refine e_il o_254_70 rfl ?_
          refine e_is (ls' := [.ref 69, .null, .int x2, .int x4, .int x4]) o_254_72 (Nat.le_of_ble_eq_true rfl) rfl ?_
          refine e_inc (ls' := [.ref 69, .null, .int x2, .int x4, .int (x4 + 1)]) o_254_73 rfl rfl rfl ?_
          refine e_go o_254_76 ?_
          exact Ev.less (ls := [.ref 69, .null, .int x2, .int x4, .int (x4 + 1)]) ⟨Or.inr rfl, Or.inl rfl, Or.inr rfl, Or.inr rfl, Or.inr rfl, trivial⟩ k
set_option maxHeartbeats 4000000 in
set_option maxRecDepth 100000 in
theorem B_255_0 {x0 : Int32} {h : XH} {Q : Value → XH → Prop} (hs : Sh h) (k : Ev 255 4 [.int x0, .int 0, .int 0] [] h Q) : Ev 255 0 (x_ini 255 [.int x0]) [] h Q := by
  rw [show x_ini 255 [.int x0] = [.int x0, .null, .null] from x_inid ml_255 rfl]
  refine e_c 0 o_255_0 rfl ?_
  refine e_is (ls' := [.int x0, .int 0, .null]) o_255_1 (Nat.le_of_ble_eq_true rfl) rfl ?_
  refine e_c 0 o_255_2 rfl ?_
  refine e_is (ls' := [.int x0, .int 0, .int 0]) o_255_3 (Nat.le_of_ble_eq_true rfl) rfl ?_
  exact Ev.less (ls := [.int x0, .int 0, .int 0]) ⟨Or.inr rfl, Or.inr rfl, Or.inr rfl, trivial⟩ k
set_option maxHeartbeats 4000000 in
set_option maxRecDepth 100000 in
theorem B_255_4 {x0 : Int32} {x1 : Int32} {x2 : Int32} {h : XH} {Q : Value → XH → Prop} (hs : Sh h) (k : ((6 ≤ x2) → Q (.int x1) h) ∧ (¬ (6 ≤ x2) → Ev 255 4 [.int x0, .int (x1 + ((x0 >>> (x2 &&& 31)) &&& 1)), .int (x2 + 1)] [] h Q)) : Ev 255 4 [.int x0, .int x1, .int x2] [] h Q := by
  refine e_il o_255_4 rfl ?_
  refine e_c 6 o_255_5 rfl ?_
  refine e_if_3 o_255_7 (fun z => ?_) (fun z => ?_)
  · have k := k.1 z
    refine e_il o_255_24 rfl ?_
    exact e_retI o_255_25 k
  · have k := k.2 z
    refine e_il o_255_10 rfl ?_
    refine e_il o_255_11 rfl ?_
    refine e_il o_255_12 rfl ?_
    refine e_bin o_255_13 rfl ?_
    refine e_c 1 o_255_14 rfl ?_
    refine e_bin o_255_15 rfl ?_
    refine e_bin o_255_16 rfl ?_
    refine e_is (ls' := [.int x0, .int (x1 + ((x0 >>> (x2 &&& 31)) &&& 1)), .int x2]) o_255_17 (Nat.le_of_ble_eq_true rfl) rfl ?_
    refine e_inc (ls' := [.int x0, .int (x1 + ((x0 >>> (x2 &&& 31)) &&& 1)), .int (x2 + 1)]) o_255_18 rfl rfl rfl ?_
    refine e_go o_255_21 ?_
    exact Ev.less (ls := [.int x0, .int (x1 + ((x0 >>> (x2 &&& 31)) &&& 1)), .int (x2 + 1)]) ⟨Or.inr rfl, Or.inr rfl, Or.inr rfl, trivial⟩ k
set_option maxHeartbeats 4000000 in
set_option maxRecDepth 100000 in
theorem B_256_0 {x1 : Int32} {h : XH} {Q : Value → XH → Prop} (hs : Sh h) (k : ClV 253 [.ref 69] h (fun h1 => Sh h1 ∧ (Ev 256 6 [.ref 69, .int x1, .int 0, .null, .null] [] h1 Q))) : Ev 256 0 (x_ini 256 [.ref 69, .int x1]) [] h Q := by
  rw [show x_ini 256 [.ref 69, .int x1] = [.ref 69, .int x1, .null, .null, .null] from x_inid ml_256 rfl]
  refine e_al o_256_0 rfl ?_
  refine e_clV (as := [.ref 69]) (rest := []) o_256_1 rfl rfl (x_okd cl_256_253 ml_253 (Nat.le_of_ble_eq_true rfl) (Nat.le_of_ble_eq_true rfl)) (x_rc0 (ci := 9) (sk_69 (h := h) hs) mo_253) k ?_
  rintro h1 ⟨sh1, k⟩
  refine e_c 0 o_256_4 rfl ?_
  refine e_is (ls' := [.ref 69, .int x1, .int 0, .null, .null]) o_256_5 (Nat.le_of_ble_eq_true rfl) rfl ?_
  exact Ev.less (ls := [.ref 69, .int x1, .int 0, .null, .null]) ⟨Or.inr rfl, Or.inr rfl, Or.inr rfl, Or.inl rfl, Or.inl rfl, trivial⟩ k
set_option maxHeartbeats 4000000 in
set_option maxRecDepth 100000 in
theorem B_256_6 {x1 : Int32} {x2 : Int32} {h : XH} {Q : Value → XH → Prop} (hs : Sh h) (k : InB (xI h 69 18) 2 ∧ ((((xI h 83 (tn (xI h 69 18))) ≤ x2) → Q (.int 1) h) ∧ (¬ ((xI h 83 (tn (xI h 69 18))) ≤ x2) → Ev 256 24 [.ref 69, .int x1, .int x2, .int 0, .int 0] [] h Q))) : Ev 256 6 [.ref 69, .int x1, .int x2, .null, .null] [] h Q := by
  refine e_il o_256_6 rfl ?_
  refine e_al o_256_7 rfl ?_
  refine e_gR (r := 83) o_256_8 (sk_69 (h := h) hs) (sr_69_27 (h := h) hs) (by decide) ?_
  refine e_al o_256_11 rfl ?_
  refine e_gI o_256_12 (sk_69 (h := h) hs) ?_
  obtain ⟨q, k⟩ := k
  refine e_ia (n := 2) o_256_15 (sk_83 (h := h) hs) (sn_83 (h := h) hs) q ?_
  refine e_if_3 o_256_16 (fun z => ?_) (fun z => ?_)
  · have k := k.1 z
    refine e_c 1 o_256_98 rfl ?_
    exact e_retZ o_256_99 (by decide) k
  · have k := k.2 z
    refine e_c 0 o_256_19 rfl ?_
    refine e_is (ls' := [.ref 69, .int x1, .int x2, .int 0, .null]) o_256_20 (Nat.le_of_ble_eq_true rfl) rfl ?_
    refine e_c 0 o_256_21 rfl ?_
    refine e_is (ls' := [.ref 69, .int x1, .int x2, .int 0, .int 0]) o_256_22 (Nat.le_of_ble_eq_true rfl) rfl ?_
    exact Ev.less (ls := [.ref 69, .int x1, .int x2, .int 0, .int 0]) ⟨Or.inr rfl, Or.inr rfl, Or.inr rfl, Or.inr rfl, Or.inr rfl, trivial⟩ k
set_option maxHeartbeats 4000000 in
set_option maxRecDepth 100000 in
theorem B_256_24 {x1 : Int32} {x2 : Int32} {x3 : Int32} {x4 : Int32} {h : XH} {Q : Value → XH → Prop} (hs : Sh h) (k : InB (xI h 69 18) 2 ∧ ((((xI h 84 (tn (xI h 69 18))) ≤ x4) → InB x3 15625 ∧ ((((xI h 117 (tn x3)) < 0) → InB x3 15625 ∧ (Ev 256 6 [.ref 69, .int x1, .int (x2 + 1), .null, .null] [] (xsI h 117 (tn x3) x2) Q)) ∧ (¬ ((xI h 117 (tn x3)) < 0) → Q (.int 0) h))) ∧ (¬ ((xI h 84 (tn (xI h 69 18))) ≤ x4) → ((¬ ((x1 >>> (x4 &&& 31)) &&& 1) = (1 : Int32)) → Ev 256 24 [.ref 69, .int x1, .int x2, .int ((5 * x3) + 0), .int (x4 + 1)] [] h Q) ∧ (¬ (¬ ((x1 >>> (x4 &&& 31)) &&& 1) = (1 : Int32)) → InB x2 2000 ∧ (ClI 173 [.int (xI h 115 (tn x2)), .int x4] h (fun v2 h1 => Sh h1 ∧ (Ev 256 24 [.ref 69, .int x1, .int x2, .int ((5 * x3) + v2), .int (x4 + 1)] [] h1 Q))))))) : Ev 256 24 [.ref 69, .int x1, .int x2, .int x3, .int x4] [] h Q := by
  refine e_il o_256_24 rfl ?_
  refine e_al o_256_26 rfl ?_
  refine e_gR (r := 84) o_256_27 (sk_69 (h := h) hs) (sr_69_28 (h := h) hs) (by decide) ?_
  refine e_al o_256_30 rfl ?_
  refine e_gI o_256_31 (sk_69 (h := h) hs) ?_
  obtain ⟨q, k⟩ := k
  refine e_ia (n := 2) o_256_34 (sk_84 (h := h) hs) (sn_84 (h := h) hs) q ?_
  refine e_if_3 o_256_35 (fun z => ?_) (fun z => ?_)
  · have k := k.1 z
    refine e_al o_256_74 rfl ?_
    refine e_gR (r := 117) o_256_75 (sk_69 (h := h) hs) (sr_69_70 (h := h) hs) (by decide) ?_
    refine e_il o_256_78 rfl ?_
    obtain ⟨q, k⟩ := k
    refine e_ia (n := 15625) o_256_79 (sk_117 (h := h) hs) (sn_117 (h := h) hs) q ?_
    refine e_i0_2 o_256_80 (fun z => ?_) (fun z => ?_)
    · have k := k.1 z
      refine e_al o_256_85 rfl ?_
      refine e_gR (r := 117) o_256_86 (sk_69 (h := h) hs) (sr_69_70 (h := h) hs) (by decide) ?_
      refine e_il o_256_89 rfl ?_
      refine e_il o_256_90 rfl ?_
      obtain ⟨q, k⟩ := k
      refine e_ias (n := 15625) o_256_91 (sk_117 (h := h) hs) (by decide) (sn_117 (h := h) hs) q ?_
      refine e_inc (ls' := [.ref 69, .int x1, .int (x2 + 1), .int x3, .int x4]) o_256_92 rfl rfl rfl ?_
      refine e_go o_256_95 ?_
      exact Ev.less (ls := [.ref 69, .int x1, .int (x2 + 1), .null, .null]) ⟨Or.inr rfl, Or.inr rfl, Or.inr rfl, Or.inl rfl, Or.inl rfl, trivial⟩ k
    · have k := k.2 z
      refine e_c 0 o_256_83 rfl ?_
      exact e_retZ o_256_84 (by decide) k
  · have k := k.2 z
    refine e_c 5 o_256_38 rfl ?_
    refine e_il o_256_39 rfl ?_
    refine e_bin o_256_40 rfl ?_
    refine e_il o_256_41 rfl ?_
    refine e_il o_256_42 rfl ?_
    refine e_bin o_256_44 rfl ?_
    refine e_c 1 o_256_45 rfl ?_
    refine e_bin o_256_46 rfl ?_
    refine e_c 1 o_256_47 rfl ?_
    refine e_if_1 o_256_48 (fun z => ?_) (fun z => ?_)
    · have k := k.1 z
      refine e_c 0 o_256_65 rfl ?_
      refine e_bin o_256_66 rfl ?_
      refine e_is (ls' := [.ref 69, .int x1, .int x2, .int ((5 * x3) + 0), .int x4]) o_256_67 (Nat.le_of_ble_eq_true rfl) rfl ?_
      refine e_inc (ls' := [.ref 69, .int x1, .int x2, .int ((5 * x3) + 0), .int (x4 + 1)]) o_256_68 rfl rfl rfl ?_
      refine e_go o_256_71 ?_
      exact Ev.less (ls := [.ref 69, .int x1, .int x2, .int ((5 * x3) + 0), .int (x4 + 1)]) ⟨Or.inr rfl, Or.inr rfl, Or.inr rfl, Or.inr rfl, Or.inr rfl, trivial⟩ k
    · have k := k.2 z
      refine e_al o_256_51 rfl ?_
      refine e_gR (r := 115) o_256_52 (sk_69 (h := h) hs) (sr_69_68 (h := h) hs) (by decide) ?_
      refine e_il o_256_55 rfl ?_
      obtain ⟨q, k⟩ := k
      refine e_ia (n := 2000) o_256_56 (sk_115 (h := h) hs) (sn_115 (h := h) hs) q ?_
      refine e_il o_256_57 rfl ?_
      refine e_clI (as := [.int (xI h 115 (tn x2)), .int x4]) (rest := [.int (5 * x3)]) o_256_59 rfl rfl (x_okd cl_256_173 ml_173 (Nat.le_of_ble_eq_true rfl) (Nat.le_of_ble_eq_true rfl)) (rfl) k ?_
      rintro v2 h1 ⟨sh1, k⟩
      refine e_go o_256_62 ?_
      refine e_bin o_256_66 rfl ?_
      refine e_is (ls' := [.ref 69, .int x1, .int x2, .int ((5 * x3) + v2), .int x4]) o_256_67 (Nat.le_of_ble_eq_true rfl) rfl ?_
      refine e_inc (ls' := [.ref 69, .int x1, .int x2, .int ((5 * x3) + v2), .int (x4 + 1)]) o_256_68 rfl rfl rfl ?_
      refine e_go o_256_71 ?_
      exact Ev.less (ls := [.ref 69, .int x1, .int x2, .int ((5 * x3) + v2), .int (x4 + 1)]) ⟨Or.inr rfl, Or.inr rfl, Or.inr rfl, Or.inr rfl, Or.inr rfl, trivial⟩ k
set_option maxHeartbeats 4000000 in
set_option maxRecDepth 100000 in
theorem B_257_0 {x1 : Int32} {x2 : Int32} {x3 : Int32} {h : XH} {Q : Value → XH → Prop} (hs : Sh h) (k : (((xI h 69 71) = 20) → Q (.int (-1)) h) ∧ (¬ ((xI h 69 71) = 20) → ClI 209 [.ref 69, .int x1] h (fun v2 h1 => Sh h1 ∧ (((v2 = 0) → Q (.int (-1)) h1) ∧ (¬ (v2 = 0) → ClI 251 [.int x2] h1 (fun v4 h3 => Sh h3 ∧ (((v4 = 0) → Q (.int (-1)) h3) ∧ (¬ (v4 = 0) → ClI 207 [.int x3, .int 0, .int 4] h3 (fun v6 h5 => Sh h5 ∧ (((¬ v6 = 0) → InB (xI h5 69 71) 20 ∧ (InB (xI (xsI h5 118 (tn (xI h5 69 71)) x1) 69 71) 20 ∧ (InB (xI (xsI (xsI h5 118 (tn (xI h5 69 71)) x1) 119 (tn (xI (xsI h5 118 (tn (xI h5 69 71)) x1) 69 71)) x2) 69 71) 20 ∧ (∀ h7 : XH, h7 = (xsI (xsI (xsI h5 118 (tn (xI h5 69 71)) x1) 119 (tn (xI (xsI h5 118 (tn (xI h5 69 71)) x1) 69 71)) x2) 120 (tn (xI (xsI (xsI h5 118 (tn (xI h5 69 71)) x1) 119 (tn (xI (xsI h5 118 (tn (xI h5 69 71)) x1) 69 71)) x2) 69 71)) x3) → (Q (.int ((xI (xsI h7 69 71 ((xI h7 69 71) + 1)) 69 71) - 1)) (xsI h7 69 71 ((xI h7 69 71) + 1))))))) ∧ (¬ (¬ v6 = 0) → Q (.int (-1)) h5))))))))))) : Ev 257 0 (x_ini 257 [.ref 69, .int x1, .int x2, .int x3]) [] h Q := by
  rw [show x_ini 257 [.ref 69, .int x1, .int x2, .int x3] = [.ref 69, .int x1, .int x2, .int x3] from x_inid ml_257 rfl]
  refine e_al o_257_0 rfl ?_
  refine e_gI o_257_1 (sk_69 (h := h) hs) ?_
  refine e_c 20 o_257_4 rfl ?_
  refine e_if_0 o_257_6 (fun z => ?_) (fun z => ?_)
  · have k := k.1 z
    refine e_c (-1) o_257_33 rfl ?_
    exact e_retI o_257_34 k
  · have k := k.2 z
    refine e_al o_257_9 rfl ?_
    refine e_il o_257_10 rfl ?_
    refine e_clI (as := [.ref 69, .int x1]) (rest := []) o_257_11 rfl rfl (x_okd cl_257_209 ml_209 (Nat.le_of_ble_eq_true rfl) (Nat.le_of_ble_eq_true rfl)) (x_rc0 (ci := 9) (sk_69 (h := h) hs) mo_209) k ?_
    rintro v2 h1 ⟨sh1, k⟩
    refine e_i0_0 o_257_14 (fun z => ?_) (fun z => ?_)
    · have k := k.1 z
      refine e_c (-1) o_257_33 rfl ?_
      exact e_retI o_257_34 k
    · have k := k.2 z
      refine e_il o_257_17 rfl ?_
      refine e_clI (as := [.int x2]) (rest := []) o_257_18 rfl rfl (x_okd cl_257_251 ml_251 (Nat.le_of_ble_eq_true rfl) (Nat.le_of_ble_eq_true rfl)) (rfl) k ?_
      rintro v4 h3 ⟨sh3, k⟩
      refine e_i0_0 o_257_21 (fun z => ?_) (fun z => ?_)
      · have k := k.1 z
        refine e_c (-1) o_257_33 rfl ?_
        exact e_retI o_257_34 k
      · have k := k.2 z
        refine e_il o_257_24 rfl ?_
        refine e_c 0 o_257_25 rfl ?_
        refine e_c 4 o_257_26 rfl ?_
        refine e_clI (as := [.int x3, .int 0, .int 4]) (rest := []) o_257_27 rfl rfl (x_okd cl_257_207 ml_207 (Nat.le_of_ble_eq_true rfl) (Nat.le_of_ble_eq_true rfl)) (rfl) k ?_
        rintro v6 h5 ⟨sh5, k⟩
        refine e_i0_1 o_257_30 (fun z => ?_) (fun z => ?_)
        · have k := k.1 z
          refine e_al o_257_35 rfl ?_
          refine e_gR (r := 118) o_257_36 (sk_69 (h := h5) sh5) (sr_69_72 (h := h5) sh5) (by decide) ?_
          refine e_al o_257_39 rfl ?_
          refine e_gI o_257_40 (sk_69 (h := h5) sh5) ?_
          refine e_il o_257_43 rfl ?_
          obtain ⟨q, k⟩ := k
          refine e_ias (n := 20) o_257_44 (sk_118 (h := h5) sh5) (by decide) (sn_118 (h := h5) sh5) q ?_
          refine e_al o_257_45 rfl ?_
          refine e_gR (r := 119) o_257_46 (sk_69 (h := h5) sh5) (sr_69_73 (h := h5) sh5) (by decide) ?_
          refine e_al o_257_49 rfl ?_
          refine e_gI o_257_50 (sk_69 (h := h5) sh5) ?_
          refine e_il o_257_53 rfl ?_
          obtain ⟨q, k⟩ := k
          refine e_ias (n := 20) o_257_54 (sk_119 (h := h5) sh5) (by decide) (sn_119 (h := h5) sh5) q ?_
          refine e_al o_257_55 rfl ?_
          refine e_gR (r := 120) o_257_56 (sk_69 (h := h5) sh5) (sr_69_74 (h := h5) sh5) (by decide) ?_
          refine e_al o_257_59 rfl ?_
          refine e_gI o_257_60 (sk_69 (h := h5) sh5) ?_
          refine e_il o_257_63 rfl ?_
          obtain ⟨q, k⟩ := k
          refine e_ias (n := 20) o_257_64 (sk_120 (h := h5) sh5) (by decide) (sn_120 (h := h5) sh5) q ?_
          obtain ⟨h7, eh7⟩ : ∃ z : XH, z = (xsI (xsI (xsI h5 118 (tn (xI h5 69 71)) x1) 119 (tn (xI (xsI h5 118 (tn (xI h5 69 71)) x1) 69 71)) x2) 120 (tn (xI (xsI (xsI h5 118 (tn (xI h5 69 71)) x1) 119 (tn (xI (xsI h5 118 (tn (xI h5 69 71)) x1) 69 71)) x2) 69 71)) x3) := ⟨_, rfl⟩
          show Ev 257 65 [.ref 69, .int x1, .int x2, .int x3] [] (xsI (xsI (xsI h5 118 (tn (xI h5 69 71)) x1) 119 (tn (xI (xsI h5 118 (tn (xI h5 69 71)) x1) 69 71)) x2) 120 (tn (xI (xsI (xsI h5 118 (tn (xI h5 69 71)) x1) 119 (tn (xI (xsI h5 118 (tn (xI h5 69 71)) x1) 69 71)) x2) 69 71)) x3) Q
          rw [← eh7]
          have sh7 : Sh h7 := by rw [eh7]; exact (sh_I (sh_I (sh_I sh5 (by decide)) (by decide)) (by decide))
          have k := k h7 eh7
          refine e_al o_257_65 rfl ?_
          refine e_dup o_257_66 rfl ?_
          refine e_gI o_257_67 (sk_69 (h := h7) sh7) ?_
          refine e_c 1 o_257_70 rfl ?_
          refine e_bin o_257_71 rfl ?_
          refine e_pI o_257_72 (sk_69 (h := h7) sh7) ?_
          refine e_al o_257_75 rfl ?_
          refine e_gI o_257_76 (sk_69 (h := h7) sh7) ?_
          refine e_c 1 o_257_79 rfl ?_
          refine e_bin o_257_80 rfl ?_
          exact e_retI o_257_81 k
        · have k := k.2 z
          refine e_c (-1) o_257_33 rfl ?_
          exact e_retI o_257_34 k
set_option maxHeartbeats 4000000 in
set_option maxRecDepth 100000 in
theorem B_258_0  {h : XH} {Q : Value → XH → Prop} (hs : Sh h) (k : Q (.int (xI h 69 71)) (xsI h 69 71 0)) : Ev 258 0 (x_ini 258 [.ref 69]) [] h Q := by
  rw [show x_ini 258 [.ref 69] = [.ref 69, .null] from x_inid ml_258 rfl]
  refine e_al o_258_0 rfl ?_
  refine e_gI o_258_1 (sk_69 (h := h) hs) ?_
  refine e_is (ls' := [.ref 69, .int (xI h 69 71)]) o_258_4 (Nat.le_of_ble_eq_true rfl) rfl ?_
  refine e_al o_258_5 rfl ?_
  refine e_c 0 o_258_6 rfl ?_
  refine e_pI o_258_7 (sk_69 (h := h) hs) ?_
  refine e_il o_258_10 rfl ?_
  exact e_retI o_258_11 k
set_option maxHeartbeats 4000000 in
set_option maxRecDepth 100000 in
theorem B_259_0 {x1 : Int32} {x2 : Int32} {h : XH} {Q : Value → XH → Prop} (hs : Sh h) (k : ClI 260 [.ref 69, .int x1] h (fun v2 h1 => Sh h1 ∧ (((v2 = 0) → Q (.int (-1)) h1) ∧ (¬ (v2 = 0) → (((-1) ≤ x2) → Ev 259 20 [.ref 69, .int x1, .int x2, .int 0, .int 0] [] h1 Q) ∧ (¬ ((-1) ≤ x2) → Q (.int (-1)) h1))))) : Ev 259 0 (x_ini 259 [.ref 69, .int x1, .int x2]) [] h Q := by
  rw [show x_ini 259 [.ref 69, .int x1, .int x2] = [.ref 69, .int x1, .int x2, .null, .null] from x_inid ml_259 rfl]
  refine e_al o_259_0 rfl ?_
  refine e_il o_259_1 rfl ?_
  refine e_clI (as := [.ref 69, .int x1]) (rest := []) o_259_2 rfl rfl (x_okd cl_259_260 ml_260 (Nat.le_of_ble_eq_true rfl) (Nat.le_of_ble_eq_true rfl)) (x_rc0 (ci := 9) (sk_69 (h := h) hs) mo_260) k ?_
  rintro v2 h1 ⟨sh1, k⟩
  refine e_i0_0 o_259_5 (fun z => ?_) (fun z => ?_)
  · have k := k.1 z
    refine e_c (-1) o_259_13 rfl ?_
    exact e_retI o_259_14 k
  · have k := k.2 z
    refine e_il o_259_8 rfl ?_
    refine e_c (-1) o_259_9 rfl ?_
    refine e_if_3 o_259_10 (fun z => ?_) (fun z => ?_)
    · have k := k.1 z
      refine e_c 0 o_259_15 rfl ?_
      refine e_is (ls' := [.ref 69, .int x1, .int x2, .int 0, .null]) o_259_16 (Nat.le_of_ble_eq_true rfl) rfl ?_
      refine e_c 0 o_259_17 rfl ?_
      refine e_is (ls' := [.ref 69, .int x1, .int x2, .int 0, .int 0]) o_259_18 (Nat.le_of_ble_eq_true rfl) rfl ?_
      exact Ev.less (ls := [.ref 69, .int x1, .int x2, .int 0, .int 0]) ⟨Or.inr rfl, Or.inr rfl, Or.inr rfl, Or.inr rfl, Or.inr rfl, trivial⟩ k
    · have k := k.2 z
      refine e_c (-1) o_259_13 rfl ?_
      exact e_retI o_259_14 k
set_option maxHeartbeats 4000000 in
set_option maxRecDepth 100000 in
theorem B_259_20 {x1 : Int32} {x2 : Int32} {x3 : Int32} {x4 : Int32} {h : XH} {Q : Value → XH → Prop} (hs : Sh h) (k : InB (xI h 69 18) 2 ∧ ((((xI h 83 (tn (xI h 69 18))) ≤ x4) → ((¬ x2 = (-1)) → Q (.int (-1)) h) ∧ (¬ (¬ x2 = (-1)) → Q (.int x3) h)) ∧ (¬ ((xI h 83 (tn (xI h 69 18))) ≤ x4) → ClI 261 [.ref 69, .int x4, .int x1] h (fun v2 h1 => Sh h1 ∧ (((¬ v2 = 0) → ((¬ x3 = x2) → Ev 259 20 [.ref 69, .int x1, .int x2, .int (x3 + 1), .int (x4 + 1)] [] h1 Q) ∧ (¬ (¬ x3 = x2) → Q (.int x4) h1)) ∧ (¬ (¬ v2 = 0) → Ev 259 20 [.ref 69, .int x1, .int x2, .int x3, .int (x4 + 1)] [] h1 Q)))))) : Ev 259 20 [.ref 69, .int x1, .int x2, .int x3, .int x4] [] h Q := by
  refine e_il o_259_20 rfl ?_
  refine e_al o_259_22 rfl ?_
  refine e_gR (r := 83) o_259_23 (sk_69 (h := h) hs) (sr_69_27 (h := h) hs) (by decide) ?_
  refine e_al o_259_26 rfl ?_
  refine e_gI o_259_27 (sk_69 (h := h) hs) ?_
  obtain ⟨q, k⟩ := k
  refine e_ia (n := 2) o_259_30 (sk_83 (h := h) hs) (sn_83 (h := h) hs) q ?_
  refine e_if_3 o_259_31 (fun z => ?_) (fun z => ?_)
  · have k := k.1 z
    refine e_il o_259_64 rfl ?_
    refine e_c (-1) o_259_65 rfl ?_
    refine e_if_1 o_259_66 (fun z => ?_) (fun z => ?_)
    · have k := k.1 z
      refine e_c (-1) o_259_73 rfl ?_
      exact e_retI o_259_74 k
    · have k := k.2 z
      refine e_il o_259_69 rfl ?_
      refine e_go o_259_70 ?_
      exact e_retI o_259_74 k
  · have k := k.2 z
    refine e_al o_259_34 rfl ?_
    refine e_il o_259_35 rfl ?_
    refine e_il o_259_37 rfl ?_
    refine e_clI (as := [.ref 69, .int x4, .int x1]) (rest := []) o_259_38 rfl rfl (x_okd cl_259_261 ml_261 (Nat.le_of_ble_eq_true rfl) (Nat.le_of_ble_eq_true rfl)) (x_rc0 (ci := 9) (sk_69 (h := h) hs) mo_261) k ?_
    rintro v2 h1 ⟨sh1, k⟩
    refine e_i0_1 o_259_41 (fun z => ?_) (fun z => ?_)
    · have k := k.1 z
      refine e_il o_259_47 rfl ?_
      refine e_il o_259_48 rfl ?_
      refine e_if_1 o_259_49 (fun z => ?_) (fun z => ?_)
      · have k := k.1 z
        refine e_inc (ls' := [.ref 69, .int x1, .int x2, .int (x3 + 1), .int x4]) o_259_55 rfl rfl rfl ?_
        refine e_inc (ls' := [.ref 69, .int x1, .int x2, .int (x3 + 1), .int (x4 + 1)]) o_259_58 rfl rfl rfl ?_
        refine e_go o_259_61 ?_
        exact Ev.less (ls := [.ref 69, .int x1, .int x2, .int (x3 + 1), .int (x4 + 1)]) ⟨Or.inr rfl, Or.inr rfl, Or.inr rfl, Or.inr rfl, Or.inr rfl, trivial⟩ k
      · have k := k.2 z
        refine e_il o_259_52 rfl ?_
        exact e_retI o_259_54 k
    · have k := k.2 z
      refine e_go o_259_44 ?_
      refine e_inc (ls' := [.ref 69, .int x1, .int x2, .int x3, .int (x4 + 1)]) o_259_58 rfl rfl rfl ?_
      refine e_go o_259_61 ?_
      exact Ev.less (ls := [.ref 69, .int x1, .int x2, .int x3, .int (x4 + 1)]) ⟨Or.inr rfl, Or.inr rfl, Or.inr rfl, Or.inr rfl, Or.inr rfl, trivial⟩ k
set_option maxHeartbeats 4000000 in
set_option maxRecDepth 100000 in
theorem B_260_0 {x1 : Int32} {h : XH} {Q : Value → XH → Prop} (hs : Sh h) (k : ClI 207 [.int x1, .int 0, .int (xI h 69 71)] h (fun v2 h1 => Sh h1 ∧ ((v2 = 0 ∨ v2 = 1) ∧ Q (.int v2) h1))) : Ev 260 0 (x_ini 260 [.ref 69, .int x1]) [] h Q := by
  rw [show x_ini 260 [.ref 69, .int x1] = [.ref 69, .int x1] from x_inid ml_260 rfl]
  refine e_il o_260_0 rfl ?_
  refine e_c 0 o_260_1 rfl ?_
  refine e_al o_260_2 rfl ?_
  refine e_gI o_260_3 (sk_69 (h := h) hs) ?_
  refine e_clI (as := [.int x1, .int 0, .int (xI h 69 71)]) (rest := []) o_260_6 rfl rfl (x_okd cl_260_207 ml_207 (Nat.le_of_ble_eq_true rfl) (Nat.le_of_ble_eq_true rfl)) (rfl) k ?_
  rintro v2 h1 ⟨sh1, k⟩
  exact e_retZ o_260_9 k.1 k.2
set_option maxHeartbeats 4000000 in
set_option maxRecDepth 100000 in
theorem B_261_0 {x1 : Int32} {x2 : Int32} {h : XH} {Q : Value → XH → Prop} (hs : Sh h) (k : ClV 162 [.ref 69, .int x1] h (fun h1 => Sh h1 ∧ (Ev 261 10 [.ref 69, .null, .int x2, .int (-1), .int 0, .null] [] h1 Q))) : Ev 261 0 (x_ini 261 [.ref 69, .int x1, .int x2]) [] h Q := by
  rw [show x_ini 261 [.ref 69, .int x1, .int x2] = [.ref 69, .int x1, .int x2, .null, .null, .null] from x_inid ml_261 rfl]
  refine e_al o_261_0 rfl ?_
  refine e_il o_261_1 rfl ?_
  refine e_clV (as := [.ref 69, .int x1]) (rest := []) o_261_2 rfl rfl (x_okd cl_261_162 ml_162 (Nat.le_of_ble_eq_true rfl) (Nat.le_of_ble_eq_true rfl)) (x_rc0 (ci := 9) (sk_69 (h := h) hs) mo_162) k ?_
  rintro h1 ⟨sh1, k⟩
  refine e_c (-1) o_261_5 rfl ?_
  refine e_is (ls' := [.ref 69, .int x1, .int x2, .int (-1), .null, .null]) o_261_6 (Nat.le_of_ble_eq_true rfl) rfl ?_
  refine e_c 0 o_261_7 rfl ?_
  refine e_is (ls' := [.ref 69, .int x1, .int x2, .int (-1), .int 0, .null]) o_261_8 (Nat.le_of_ble_eq_true rfl) rfl ?_
  exact Ev.less (ls := [.ref 69, .null, .int x2, .int (-1), .int 0, .null]) ⟨Or.inr rfl, Or.inl rfl, Or.inr rfl, Or.inr rfl, Or.inr rfl, Or.inl rfl, trivial⟩ k
set_option maxHeartbeats 4000000 in
set_option maxRecDepth 100000 in
theorem B_261_10 {x2 : Int32} {x3 : Int32} {x4 : Int32} {h : XH} {Q : Value → XH → Prop} (hs : Sh h) (k : ((x2 ≤ x4) → Ev 261 44 [.ref 69, .null, .int x2, .int x3, .int 0, .null] [] h Q) ∧ (¬ (x2 ≤ x4) → InB x4 20 ∧ ((((xI h 119 (tn x4)) ≤ x3) → Ev 261 10 [.ref 69, .null, .int x2, .int x3, .int (x4 + 1), .null] [] h Q) ∧ (¬ ((xI h 119 (tn x4)) ≤ x3) → InB x4 20 ∧ (Ev 261 10 [.ref 69, .null, .int x2, .int (xI h 119 (tn x4)), .int (x4 + 1), .null] [] h Q))))) : Ev 261 10 [.ref 69, .null, .int x2, .int x3, .int x4, .null] [] h Q := by
  refine e_il o_261_10 rfl ?_
  refine e_il o_261_12 rfl ?_
  refine e_if_3 o_261_13 (fun z => ?_) (fun z => ?_)
  · have k := k.1 z
    refine e_c 0 o_261_41 rfl ?_
    refine e_is (ls' := [.ref 69, .null, .int x2, .int x3, .int 0, .null]) o_261_42 (Nat.le_of_ble_eq_true rfl) rfl ?_
    exact Ev.less (ls := [.ref 69, .null, .int x2, .int x3, .int 0, .null]) ⟨Or.inr rfl, Or.inl rfl, Or.inr rfl, Or.inr rfl, Or.inr rfl, Or.inl rfl, trivial⟩ k
  · have k := k.2 z
    refine e_al o_261_16 rfl ?_
    refine e_gR (r := 119) o_261_17 (sk_69 (h := h) hs) (sr_69_73 (h := h) hs) (by decide) ?_
    refine e_il o_261_20 rfl ?_
    obtain ⟨q, k⟩ := k
    refine e_ia (n := 20) o_261_22 (sk_119 (h := h) hs) (sn_119 (h := h) hs) q ?_
    refine e_il o_261_23 rfl ?_
    refine e_if_5 o_261_24 (fun z => ?_) (fun z => ?_)
    · have k := k.1 z
      refine e_inc (ls' := [.ref 69, .null, .int x2, .int x3, .int (x4 + 1), .null]) o_261_35 rfl rfl rfl ?_
      refine e_go o_261_38 ?_
      exact Ev.less (ls := [.ref 69, .null, .int x2, .int x3, .int (x4 + 1), .null]) ⟨Or.inr rfl, Or.inl rfl, Or.inr rfl, Or.inr rfl, Or.inr rfl, Or.inl rfl, trivial⟩ k
    · have k := k.2 z
      refine e_al o_261_27 rfl ?_
      refine e_gR (r := 119) o_261_28 (sk_69 (h := h) hs) (sr_69_73 (h := h) hs) (by decide) ?_
      refine e_il o_261_31 rfl ?_
      obtain ⟨q, k⟩ := k
      refine e_ia (n := 20) o_261_33 (sk_119 (h := h) hs) (sn_119 (h := h) hs) q ?_
      refine e_is (ls' := [.ref 69, .null, .int x2, .int (xI h 119 (tn x4)), .int x4, .null]) o_261_34 (Nat.le_of_ble_eq_true rfl) rfl ?_
      refine e_inc (ls' := [.ref 69, .null, .int x2, .int (xI h 119 (tn x4)), .int (x4 + 1), .null]) o_261_35 rfl rfl rfl ?_
      refine e_go o_261_38 ?_
      exact Ev.less (ls := [.ref 69, .null, .int x2, .int (xI h 119 (tn x4)), .int (x4 + 1), .null]) ⟨Or.inr rfl, Or.inl rfl, Or.inr rfl, Or.inr rfl, Or.inr rfl, Or.inl rfl, trivial⟩ k
set_option maxHeartbeats 4000000 in
set_option maxRecDepth 100000 in
theorem B_261_44 {x2 : Int32} {x3 : Int32} {x4 : Int32} {h : XH} {Q : Value → XH → Prop} (hs : Sh h) (k : ((x3 < x4) → Q (.int 1) h) ∧ (¬ (x3 < x4) → Ev 261 53 [.ref 69, .null, .int x2, .int x3, .int x4, .int 0] [] h Q)) : Ev 261 44 [.ref 69, .null, .int x2, .int x3, .int x4, .null] [] h Q := by
  refine e_il o_261_44 rfl ?_
  refine e_il o_261_46 rfl ?_
  refine e_if_4 o_261_47 (fun z => ?_) (fun z => ?_)
  · have k := k.1 z
    refine e_c 1 o_261_114 rfl ?_
    exact e_retZ o_261_115 (by decide) k
  · have k := k.2 z
    refine e_c 0 o_261_50 rfl ?_
    refine e_is (ls' := [.ref 69, .null, .int x2, .int x3, .int x4, .int 0]) o_261_51 (Nat.le_of_ble_eq_true rfl) rfl ?_
    exact Ev.less (ls := [.ref 69, .null, .int x2, .int x3, .int x4, .int 0]) ⟨Or.inr rfl, Or.inl rfl, Or.inr rfl, Or.inr rfl, Or.inr rfl, Or.inr rfl, trivial⟩ k
set_option maxHeartbeats 4000000 in
set_option maxRecDepth 100000 in
theorem B_261_53 {x2 : Int32} {x3 : Int32} {x4 : Int32} {x5 : Int32} {h : XH} {Q : Value → XH → Prop} (hs : Sh h) (k : ((x2 ≤ x5) → ClV 214 [.ref 69] h (fun h1 => Sh h1 ∧ (Ev 261 44 [.ref 69, .null, .int x2, .int x3, .int (x4 + 1), .null] [] h1 Q))) ∧ (¬ (x2 ≤ x5) → InB x5 20 ∧ (((¬ (xI h 119 (tn x5)) = x4) → Ev 261 53 [.ref 69, .null, .int x2, .int x3, .int x4, .int (x5 + 1)] [] h Q) ∧ (¬ (¬ (xI h 119 (tn x5)) = x4) → InB x5 20 ∧ (InB (8 + (xI h 118 (tn x5))) 20 ∧ (InB x5 20 ∧ ((((xI h 109 (tn (8 + (xI h 118 (tn x5))))) = (xI h 120 (tn x5))) → Ev 261 53 [.ref 69, .null, .int x2, .int x3, .int x4, .int (x5 + 1)] [] h Q) ∧ (¬ ((xI h 109 (tn (8 + (xI h 118 (tn x5))))) = (xI h 120 (tn x5))) → Q (.int 0) h)))))))) : Ev 261 53 [.ref 69, .null, .int x2, .int x3, .int x4, .int x5] [] h Q := by
  refine e_il o_261_53 rfl ?_
  refine e_il o_261_55 rfl ?_
  refine e_if_3 o_261_56 (fun z => ?_) (fun z => ?_)
  · have k := k.1 z
    refine e_al o_261_104 rfl ?_
    refine e_clV (as := [.ref 69]) (rest := []) o_261_105 rfl rfl (x_okd cl_261_214 ml_214 (Nat.le_of_ble_eq_true rfl) (Nat.le_of_ble_eq_true rfl)) (x_rc0 (ci := 9) (sk_69 (h := h) hs) mo_214) k ?_
    rintro h1 ⟨sh1, k⟩
    refine e_inc (ls' := [.ref 69, .null, .int x2, .int x3, .int (x4 + 1), .int x5]) o_261_108 rfl rfl rfl ?_
    refine e_go o_261_111 ?_
    exact Ev.less (ls := [.ref 69, .null, .int x2, .int x3, .int (x4 + 1), .null]) ⟨Or.inr rfl, Or.inl rfl, Or.inr rfl, Or.inr rfl, Or.inr rfl, Or.inl rfl, trivial⟩ k
  · have k := k.2 z
    refine e_al o_261_59 rfl ?_
    refine e_gR (r := 119) o_261_60 (sk_69 (h := h) hs) (sr_69_73 (h := h) hs) (by decide) ?_
    refine e_il o_261_63 rfl ?_
    obtain ⟨q, k⟩ := k
    refine e_ia (n := 20) o_261_65 (sk_119 (h := h) hs) (sn_119 (h := h) hs) q ?_
    refine e_il o_261_66 rfl ?_
    refine e_if_1 o_261_68 (fun z => ?_) (fun z => ?_)
    · have k := k.1 z
      refine e_inc (ls' := [.ref 69, .null, .int x2, .int x3, .int x4, .int (x5 + 1)]) o_261_98 rfl rfl rfl ?_
      refine e_go o_261_101 ?_
      exact Ev.less (ls := [.ref 69, .null, .int x2, .int x3, .int x4, .int (x5 + 1)]) ⟨Or.inr rfl, Or.inl rfl, Or.inr rfl, Or.inr rfl, Or.inr rfl, Or.inr rfl, trivial⟩ k
    · have k := k.2 z
      refine e_al o_261_71 rfl ?_
      refine e_gR (r := 109) o_261_72 (sk_69 (h := h) hs) (sr_69_60 (h := h) hs) (by decide) ?_
      refine e_c 8 o_261_75 rfl ?_
      refine e_al o_261_77 rfl ?_
      refine e_gR (r := 118) o_261_78 (sk_69 (h := h) hs) (sr_69_72 (h := h) hs) (by decide) ?_
      refine e_il o_261_81 rfl ?_
      obtain ⟨q, k⟩ := k
      refine e_ia (n := 20) o_261_83 (sk_118 (h := h) hs) (sn_118 (h := h) hs) q ?_
      refine e_bin o_261_84 rfl ?_
      obtain ⟨q, k⟩ := k
      refine e_ia (n := 20) o_261_85 (sk_109 (h := h) hs) (sn_109 (h := h) hs) q ?_
      refine e_al o_261_86 rfl ?_
      refine e_gR (r := 120) o_261_87 (sk_69 (h := h) hs) (sr_69_74 (h := h) hs) (by decide) ?_
      refine e_il o_261_90 rfl ?_
      obtain ⟨q, k⟩ := k
      refine e_ia (n := 20) o_261_92 (sk_120 (h := h) hs) (sn_120 (h := h) hs) q ?_
      refine e_if_0 o_261_93 (fun z => ?_) (fun z => ?_)
      · have k := k.1 z
        refine e_inc (ls' := [.ref 69, .null, .int x2, .int x3, .int x4, .int (x5 + 1)]) o_261_98 rfl rfl rfl ?_
        refine e_go o_261_101 ?_
        exact Ev.less (ls := [.ref 69, .null, .int x2, .int x3, .int x4, .int (x5 + 1)]) ⟨Or.inr rfl, Or.inl rfl, Or.inr rfl, Or.inr rfl, Or.inr rfl, Or.inr rfl, trivial⟩ k
      · have k := k.2 z
        refine e_c 0 o_261_96 rfl ?_
        exact e_retZ o_261_97 (by decide) k
set_option maxHeartbeats 4000000 in
set_option maxRecDepth 100000 in
theorem B_262_0 {x1 : Int32} {h : XH} {Q : Value → XH → Prop} (hs : Sh h) (k : ClI 260 [.ref 69, .int x1] h (fun v2 h1 => Sh h1 ∧ (((¬ v2 = 0) → Ev 262 17 [.ref 69, .int x1, .int (-1), .int 0, .int 0, .null] [] h1 Q) ∧ (¬ (¬ v2 = 0) → Q (.int (-1)) h1)))) : Ev 262 0 (x_ini 262 [.ref 69, .int x1]) [] h Q := by
  rw [show x_ini 262 [.ref 69, .int x1] = [.ref 69, .int x1, .null, .null, .null, .null] from x_inid ml_262 rfl]
  refine e_al o_262_0 rfl ?_
  refine e_il o_262_1 rfl ?_
  refine e_clI (as := [.ref 69, .int x1]) (rest := []) o_262_2 rfl rfl (x_okd cl_262_260 ml_260 (Nat.le_of_ble_eq_true rfl) (Nat.le_of_ble_eq_true rfl)) (x_rc0 (ci := 9) (sk_69 (h := h) hs) mo_260) k ?_
  rintro v2 h1 ⟨sh1, k⟩
  refine e_i0_1 o_262_5 (fun z => ?_) (fun z => ?_)
  · have k := k.1 z
    refine e_c (-1) o_262_10 rfl ?_
    refine e_is (ls' := [.ref 69, .int x1, .int (-1), .null, .null, .null]) o_262_11 (Nat.le_of_ble_eq_true rfl) rfl ?_
    refine e_c 0 o_262_12 rfl ?_
    refine e_is (ls' := [.ref 69, .int x1, .int (-1), .int 0, .null, .null]) o_262_13 (Nat.le_of_ble_eq_true rfl) rfl ?_
    refine e_c 0 o_262_14 rfl ?_
    refine e_is (ls' := [.ref 69, .int x1, .int (-1), .int 0, .int 0, .null]) o_262_15 (Nat.le_of_ble_eq_true rfl) rfl ?_
    exact Ev.less (ls := [.ref 69, .int x1, .int (-1), .int 0, .int 0, .null]) ⟨Or.inr rfl, Or.inr rfl, Or.inr rfl, Or.inr rfl, Or.inr rfl, Or.inl rfl, trivial⟩ k
  · have k := k.2 z
    refine e_c (-1) o_262_8 rfl ?_
    exact e_retI o_262_9 k
set_option maxHeartbeats 4000000 in
set_option maxRecDepth 100000 in
theorem B_262_17 {x1 : Int32} {x2 : Int32} {x3 : Int32} {x4 : Int32} {h : XH} {Q : Value → XH → Prop} (hs : Sh h) (k : InB (xI h 69 18) 2 ∧ ((((xI h 83 (tn (xI h 69 18))) ≤ x4) → Q (.int x3) h) ∧ (¬ ((xI h 83 (tn (xI h 69 18))) ≤ x4) → ClI 261 [.ref 69, .int x4, .int x1] h (fun v2 h1 => Sh h1 ∧ (((¬ v2 = 0) → ((0 ≤ x2) → Ev 262 68 [.ref 69, .int x1, .int x2, .int x3, .int x4, .int 0] [] h1 Q) ∧ (¬ (0 ≤ x2) → InB (xI h1 69 18) 2 ∧ (Ev 262 68 [.ref 69, .int x1, .int x4, .int ((1 <<< ((xI h1 79 (tn (xI h1 69 18))) &&& 31)) - 1), .int x4, .int 0] [] h1 Q))) ∧ (¬ (¬ v2 = 0) → Ev 262 17 [.ref 69, .int x1, .int x2, .int x3, .int (x4 + 1), .null] [] h1 Q)))))) : Ev 262 17 [.ref 69, .int x1, .int x2, .int x3, .int x4, .null] [] h Q := by
  refine e_il o_262_17 rfl ?_
  refine e_al o_262_19 rfl ?_
  refine e_gR (r := 83) o_262_20 (sk_69 (h := h) hs) (sr_69_27 (h := h) hs) (by decide) ?_
  refine e_al o_262_23 rfl ?_
  refine e_gI o_262_24 (sk_69 (h := h) hs) ?_
  obtain ⟨q, k⟩ := k
  refine e_ia (n := 2) o_262_27 (sk_83 (h := h) hs) (sn_83 (h := h) hs) q ?_
  refine e_if_3 o_262_28 (fun z => ?_) (fun z => ?_)
  · have k := k.1 z
    refine e_il o_262_121 rfl ?_
    exact e_retI o_262_122 k
  · have k := k.2 z
    refine e_al o_262_31 rfl ?_
    refine e_il o_262_32 rfl ?_
    refine e_il o_262_34 rfl ?_
    refine e_clI (as := [.ref 69, .int x4, .int x1]) (rest := []) o_262_35 rfl rfl (x_okd cl_262_261 ml_261 (Nat.le_of_ble_eq_true rfl) (Nat.le_of_ble_eq_true rfl)) (x_rc0 (ci := 9) (sk_69 (h := h) hs) mo_261) k ?_
    rintro v2 h1 ⟨sh1, k⟩
    refine e_i0_1 o_262_38 (fun z => ?_) (fun z => ?_)
    · have k := k.1 z
      refine e_il o_262_44 rfl ?_
      refine e_i0_3 o_262_45 (fun z => ?_) (fun z => ?_)
      · have k := k.1 z
        refine e_c 0 o_262_65 rfl ?_
        refine e_is (ls' := [.ref 69, .int x1, .int x2, .int x3, .int x4, .int 0]) o_262_66 (Nat.le_of_ble_eq_true rfl) rfl ?_
        exact Ev.less (ls := [.ref 69, .int x1, .int x2, .int x3, .int x4, .int 0]) ⟨Or.inr rfl, Or.inr rfl, Or.inr rfl, Or.inr rfl, Or.inr rfl, Or.inr rfl, trivial⟩ k
      · have k := k.2 z
        refine e_il o_262_48 rfl ?_
        refine e_is (ls' := [.ref 69, .int x1, .int x4, .int x3, .int x4, .null]) o_262_50 (Nat.le_of_ble_eq_true rfl) rfl ?_
        refine e_c 1 o_262_51 rfl ?_
        refine e_al o_262_52 rfl ?_
        refine e_gR (r := 79) o_262_53 (sk_69 (h := h1) sh1) (sr_69_23 (h := h1) sh1) (by decide) ?_
        refine e_al o_262_56 rfl ?_
        refine e_gI o_262_57 (sk_69 (h := h1) sh1) ?_
        obtain ⟨q, k⟩ := k
        refine e_ia (n := 2) o_262_60 (sk_79 (h := h1) sh1) (sn_79 (h := h1) sh1) q ?_
        refine e_bin o_262_61 rfl ?_
        refine e_c 1 o_262_62 rfl ?_
        refine e_bin o_262_63 rfl ?_
        refine e_is (ls' := [.ref 69, .int x1, .int x4, .int ((1 <<< ((xI h1 79 (tn (xI h1 69 18))) &&& 31)) - 1), .int x4, .null]) o_262_64 (Nat.le_of_ble_eq_true rfl) rfl ?_
        refine e_c 0 o_262_65 rfl ?_
        refine e_is (ls' := [.ref 69, .int x1, .int x4, .int ((1 <<< ((xI h1 79 (tn (xI h1 69 18))) &&& 31)) - 1), .int x4, .int 0]) o_262_66 (Nat.le_of_ble_eq_true rfl) rfl ?_
        exact Ev.less (ls := [.ref 69, .int x1, .int x4, .int ((1 <<< ((xI h1 79 (tn (xI h1 69 18))) &&& 31)) - 1), .int x4, .int 0]) ⟨Or.inr rfl, Or.inr rfl, Or.inr rfl, Or.inr rfl, Or.inr rfl, Or.inr rfl, trivial⟩ k
    · have k := k.2 z
      refine e_go o_262_41 ?_
      refine e_inc (ls' := [.ref 69, .int x1, .int x2, .int x3, .int (x4 + 1), .null]) o_262_115 rfl rfl rfl ?_
      refine e_go o_262_118 ?_
      exact Ev.less (ls := [.ref 69, .int x1, .int x2, .int x3, .int (x4 + 1), .null]) ⟨Or.inr rfl, Or.inr rfl, Or.inr rfl, Or.inr rfl, Or.inr rfl, Or.inl rfl, trivial⟩ k
set_option maxHeartbeats 4000000 in
set_option maxRecDepth 100000 in
theorem B_262_68 {x1 : Int32} {x2 : Int32} {x3 : Int32} {x4 : Int32} {x5 : Int32} {h : XH} {Q : Value → XH → Prop} (hs : Sh h) (k : InB (xI h 69 18) 2 ∧ ((((xI h 79 (tn (xI h 69 18))) ≤ x5) → Ev 262 17 [.ref 69, .int x1, .int x2, .int x3, .int (x4 + 1), .null] [] h Q) ∧ (¬ ((xI h 79 (tn (xI h 69 18))) ≤ x5) → ClI 236 [.ref 69, .int x4, .int x5] h (fun v2 h1 => Sh h1 ∧ (ClI 236 [.ref 69, .int x2, .int x5] h1 (fun v4 h3 => Sh h3 ∧ (((v2 = v4) → Ev 262 68 [.ref 69, .int x1, .int x2, .int x3, .int x4, .int (x5 + 1)] [] h3 Q) ∧ (¬ (v2 = v4) → Ev 262 68 [.ref 69, .int x1, .int x2, .int (x3 &&& ((1 <<< (x5 &&& 31)) ^^^ (-1))), .int x4, .int (x5 + 1)] [] h3 Q)))))))) : Ev 262 68 [.ref 69, .int x1, .int x2, .int x3, .int x4, .int x5] [] h Q := by
  refine e_il o_262_68 rfl ?_
  refine e_al o_262_70 rfl ?_
  refine e_gR (r := 79) o_262_71 (sk_69 (h := h) hs) (sr_69_23 (h := h) hs) (by decide) ?_
  refine e_al o_262_74 rfl ?_
  refine e_gI o_262_75 (sk_69 (h := h) hs) ?_
  obtain ⟨q, k⟩ := k
  refine e_ia (n := 2) o_262_78 (sk_79 (h := h) hs) (sn_79 (h := h) hs) q ?_
  refine e_if_3 o_262_79 (fun z => ?_) (fun z => ?_)
  · have k := k.1 z
    refine e_inc (ls' := [.ref 69, .int x1, .int x2, .int x3, .int (x4 + 1), .int x5]) o_262_115 rfl rfl rfl ?_
    refine e_go o_262_118 ?_
    exact Ev.less (ls := [.ref 69, .int x1, .int x2, .int x3, .int (x4 + 1), .null]) ⟨Or.inr rfl, Or.inr rfl, Or.inr rfl, Or.inr rfl, Or.inr rfl, Or.inl rfl, trivial⟩ k
  · have k := k.2 z
    refine e_al o_262_82 rfl ?_
    refine e_il o_262_83 rfl ?_
    refine e_il o_262_85 rfl ?_
    refine e_clI (as := [.ref 69, .int x4, .int x5]) (rest := []) o_262_87 rfl rfl (x_okd cl_262_236 ml_236 (Nat.le_of_ble_eq_true rfl) (Nat.le_of_ble_eq_true rfl)) (x_rc0 (ci := 9) (sk_69 (h := h) hs) mo_236) k ?_
    rintro v2 h1 ⟨sh1, k⟩
    refine e_al o_262_90 rfl ?_
    refine e_il o_262_91 rfl ?_
    refine e_il o_262_92 rfl ?_
    refine e_clI (as := [.ref 69, .int x2, .int x5]) (rest := [.int v2]) o_262_94 rfl rfl (x_okd cl_262_236 ml_236 (Nat.le_of_ble_eq_true rfl) (Nat.le_of_ble_eq_true rfl)) (x_rc0 (ci := 9) (sk_69 (h := h1) sh1) mo_236) k ?_
    rintro v4 h3 ⟨sh3, k⟩
    refine e_if_0 o_262_97 (fun z => ?_) (fun z => ?_)
    · have k := k.1 z
      refine e_inc (ls' := [.ref 69, .int x1, .int x2, .int x3, .int x4, .int (x5 + 1)]) o_262_109 rfl rfl rfl ?_
      refine e_go o_262_112 ?_
      exact Ev.less (ls := [.ref 69, .int x1, .int x2, .int x3, .int x4, .int (x5 + 1)]) ⟨Or.inr rfl, Or.inr rfl, Or.inr rfl, Or.inr rfl, Or.inr rfl, Or.inr rfl, trivial⟩ k
    · have k := k.2 z
      refine e_il o_262_100 rfl ?_
      refine e_c 1 o_262_101 rfl ?_
      refine e_il o_262_102 rfl ?_
      refine e_bin o_262_104 rfl ?_
      refine e_c (-1) o_262_105 rfl ?_
      refine e_bin o_262_106 rfl ?_
      refine e_bin o_262_107 rfl ?_
      refine e_is (ls' := [.ref 69, .int x1, .int x2, .int (x3 &&& ((1 <<< (x5 &&& 31)) ^^^ (-1))), .int x4, .int x5]) o_262_108 (Nat.le_of_ble_eq_true rfl) rfl ?_
      refine e_inc (ls' := [.ref 69, .int x1, .int x2, .int (x3 &&& ((1 <<< (x5 &&& 31)) ^^^ (-1))), .int x4, .int (x5 + 1)]) o_262_109 rfl rfl rfl ?_
      refine e_go o_262_112 ?_
      exact Ev.less (ls := [.ref 69, .int x1, .int x2, .int (x3 &&& ((1 <<< (x5 &&& 31)) ^^^ (-1))), .int x4, .int (x5 + 1)]) ⟨Or.inr rfl, Or.inr rfl, Or.inr rfl, Or.inr rfl, Or.inr rfl, Or.inr rfl, trivial⟩ k
set_option maxHeartbeats 4000000 in
set_option maxRecDepth 100000 in
theorem B_263_0 {x1 : Int32} {x2 : Int32} {x3 : Int32} {h : XH} {Q : Value → XH → Prop} (hs : Sh h) (k : ClI 260 [.ref 69, .int x1] h (fun v2 h1 => Sh h1 ∧ (((v2 = 0) → Ev 263 24 [.null, .null, .null, .null, .null, .null, .null, .null, .null, .null] [] h1 Q) ∧ (¬ (v2 = 0) → ClI 251 [.int x2] h1 (fun v4 h3 => Sh h3 ∧ (((v4 = 0) → Ev 263 24 [.null, .null, .null, .null, .null, .null, .null, .null, .null, .null] [] h3 Q) ∧ (¬ (v4 = 0) → ClI 207 [.int x3, .int 0, .int 1] h3 (fun v6 h5 => Sh h5 ∧ (((¬ v6 = 0) → Ev 263 29 [.ref 69, .int x1, .int x2, .int x3, .int 0, .null, .null, .null, .null, .null] [] h5 Q) ∧ (¬ (¬ v6 = 0) → Ev 263 24 [.null, .null, .null, .null, .null, .null, .null, .null, .null, .null] [] h5 Q)))))))))) : Ev 263 0 (x_ini 263 [.ref 69, .int x1, .int x2, .int x3]) [] h Q := by
  rw [show x_ini 263 [.ref 69, .int x1, .int x2, .int x3] = [.ref 69, .int x1, .int x2, .int x3, .null, .null, .null, .null, .null, .null] from x_inid ml_263 rfl]
  refine e_al o_263_0 rfl ?_
  refine e_il o_263_1 rfl ?_
  refine e_clI (as := [.ref 69, .int x1]) (rest := []) o_263_2 rfl rfl (x_okd cl_263_260 ml_260 (Nat.le_of_ble_eq_true rfl) (Nat.le_of_ble_eq_true rfl)) (x_rc0 (ci := 9) (sk_69 (h := h) hs) mo_260) k ?_
  rintro v2 h1 ⟨sh1, k⟩
  refine e_i0_0 o_263_5 (fun z => ?_) (fun z => ?_)
  · have k := k.1 z
    exact Ev.less (ls := [.null, .null, .null, .null, .null, .null, .null, .null, .null, .null]) ⟨Or.inl rfl, Or.inl rfl, Or.inl rfl, Or.inl rfl, Or.inl rfl, Or.inl rfl, Or.inl rfl, Or.inl rfl, Or.inl rfl, Or.inl rfl, trivial⟩ k
  · have k := k.2 z
    refine e_il o_263_8 rfl ?_
    refine e_clI (as := [.int x2]) (rest := []) o_263_9 rfl rfl (x_okd cl_263_251 ml_251 (Nat.le_of_ble_eq_true rfl) (Nat.le_of_ble_eq_true rfl)) (rfl) k ?_
    rintro v4 h3 ⟨sh3, k⟩
    refine e_i0_0 o_263_12 (fun z => ?_) (fun z => ?_)
    · have k := k.1 z
      exact Ev.less (ls := [.null, .null, .null, .null, .null, .null, .null, .null, .null, .null]) ⟨Or.inl rfl, Or.inl rfl, Or.inl rfl, Or.inl rfl, Or.inl rfl, Or.inl rfl, Or.inl rfl, Or.inl rfl, Or.inl rfl, Or.inl rfl, trivial⟩ k
    · have k := k.2 z
      refine e_il o_263_15 rfl ?_
      refine e_c 0 o_263_16 rfl ?_
      refine e_c 1 o_263_17 rfl ?_
      refine e_clI (as := [.int x3, .int 0, .int 1]) (rest := []) o_263_18 rfl rfl (x_okd cl_263_207 ml_207 (Nat.le_of_ble_eq_true rfl) (Nat.le_of_ble_eq_true rfl)) (rfl) k ?_
      rintro v6 h5 ⟨sh5, k⟩
      refine e_i0_1 o_263_21 (fun z => ?_) (fun z => ?_)
      · have k := k.1 z
        refine e_c 0 o_263_26 rfl ?_
        refine e_is (ls' := [.ref 69, .int x1, .int x2, .int x3, .int 0, .null, .null, .null, .null, .null]) o_263_27 (Nat.le_of_ble_eq_true rfl) rfl ?_
        exact Ev.less (ls := [.ref 69, .int x1, .int x2, .int x3, .int 0, .null, .null, .null, .null, .null]) ⟨Or.inr rfl, Or.inr rfl, Or.inr rfl, Or.inr rfl, Or.inr rfl, Or.inl rfl, Or.inl rfl, Or.inl rfl, Or.inl rfl, Or.inl rfl, trivial⟩ k
      · have k := k.2 z
        exact Ev.less (ls := [.null, .null, .null, .null, .null, .null, .null, .null, .null, .null]) ⟨Or.inl rfl, Or.inl rfl, Or.inl rfl, Or.inl rfl, Or.inl rfl, Or.inl rfl, Or.inl rfl, Or.inl rfl, Or.inl rfl, Or.inl rfl, trivial⟩ k
set_option maxHeartbeats 4000000 in
set_option maxRecDepth 100000 in
theorem B_263_24  {h : XH} {Q : Value → XH → Prop} (hs : Sh h) (k : Q (.int (-1)) h) : Ev 263 24 [.null, .null, .null, .null, .null, .null, .null, .null, .null, .null] [] h Q := by
  refine e_c (-1) o_263_24 rfl ?_
  exact e_retI o_263_25 k
set_option maxHeartbeats 4000000 in
set_option maxRecDepth 100000 in
theorem B_263_29 {x1 : Int32} {x2 : Int32} {x3 : Int32} {x4 : Int32} {h : XH} {Q : Value → XH → Prop} (hs : Sh h) (k : ((30 ≤ x4) → Ev 263 56 [.ref 69, .int x1, .int x2, .int x3, .int 0, .int 0, .null, .null, .null, .null] [] h Q) ∧ (¬ (30 ≤ x4) → InB x4 30 ∧ (Ev 263 29 [.ref 69, .int x1, .int x2, .int x3, .int (x4 + 1), .null, .null, .null, .null, .null] [] (xsI h 121 (tn x4) 0) Q))) : Ev 263 29 [.ref 69, .int x1, .int x2, .int x3, .int x4, .null, .null, .null, .null, .null] [] h Q := by
  refine e_il o_263_29 rfl ?_
  refine e_c 30 o_263_31 rfl ?_
  refine e_if_3 o_263_33 (fun z => ?_) (fun z => ?_)
  · have k := k.1 z
    refine e_c 0 o_263_50 rfl ?_
    refine e_is (ls' := [.ref 69, .int x1, .int x2, .int x3, .int 0, .null, .null, .null, .null, .null]) o_263_51 (Nat.le_of_ble_eq_true rfl) rfl ?_
    refine e_c 0 o_263_53 rfl ?_
    refine e_is (ls' := [.ref 69, .int x1, .int x2, .int x3, .int 0, .int 0, .null, .null, .null, .null]) o_263_54 (Nat.le_of_ble_eq_true rfl) rfl ?_
    exact Ev.less (ls := [.ref 69, .int x1, .int x2, .int x3, .int 0, .int 0, .null, .null, .null, .null]) ⟨Or.inr rfl, Or.inr rfl, Or.inr rfl, Or.inr rfl, Or.inr rfl, Or.inr rfl, Or.inl rfl, Or.inl rfl, Or.inl rfl, Or.inl rfl, trivial⟩ k
  · have k := k.2 z
    refine e_al o_263_36 rfl ?_
    refine e_gR (r := 121) o_263_37 (sk_69 (h := h) hs) (sr_69_75 (h := h) hs) (by decide) ?_
    refine e_il o_263_40 rfl ?_
    refine e_c 0 o_263_42 rfl ?_
    obtain ⟨q, k⟩ := k
    refine e_ias (n := 30) o_263_43 (sk_121 (h := h) hs) (by decide) (sn_121 (h := h) hs) q ?_
    refine e_inc (ls' := [.ref 69, .int x1, .int x2, .int x3, .int (x4 + 1), .null, .null, .null, .null, .null]) o_263_44 rfl rfl rfl ?_
    refine e_go o_263_47 ?_
    exact Ev.less (ls := [.ref 69, .int x1, .int x2, .int x3, .int (x4 + 1), .null, .null, .null, .null, .null]) ⟨Or.inr rfl, Or.inr rfl, Or.inr rfl, Or.inr rfl, Or.inr rfl, Or.inl rfl, Or.inl rfl, Or.inl rfl, Or.inl rfl, Or.inl rfl, trivial⟩ k
set_option maxHeartbeats 4000000 in
set_option maxRecDepth 100000 in
theorem B_263_56 {x1 : Int32} {x2 : Int32} {x3 : Int32} {x4 : Int32} {x5 : Int32} {h : XH} {Q : Value → XH → Prop} (hs : Sh h) (k : InB (xI h 69 18) 2 ∧ ((((xI h 83 (tn (xI h 69 18))) ≤ x5) → ((¬ x4 = 0) → Ev 263 169 [.ref 69, .null, .null, .int x3, .null, .int (-2), .int (-2), .int 0, .null, .null] [] h Q) ∧ (¬ (¬ x4 = 0) → Q (.int (-2)) h)) ∧ (¬ ((xI h 83 (tn (xI h 69 18))) ≤ x5) → ClI 261 [.ref 69, .int x5, .int x1] h (fun v2 h1 => Sh h1 ∧ (((¬ v2 = 0) → ClV 162 [.ref 69, .int x5] h1 (fun h3 => Sh h3 ∧ (ClV 213 [.ref 69, .int x2] h3 (fun h5 => Sh h5 ∧ (Ev 263 100 [.ref 69, .int x1, .int x2, .int x3, .int (x4 + 1), .int x5, .int 0, .null, .null, .null] [] h5 Q))))) ∧ (¬ (¬ v2 = 0) → Ev 263 144 [.ref 69, .int x1, .int x2, .int x3, .int x4, .int x5, .null, .null, .null, .null] [] h1 Q)))))) : Ev 263 56 [.ref 69, .int x1, .int x2, .int x3, .int x4, .int x5, .null, .null, .null, .null] [] h Q := by
  refine e_il o_263_56 rfl ?_
  refine e_al o_263_58 rfl ?_
  refine e_gR (r := 83) o_263_59 (sk_69 (h := h) hs) (sr_69_27 (h := h) hs) (by decide) ?_
  refine e_al o_263_62 rfl ?_
  refine e_gI o_263_63 (sk_69 (h := h) hs) ?_
  obtain ⟨q, k⟩ := k
  refine e_ia (n := 2) o_263_66 (sk_83 (h := h) hs) (sn_83 (h := h) hs) q ?_
  refine e_if_3 o_263_67 (fun z => ?_) (fun z => ?_)
  · have k := k.1 z
    refine e_il o_263_150 rfl ?_
    refine e_i0_1 o_263_152 (fun z => ?_) (fun z => ?_)
    · have k := k.1 z
      refine e_c (-2) o_263_158 rfl ?_
      refine e_is (ls' := [.ref 69, .int x1, .int x2, .int x3, .int x4, .int (-2), .null, .null, .null, .null]) o_263_160 (Nat.le_of_ble_eq_true rfl) rfl ?_
      refine e_c (-2) o_263_162 rfl ?_
      refine e_is (ls' := [.ref 69, .int x1, .int x2, .int x3, .int x4, .int (-2), .int (-2), .null, .null, .null]) o_263_164 (Nat.le_of_ble_eq_true rfl) rfl ?_
      refine e_c 0 o_263_166 rfl ?_
      refine e_is (ls' := [.ref 69, .int x1, .int x2, .int x3, .int x4, .int (-2), .int (-2), .int 0, .null, .null]) o_263_167 (Nat.le_of_ble_eq_true rfl) rfl ?_
      exact Ev.less (ls := [.ref 69, .null, .null, .int x3, .null, .int (-2), .int (-2), .int 0, .null, .null]) ⟨Or.inr rfl, Or.inl rfl, Or.inl rfl, Or.inr rfl, Or.inl rfl, Or.inr rfl, Or.inr rfl, Or.inr rfl, Or.inl rfl, Or.inl rfl, trivial⟩ k
    · have k := k.2 z
      refine e_c (-2) o_263_155 rfl ?_
      exact e_retI o_263_157 k
  · have k := k.2 z
    refine e_al o_263_70 rfl ?_
    refine e_il o_263_71 rfl ?_
    refine e_il o_263_73 rfl ?_
    refine e_clI (as := [.ref 69, .int x5, .int x1]) (rest := []) o_263_74 rfl rfl (x_okd cl_263_261 ml_261 (Nat.le_of_ble_eq_true rfl) (Nat.le_of_ble_eq_true rfl)) (x_rc0 (ci := 9) (sk_69 (h := h) hs) mo_261) k ?_
    rintro v2 h1 ⟨sh1, k⟩
    refine e_i0_1 o_263_77 (fun z => ?_) (fun z => ?_)
    · have k := k.1 z
      refine e_inc (ls' := [.ref 69, .int x1, .int x2, .int x3, .int (x4 + 1), .int x5, .null, .null, .null, .null]) o_263_83 rfl rfl rfl ?_
      refine e_al o_263_86 rfl ?_
      refine e_il o_263_87 rfl ?_
      refine e_clV (as := [.ref 69, .int x5]) (rest := []) o_263_89 rfl rfl (x_okd cl_263_162 ml_162 (Nat.le_of_ble_eq_true rfl) (Nat.le_of_ble_eq_true rfl)) (x_rc0 (ci := 9) (sk_69 (h := h1) sh1) mo_162) k ?_
      rintro h3 ⟨sh3, k⟩
      refine e_al o_263_92 rfl ?_
      refine e_il o_263_93 rfl ?_
      refine e_clV (as := [.ref 69, .int x2]) (rest := []) o_263_94 rfl rfl (x_okd cl_263_213 ml_213 (Nat.le_of_ble_eq_true rfl) (Nat.le_of_ble_eq_true rfl)) (x_rc0 (ci := 9) (sk_69 (h := h3) sh3) mo_213) k ?_
      rintro h5 ⟨sh5, k⟩
      refine e_c 0 o_263_97 rfl ?_
      refine e_is (ls' := [.ref 69, .int x1, .int x2, .int x3, .int (x4 + 1), .int x5, .int 0, .null, .null, .null]) o_263_98 (Nat.le_of_ble_eq_true rfl) rfl ?_
      exact Ev.less (ls := [.ref 69, .int x1, .int x2, .int x3, .int (x4 + 1), .int x5, .int 0, .null, .null, .null]) ⟨Or.inr rfl, Or.inr rfl, Or.inr rfl, Or.inr rfl, Or.inr rfl, Or.inr rfl, Or.inr rfl, Or.inl rfl, Or.inl rfl, Or.inl rfl, trivial⟩ k
    · have k := k.2 z
      refine e_go o_263_80 ?_
      exact Ev.less (ls := [.ref 69, .int x1, .int x2, .int x3, .int x4, .int x5, .null, .null, .null, .null]) ⟨Or.inr rfl, Or.inr rfl, Or.inr rfl, Or.inr rfl, Or.inr rfl, Or.inr rfl, Or.inl rfl, Or.inl rfl, Or.inl rfl, Or.inl rfl, trivial⟩ k
set_option maxHeartbeats 4000000 in
set_option maxRecDepth 100000 in
theorem B_263_100 {x1 : Int32} {x2 : Int32} {x3 : Int32} {x4 : Int32} {x5 : Int32} {x6 : Int32} {h : XH} {Q : Value → XH → Prop} (hs : Sh h) (k : InB (xI h 69 18) 2 ∧ ((((xI h 84 (tn (xI h 69 18))) ≤ x6) → Ev 263 144 [.ref 69, .int x1, .int x2, .int x3, .int x4, .int x5, .null, .null, .null, .null] [] h Q) ∧ (¬ ((xI h 84 (tn (xI h 69 18))) ≤ x6) → InB (8 + x6) 20 ∧ (InB ((5 * x6) + (xI h 109 (tn (8 + x6)))) 30 ∧ (InB ((5 * x6) + (xI h 109 (tn (8 + x6)))) 30 ∧ (Ev 263 100 [.ref 69, .int x1, .int x2, .int x3, .int x4, .int x5, .int (x6 + 1), .null, .null, .null] [] (xsI h 121 (tn ((5 * x6) + (xI h 109 (tn (8 + x6))))) ((xI h 121 (tn ((5 * x6) + (xI h 109 (tn (8 + x6)))))) + 1)) Q)))))) : Ev 263 100 [.ref 69, .int x1, .int x2, .int x3, .int x4, .int x5, .int x6, .null, .null, .null] [] h Q := by
  refine e_il o_263_100 rfl ?_
  refine e_al o_263_102 rfl ?_
  refine e_gR (r := 84) o_263_103 (sk_69 (h := h) hs) (sr_69_28 (h := h) hs) (by decide) ?_
  refine e_al o_263_106 rfl ?_
  refine e_gI o_263_107 (sk_69 (h := h) hs) ?_
  obtain ⟨q, k⟩ := k
  refine e_ia (n := 2) o_263_110 (sk_84 (h := h) hs) (sn_84 (h := h) hs) q ?_
  refine e_if_3 o_263_111 (fun z => ?_) (fun z => ?_)
  · have k := k.1 z
    exact Ev.less (ls := [.ref 69, .int x1, .int x2, .int x3, .int x4, .int x5, .null, .null, .null, .null]) ⟨Or.inr rfl, Or.inr rfl, Or.inr rfl, Or.inr rfl, Or.inr rfl, Or.inr rfl, Or.inl rfl, Or.inl rfl, Or.inl rfl, Or.inl rfl, trivial⟩ k
  · have k := k.2 z
    refine e_al o_263_114 rfl ?_
    refine e_gR (r := 121) o_263_115 (sk_69 (h := h) hs) (sr_69_75 (h := h) hs) (by decide) ?_
    refine e_c 5 o_263_118 rfl ?_
    refine e_il o_263_119 rfl ?_
    refine e_bin o_263_121 rfl ?_
    refine e_al o_263_122 rfl ?_
    refine e_gR (r := 109) o_263_123 (sk_69 (h := h) hs) (sr_69_60 (h := h) hs) (by decide) ?_
    refine e_c 8 o_263_126 rfl ?_
    refine e_il o_263_128 rfl ?_
    refine e_bin o_263_130 rfl ?_
    obtain ⟨q, k⟩ := k
    refine e_ia (n := 20) o_263_131 (sk_109 (h := h) hs) (sn_109 (h := h) hs) q ?_
    refine e_bin o_263_132 rfl ?_
    refine e_dup2 o_263_133 ⟨rfl, rfl⟩ ?_
    obtain ⟨q, k⟩ := k
    refine e_ia (n := 30) o_263_134 (sk_121 (h := h) hs) (sn_121 (h := h) hs) q ?_
    refine e_c 1 o_263_135 rfl ?_
    refine e_bin o_263_136 rfl ?_
    obtain ⟨q, k⟩ := k
    refine e_ias (n := 30) o_263_137 (sk_121 (h := h) hs) (by decide) (sn_121 (h := h) hs) q ?_
    refine e_inc (ls' := [.ref 69, .int x1, .int x2, .int x3, .int x4, .int x5, .int (x6 + 1), .null, .null, .null]) o_263_138 rfl rfl rfl ?_
    refine e_go o_263_141 ?_
    exact Ev.less (ls := [.ref 69, .int x1, .int x2, .int x3, .int x4, .int x5, .int (x6 + 1), .null, .null, .null]) ⟨Or.inr rfl, Or.inr rfl, Or.inr rfl, Or.inr rfl, Or.inr rfl, Or.inr rfl, Or.inr rfl, Or.inl rfl, Or.inl rfl, Or.inl rfl, trivial⟩ k
set_option maxHeartbeats 4000000 in
set_option maxRecDepth 100000 in
theorem B_263_144 {x1 : Int32} {x2 : Int32} {x3 : Int32} {x4 : Int32} {x5 : Int32} {h : XH} {Q : Value → XH → Prop} (hs : Sh h) (k : Ev 263 56 [.ref 69, .int x1, .int x2, .int x3, .int x4, .int (x5 + 1), .null, .null, .null, .null] [] h Q) : Ev 263 144 [.ref 69, .int x1, .int x2, .int x3, .int x4, .int x5, .null, .null, .null, .null] [] h Q := by
  refine e_inc (ls' := [.ref 69, .int x1, .int x2, .int x3, .int x4, .int (x5 + 1), .null, .null, .null, .null]) o_263_144 rfl rfl rfl ?_
  refine e_go o_263_147 ?_
  exact Ev.less (ls := [.ref 69, .int x1, .int x2, .int x3, .int x4, .int (x5 + 1), .null, .null, .null, .null]) ⟨Or.inr rfl, Or.inr rfl, Or.inr rfl, Or.inr rfl, Or.inr rfl, Or.inr rfl, Or.inl rfl, Or.inl rfl, Or.inl rfl, Or.inl rfl, trivial⟩ k
set_option maxHeartbeats 4000000 in
set_option maxRecDepth 100000 in
theorem B_263_169 {x3 : Int32} {x5 : Int32} {x6 : Int32} {x7 : Int32} {h : XH} {Q : Value → XH → Prop} (hs : Sh h) (k : InB (xI h 69 18) 2 ∧ ((((xI h 84 (tn (xI h 69 18))) ≤ x7) → ((¬ x3 = 0) → Q (.int x6) h) ∧ (¬ (¬ x3 = 0) → Q (.int x5) h)) ∧ (¬ ((xI h 84 (tn (xI h 69 18))) ≤ x7) → Ev 263 189 [.ref 69, .null, .null, .int x3, .null, .int x5, .int x6, .int x7, .int 0, .int 0] [] h Q))) : Ev 263 169 [.ref 69, .null, .null, .int x3, .null, .int x5, .int x6, .int x7, .null, .null] [] h Q := by
  refine e_il o_263_169 rfl ?_
  refine e_al o_263_171 rfl ?_
  refine e_gR (r := 84) o_263_172 (sk_69 (h := h) hs) (sr_69_28 (h := h) hs) (by decide) ?_
  refine e_al o_263_175 rfl ?_
  refine e_gI o_263_176 (sk_69 (h := h) hs) ?_
  obtain ⟨q, k⟩ := k
  refine e_ia (n := 2) o_263_179 (sk_84 (h := h) hs) (sn_84 (h := h) hs) q ?_
  refine e_if_3 o_263_180 (fun z => ?_) (fun z => ?_)
  · have k := k.1 z
    refine e_il o_263_261 rfl ?_
    refine e_i0_1 o_263_262 (fun z => ?_) (fun z => ?_)
    · have k := k.1 z
      refine e_il o_263_270 rfl ?_
      exact e_retI o_263_272 k
    · have k := k.2 z
      refine e_il o_263_265 rfl ?_
      refine e_go o_263_267 ?_
      exact e_retI o_263_272 k
  · have k := k.2 z
    refine e_c 0 o_263_183 rfl ?_
    refine e_is (ls' := [.ref 69, .null, .null, .int x3, .null, .int x5, .int x6, .int x7, .int 0, .null]) o_263_184 (Nat.le_of_ble_eq_true rfl) rfl ?_
    refine e_c 0 o_263_186 rfl ?_
    refine e_is (ls' := [.ref 69, .null, .null, .int x3, .null, .int x5, .int x6, .int x7, .int 0, .int 0]) o_263_187 (Nat.le_of_ble_eq_true rfl) rfl ?_
    exact Ev.less (ls := [.ref 69, .null, .null, .int x3, .null, .int x5, .int x6, .int x7, .int 0, .int 0]) ⟨Or.inr rfl, Or.inl rfl, Or.inl rfl, Or.inr rfl, Or.inl rfl, Or.inr rfl, Or.inr rfl, Or.inr rfl, Or.inr rfl, Or.inr rfl, trivial⟩ k
set_option maxHeartbeats 4000000 in
set_option maxRecDepth 100000 in
theorem B_263_189 {x3 : Int32} {x5 : Int32} {x6 : Int32} {x7 : Int32} {x8 : Int32} {x9 : Int32} {h : XH} {Q : Value → XH → Prop} (hs : Sh h) (k : ((5 ≤ x9) → ((x5 < 0) → Ev 263 247 [.ref 69, .null, .null, .int x3, .null, .null, .null, .int x7, .int x8, .null] [] h Q) ∧ (¬ (x5 < 0) → ((x8 < x6) → Ev 263 247 [.ref 69, .null, .null, .int x3, .null, .null, .null, .int x7, .int x8, .null] [] h Q) ∧ (¬ (x8 < x6) → Ev 263 255 [.ref 69, .null, .null, .int x3, .null, .int x5, .int x6, .int x7, .null, .null] [] h Q))) ∧ (¬ (5 ≤ x9) → InB ((5 * x7) + x9) 30 ∧ ((((xI h 121 (tn ((5 * x7) + x9))) ≤ x8) → Ev 263 226 [.ref 69, .null, .null, .int x3, .null, .int x5, .int x6, .int x7, .int x8, .int x9] [] h Q) ∧ (¬ ((xI h 121 (tn ((5 * x7) + x9))) ≤ x8) → InB ((5 * x7) + x9) 30 ∧ (Ev 263 226 [.ref 69, .null, .null, .int x3, .null, .int x5, .int x6, .int x7, .int (xI h 121 (tn ((5 * x7) + x9))), .int x9] [] h Q))))) : Ev 263 189 [.ref 69, .null, .null, .int x3, .null, .int x5, .int x6, .int x7, .int x8, .int x9] [] h Q := by
  refine e_il o_263_189 rfl ?_
  refine e_c 5 o_263_191 rfl ?_
  refine e_if_3 o_263_192 (fun z => ?_) (fun z => ?_)
  · have k := k.1 z
    refine e_il o_263_232 rfl ?_
    refine e_i0_2 o_263_234 (fun z => ?_) (fun z => ?_)
    · have k := k.1 z
      exact Ev.less (ls := [.ref 69, .null, .null, .int x3, .null, .null, .null, .int x7, .int x8, .null]) ⟨Or.inr rfl, Or.inl rfl, Or.inl rfl, Or.inr rfl, Or.inl rfl, Or.inl rfl, Or.inl rfl, Or.inr rfl, Or.inr rfl, Or.inl rfl, trivial⟩ k
    · have k := k.2 z
      refine e_il o_263_237 rfl ?_
      refine e_il o_263_239 rfl ?_
      refine e_if_2 o_263_241 (fun z => ?_) (fun z => ?_)
      · have k := k.1 z
        exact Ev.less (ls := [.ref 69, .null, .null, .int x3, .null, .null, .null, .int x7, .int x8, .null]) ⟨Or.inr rfl, Or.inl rfl, Or.inl rfl, Or.inr rfl, Or.inl rfl, Or.inl rfl, Or.inl rfl, Or.inr rfl, Or.inr rfl, Or.inl rfl, trivial⟩ k
      · have k := k.2 z
        refine e_go o_263_244 ?_
        exact Ev.less (ls := [.ref 69, .null, .null, .int x3, .null, .int x5, .int x6, .int x7, .null, .null]) ⟨Or.inr rfl, Or.inl rfl, Or.inl rfl, Or.inr rfl, Or.inl rfl, Or.inr rfl, Or.inr rfl, Or.inr rfl, Or.inl rfl, Or.inl rfl, trivial⟩ k
  · have k := k.2 z
    refine e_al o_263_195 rfl ?_
    refine e_gR (r := 121) o_263_196 (sk_69 (h := h) hs) (sr_69_75 (h := h) hs) (by decide) ?_
    refine e_c 5 o_263_199 rfl ?_
    refine e_il o_263_200 rfl ?_
    refine e_bin o_263_202 rfl ?_
    refine e_il o_263_203 rfl ?_
    refine e_bin o_263_205 rfl ?_
    obtain ⟨q, k⟩ := k
    refine e_ia (n := 30) o_263_206 (sk_121 (h := h) hs) (sn_121 (h := h) hs) q ?_
    refine e_il o_263_207 rfl ?_
    refine e_if_5 o_263_209 (fun z => ?_) (fun z => ?_)
    · have k := k.1 z
      exact Ev.less (ls := [.ref 69, .null, .null, .int x3, .null, .int x5, .int x6, .int x7, .int x8, .int x9]) ⟨Or.inr rfl, Or.inl rfl, Or.inl rfl, Or.inr rfl, Or.inl rfl, Or.inr rfl, Or.inr rfl, Or.inr rfl, Or.inr rfl, Or.inr rfl, trivial⟩ k
    · have k := k.2 z
      refine e_al o_263_212 rfl ?_
      refine e_gR (r := 121) o_263_213 (sk_69 (h := h) hs) (sr_69_75 (h := h) hs) (by decide) ?_
      refine e_c 5 o_263_216 rfl ?_
      refine e_il o_263_217 rfl ?_
      refine e_bin o_263_219 rfl ?_
      refine e_il o_263_220 rfl ?_
      refine e_bin o_263_222 rfl ?_
      obtain ⟨q, k⟩ := k
      refine e_ia (n := 30) o_263_223 (sk_121 (h := h) hs) (sn_121 (h := h) hs) q ?_
      refine e_is (ls' := [.ref 69, .null, .null, .int x3, .null, .int x5, .int x6, .int x7, .int (xI h 121 (tn ((5 * x7) + x9))), .int x9]) o_263_224 (Nat.le_of_ble_eq_true rfl) rfl ?_
      exact Ev.less (ls := [.ref 69, .null, .null, .int x3, .null, .int x5, .int x6, .int x7, .int (xI h 121 (tn ((5 * x7) + x9))), .int x9]) ⟨Or.inr rfl, Or.inl rfl, Or.inl rfl, Or.inr rfl, Or.inl rfl, Or.inr rfl, Or.inr rfl, Or.inr rfl, Or.inr rfl, Or.inr rfl, trivial⟩ k
set_option maxHeartbeats 4000000 in
set_option maxRecDepth 100000 in
theorem B_263_226 {x3 : Int32} {x5 : Int32} {x6 : Int32} {x7 : Int32} {x8 : Int32} {x9 : Int32} {h : XH} {Q : Value → XH → Prop} (hs : Sh h) (k : Ev 263 189 [.ref 69, .null, .null, .int x3, .null, .int x5, .int x6, .int x7, .int x8, .int (x9 + 1)] [] h Q) : Ev 263 226 [.ref 69, .null, .null, .int x3, .null, .int x5, .int x6, .int x7, .int x8, .int x9] [] h Q := by
  refine e_inc (ls' := [.ref 69, .null, .null, .int x3, .null, .int x5, .int x6, .int x7, .int x8, .int (x9 + 1)]) o_263_226 rfl rfl rfl ?_
  refine e_go o_263_229 ?_
  exact Ev.less (ls := [.ref 69, .null, .null, .int x3, .null, .int x5, .int x6, .int x7, .int x8, .int (x9 + 1)]) ⟨Or.inr rfl, Or.inl rfl, Or.inl rfl, Or.inr rfl, Or.inl rfl, Or.inr rfl, Or.inr rfl, Or.inr rfl, Or.inr rfl, Or.inr rfl, trivial⟩ k
set_option maxHeartbeats 4000000 in
set_option maxRecDepth 100000 in
theorem B_263_247 {x3 : Int32} {x7 : Int32} {x8 : Int32} {h : XH} {Q : Value → XH → Prop} (hs : Sh h) (k : Ev 263 255 [.ref 69, .null, .null, .int x3, .null, .int x7, .int x8, .int x7, .null, .null] [] h Q) : Ev 263 247 [.ref 69, .null, .null, .int x3, .null, .null, .null, .int x7, .int x8, .null] [] h Q := by
  refine e_il o_263_247 rfl ?_
  refine e_is (ls' := [.ref 69, .null, .null, .int x3, .null, .int x7, .null, .int x7, .int x8, .null]) o_263_249 (Nat.le_of_ble_eq_true rfl) rfl ?_
  refine e_il o_263_251 rfl ?_
  refine e_is (ls' := [.ref 69, .null, .null, .int x3, .null, .int x7, .int x8, .int x7, .int x8, .null]) o_263_253 (Nat.le_of_ble_eq_true rfl) rfl ?_
  exact Ev.less (ls := [.ref 69, .null, .null, .int x3, .null, .int x7, .int x8, .int x7, .null, .null]) ⟨Or.inr rfl, Or.inl rfl, Or.inl rfl, Or.inr rfl, Or.inl rfl, Or.inr rfl, Or.inr rfl, Or.inr rfl, Or.inl rfl, Or.inl rfl, trivial⟩ k
set_option maxHeartbeats 4000000 in
set_option maxRecDepth 100000 in
theorem B_263_255 {x3 : Int32} {x5 : Int32} {x6 : Int32} {x7 : Int32} {h : XH} {Q : Value → XH → Prop} (hs : Sh h) (k : Ev 263 169 [.ref 69, .null, .null, .int x3, .null, .int x5, .int x6, .int (x7 + 1), .null, .null] [] h Q) : Ev 263 255 [.ref 69, .null, .null, .int x3, .null, .int x5, .int x6, .int x7, .null, .null] [] h Q := by
  refine e_inc (ls' := [.ref 69, .null, .null, .int x3, .null, .int x5, .int x6, .int (x7 + 1), .null, .null]) o_263_255 rfl rfl rfl ?_
  refine e_go o_263_258 ?_
  exact Ev.less (ls := [.ref 69, .null, .null, .int x3, .null, .int x5, .int x6, .int (x7 + 1), .null, .null]) ⟨Or.inr rfl, Or.inl rfl, Or.inl rfl, Or.inr rfl, Or.inl rfl, Or.inr rfl, Or.inr rfl, Or.inr rfl, Or.inl rfl, Or.inl rfl, trivial⟩ k
set_option maxHeartbeats 4000000 in
set_option maxRecDepth 100000 in
theorem B_264_0 {x1 : Int32} {h : XH} {Q : Value → XH → Prop} (hs : Sh h) (k : ClI 207 [.int x1, .int 0, .int 2] h (fun v2 h1 => Sh h1 ∧ (((¬ v2 = 0) → InB x1 3 ∧ (Ev 264 20 [.ref 69, .int x1, .int 0] [] (xsI h1 122 (tn x1) 1) Q)) ∧ (¬ (¬ v2 = 0) → Q (.int 0) h1)))) : Ev 264 0 (x_ini 264 [.ref 69, .int x1]) [] h Q := by
  rw [show x_ini 264 [.ref 69, .int x1] = [.ref 69, .int x1, .null] from x_inid ml_264 rfl]
  refine e_il o_264_0 rfl ?_
  refine e_c 0 o_264_1 rfl ?_
  refine e_c 2 o_264_2 rfl ?_
  refine e_clI (as := [.int x1, .int 0, .int 2]) (rest := []) o_264_3 rfl rfl (x_okd cl_264_207 ml_207 (Nat.le_of_ble_eq_true rfl) (Nat.le_of_ble_eq_true rfl)) (rfl) k ?_
  rintro v2 h1 ⟨sh1, k⟩
  refine e_i0_1 o_264_6 (fun z => ?_) (fun z => ?_)
  · have k := k.1 z
    refine e_al o_264_11 rfl ?_
    refine e_gR (r := 122) o_264_12 (sk_69 (h := h1) sh1) (sr_69_76 (h := h1) sh1) (by decide) ?_
    refine e_il o_264_15 rfl ?_
    refine e_c 1 o_264_16 rfl ?_
    obtain ⟨q, k⟩ := k
    refine e_zas (n := 3) o_264_17 (sk_122 (h := h1) sh1) (by decide) (sn_122 (h := h1) sh1) q ?_
    refine e_c 0 o_264_18 rfl ?_
    refine e_is (ls' := [.ref 69, .int x1, .int 0]) o_264_19 (Nat.le_of_ble_eq_true rfl) rfl ?_
    exact Ev.less (ls := [.ref 69, .int x1, .int 0]) ⟨Or.inr rfl, Or.inr rfl, Or.inr rfl, trivial⟩ k
  · have k := k.2 z
    refine e_c 0 o_264_9 rfl ?_
    exact e_retZ o_264_10 (by decide) k
set_option maxHeartbeats 4000000 in
set_option maxRecDepth 100000 in
theorem B_264_20 {x1 : Int32} {x2 : Int32} {h : XH} {Q : Value → XH → Prop} (hs : Sh h) (k : ((20 ≤ x2) → Q (.int 1) h) ∧ (¬ (20 ≤ x2) → InB x2 20 ∧ (InB ((20 * x1) + x2) 60 ∧ (Ev 264 20 [.ref 69, .int x1, .int (x2 + 1)] [] (xsI h 123 (tn ((20 * x1) + x2)) (xI h 108 (tn x2))) Q)))) : Ev 264 20 [.ref 69, .int x1, .int x2] [] h Q := by
  refine e_il o_264_20 rfl ?_
  refine e_c 20 o_264_21 rfl ?_
  refine e_if_3 o_264_23 (fun z => ?_) (fun z => ?_)
  · have k := k.1 z
    refine e_c 1 o_264_49 rfl ?_
    exact e_retZ o_264_50 (by decide) k
  · have k := k.2 z
    refine e_al o_264_26 rfl ?_
    refine e_gR (r := 123) o_264_27 (sk_69 (h := h) hs) (sr_69_77 (h := h) hs) (by decide) ?_
    refine e_c 20 o_264_30 rfl ?_
    refine e_il o_264_32 rfl ?_
    refine e_bin o_264_33 rfl ?_
    refine e_il o_264_34 rfl ?_
    refine e_bin o_264_35 rfl ?_
    refine e_al o_264_36 rfl ?_
    refine e_gR (r := 108) o_264_37 (sk_69 (h := h) hs) (sr_69_59 (h := h) hs) (by decide) ?_
    refine e_il o_264_40 rfl ?_
    obtain ⟨q, k⟩ := k
    refine e_ia (n := 20) o_264_41 (sk_108 (h := h) hs) (sn_108 (h := h) hs) q ?_
    obtain ⟨q, k⟩ := k
    refine e_ias (n := 60) o_264_42 (sk_123 (h := h) hs) (by decide) (sn_123 (h := h) hs) q ?_
    refine e_inc (ls' := [.ref 69, .int x1, .int (x2 + 1)]) o_264_43 rfl rfl rfl ?_
    refine e_go o_264_46 ?_
    exact Ev.less (ls := [.ref 69, .int x1, .int (x2 + 1)]) ⟨Or.inr rfl, Or.inr rfl, Or.inr rfl, trivial⟩ k
set_option maxHeartbeats 4000000 in
set_option maxRecDepth 100000 in
theorem B_265_0 {x1 : Int32} {h : XH} {Q : Value → XH → Prop} (hs : Sh h) (k : ClI 207 [.int x1, .int 0, .int 2] h (fun v2 h1 => Sh h1 ∧ (((v2 = 0) → Q (.int 0) h1) ∧ (¬ (v2 = 0) → InB x1 3 ∧ (((¬ (xI h1 122 (tn x1)) = 0) → Ev 265 22 [.ref 69, .int x1, .int 0] [] h1 Q) ∧ (¬ (¬ (xI h1 122 (tn x1)) = 0) → Q (.int 0) h1)))))) : Ev 265 0 (x_ini 265 [.ref 69, .int x1]) [] h Q := by
  rw [show x_ini 265 [.ref 69, .int x1] = [.ref 69, .int x1, .null] from x_inid ml_265 rfl]
  refine e_il o_265_0 rfl ?_
  refine e_c 0 o_265_1 rfl ?_
  refine e_c 2 o_265_2 rfl ?_
  refine e_clI (as := [.int x1, .int 0, .int 2]) (rest := []) o_265_3 rfl rfl (x_okd cl_265_207 ml_207 (Nat.le_of_ble_eq_true rfl) (Nat.le_of_ble_eq_true rfl)) (rfl) k ?_
  rintro v2 h1 ⟨sh1, k⟩
  refine e_i0_0 o_265_6 (fun z => ?_) (fun z => ?_)
  · have k := k.1 z
    refine e_c 0 o_265_18 rfl ?_
    exact e_retZ o_265_19 (by decide) k
  · have k := k.2 z
    refine e_al o_265_9 rfl ?_
    refine e_gR (r := 122) o_265_10 (sk_69 (h := h1) sh1) (sr_69_76 (h := h1) sh1) (by decide) ?_
    refine e_il o_265_13 rfl ?_
    obtain ⟨q, k⟩ := k
    refine e_ba (n := 3) o_265_14 (Or.inr (sk_122 (h := h1) sh1)) (sn_122 (h := h1) sh1) q ?_
    refine e_i0_1 o_265_15 (fun z => ?_) (fun z => ?_)
    · have k := k.1 z
      refine e_c 0 o_265_20 rfl ?_
      refine e_is (ls' := [.ref 69, .int x1, .int 0]) o_265_21 (Nat.le_of_ble_eq_true rfl) rfl ?_
      exact Ev.less (ls := [.ref 69, .int x1, .int 0]) ⟨Or.inr rfl, Or.inr rfl, Or.inr rfl, trivial⟩ k
    · have k := k.2 z
      refine e_c 0 o_265_18 rfl ?_
      exact e_retZ o_265_19 (by decide) k
set_option maxHeartbeats 4000000 in
set_option maxRecDepth 100000 in
theorem B_265_22 {x1 : Int32} {x2 : Int32} {h : XH} {Q : Value → XH → Prop} (hs : Sh h) (k : ((20 ≤ x2) → Q (.int 1) (xsI h 69 65 0)) ∧ (¬ (20 ≤ x2) → InB ((20 * x1) + x2) 60 ∧ (InB x2 20 ∧ (Ev 265 22 [.ref 69, .int x1, .int (x2 + 1)] [] (xsI h 108 (tn x2) (xI h 123 (tn ((20 * x1) + x2)))) Q)))) : Ev 265 22 [.ref 69, .int x1, .int x2] [] h Q := by
  refine e_il o_265_22 rfl ?_
  refine e_c 20 o_265_23 rfl ?_
  refine e_if_3 o_265_25 (fun z => ?_) (fun z => ?_)
  · have k := k.1 z
    refine e_al o_265_51 rfl ?_
    refine e_c 0 o_265_52 rfl ?_
    refine e_pI o_265_53 (sk_69 (h := h) hs) ?_
    refine e_c 1 o_265_56 rfl ?_
    exact e_retZ o_265_57 (by decide) k
  · have k := k.2 z
    refine e_al o_265_28 rfl ?_
    refine e_gR (r := 108) o_265_29 (sk_69 (h := h) hs) (sr_69_59 (h := h) hs) (by decide) ?_
    refine e_il o_265_32 rfl ?_
    refine e_al o_265_33 rfl ?_
    refine e_gR (r := 123) o_265_34 (sk_69 (h := h) hs) (sr_69_77 (h := h) hs) (by decide) ?_
    refine e_c 20 o_265_37 rfl ?_
    refine e_il o_265_39 rfl ?_
    refine e_bin o_265_40 rfl ?_
    refine e_il o_265_41 rfl ?_
    refine e_bin o_265_42 rfl ?_
    obtain ⟨q, k⟩ := k
    refine e_ia (n := 60) o_265_43 (sk_123 (h := h) hs) (sn_123 (h := h) hs) q ?_
    obtain ⟨q, k⟩ := k
    refine e_ias (n := 20) o_265_44 (sk_108 (h := h) hs) (by decide) (sn_108 (h := h) hs) q ?_
    refine e_inc (ls' := [.ref 69, .int x1, .int (x2 + 1)]) o_265_45 rfl rfl rfl ?_
    refine e_go o_265_48 ?_
    exact Ev.less (ls := [.ref 69, .int x1, .int (x2 + 1)]) ⟨Or.inr rfl, Or.inr rfl, Or.inr rfl, trivial⟩ k
set_option maxHeartbeats 4000000 in
set_option maxRecDepth 100000 in
theorem B_266_0 {x1 : Int32} {h : XH} {Q : Value → XH → Prop} (hs : Sh h) (k : ((x1 = 0) → InB (xI h 69 18) 2 ∧ (Q (.int (xI h 79 (tn (xI h 69 18)))) h)) ∧ (¬ (x1 = 0) → ((x1 = 1) → InB (xI h 69 18) 2 ∧ (Q (.int (xI h 84 (tn (xI h 69 18)))) h)) ∧ (¬ (x1 = 1) → ((x1 = 2) → InB 15 20 ∧ (Q (.int (xI h 108 (tn 15))) h)) ∧ (¬ (x1 = 2) → ((x1 = 3) → InB (xI h 69 18) 2 ∧ (Q (.int (xI h 92 (tn (xI h 69 18)))) h)) ∧ (¬ (x1 = 3) → ((x1 = 4) → Ev 266 110 [.ref 69, .null, .int 0, .int 0] [] h Q) ∧ (¬ (x1 = 4) → ((x1 = 5) → InB 16 20 ∧ (Q (.int (xI h 108 (tn 16))) h)) ∧ (¬ (x1 = 5) → ((x1 = 6) → InB 14 20 ∧ (Q (.int (xI h 108 (tn 14))) h)) ∧ (¬ (x1 = 6) → ((x1 = 7) → Q (.int (xI h 69 2)) h) ∧ (¬ (x1 = 7) → ((x1 = 8) → Q (.int (xI h 69 65)) h) ∧ (¬ (x1 = 8) → ((x1 = 9) → Q (.int (xI h 69 71)) h) ∧ (¬ (x1 = 9) → ((x1 = 10) → InB 0 3 ∧ ((((xI h 122 (tn 0)) = 0) → InB 1 3 ∧ ((((xI h 122 (tn 1)) = 0) → InB 2 3 ∧ ((((xI h 122 (tn 2)) = 0) → Q (.int ((0 + 0) + 0)) h) ∧ (¬ ((xI h 122 (tn 2)) = 0) → Q (.int ((0 + 0) + 1)) h))) ∧ (¬ ((xI h 122 (tn 1)) = 0) → InB 2 3 ∧ ((((xI h 122 (tn 2)) = 0) → Q (.int ((0 + 1) + 0)) h) ∧ (¬ ((xI h 122 (tn 2)) = 0) → Q (.int ((0 + 1) + 1)) h))))) ∧ (¬ ((xI h 122 (tn 0)) = 0) → InB 1 3 ∧ ((((xI h 122 (tn 1)) = 0) → InB 2 3 ∧ ((((xI h 122 (tn 2)) = 0) → Q (.int ((1 + 0) + 0)) h) ∧ (¬ ((xI h 122 (tn 2)) = 0) → Q (.int ((1 + 0) + 1)) h))) ∧ (¬ ((xI h 122 (tn 1)) = 0) → InB 2 3 ∧ ((((xI h 122 (tn 2)) = 0) → Q (.int ((1 + 1) + 0)) h) ∧ (¬ ((xI h 122 (tn 2)) = 0) → Q (.int ((1 + 1) + 1)) h))))))) ∧ (¬ (x1 = 10) → ((x1 = 11) → Ev 266 230 [.ref 69, .int x1, .int 0, .int 0] [] h Q) ∧ (¬ (x1 = 11) → ((x1 = 12) → Ev 266 230 [.ref 69, .int x1, .int 0, .int 0] [] h Q) ∧ (¬ (x1 = 12) → Q (.int (-1)) h)))))))))))))) : Ev 266 0 (x_ini 266 [.ref 69, .int x1]) [] h Q := by
  rw [show x_ini 266 [.ref 69, .int x1] = [.ref 69, .int x1, .null, .null] from x_inid ml_266 rfl]
  refine e_il o_266_0 rfl ?_
  refine e_swc o_266_1 (by decide) ?_
  refine ⟨fun z => ?_, fun z => ?_⟩
  · have k := k.1 z
    refine e_al o_266_68 rfl ?_
    refine e_gR (r := 79) o_266_69 (sk_69 (h := h) hs) (sr_69_23 (h := h) hs) (by decide) ?_
    refine e_al o_266_72 rfl ?_
    refine e_gI o_266_73 (sk_69 (h := h) hs) ?_
    obtain ⟨q, k⟩ := k
    refine e_ia (n := 2) o_266_76 (sk_79 (h := h) hs) (sn_79 (h := h) hs) q ?_
    exact e_retI o_266_77 k
  · have k := k.2 z
    refine ⟨fun z => ?_, fun z => ?_⟩
    · have k := k.1 z
      refine e_al o_266_78 rfl ?_
      refine e_gR (r := 84) o_266_79 (sk_69 (h := h) hs) (sr_69_28 (h := h) hs) (by decide) ?_
      refine e_al o_266_82 rfl ?_
      refine e_gI o_266_83 (sk_69 (h := h) hs) ?_
      obtain ⟨q, k⟩ := k
      refine e_ia (n := 2) o_266_86 (sk_84 (h := h) hs) (sn_84 (h := h) hs) q ?_
      exact e_retI o_266_87 k
    · have k := k.2 z
      refine ⟨fun z => ?_, fun z => ?_⟩
      · have k := k.1 z
        refine e_al o_266_88 rfl ?_
        refine e_gR (r := 108) o_266_89 (sk_69 (h := h) hs) (sr_69_59 (h := h) hs) (by decide) ?_
        refine e_c 15 o_266_92 rfl ?_
        obtain ⟨q, k⟩ := k
        refine e_ia (n := 20) o_266_94 (sk_108 (h := h) hs) (sn_108 (h := h) hs) q ?_
        exact e_retI o_266_95 k
      · have k := k.2 z
        refine ⟨fun z => ?_, fun z => ?_⟩
        · have k := k.1 z
          refine e_al o_266_96 rfl ?_
          refine e_gR (r := 92) o_266_97 (sk_69 (h := h) hs) (sr_69_37 (h := h) hs) (by decide) ?_
          refine e_al o_266_100 rfl ?_
          refine e_gI o_266_101 (sk_69 (h := h) hs) ?_
          obtain ⟨q, k⟩ := k
          refine e_ia (n := 2) o_266_104 (sk_92 (h := h) hs) (sn_92 (h := h) hs) q ?_
          exact e_retI o_266_105 k
        · have k := k.2 z
          refine ⟨fun z => ?_, fun z => ?_⟩
          · have k := k.1 z
            refine e_c 0 o_266_106 rfl ?_
            refine e_is (ls' := [.ref 69, .int x1, .int 0, .null]) o_266_107 (Nat.le_of_ble_eq_true rfl) rfl ?_
            refine e_c 0 o_266_108 rfl ?_
            refine e_is (ls' := [.ref 69, .int x1, .int 0, .int 0]) o_266_109 (Nat.le_of_ble_eq_true rfl) rfl ?_
            exact Ev.less (ls := [.ref 69, .null, .int 0, .int 0]) ⟨Or.inr rfl, Or.inl rfl, Or.inr rfl, Or.inr rfl, trivial⟩ k
          · have k := k.2 z
            refine ⟨fun z => ?_, fun z => ?_⟩
            · have k := k.1 z
              refine e_al o_266_150 rfl ?_
              refine e_gR (r := 108) o_266_151 (sk_69 (h := h) hs) (sr_69_59 (h := h) hs) (by decide) ?_
              refine e_c 16 o_266_154 rfl ?_
              obtain ⟨q, k⟩ := k
              refine e_ia (n := 20) o_266_156 (sk_108 (h := h) hs) (sn_108 (h := h) hs) q ?_
              exact e_retI o_266_157 k
            · have k := k.2 z
              refine ⟨fun z => ?_, fun z => ?_⟩
              · have k := k.1 z
                refine e_al o_266_158 rfl ?_
                refine e_gR (r := 108) o_266_159 (sk_69 (h := h) hs) (sr_69_59 (h := h) hs) (by decide) ?_
                refine e_c 14 o_266_162 rfl ?_
                obtain ⟨q, k⟩ := k
                refine e_ia (n := 20) o_266_164 (sk_108 (h := h) hs) (sn_108 (h := h) hs) q ?_
                exact e_retI o_266_165 k
              · have k := k.2 z
                refine ⟨fun z => ?_, fun z => ?_⟩
                · have k := k.1 z
                  refine e_al o_266_166 rfl ?_
                  refine e_gI o_266_167 (sk_69 (h := h) hs) ?_
                  exact e_retI o_266_170 k
                · have k := k.2 z
                  refine ⟨fun z => ?_, fun z => ?_⟩
                  · have k := k.1 z
                    refine e_al o_266_171 rfl ?_
                    refine e_gI o_266_172 (sk_69 (h := h) hs) ?_
                    exact e_retI o_266_175 k
                  · have k := k.2 z
                    refine ⟨fun z => ?_, fun z => ?_⟩
                    · have k := k.1 z
                      refine e_al o_266_176 rfl ?_
                      refine e_gI o_266_177 (sk_69 (h := h) hs) ?_
                      exact e_retI o_266_180 k
                    · have k := k.2 z
                      refine ⟨fun z => ?_, fun z => ?_⟩
                      · have k := k.1 z
                        refine e_al o_266_181 rfl ?_
                        refine e_gR (r := 122) o_266_182 (sk_69 (h := h) hs) (sr_69_76 (h := h) hs) (by decide) ?_
                        refine e_c 0 o_266_185 rfl ?_
                        obtain ⟨q, k⟩ := k
                        refine e_ba (n := 3) o_266_186 (Or.inr (sk_122 (h := h) hs)) (sn_122 (h := h) hs) q ?_
                        refine e_i0_0 o_266_187 (fun z => ?_) (fun z => ?_)
                        · have k := k.1 z
                          refine e_c 0 o_266_194 rfl ?_
                          refine e_al o_266_195 rfl ?_
                          refine e_gR (r := 122) o_266_196 (sk_69 (h := h) hs) (sr_69_76 (h := h) hs) (by decide) ?_
                          refine e_c 1 o_266_199 rfl ?_
                          obtain ⟨q, k⟩ := k
                          refine e_ba (n := 3) o_266_200 (Or.inr (sk_122 (h := h) hs)) (sn_122 (h := h) hs) q ?_
                          refine e_i0_0 o_266_201 (fun z => ?_) (fun z => ?_)
                          · have k := k.1 z
                            refine e_c 0 o_266_208 rfl ?_
                            refine e_bin o_266_209 rfl ?_
                            refine e_al o_266_210 rfl ?_
                            refine e_gR (r := 122) o_266_211 (sk_69 (h := h) hs) (sr_69_76 (h := h) hs) (by decide) ?_
                            refine e_c 2 o_266_214 rfl ?_
                            obtain ⟨q, k⟩ := k
                            refine e_ba (n := 3) o_266_215 (Or.inr (sk_122 (h := h) hs)) (sn_122 (h := h) hs) q ?_
                            refine e_i0_0 o_266_216 (fun z => ?_) (fun z => ?_)
                            · have k := k.1 z
                              refine e_c 0 o_266_223 rfl ?_
                              refine e_bin o_266_224 rfl ?_
                              exact e_retI o_266_225 k
                            · have k := k.2 z
                              refine e_c 1 o_266_219 rfl ?_
                              refine e_go o_266_220 ?_
                              refine e_bin o_266_224 rfl ?_
                              exact e_retI o_266_225 k
                          · have k := k.2 z
                            refine e_c 1 o_266_204 rfl ?_
                            refine e_go o_266_205 ?_
                            refine e_bin o_266_209 rfl ?_
                            refine e_al o_266_210 rfl ?_
                            refine e_gR (r := 122) o_266_211 (sk_69 (h := h) hs) (sr_69_76 (h := h) hs) (by decide) ?_
                            refine e_c 2 o_266_214 rfl ?_
                            obtain ⟨q, k⟩ := k
                            refine e_ba (n := 3) o_266_215 (Or.inr (sk_122 (h := h) hs)) (sn_122 (h := h) hs) q ?_
                            refine e_i0_0 o_266_216 (fun z => ?_) (fun z => ?_)
                            · have k := k.1 z
                              refine e_c 0 o_266_223 rfl ?_
                              refine e_bin o_266_224 rfl ?_
                              exact e_retI o_266_225 k
                            · have k := k.2 z
                              refine e_c 1 o_266_219 rfl ?_
                              refine e_go o_266_220 ?_
                              refine e_bin o_266_224 rfl ?_
                              exact e_retI o_266_225 k
                        · have k := k.2 z
                          refine e_c 1 o_266_190 rfl ?_
                          refine e_go o_266_191 ?_
                          refine e_al o_266_195 rfl ?_
                          refine e_gR (r := 122) o_266_196 (sk_69 (h := h) hs) (sr_69_76 (h := h) hs) (by decide) ?_
                          refine e_c 1 o_266_199 rfl ?_
                          obtain ⟨q, k⟩ := k
                          refine e_ba (n := 3) o_266_200 (Or.inr (sk_122 (h := h) hs)) (sn_122 (h := h) hs) q ?_
                          refine e_i0_0 o_266_201 (fun z => ?_) (fun z => ?_)
                          · have k := k.1 z
                            refine e_c 0 o_266_208 rfl ?_
                            refine e_bin o_266_209 rfl ?_
                            refine e_al o_266_210 rfl ?_
                            refine e_gR (r := 122) o_266_211 (sk_69 (h := h) hs) (sr_69_76 (h := h) hs) (by decide) ?_
                            refine e_c 2 o_266_214 rfl ?_
                            obtain ⟨q, k⟩ := k
                            refine e_ba (n := 3) o_266_215 (Or.inr (sk_122 (h := h) hs)) (sn_122 (h := h) hs) q ?_
                            refine e_i0_0 o_266_216 (fun z => ?_) (fun z => ?_)
                            · have k := k.1 z
                              refine e_c 0 o_266_223 rfl ?_
                              refine e_bin o_266_224 rfl ?_
                              exact e_retI o_266_225 k
                            · have k := k.2 z
                              refine e_c 1 o_266_219 rfl ?_
                              refine e_go o_266_220 ?_
                              refine e_bin o_266_224 rfl ?_
                              exact e_retI o_266_225 k
                          · have k := k.2 z
                            refine e_c 1 o_266_204 rfl ?_
                            refine e_go o_266_205 ?_
                            refine e_bin o_266_209 rfl ?_
                            refine e_al o_266_210 rfl ?_
                            refine e_gR (r := 122) o_266_211 (sk_69 (h := h) hs) (sr_69_76 (h := h) hs) (by decide) ?_
                            refine e_c 2 o_266_214 rfl ?_
                            obtain ⟨q, k⟩ := k
                            refine e_ba (n := 3) o_266_215 (Or.inr (sk_122 (h := h) hs)) (sn_122 (h := h) hs) q ?_
                            refine e_i0_0 o_266_216 (fun z => ?_) (fun z => ?_)
                            · have k := k.1 z
                              refine e_c 0 o_266_223 rfl ?_
                              refine e_bin o_266_224 rfl ?_
                              exact e_retI o_266_225 k
                            · have k := k.2 z
                              refine e_c 1 o_266_219 rfl ?_
                              refine e_go o_266_220 ?_
                              refine e_bin o_266_224 rfl ?_
                              exact e_retI o_266_225 k
                      · have k := k.2 z
                        refine ⟨fun z => ?_, fun z => ?_⟩
                        · have k := k.1 z
                          refine e_c 0 o_266_226 rfl ?_
                          refine e_is (ls' := [.ref 69, .int x1, .int 0, .null]) o_266_227 (Nat.le_of_ble_eq_true rfl) rfl ?_
                          refine e_c 0 o_266_228 rfl ?_
                          refine e_is (ls' := [.ref 69, .int x1, .int 0, .int 0]) o_266_229 (Nat.le_of_ble_eq_true rfl) rfl ?_
                          exact Ev.less (ls := [.ref 69, .int x1, .int 0, .int 0]) ⟨Or.inr rfl, Or.inr rfl, Or.inr rfl, Or.inr rfl, trivial⟩ k
                        · have k := k.2 z
                          refine ⟨fun z => ?_, fun z => ?_⟩
                          · have k := k.1 z
                            refine e_c 0 o_266_226 rfl ?_
                            refine e_is (ls' := [.ref 69, .int x1, .int 0, .null]) o_266_227 (Nat.le_of_ble_eq_true rfl) rfl ?_
                            refine e_c 0 o_266_228 rfl ?_
                            refine e_is (ls' := [.ref 69, .int x1, .int 0, .int 0]) o_266_229 (Nat.le_of_ble_eq_true rfl) rfl ?_
                            exact Ev.less (ls := [.ref 69, .int x1, .int 0, .int 0]) ⟨Or.inr rfl, Or.inr rfl, Or.inr rfl, Or.inr rfl, trivial⟩ k
                          · have k := k.2 z
                            refine e_c (-1) o_266_278 rfl ?_
                            exact e_retI o_266_279 k
set_option maxHeartbeats 4000000 in
set_option maxRecDepth 100000 in
theorem B_266_110 {x2 : Int32} {x3 : Int32} {h : XH} {Q : Value → XH → Prop} (hs : Sh h) (k : InB (xI h 69 18) 2 ∧ ((((xI h 84 (tn (xI h 69 18))) ≤ x3) → Q (.int x2) h) ∧ (¬ ((xI h 84 (tn (xI h 69 18))) ≤ x3) → InB (8 + x3) 20 ∧ (((¬ (xI h 108 (tn (8 + x3))) = 4) → Ev 266 142 [.ref 69, .null, .int x2, .int x3] [] h Q) ∧ (¬ (¬ (xI h 108 (tn (8 + x3))) = 4) → Ev 266 142 [.ref 69, .null, .int (x2 ||| (1 <<< (x3 &&& 31))), .int x3] [] h Q))))) : Ev 266 110 [.ref 69, .null, .int x2, .int x3] [] h Q := by
  refine e_il o_266_110 rfl ?_
  refine e_al o_266_111 rfl ?_
  refine e_gR (r := 84) o_266_112 (sk_69 (h := h) hs) (sr_69_28 (h := h) hs) (by decide) ?_
  refine e_al o_266_115 rfl ?_
  refine e_gI o_266_116 (sk_69 (h := h) hs) ?_
  obtain ⟨q, k⟩ := k
  refine e_ia (n := 2) o_266_119 (sk_84 (h := h) hs) (sn_84 (h := h) hs) q ?_
  refine e_if_3 o_266_120 (fun z => ?_) (fun z => ?_)
  · have k := k.1 z
    refine e_il o_266_148 rfl ?_
    exact e_retI o_266_149 k
  · have k := k.2 z
    refine e_al o_266_123 rfl ?_
    refine e_gR (r := 108) o_266_124 (sk_69 (h := h) hs) (sr_69_59 (h := h) hs) (by decide) ?_
    refine e_c 8 o_266_127 rfl ?_
    refine e_il o_266_129 rfl ?_
    refine e_bin o_266_130 rfl ?_
    obtain ⟨q, k⟩ := k
    refine e_ia (n := 20) o_266_131 (sk_108 (h := h) hs) (sn_108 (h := h) hs) q ?_
    refine e_c 4 o_266_132 rfl ?_
    refine e_if_1 o_266_133 (fun z => ?_) (fun z => ?_)
    · have k := k.1 z
      exact Ev.less (ls := [.ref 69, .null, .int x2, .int x3]) ⟨Or.inr rfl, Or.inl rfl, Or.inr rfl, Or.inr rfl, trivial⟩ k
    · have k := k.2 z
      refine e_il o_266_136 rfl ?_
      refine e_c 1 o_266_137 rfl ?_
      refine e_il o_266_138 rfl ?_
      refine e_bin o_266_139 rfl ?_
      refine e_bin o_266_140 rfl ?_
      refine e_is (ls' := [.ref 69, .null, .int (x2 ||| (1 <<< (x3 &&& 31))), .int x3]) o_266_141 (Nat.le_of_ble_eq_true rfl) rfl ?_
      exact Ev.less (ls := [.ref 69, .null, .int (x2 ||| (1 <<< (x3 &&& 31))), .int x3]) ⟨Or.inr rfl, Or.inl rfl, Or.inr rfl, Or.inr rfl, trivial⟩ k
set_option maxHeartbeats 4000000 in
set_option maxRecDepth 100000 in
theorem B_266_142 {x2 : Int32} {x3 : Int32} {h : XH} {Q : Value → XH → Prop} (hs : Sh h) (k : Ev 266 110 [.ref 69, .null, .int x2, .int (x3 + 1)] [] h Q) : Ev 266 142 [.ref 69, .null, .int x2, .int x3] [] h Q := by
  refine e_inc (ls' := [.ref 69, .null, .int x2, .int (x3 + 1)]) o_266_142 rfl rfl rfl ?_
  refine e_go o_266_145 ?_
  exact Ev.less (ls := [.ref 69, .null, .int x2, .int (x3 + 1)]) ⟨Or.inr rfl, Or.inl rfl, Or.inr rfl, Or.inr rfl, trivial⟩ k
set_option maxHeartbeats 4000000 in
set_option maxRecDepth 100000 in
theorem B_266_230 {x1 : Int32} {x2 : Int32} {x3 : Int32} {h : XH} {Q : Value → XH → Prop} (hs : Sh h) (k : InB (xI h 69 18) 2 ∧ ((((xI h 79 (tn (xI h 69 18))) ≤ x3) → Q (.int x2) h) ∧ (¬ ((xI h 79 (tn (xI h 69 18))) ≤ x3) → InB ((8 * (xI h 69 18)) + x3) 16 ∧ (((¬ (xI h 82 (tn ((8 * (xI h 69 18)) + x3))) = (x1 - 10)) → Ev 266 270 [.ref 69, .int x1, .int x2, .int x3] [] h Q) ∧ (¬ (¬ (xI h 82 (tn ((8 * (xI h 69 18)) + x3))) = (x1 - 10)) → Ev 266 270 [.ref 69, .int x1, .int (x2 ||| (1 <<< (x3 &&& 31))), .int x3] [] h Q))))) : Ev 266 230 [.ref 69, .int x1, .int x2, .int x3] [] h Q := by
  refine e_il o_266_230 rfl ?_
  refine e_al o_266_231 rfl ?_
  refine e_gR (r := 79) o_266_232 (sk_69 (h := h) hs) (sr_69_23 (h := h) hs) (by decide) ?_
  refine e_al o_266_235 rfl ?_
  refine e_gI o_266_236 (sk_69 (h := h) hs) ?_
  obtain ⟨q, k⟩ := k
  refine e_ia (n := 2) o_266_239 (sk_79 (h := h) hs) (sn_79 (h := h) hs) q ?_
  refine e_if_3 o_266_240 (fun z => ?_) (fun z => ?_)
  · have k := k.1 z
    refine e_il o_266_276 rfl ?_
    exact e_retI o_266_277 k
  · have k := k.2 z
    refine e_al o_266_243 rfl ?_
    refine e_gR (r := 82) o_266_244 (sk_69 (h := h) hs) (sr_69_26 (h := h) hs) (by decide) ?_
    refine e_c 8 o_266_247 rfl ?_
    refine e_al o_266_249 rfl ?_
    refine e_gI o_266_250 (sk_69 (h := h) hs) ?_
    refine e_bin o_266_253 rfl ?_
    refine e_il o_266_254 rfl ?_
    refine e_bin o_266_255 rfl ?_
    obtain ⟨q, k⟩ := k
    refine e_ia (n := 16) o_266_256 (sk_82 (h := h) hs) (sn_82 (h := h) hs) q ?_
    refine e_il o_266_257 rfl ?_
    refine e_c 10 o_266_258 rfl ?_
    refine e_bin o_266_260 rfl ?_
    refine e_if_1 o_266_261 (fun z => ?_) (fun z => ?_)
    · have k := k.1 z
      exact Ev.less (ls := [.ref 69, .int x1, .int x2, .int x3]) ⟨Or.inr rfl, Or.inr rfl, Or.inr rfl, Or.inr rfl, trivial⟩ k
    · have k := k.2 z
      refine e_il o_266_264 rfl ?_
      refine e_c 1 o_266_265 rfl ?_
      refine e_il o_266_266 rfl ?_
      refine e_bin o_266_267 rfl ?_
      refine e_bin o_266_268 rfl ?_
      refine e_is (ls' := [.ref 69, .int x1, .int (x2 ||| (1 <<< (x3 &&& 31))), .int x3]) o_266_269 (Nat.le_of_ble_eq_true rfl) rfl ?_
      exact Ev.less (ls := [.ref 69, .int x1, .int (x2 ||| (1 <<< (x3 &&& 31))), .int x3]) ⟨Or.inr rfl, Or.inr rfl, Or.inr rfl, Or.inr rfl, trivial⟩ k
set_option maxHeartbeats 4000000 in
set_option maxRecDepth 100000 in
theorem B_266_270 {x1 : Int32} {x2 : Int32} {x3 : Int32} {h : XH} {Q : Value → XH → Prop} (hs : Sh h) (k : Ev 266 230 [.ref 69, .int x1, .int x2, .int (x3 + 1)] [] h Q) : Ev 266 270 [.ref 69, .int x1, .int x2, .int x3] [] h Q := by
  refine e_inc (ls' := [.ref 69, .int x1, .int x2, .int (x3 + 1)]) o_266_270 rfl rfl rfl ?_
  refine e_go o_266_273 ?_
  exact Ev.less (ls := [.ref 69, .int x1, .int x2, .int (x3 + 1)]) ⟨Or.inr rfl, Or.inr rfl, Or.inr rfl, Or.inr rfl, trivial⟩ k
