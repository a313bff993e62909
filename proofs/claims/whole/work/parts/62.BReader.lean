set_option maxHeartbeats 4000000 in
set_option maxRecDepth 100000 in
theorem B_2_0 {x0 : Int64} {x2 : Int32} {h : XH} {Q : Value → XH → Prop} (hs : Sh h) (k : Q (.long (((x0 : Int64) <<< ((5 : Int32).toInt64 &&& 63)) ||| (((x2 - 97) + 1) : Int32).toInt64)) h) : Ev 2 0 (x_ini 2 [.long x0, .int x2]) [] h Q := by
  rw [show x_ini 2 [.long x0, .int x2] = [.long x0, .null, .int x2] from x_inid ml_2 rfl]
  refine e_ll o_2_0 rfl ?_
  refine e_c 5 o_2_1 rfl ?_
  refine e_lshl o_2_2 ?_
  refine e_il o_2_3 rfl ?_
  refine e_c 97 o_2_4 rfl ?_
  refine e_bin o_2_6 rfl ?_
  refine e_c 1 o_2_7 rfl ?_
  refine e_bin o_2_8 rfl ?_
  refine e_i2l o_2_9 ?_
  refine e_lbin o_2_10 rfl ?_
  exact e_retL o_2_11 k
set_option maxHeartbeats 4000000 in
set_option maxRecDepth 100000 in
theorem B_14_0 {x2 : Int32} {h : XH} {Q : Value → XH → Prop} (hs : Sh h) (k : Ev 14 13 [.ref 6, .ref 5, .int x2, .int 0, .int 1, .int 0] [] (xsI h 6 4 0) Q) : Ev 14 0 (x_ini 14 [.ref 6, .ref 5, .int x2]) [] h Q := by
  rw [show x_ini 14 [.ref 6, .ref 5, .int x2] = [.ref 6, .ref 5, .int x2, .null, .null, .null] from x_inid ml_14 rfl]
  refine e_al o_14_0 rfl ?_
  refine e_c 0 o_14_1 rfl ?_
  refine e_pI o_14_2 (sk_6 (h := h) hs) ?_
  refine e_c 0 o_14_5 rfl ?_
  refine e_is (ls' := [.ref 6, .ref 5, .int x2, .int 0, .null, .null]) o_14_6 (Nat.le_of_ble_eq_true rfl) rfl ?_
  refine e_c 1 o_14_7 rfl ?_
  refine e_is (ls' := [.ref 6, .ref 5, .int x2, .int 0, .int 1, .null]) o_14_8 (Nat.le_of_ble_eq_true rfl) rfl ?_
  refine e_c 0 o_14_10 rfl ?_
  refine e_is (ls' := [.ref 6, .ref 5, .int x2, .int 0, .int 1, .int 0]) o_14_11 (Nat.le_of_ble_eq_true rfl) rfl ?_
  exact Ev.less (ls := [.ref 6, .ref 5, .int x2, .int 0, .int 1, .int 0]) ⟨Or.inr rfl, Or.inr rfl, Or.inr rfl, Or.inr rfl, Or.inr rfl, Or.inr rfl, trivial⟩ k
set_option maxHeartbeats 4000000 in
set_option maxRecDepth 100000 in
theorem B_14_13 {x2 : Int32} {x3 : Int32} {x4 : Int32} {x5 : Int32} {h : XH} {Q : Value → XH → Prop} (hs : Sh h) (k : ((x2 ≤ x5) → InB (xI h 6 4) 402 ∧ (InB (xI (xsI h 8 (tn (xI h 6 4)) 0) 6 4) 402 ∧ (Q .null (xsI (xsI h 8 (tn (xI h 6 4)) 0) 9 (tn (xI (xsI h 8 (tn (xI h 6 4)) 0) 6 4)) x2)))) ∧ (¬ (x2 ≤ x5) → ((x4 = 0) → InB (xI h 6 4) 402 ∧ (InB (xI (xsI h 8 (tn (xI h 6 4)) 0) 6 4) 402 ∧ (Q .null (xsI (xsI h 8 (tn (xI h 6 4)) 0) 9 (tn (xI (xsI h 8 (tn (xI h 6 4)) 0) 6 4)) x2)))) ∧ (¬ (x4 = 0) → ((x5 < x3) → Ev 14 13 [.ref 6, .ref 5, .int x2, .int x3, .int x4, .int (x5 + 1)] [] h Q) ∧ (¬ (x5 < x3) → InB x5 2000 ∧ (ClI 15 [.int (xI h 5 (tn x5))] h (fun v2 h1 => Sh h1 ∧ (((¬ v2 = 0) → Ev 14 13 [.ref 6, .ref 5, .int x2, .int x3, .int x4, .int (x5 + 1)] [] h1 Q) ∧ (¬ (¬ v2 = 0) → InB (xI h1 6 4) 402 ∧ (ClI 16 [.ref 6, .ref 5, .int x5, .int x2] (xsI h1 9 (tn (xI h1 6 4)) x5) (fun v4 h3 => Sh h3 ∧ (InB (xI h3 6 4) 402 ∧ ((((xI h3 8 (tn (xI h3 6 4))) = 1) → Ev 14 13 [.ref 6, .ref 5, .int x2, .int v4, .int 0, .int (x5 + 1)] [] (xsI h3 6 4 ((xI h3 6 4) + 1)) Q) ∧ (¬ ((xI h3 8 (tn (xI h3 6 4))) = 1) → ((400 ≤ (xI h3 6 4)) → Ev 14 13 [.ref 6, .ref 5, .int x2, .int v4, .int 0, .int (x5 + 1)] [] (xsI h3 6 4 ((xI h3 6 4) + 1)) Q) ∧ (¬ (400 ≤ (xI h3 6 4)) → Ev 14 13 [.ref 6, .ref 5, .int x2, .int v4, .int 1, .int (x5 + 1)] [] (xsI h3 6 4 ((xI h3 6 4) + 1)) Q)))))))))))))) : Ev 14 13 [.ref 6, .ref 5, .int x2, .int x3, .int x4, .int x5] [] h Q := by
  refine e_il o_14_13 rfl ?_
  refine e_il o_14_15 rfl ?_
  refine e_if_3 o_14_16 (fun z => ?_) (fun z => ?_)
  · have k := k.1 z
    refine e_al o_14_106 rfl ?_
    refine e_gR (r := 8) o_14_107 (sk_6 (h := h) hs) (sr_6_10 (h := h) hs) (by decide) ?_
    refine e_al o_14_110 rfl ?_
    refine e_gI o_14_111 (sk_6 (h := h) hs) ?_
    refine e_c 0 o_14_114 rfl ?_
    obtain ⟨q, k⟩ := k
    refine e_ias (n := 402) o_14_115 (sk_8 (h := h) hs) (by decide) (sn_8 (h := h) hs) q ?_
    refine e_al o_14_116 rfl ?_
    refine e_gR (r := 9) o_14_117 (sk_6 (h := h) hs) (sr_6_11 (h := h) hs) (by decide) ?_
    refine e_al o_14_120 rfl ?_
    refine e_gI o_14_121 (sk_6 (h := h) hs) ?_
    refine e_il o_14_124 rfl ?_
    obtain ⟨q, k⟩ := k
    refine e_ias (n := 402) o_14_125 (sk_9 (h := h) hs) (by decide) (sn_9 (h := h) hs) q ?_
    exact e_ret0 o_14_126 k
  · have k := k.2 z
    refine e_il o_14_19 rfl ?_
    refine e_i0_0 o_14_21 (fun z => ?_) (fun z => ?_)
    · have k := k.1 z
      refine e_al o_14_106 rfl ?_
      refine e_gR (r := 8) o_14_107 (sk_6 (h := h) hs) (sr_6_10 (h := h) hs) (by decide) ?_
      refine e_al o_14_110 rfl ?_
      refine e_gI o_14_111 (sk_6 (h := h) hs) ?_
      refine e_c 0 o_14_114 rfl ?_
      obtain ⟨q, k⟩ := k
      refine e_ias (n := 402) o_14_115 (sk_8 (h := h) hs) (by decide) (sn_8 (h := h) hs) q ?_
      refine e_al o_14_116 rfl ?_
      refine e_gR (r := 9) o_14_117 (sk_6 (h := h) hs) (sr_6_11 (h := h) hs) (by decide) ?_
      refine e_al o_14_120 rfl ?_
      refine e_gI o_14_121 (sk_6 (h := h) hs) ?_
      refine e_il o_14_124 rfl ?_
      obtain ⟨q, k⟩ := k
      refine e_ias (n := 402) o_14_125 (sk_9 (h := h) hs) (by decide) (sn_9 (h := h) hs) q ?_
      exact e_ret0 o_14_126 k
    · have k := k.2 z
      refine e_il o_14_24 rfl ?_
      refine e_il o_14_26 rfl ?_
      refine e_if_2 o_14_27 (fun z => ?_) (fun z => ?_)
      · have k := k.1 z
        refine e_inc (ls' := [.ref 6, .ref 5, .int x2, .int x3, .int x4, .int (x5 + 1)]) o_14_100 rfl rfl rfl ?_
        refine e_go o_14_103 ?_
        exact Ev.less (ls := [.ref 6, .ref 5, .int x2, .int x3, .int x4, .int (x5 + 1)]) ⟨Or.inr rfl, Or.inr rfl, Or.inr rfl, Or.inr rfl, Or.inr rfl, Or.inr rfl, trivial⟩ k
      · have k := k.2 z
        refine e_al o_14_30 rfl ?_
        refine e_il o_14_31 rfl ?_
        obtain ⟨q, k⟩ := k
        refine e_ba (n := 2000) o_14_33 (Or.inl (sk_5 (h := h) hs)) (sn_5 (h := h) hs) q ?_
        refine e_clI (as := [.int (xI h 5 (tn x5))]) (rest := []) o_14_34 rfl rfl (x_okd cl_14_15 ml_15 (Nat.le_of_ble_eq_true rfl) (Nat.le_of_ble_eq_true rfl)) (rfl) k ?_
        rintro v2 h1 ⟨sh1, k⟩
        refine e_i0_1 o_14_37 (fun z => ?_) (fun z => ?_)
        · have k := k.1 z
          refine e_inc (ls' := [.ref 6, .ref 5, .int x2, .int x3, .int x4, .int (x5 + 1)]) o_14_100 rfl rfl rfl ?_
          refine e_go o_14_103 ?_
          exact Ev.less (ls := [.ref 6, .ref 5, .int x2, .int x3, .int x4, .int (x5 + 1)]) ⟨Or.inr rfl, Or.inr rfl, Or.inr rfl, Or.inr rfl, Or.inr rfl, Or.inr rfl, trivial⟩ k
        · have k := k.2 z
          refine e_al o_14_40 rfl ?_
          refine e_gR (r := 9) o_14_41 (sk_6 (h := h1) sh1) (sr_6_11 (h := h1) sh1) (by decide) ?_
          refine e_al o_14_44 rfl ?_
          refine e_gI o_14_45 (sk_6 (h := h1) sh1) ?_
          refine e_il o_14_48 rfl ?_
          obtain ⟨q, k⟩ := k
          refine e_ias (n := 402) o_14_50 (sk_9 (h := h1) sh1) (by decide) (sn_9 (h := h1) sh1) q ?_
          refine e_al o_14_51 rfl ?_
          refine e_al o_14_52 rfl ?_
          refine e_il o_14_53 rfl ?_
          refine e_il o_14_55 rfl ?_
          refine e_clI (as := [.ref 6, .ref 5, .int x5, .int x2]) (rest := []) o_14_56 rfl rfl (x_okd cl_14_16 ml_16 (Nat.le_of_ble_eq_true rfl) (Nat.le_of_ble_eq_true rfl)) (x_rc0 (ci := 4) (sk_6 (h := h1) sh1) mo_16) k ?_
          rintro v4 h3 ⟨sh3, k⟩
          refine e_is (ls' := [.ref 6, .ref 5, .int x2, .int v4, .int x4, .int x5]) o_14_59 (Nat.le_of_ble_eq_true rfl) rfl ?_
          refine e_al o_14_60 rfl ?_
          refine e_gR (r := 8) o_14_61 (sk_6 (h := h3) sh3) (sr_6_10 (h := h3) sh3) (by decide) ?_
          refine e_al o_14_64 rfl ?_
          refine e_gI o_14_65 (sk_6 (h := h3) sh3) ?_
          obtain ⟨q, k⟩ := k
          refine e_ia (n := 402) o_14_68 (sk_8 (h := h3) sh3) (sn_8 (h := h3) sh3) q ?_
          refine e_c 1 o_14_69 rfl ?_
          refine e_if_0 o_14_70 (fun z => ?_) (fun z => ?_)
          · have k := k.1 z
            refine e_c 0 o_14_87 rfl ?_
            refine e_is (ls' := [.ref 6, .ref 5, .int x2, .int v4, .int 0, .int x5]) o_14_88 (Nat.le_of_ble_eq_true rfl) rfl ?_
            refine e_al o_14_90 rfl ?_
            refine e_dup o_14_91 rfl ?_
            refine e_gI o_14_92 (sk_6 (h := h3) sh3) ?_
            refine e_c 1 o_14_95 rfl ?_
            refine e_bin o_14_96 rfl ?_
            refine e_pI o_14_97 (sk_6 (h := h3) sh3) ?_
            refine e_inc (ls' := [.ref 6, .ref 5, .int x2, .int v4, .int 0, .int (x5 + 1)]) o_14_100 rfl rfl rfl ?_
            refine e_go o_14_103 ?_
            exact Ev.less (ls := [.ref 6, .ref 5, .int x2, .int v4, .int 0, .int (x5 + 1)]) ⟨Or.inr rfl, Or.inr rfl, Or.inr rfl, Or.inr rfl, Or.inr rfl, Or.inr rfl, trivial⟩ k
          · have k := k.2 z
            refine e_al o_14_73 rfl ?_
            refine e_gI o_14_74 (sk_6 (h := h3) sh3) ?_
            refine e_c 400 o_14_77 rfl ?_
            refine e_if_3 o_14_80 (fun z => ?_) (fun z => ?_)
            · have k := k.1 z
              refine e_c 0 o_14_87 rfl ?_
              refine e_is (ls' := [.ref 6, .ref 5, .int x2, .int v4, .int 0, .int x5]) o_14_88 (Nat.le_of_ble_eq_true rfl) rfl ?_
              refine e_al o_14_90 rfl ?_
              refine e_dup o_14_91 rfl ?_
              refine e_gI o_14_92 (sk_6 (h := h3) sh3) ?_
              refine e_c 1 o_14_95 rfl ?_
              refine e_bin o_14_96 rfl ?_
              refine e_pI o_14_97 (sk_6 (h := h3) sh3) ?_
              refine e_inc (ls' := [.ref 6, .ref 5, .int x2, .int v4, .int 0, .int (x5 + 1)]) o_14_100 rfl rfl rfl ?_
              refine e_go o_14_103 ?_
              exact Ev.less (ls := [.ref 6, .ref 5, .int x2, .int v4, .int 0, .int (x5 + 1)]) ⟨Or.inr rfl, Or.inr rfl, Or.inr rfl, Or.inr rfl, Or.inr rfl, Or.inr rfl, trivial⟩ k
            · have k := k.2 z
              refine e_c 1 o_14_83 rfl ?_
              refine e_go o_14_84 ?_
              refine e_is (ls' := [.ref 6, .ref 5, .int x2, .int v4, .int 1, .int x5]) o_14_88 (Nat.le_of_ble_eq_true rfl) rfl ?_
              refine e_al o_14_90 rfl ?_
              refine e_dup o_14_91 rfl ?_
              refine e_gI o_14_92 (sk_6 (h := h3) sh3) ?_
              refine e_c 1 o_14_95 rfl ?_
              refine e_bin o_14_96 rfl ?_
              refine e_pI o_14_97 (sk_6 (h := h3) sh3) ?_
              refine e_inc (ls' := [.ref 6, .ref 5, .int x2, .int v4, .int 1, .int (x5 + 1)]) o_14_100 rfl rfl rfl ?_
              refine e_go o_14_103 ?_
              exact Ev.less (ls := [.ref 6, .ref 5, .int x2, .int v4, .int 1, .int (x5 + 1)]) ⟨Or.inr rfl, Or.inr rfl, Or.inr rfl, Or.inr rfl, Or.inr rfl, Or.inr rfl, trivial⟩ k
set_option maxHeartbeats 4000000 in
set_option maxRecDepth 100000 in
theorem B_15_0 {x0 : Int32} {h : XH} {Q : Value → XH → Prop} (hs : Sh h) (k : ((x0 = 9) → Q (.int 1) h) ∧ (¬ (x0 = 9) → ((x0 = 10) → Q (.int 1) h) ∧ (¬ (x0 = 10) → ((x0 = 13) → Q (.int 1) h) ∧ (¬ (x0 = 13) → ((¬ x0 = 32) → Q (.int 0) h) ∧ (¬ (¬ x0 = 32) → Q (.int 1) h))))) : Ev 15 0 (x_ini 15 [.int x0]) [] h Q := by
  rw [show x_ini 15 [.int x0] = [.int x0] from x_inid ml_15 rfl]
  refine e_il o_15_0 rfl ?_
  refine e_c 9 o_15_1 rfl ?_
  refine e_if_0 o_15_3 (fun z => ?_) (fun z => ?_)
  · have k := k.1 z
    refine e_c 1 o_15_24 rfl ?_
    refine e_go o_15_25 ?_
    exact e_retZ o_15_29 (by decide) k
  · have k := k.2 z
    refine e_il o_15_6 rfl ?_
    refine e_c 10 o_15_7 rfl ?_
    refine e_if_0 o_15_9 (fun z => ?_) (fun z => ?_)
    · have k := k.1 z
      refine e_c 1 o_15_24 rfl ?_
      refine e_go o_15_25 ?_
      exact e_retZ o_15_29 (by decide) k
    · have k := k.2 z
      refine e_il o_15_12 rfl ?_
      refine e_c 13 o_15_13 rfl ?_
      refine e_if_0 o_15_15 (fun z => ?_) (fun z => ?_)
      · have k := k.1 z
        refine e_c 1 o_15_24 rfl ?_
        refine e_go o_15_25 ?_
        exact e_retZ o_15_29 (by decide) k
      · have k := k.2 z
        refine e_il o_15_18 rfl ?_
        refine e_c 32 o_15_19 rfl ?_
        refine e_if_1 o_15_21 (fun z => ?_) (fun z => ?_)
        · have k := k.1 z
          refine e_c 0 o_15_28 rfl ?_
          exact e_retZ o_15_29 (by decide) k
        · have k := k.2 z
          refine e_c 1 o_15_24 rfl ?_
          refine e_go o_15_25 ?_
          exact e_retZ o_15_29 (by decide) k
set_option maxHeartbeats 4000000 in
set_option maxRecDepth 100000 in
theorem B_16_0 {x2 : Int32} {x3 : Int32} {h : XH} {Q : Value → XH → Prop} (hs : Sh h) (k : InB x2 2000 ∧ (ClI 17 [.int (xI h 5 (tn x2))] h (fun v2 h1 => Sh h1 ∧ (((v2 = 0) → InB x2 2000 ∧ (ClI 19 [.int (xI h1 5 (tn x2))] h1 (fun v4 h3 => Sh h3 ∧ (((v4 = 0) → InB x2 2000 ∧ (ClI 20 [.int (xI h3 5 (tn x2))] h3 (fun v6 h5 => Sh h5 ∧ (((v6 = 0) → InB (xI h3 6 4) 402 ∧ (Ev 16 208 [.ref 6, .null, .null, .null, .int (x2 + 1), .long 0, .null] [] (xsI h5 8 (tn (xI h3 6 4)) 1) Q)) ∧ (¬ (v6 = 0) → InB x2 2000 ∧ (InB (xI h3 6 4) 402 ∧ (Ev 16 208 [.ref 6, .null, .null, .null, .int (x2 + 1), .long 0, .null] [] (xsI h5 8 (tn (xI h3 6 4)) (xI h5 5 (tn x2))) Q))))))) ∧ (¬ (v4 = 0) → Ev 16 101 [.ref 6, .ref 5, .int x2, .int x3, .int x2, .long 0, .null] [] h3 Q))))) ∧ (¬ (v2 = 0) → Ev 16 15 [.ref 6, .ref 5, .int x2, .int x3, .int x2, .long 0, .null] [] h1 Q))))) : Ev 16 0 (x_ini 16 [.ref 6, .ref 5, .int x2, .int x3]) [] h Q := by
  rw [show x_ini 16 [.ref 6, .ref 5, .int x2, .int x3] = [.ref 6, .ref 5, .int x2, .int x3, .null, .null, .null] from x_inid ml_16 rfl]
  refine e_il o_16_0 rfl ?_
  refine e_is (ls' := [.ref 6, .ref 5, .int x2, .int x3, .int x2, .null, .null]) o_16_1 (Nat.le_of_ble_eq_true rfl) rfl ?_
  refine e_lc 0 o_16_3 rfl ?_
  refine e_lst (ls' := [.ref 6, .ref 5, .int x2, .int x3, .int x2, .long 0, .null]) o_16_4 (Nat.le_of_ble_eq_true rfl) rfl ?_
  refine e_al o_16_6 rfl ?_
  refine e_il o_16_7 rfl ?_
  obtain ⟨q, k⟩ := k
  refine e_ba (n := 2000) o_16_8 (Or.inl (sk_5 (h := h) hs)) (sn_5 (h := h) hs) q ?_
  refine e_clI (as := [.int (xI h 5 (tn x2))]) (rest := []) o_16_9 rfl rfl (x_okd cl_16_17 ml_17 (Nat.le_of_ble_eq_true rfl) (Nat.le_of_ble_eq_true rfl)) (rfl) k ?_
  rintro v2 h1 ⟨sh1, k⟩
  refine e_i0_0 o_16_12 (fun z => ?_) (fun z => ?_)
  · have k := k.1 z
    refine e_al o_16_92 rfl ?_
    refine e_il o_16_93 rfl ?_
    obtain ⟨q, k⟩ := k
    refine e_ba (n := 2000) o_16_94 (Or.inl (sk_5 (h := h1) sh1)) (sn_5 (h := h1) sh1) q ?_
    refine e_clI (as := [.int (xI h1 5 (tn x2))]) (rest := []) o_16_95 rfl rfl (x_okd cl_16_19 ml_19 (Nat.le_of_ble_eq_true rfl) (Nat.le_of_ble_eq_true rfl)) (rfl) k ?_
    rintro v4 h3 ⟨sh3, k⟩
    refine e_i0_0 o_16_98 (fun z => ?_) (fun z => ?_)
    · have k := k.1 z
      refine e_il o_16_178 rfl ?_
      refine e_c 1 o_16_179 rfl ?_
      refine e_bin o_16_180 rfl ?_
      refine e_is (ls' := [.ref 6, .ref 5, .int x2, .int x3, .int (x2 + 1), .long 0, .null]) o_16_181 (Nat.le_of_ble_eq_true rfl) rfl ?_
      refine e_al o_16_183 rfl ?_
      refine e_gR (r := 8) o_16_184 (sk_6 (h := h3) sh3) (sr_6_10 (h := h3) sh3) (by decide) ?_
      refine e_al o_16_187 rfl ?_
      refine e_gI o_16_188 (sk_6 (h := h3) sh3) ?_
      refine e_al o_16_191 rfl ?_
      refine e_il o_16_192 rfl ?_
      obtain ⟨q, k⟩ := k
      refine e_ba (n := 2000) o_16_193 (Or.inl (sk_5 (h := h3) sh3)) (sn_5 (h := h3) sh3) q ?_
      refine e_clI (as := [.int (xI h3 5 (tn x2))]) (rest := [.int (xI h3 6 4), .ref 8]) o_16_194 rfl rfl (x_okd cl_16_20 ml_20 (Nat.le_of_ble_eq_true rfl) (Nat.le_of_ble_eq_true rfl)) (rfl) k ?_
      rintro v6 h5 ⟨sh5, k⟩
      refine e_i0_0 o_16_197 (fun z => ?_) (fun z => ?_)
      · have k := k.1 z
        refine e_c 1 o_16_206 rfl ?_
        obtain ⟨q, k⟩ := k
        refine e_ias (n := 402) o_16_207 (sk_8 (h := h5) sh5) (by decide) (sn_8 (h := h5) sh5) q ?_
        exact Ev.less (ls := [.ref 6, .null, .null, .null, .int (x2 + 1), .long 0, .null]) ⟨Or.inr rfl, Or.inl rfl, Or.inl rfl, Or.inl rfl, Or.inr rfl, Or.inr rfl, Or.inl rfl, trivial⟩ k
      · have k := k.2 z
        refine e_al o_16_200 rfl ?_
        refine e_il o_16_201 rfl ?_
        obtain ⟨q, k⟩ := k
        refine e_ba (n := 2000) o_16_202 (Or.inl (sk_5 (h := h5) sh5)) (sn_5 (h := h5) sh5) q ?_
        refine e_go o_16_203 ?_
        obtain ⟨q, k⟩ := k
        refine e_ias (n := 402) o_16_207 (sk_8 (h := h5) sh5) (by decide) (sn_8 (h := h5) sh5) q ?_
        exact Ev.less (ls := [.ref 6, .null, .null, .null, .int (x2 + 1), .long 0, .null]) ⟨Or.inr rfl, Or.inl rfl, Or.inl rfl, Or.inl rfl, Or.inr rfl, Or.inr rfl, Or.inl rfl, trivial⟩ k
    · have k := k.2 z
      exact Ev.less (ls := [.ref 6, .ref 5, .int x2, .int x3, .int x2, .long 0, .null]) ⟨Or.inr rfl, Or.inr rfl, Or.inr rfl, Or.inr rfl, Or.inr rfl, Or.inr rfl, Or.inl rfl, trivial⟩ k
  · have k := k.2 z
    exact Ev.less (ls := [.ref 6, .ref 5, .int x2, .int x3, .int x2, .long 0, .null]) ⟨Or.inr rfl, Or.inr rfl, Or.inr rfl, Or.inr rfl, Or.inr rfl, Or.inr rfl, Or.inl rfl, trivial⟩ k
set_option maxHeartbeats 4000000 in
set_option maxRecDepth 100000 in
theorem B_16_15 {x2 : Int32} {x3 : Int32} {x4 : Int32} {x5 : Int64} {h : XH} {Q : Value → XH → Prop} (hs : Sh h) (k : ((x3 ≤ x4) → Ev 16 61 [.ref 6, .null, .int x2, .null, .int x4, .long x5, .null] [] h Q) ∧ (¬ (x3 ≤ x4) → InB x4 2000 ∧ (ClI 17 [.int (xI h 5 (tn x4))] h (fun v2 h1 => Sh h1 ∧ (((v2 = 0) → Ev 16 61 [.ref 6, .null, .int x2, .null, .int x4, .long x5, .null] [] h1 Q) ∧ (¬ (v2 = 0) → ((8 ≤ (x4 - x2)) → Ev 16 15 [.ref 6, .ref 5, .int x2, .int x3, .int (x4 + 1), .long 0, .null] [] h1 Q) ∧ (¬ (8 ≤ (x4 - x2)) → InB x4 2000 ∧ (ClL 2 [.long x5, .int (xI h1 5 (tn x4))] h1 (fun v4 h3 => Sh h3 ∧ (Ev 16 15 [.ref 6, .ref 5, .int x2, .int x3, .int (x4 + 1), .long v4, .null] [] h3 Q)))))))))) : Ev 16 15 [.ref 6, .ref 5, .int x2, .int x3, .int x4, .long x5, .null] [] h Q := by
  refine e_il o_16_15 rfl ?_
  refine e_il o_16_17 rfl ?_
  refine e_if_3 o_16_18 (fun z => ?_) (fun z => ?_)
  · have k := k.1 z
    exact Ev.less (ls := [.ref 6, .null, .int x2, .null, .int x4, .long x5, .null]) ⟨Or.inr rfl, Or.inl rfl, Or.inr rfl, Or.inl rfl, Or.inr rfl, Or.inr rfl, Or.inl rfl, trivial⟩ k
  · have k := k.2 z
    refine e_al o_16_21 rfl ?_
    refine e_il o_16_22 rfl ?_
    obtain ⟨q, k⟩ := k
    refine e_ba (n := 2000) o_16_24 (Or.inl (sk_5 (h := h) hs)) (sn_5 (h := h) hs) q ?_
    refine e_clI (as := [.int (xI h 5 (tn x4))]) (rest := []) o_16_25 rfl rfl (x_okd cl_16_17 ml_17 (Nat.le_of_ble_eq_true rfl) (Nat.le_of_ble_eq_true rfl)) (rfl) k ?_
    rintro v2 h1 ⟨sh1, k⟩
    refine e_i0_0 o_16_28 (fun z => ?_) (fun z => ?_)
    · have k := k.1 z
      exact Ev.less (ls := [.ref 6, .null, .int x2, .null, .int x4, .long x5, .null]) ⟨Or.inr rfl, Or.inl rfl, Or.inr rfl, Or.inl rfl, Or.inr rfl, Or.inr rfl, Or.inl rfl, trivial⟩ k
    · have k := k.2 z
      refine e_il o_16_31 rfl ?_
      refine e_il o_16_33 rfl ?_
      refine e_bin o_16_34 rfl ?_
      refine e_c 8 o_16_35 rfl ?_
      refine e_if_3 o_16_37 (fun z => ?_) (fun z => ?_)
      · have k := k.1 z
        refine e_lc 0 o_16_52 rfl ?_
        refine e_lst (ls' := [.ref 6, .ref 5, .int x2, .int x3, .int x4, .long 0, .null]) o_16_53 (Nat.le_of_ble_eq_true rfl) rfl ?_
        refine e_inc (ls' := [.ref 6, .ref 5, .int x2, .int x3, .int (x4 + 1), .long 0, .null]) o_16_55 rfl rfl rfl ?_
        refine e_go o_16_58 ?_
        exact Ev.less (ls := [.ref 6, .ref 5, .int x2, .int x3, .int (x4 + 1), .long 0, .null]) ⟨Or.inr rfl, Or.inr rfl, Or.inr rfl, Or.inr rfl, Or.inr rfl, Or.inr rfl, Or.inl rfl, trivial⟩ k
      · have k := k.2 z
        refine e_ll o_16_40 rfl ?_
        refine e_al o_16_42 rfl ?_
        refine e_il o_16_43 rfl ?_
        obtain ⟨q, k⟩ := k
        refine e_ba (n := 2000) o_16_45 (Or.inl (sk_5 (h := h1) sh1)) (sn_5 (h := h1) sh1) q ?_
        refine e_clL (as := [.long x5, .int (xI h1 5 (tn x4))]) (rest := []) o_16_46 rfl rfl (x_okd cl_16_2 ml_2 (Nat.le_of_ble_eq_true rfl) (Nat.le_of_ble_eq_true rfl)) (rfl) k ?_
        rintro v4 h3 ⟨sh3, k⟩
        refine e_go o_16_49 ?_
        refine e_lst (ls' := [.ref 6, .ref 5, .int x2, .int x3, .int x4, .long v4, .null]) o_16_53 (Nat.le_of_ble_eq_true rfl) rfl ?_
        refine e_inc (ls' := [.ref 6, .ref 5, .int x2, .int x3, .int (x4 + 1), .long v4, .null]) o_16_55 rfl rfl rfl ?_
        refine e_go o_16_58 ?_
        exact Ev.less (ls := [.ref 6, .ref 5, .int x2, .int x3, .int (x4 + 1), .long v4, .null]) ⟨Or.inr rfl, Or.inr rfl, Or.inr rfl, Or.inr rfl, Or.inr rfl, Or.inr rfl, Or.inl rfl, trivial⟩ k
set_option maxHeartbeats 4000000 in
set_option maxRecDepth 100000 in
theorem B_16_61 {x2 : Int32} {x4 : Int32} {x5 : Int64} {h : XH} {Q : Value → XH → Prop} (hs : Sh h) (k : (((x4 - x2) ≤ 8) → ClI 18 [.ref 6, .long x5] h (fun v2 h1 => Sh h1 ∧ (InB (xI h 6 4) 402 ∧ (Ev 16 208 [.ref 6, .null, .null, .null, .int x4, .long x5, .null] [] (xsI h1 8 (tn (xI h 6 4)) v2) Q)))) ∧ (¬ ((x4 - x2) ≤ 8) → InB (xI h 6 4) 402 ∧ (Ev 16 208 [.ref 6, .null, .null, .null, .int x4, .long x5, .null] [] (xsI h 8 (tn (xI h 6 4)) 1) Q))) : Ev 16 61 [.ref 6, .null, .int x2, .null, .int x4, .long x5, .null] [] h Q := by
  refine e_al o_16_61 rfl ?_
  refine e_gR (r := 8) o_16_62 (sk_6 (h := h) hs) (sr_6_10 (h := h) hs) (by decide) ?_
  refine e_al o_16_65 rfl ?_
  refine e_gI o_16_66 (sk_6 (h := h) hs) ?_
  refine e_il o_16_69 rfl ?_
  refine e_il o_16_71 rfl ?_
  refine e_bin o_16_72 rfl ?_
  refine e_c 8 o_16_73 rfl ?_
  refine e_if_5 o_16_75 (fun z => ?_) (fun z => ?_)
  · have k := k.1 z
    refine e_al o_16_82 rfl ?_
    refine e_ll o_16_83 rfl ?_
    refine e_clI (as := [.ref 6, .long x5]) (rest := [.int (xI h 6 4), .ref 8]) o_16_85 rfl rfl (x_okd cl_16_18 ml_18 (Nat.le_of_ble_eq_true rfl) (Nat.le_of_ble_eq_true rfl)) (x_rc0 (ci := 4) (sk_6 (h := h) hs) mo_18) k ?_
    rintro v2 h1 ⟨sh1, k⟩
    obtain ⟨q, k⟩ := k
    refine e_ias (n := 402) o_16_88 (sk_8 (h := h1) sh1) (by decide) (sn_8 (h := h1) sh1) q ?_
    refine e_go o_16_89 ?_
    exact Ev.less (ls := [.ref 6, .null, .null, .null, .int x4, .long x5, .null]) ⟨Or.inr rfl, Or.inl rfl, Or.inl rfl, Or.inl rfl, Or.inr rfl, Or.inr rfl, Or.inl rfl, trivial⟩ k
  · have k := k.2 z
    refine e_c 1 o_16_78 rfl ?_
    refine e_go o_16_79 ?_
    obtain ⟨q, k⟩ := k
    refine e_ias (n := 402) o_16_88 (sk_8 (h := h) hs) (by decide) (sn_8 (h := h) hs) q ?_
    refine e_go o_16_89 ?_
    exact Ev.less (ls := [.ref 6, .null, .null, .null, .int x4, .long x5, .null]) ⟨Or.inr rfl, Or.inl rfl, Or.inl rfl, Or.inl rfl, Or.inr rfl, Or.inr rfl, Or.inl rfl, trivial⟩ k
set_option maxHeartbeats 4000000 in
set_option maxRecDepth 100000 in
theorem B_16_101 {x2 : Int32} {x3 : Int32} {x4 : Int32} {x5 : Int64} {h : XH} {Q : Value → XH → Prop} (hs : Sh h) (k : ((x3 ≤ x4) → Ev 16 153 [.ref 6, .null, .int x2, .null, .int x4, .long x5, .null] [] h Q) ∧ (¬ (x3 ≤ x4) → InB x4 2000 ∧ (ClI 19 [.int (xI h 5 (tn x4))] h (fun v2 h1 => Sh h1 ∧ (((v2 = 0) → Ev 16 153 [.ref 6, .null, .int x2, .null, .int x4, .long x5, .null] [] h1 Q) ∧ (¬ (v2 = 0) → ((4 ≤ (x4 - x2)) → Ev 16 101 [.ref 6, .ref 5, .int x2, .int x3, .int (x4 + 1), .long 0, .null] [] h1 Q) ∧ (¬ (4 ≤ (x4 - x2)) → InB x4 2000 ∧ (Ev 16 101 [.ref 6, .ref 5, .int x2, .int x3, .int (x4 + 1), .long (((x5 * 10) + ((xI h1 5 (tn x4)) : Int32).toInt64) - 48), .null] [] h1 Q)))))))) : Ev 16 101 [.ref 6, .ref 5, .int x2, .int x3, .int x4, .long x5, .null] [] h Q := by
  refine e_il o_16_101 rfl ?_
  refine e_il o_16_103 rfl ?_
  refine e_if_3 o_16_104 (fun z => ?_) (fun z => ?_)
  · have k := k.1 z
    exact Ev.less (ls := [.ref 6, .null, .int x2, .null, .int x4, .long x5, .null]) ⟨Or.inr rfl, Or.inl rfl, Or.inr rfl, Or.inl rfl, Or.inr rfl, Or.inr rfl, Or.inl rfl, trivial⟩ k
  · have k := k.2 z
    refine e_al o_16_107 rfl ?_
    refine e_il o_16_108 rfl ?_
    obtain ⟨q, k⟩ := k
    refine e_ba (n := 2000) o_16_110 (Or.inl (sk_5 (h := h) hs)) (sn_5 (h := h) hs) q ?_
    refine e_clI (as := [.int (xI h 5 (tn x4))]) (rest := []) o_16_111 rfl rfl (x_okd cl_16_19 ml_19 (Nat.le_of_ble_eq_true rfl) (Nat.le_of_ble_eq_true rfl)) (rfl) k ?_
    rintro v2 h1 ⟨sh1, k⟩
    refine e_i0_0 o_16_114 (fun z => ?_) (fun z => ?_)
    · have k := k.1 z
      exact Ev.less (ls := [.ref 6, .null, .int x2, .null, .int x4, .long x5, .null]) ⟨Or.inr rfl, Or.inl rfl, Or.inr rfl, Or.inl rfl, Or.inr rfl, Or.inr rfl, Or.inl rfl, trivial⟩ k
    · have k := k.2 z
      refine e_il o_16_117 rfl ?_
      refine e_il o_16_119 rfl ?_
      refine e_bin o_16_120 rfl ?_
      refine e_c 4 o_16_121 rfl ?_
      refine e_if_3 o_16_122 (fun z => ?_) (fun z => ?_)
      · have k := k.1 z
        refine e_lc 0 o_16_144 rfl ?_
        refine e_lst (ls' := [.ref 6, .ref 5, .int x2, .int x3, .int x4, .long 0, .null]) o_16_145 (Nat.le_of_ble_eq_true rfl) rfl ?_
        refine e_inc (ls' := [.ref 6, .ref 5, .int x2, .int x3, .int (x4 + 1), .long 0, .null]) o_16_147 rfl rfl rfl ?_
        refine e_go o_16_150 ?_
        exact Ev.less (ls := [.ref 6, .ref 5, .int x2, .int x3, .int (x4 + 1), .long 0, .null]) ⟨Or.inr rfl, Or.inr rfl, Or.inr rfl, Or.inr rfl, Or.inr rfl, Or.inr rfl, Or.inl rfl, trivial⟩ k
      · have k := k.2 z
        refine e_ll o_16_125 rfl ?_
        refine e_lc 10 o_16_127 rfl ?_
        refine e_lbin o_16_130 rfl ?_
        refine e_al o_16_131 rfl ?_
        refine e_il o_16_132 rfl ?_
        obtain ⟨q, k⟩ := k
        refine e_ba (n := 2000) o_16_134 (Or.inl (sk_5 (h := h1) sh1)) (sn_5 (h := h1) sh1) q ?_
        refine e_i2l o_16_135 ?_
        refine e_lbin o_16_136 rfl ?_
        refine e_lc 48 o_16_137 rfl ?_
        refine e_lbin o_16_140 rfl ?_
        refine e_go o_16_141 ?_
        refine e_lst (ls' := [.ref 6, .ref 5, .int x2, .int x3, .int x4, .long (((x5 * 10) + ((xI h1 5 (tn x4)) : Int32).toInt64) - 48), .null]) o_16_145 (Nat.le_of_ble_eq_true rfl) rfl ?_
        refine e_inc (ls' := [.ref 6, .ref 5, .int x2, .int x3, .int (x4 + 1), .long (((x5 * 10) + ((xI h1 5 (tn x4)) : Int32).toInt64) - 48), .null]) o_16_147 rfl rfl rfl ?_
        refine e_go o_16_150 ?_
        exact Ev.less (ls := [.ref 6, .ref 5, .int x2, .int x3, .int (x4 + 1), .long (((x5 * 10) + ((xI h1 5 (tn x4)) : Int32).toInt64) - 48), .null]) ⟨Or.inr rfl, Or.inr rfl, Or.inr rfl, Or.inr rfl, Or.inr rfl, Or.inr rfl, Or.inl rfl, trivial⟩ k
set_option maxHeartbeats 4000000 in
set_option maxRecDepth 100000 in
theorem B_16_153 {x2 : Int32} {x4 : Int32} {x5 : Int64} {h : XH} {Q : Value → XH → Prop} (hs : Sh h) (k : (((x4 - x2) ≤ 4) → InB (xI h 6 4) 402 ∧ (Ev 16 208 [.ref 6, .null, .null, .null, .int x4, .long x5, .null] [] (xsI h 8 (tn (xI h 6 4)) 3) Q)) ∧ (¬ ((x4 - x2) ≤ 4) → InB (xI h 6 4) 402 ∧ (Ev 16 208 [.ref 6, .null, .null, .null, .int x4, .long x5, .null] [] (xsI h 8 (tn (xI h 6 4)) 1) Q))) : Ev 16 153 [.ref 6, .null, .int x2, .null, .int x4, .long x5, .null] [] h Q := by
  refine e_al o_16_153 rfl ?_
  refine e_gR (r := 8) o_16_154 (sk_6 (h := h) hs) (sr_6_10 (h := h) hs) (by decide) ?_
  refine e_al o_16_157 rfl ?_
  refine e_gI o_16_158 (sk_6 (h := h) hs) ?_
  refine e_il o_16_161 rfl ?_
  refine e_il o_16_163 rfl ?_
  refine e_bin o_16_164 rfl ?_
  refine e_c 4 o_16_165 rfl ?_
  refine e_if_5 o_16_166 (fun z => ?_) (fun z => ?_)
  · have k := k.1 z
    refine e_c 3 o_16_173 rfl ?_
    obtain ⟨q, k⟩ := k
    refine e_ias (n := 402) o_16_174 (sk_8 (h := h) hs) (by decide) (sn_8 (h := h) hs) q ?_
    refine e_go o_16_175 ?_
    exact Ev.less (ls := [.ref 6, .null, .null, .null, .int x4, .long x5, .null]) ⟨Or.inr rfl, Or.inl rfl, Or.inl rfl, Or.inl rfl, Or.inr rfl, Or.inr rfl, Or.inl rfl, trivial⟩ k
  · have k := k.2 z
    refine e_c 1 o_16_169 rfl ?_
    refine e_go o_16_170 ?_
    obtain ⟨q, k⟩ := k
    refine e_ias (n := 402) o_16_174 (sk_8 (h := h) hs) (by decide) (sn_8 (h := h) hs) q ?_
    refine e_go o_16_175 ?_
    exact Ev.less (ls := [.ref 6, .null, .null, .null, .int x4, .long x5, .null]) ⟨Or.inr rfl, Or.inl rfl, Or.inl rfl, Or.inl rfl, Or.inr rfl, Or.inr rfl, Or.inl rfl, trivial⟩ k
set_option maxHeartbeats 4000000 in
set_option maxRecDepth 100000 in
theorem B_16_208 {x4 : Int32} {x5 : Int64} {h : XH} {Q : Value → XH → Prop} (hs : Sh h) (k : InB (xI h 6 4) 402 ∧ (Q (.int x4) (xsL h 10 (tn (xI h 6 4)) x5))) : Ev 16 208 [.ref 6, .null, .null, .null, .int x4, .long x5, .null] [] h Q := by
  refine e_al o_16_208 rfl ?_
  refine e_gR (r := 10) o_16_209 (sk_6 (h := h) hs) (sr_6_12 (h := h) hs) (by decide) ?_
  refine e_al o_16_212 rfl ?_
  refine e_gI o_16_213 (sk_6 (h := h) hs) ?_
  refine e_ll o_16_216 rfl ?_
  obtain ⟨q, k⟩ := k
  refine e_las (n := 402) o_16_218 (sk_10 (h := h) hs) (sn_10 (h := h) hs) q ?_
  refine e_il o_16_219 rfl ?_
  exact e_retI o_16_221 k
set_option maxHeartbeats 4000000 in
set_option maxRecDepth 100000 in
theorem B_17_0 {x0 : Int32} {h : XH} {Q : Value → XH → Prop} (hs : Sh h) (k : ((x0 < 97) → Q (.int 0) h) ∧ (¬ (x0 < 97) → ((122 < x0) → Q (.int 0) h) ∧ (¬ (122 < x0) → Q (.int 1) h))) : Ev 17 0 (x_ini 17 [.int x0]) [] h Q := by
  rw [show x_ini 17 [.int x0] = [.int x0] from x_inid ml_17 rfl]
  refine e_il o_17_0 rfl ?_
  refine e_c 97 o_17_1 rfl ?_
  refine e_if_2 o_17_3 (fun z => ?_) (fun z => ?_)
  · have k := k.1 z
    refine e_c 0 o_17_16 rfl ?_
    exact e_retZ o_17_17 (by decide) k
  · have k := k.2 z
    refine e_il o_17_6 rfl ?_
    refine e_c 122 o_17_7 rfl ?_
    refine e_if_4 o_17_9 (fun z => ?_) (fun z => ?_)
    · have k := k.1 z
      refine e_c 0 o_17_16 rfl ?_
      exact e_retZ o_17_17 (by decide) k
    · have k := k.2 z
      refine e_c 1 o_17_12 rfl ?_
      refine e_go o_17_13 ?_
      exact e_retZ o_17_17 (by decide) k
set_option maxHeartbeats 4000000 in
set_option maxRecDepth 100000 in
theorem B_18_0 {x1 : Int64} {h : XH} {Q : Value → XH → Prop} (hs : Sh h) (k : Ev 18 2 [.ref 6, .long x1, .null, .int 0] [] h Q) : Ev 18 0 (x_ini 18 [.ref 6, .long x1]) [] h Q := by
  rw [show x_ini 18 [.ref 6, .long x1] = [.ref 6, .long x1, .null, .null] from x_inid ml_18 rfl]
  refine e_c 0 o_18_0 rfl ?_
  refine e_is (ls' := [.ref 6, .long x1, .null, .int 0]) o_18_1 (Nat.le_of_ble_eq_true rfl) rfl ?_
  exact Ev.less (ls := [.ref 6, .long x1, .null, .int 0]) ⟨Or.inr rfl, Or.inr rfl, Or.inl rfl, Or.inr rfl, trivial⟩ k
set_option maxHeartbeats 4000000 in
set_option maxRecDepth 100000 in
theorem B_18_2 {x1 : Int64} {x3 : Int32} {h : XH} {Q : Value → XH → Prop} (hs : Sh h) (k : ((16 ≤ x3) → Q (.int 2) h) ∧ (¬ (16 ≤ x3) → InB x3 16 ∧ (((¬ (lg_cmp (xL h 7 (tn x3)) x1) = 0) → Ev 18 2 [.ref 6, .long x1, .null, .int (x3 + 1)] [] h Q) ∧ (¬ (¬ (lg_cmp (xL h 7 (tn x3)) x1) = 0) → Q (.int (100 + x3)) h)))) : Ev 18 2 [.ref 6, .long x1, .null, .int x3] [] h Q := by
  refine e_il o_18_2 rfl ?_
  refine e_c 16 o_18_3 rfl ?_
  refine e_if_3 o_18_5 (fun z => ?_) (fun z => ?_)
  · have k := k.1 z
    refine e_c 2 o_18_30 rfl ?_
    exact e_retI o_18_31 k
  · have k := k.2 z
    refine e_al o_18_8 rfl ?_
    refine e_gR (r := 7) o_18_9 (sk_6 (h := h) hs) (sr_6_9 (h := h) hs) (by decide) ?_
    refine e_il o_18_12 rfl ?_
    obtain ⟨q, k⟩ := k
    refine e_la (n := 16) o_18_13 (sk_7 (h := h) hs) (sn_7 (h := h) hs) q ?_
    refine e_ll o_18_14 rfl ?_
    refine e_lcmp o_18_15 ?_
    refine e_i0_1 o_18_16 (fun z => ?_) (fun z => ?_)
    · have k := k.1 z
      refine e_inc (ls' := [.ref 6, .long x1, .null, .int (x3 + 1)]) o_18_24 rfl rfl rfl ?_
      refine e_go o_18_27 ?_
      exact Ev.less (ls := [.ref 6, .long x1, .null, .int (x3 + 1)]) ⟨Or.inr rfl, Or.inr rfl, Or.inl rfl, Or.inr rfl, trivial⟩ k
    · have k := k.2 z
      refine e_c 100 o_18_19 rfl ?_
      refine e_il o_18_21 rfl ?_
      refine e_bin o_18_22 rfl ?_
      exact e_retI o_18_23 k
set_option maxHeartbeats 4000000 in
set_option maxRecDepth 100000 in
theorem B_19_0 {x0 : Int32} {h : XH} {Q : Value → XH → Prop} (hs : Sh h) (k : ((x0 < 48) → Q (.int 0) h) ∧ (¬ (x0 < 48) → ((57 < x0) → Q (.int 0) h) ∧ (¬ (57 < x0) → Q (.int 1) h))) : Ev 19 0 (x_ini 19 [.int x0]) [] h Q := by
  rw [show x_ini 19 [.int x0] = [.int x0] from x_inid ml_19 rfl]
  refine e_il o_19_0 rfl ?_
  refine e_c 48 o_19_1 rfl ?_
  refine e_if_2 o_19_3 (fun z => ?_) (fun z => ?_)
  · have k := k.1 z
    refine e_c 0 o_19_16 rfl ?_
    exact e_retZ o_19_17 (by decide) k
  · have k := k.2 z
    refine e_il o_19_6 rfl ?_
    refine e_c 57 o_19_7 rfl ?_
    refine e_if_4 o_19_9 (fun z => ?_) (fun z => ?_)
    · have k := k.1 z
      refine e_c 0 o_19_16 rfl ?_
      exact e_retZ o_19_17 (by decide) k
    · have k := k.2 z
      refine e_c 1 o_19_12 rfl ?_
      refine e_go o_19_13 ?_
      exact e_retZ o_19_17 (by decide) k
set_option maxHeartbeats 4000000 in
set_option maxRecDepth 100000 in
theorem B_20_0 {x0 : Int32} {h : XH} {Q : Value → XH → Prop} (hs : Sh h) (k : ((x0 ≤ 0) → Q (.int 0) h) ∧ (¬ (x0 ≤ 0) → (((x_idx (x_txt 3) (((x0 : Int32).toUInt32 % 65536).toInt32).toInt 0) < 0) → Q (.int 0) h) ∧ (¬ ((x_idx (x_txt 3) (((x0 : Int32).toUInt32 % 65536).toInt32).toInt 0) < 0) → Q (.int 1) h))) : Ev 20 0 (x_ini 20 [.int x0]) [] h Q := by
  rw [show x_ini 20 [.int x0] = [.int x0] from x_inid ml_20 rfl]
  refine e_il o_20_0 rfl ?_
  refine e_i0_5 o_20_1 (fun z => ?_) (fun z => ?_)
  · have k := k.1 z
    refine e_c 0 o_20_19 rfl ?_
    exact e_retZ o_20_20 (by decide) k
  · have k := k.2 z
    refine e_cst o_20_4 ?_
    refine e_il o_20_7 rfl ?_
    refine e_i2c o_20_8 ?_
    refine ev_prim o_20_9 (x_prim_ix (Nat.le_of_ble_eq_true rfl)) ?_
    refine e_i0_2 o_20_12 (fun z => ?_) (fun z => ?_)
    · have k := k.1 z
      refine e_c 0 o_20_19 rfl ?_
      exact e_retZ o_20_20 (by decide) k
    · have k := k.2 z
      refine e_c 1 o_20_15 rfl ?_
      refine e_go o_20_16 ?_
      exact e_retZ o_20_20 (by decide) k
set_option maxHeartbeats 4000000 in
set_option maxRecDepth 100000 in
theorem B_21_0 {x1 : Nat} {h : XH} {Q : Value → XH → Prop} (hs : Sh h) (hx1 : x1 = 14 ∨ x1 = 24) (k : Ev 21 5 [.ref 6, .ref x1, .null] [] (xsR h 6 8 x1) Q) : Ev 21 0 (x_ini 21 [.ref 6, .ref x1]) [] h Q := by
  rw [show x_ini 21 [.ref 6, .ref x1] = [.ref 6, .ref x1, .null] from x_inid ml_21 rfl]
  refine e_al o_21_0 rfl ?_
  refine e_al o_21_1 rfl ?_
  refine e_pR o_21_2 (sk_6 (h := h) hs) (by rcases hx1 with q | q <;> omega) ?_
  exact Ev.less (ls := [.ref 6, .ref x1, .null]) ⟨Or.inr rfl, Or.inr rfl, Or.inl rfl, trivial⟩ k
set_option maxHeartbeats 4000000 in
set_option maxRecDepth 100000 in
theorem B_21_36 {x2 : Int32} {h : XH} {Q : Value → XH → Prop} (hs : Sh h) (k : ((400 < x2) → Ev 21 174 [.null, .null, .null] [] h Q) ∧ (¬ (400 < x2) → ((¬ (xI h 6 1) = 0) → Ev 21 174 [.null, .null, .null] [] h Q) ∧ (¬ (¬ (xI h 6 1) = 0) → InB (xI h 6 5) 402 ∧ ((((xI h 8 (tn (xI h 6 5))) = 0) → Ev 21 174 [.null, .null, .null] [] h Q) ∧ (¬ ((xI h 8 (tn (xI h 6 5))) = 0) → InB (xI h 6 5) 402 ∧ ((((xI h 8 (tn (xI h 6 5))) = 100) → ClV 24 [.ref 6] h (fun h1 => Sh h1 ∧ (Ev 21 168 [.ref 6, .null, .int x2] [] h1 Q))) ∧ (¬ ((xI h 8 (tn (xI h 6 5))) = 100) → (((xI h 8 (tn (xI h 6 5))) = 101) → ClV 25 [.ref 6, .int 1] h (fun h3 => Sh h3 ∧ (Ev 21 168 [.ref 6, .null, .int x2] [] h3 Q))) ∧ (¬ ((xI h 8 (tn (xI h 6 5))) = 101) → (((xI h 8 (tn (xI h 6 5))) = 102) → ClV 25 [.ref 6, .int 1] h (fun h5 => Sh h5 ∧ (Ev 21 168 [.ref 6, .null, .int x2] [] h5 Q))) ∧ (¬ ((xI h 8 (tn (xI h 6 5))) = 102) → (((xI h 8 (tn (xI h 6 5))) = 103) → ClV 32 [.ref 6] h (fun h7 => Sh h7 ∧ (Ev 21 168 [.ref 6, .null, .int x2] [] h7 Q))) ∧ (¬ ((xI h 8 (tn (xI h 6 5))) = 103) → (((xI h 8 (tn (xI h 6 5))) = 104) → ClV 40 [.ref 6] h (fun h9 => Sh h9 ∧ (Ev 21 168 [.ref 6, .null, .int x2] [] h9 Q))) ∧ (¬ ((xI h 8 (tn (xI h 6 5))) = 104) → (((xI h 8 (tn (xI h 6 5))) = 105) → ClV 25 [.ref 6, .int 1] h (fun h11 => Sh h11 ∧ (Ev 21 168 [.ref 6, .null, .int x2] [] h11 Q))) ∧ (¬ ((xI h 8 (tn (xI h 6 5))) = 105) → (((xI h 8 (tn (xI h 6 5))) = 106) → ClV 25 [.ref 6, .int 1] h (fun h13 => Sh h13 ∧ (Ev 21 168 [.ref 6, .null, .int x2] [] h13 Q))) ∧ (¬ ((xI h 8 (tn (xI h 6 5))) = 106) → (((xI h 8 (tn (xI h 6 5))) = 107) → ClV 25 [.ref 6, .int 1] h (fun h15 => Sh h15 ∧ (Ev 21 168 [.ref 6, .null, .int x2] [] h15 Q))) ∧ (¬ ((xI h 8 (tn (xI h 6 5))) = 107) → (((xI h 8 (tn (xI h 6 5))) = 108) → ClV 25 [.ref 6, .int 1] h (fun h17 => Sh h17 ∧ (Ev 21 168 [.ref 6, .null, .int x2] [] h17 Q))) ∧ (¬ ((xI h 8 (tn (xI h 6 5))) = 108) → (((xI h 8 (tn (xI h 6 5))) = 109) → ClV 43 [.ref 6] h (fun h19 => Sh h19 ∧ (Ev 21 168 [.ref 6, .null, .int x2] [] h19 Q))) ∧ (¬ ((xI h 8 (tn (xI h 6 5))) = 109) → (((xI h 8 (tn (xI h 6 5))) = 110) → ClV 44 [.ref 6] h (fun h21 => Sh h21 ∧ (Ev 21 168 [.ref 6, .null, .int x2] [] h21 Q))) ∧ (¬ ((xI h 8 (tn (xI h 6 5))) = 110) → ClV 25 [.ref 6, .int 1] h (fun h23 => Sh h23 ∧ (Ev 21 168 [.ref 6, .null, .int x2] [] h23 Q))))))))))))))))))) : Ev 21 36 [.ref 6, .null, .int x2] [] h Q := by
  refine e_il o_21_36 rfl ?_
  refine e_c 400 o_21_37 rfl ?_
  refine e_if_4 o_21_40 (fun z => ?_) (fun z => ?_)
  · have k := k.1 z
    exact Ev.less (ls := [.null, .null, .null]) ⟨Or.inl rfl, Or.inl rfl, Or.inl rfl, trivial⟩ k
  · have k := k.2 z
    refine e_al o_21_43 rfl ?_
    refine e_gI o_21_44 (sk_6 (h := h) hs) ?_
    refine e_i0_1 o_21_47 (fun z => ?_) (fun z => ?_)
    · have k := k.1 z
      exact Ev.less (ls := [.null, .null, .null]) ⟨Or.inl rfl, Or.inl rfl, Or.inl rfl, trivial⟩ k
    · have k := k.2 z
      refine e_al o_21_50 rfl ?_
      refine e_gR (r := 8) o_21_51 (sk_6 (h := h) hs) (sr_6_10 (h := h) hs) (by decide) ?_
      refine e_al o_21_54 rfl ?_
      refine e_gI o_21_55 (sk_6 (h := h) hs) ?_
      obtain ⟨q, k⟩ := k
      refine e_ia (n := 402) o_21_58 (sk_8 (h := h) hs) (sn_8 (h := h) hs) q ?_
      refine e_i0_0 o_21_59 (fun z => ?_) (fun z => ?_)
      · have k := k.1 z
        exact Ev.less (ls := [.null, .null, .null]) ⟨Or.inl rfl, Or.inl rfl, Or.inl rfl, trivial⟩ k
      · have k := k.2 z
        refine e_al o_21_62 rfl ?_
        refine e_gR (r := 8) o_21_63 (sk_6 (h := h) hs) (sr_6_10 (h := h) hs) (by decide) ?_
        refine e_al o_21_66 rfl ?_
        refine e_gI o_21_67 (sk_6 (h := h) hs) ?_
        obtain ⟨q, k⟩ := k
        refine e_ia (n := 402) o_21_70 (sk_8 (h := h) hs) (sn_8 (h := h) hs) q ?_
        refine e_swc o_21_71 (by decide) ?_
        refine ⟨fun z => ?_, fun z => ?_⟩
        · have k := k.1 z
          refine e_al o_21_128 rfl ?_
          refine e_clV (as := [.ref 6]) (rest := []) o_21_129 rfl rfl (x_okd cl_21_24 ml_24 (Nat.le_of_ble_eq_true rfl) (Nat.le_of_ble_eq_true rfl)) (x_rc0 (ci := 4) (sk_6 (h := h) hs) mo_24) k ?_
          rintro h1 ⟨sh1, k⟩
          refine e_go o_21_132 ?_
          exact Ev.less (ls := [.ref 6, .null, .int x2]) ⟨Or.inr rfl, Or.inl rfl, Or.inr rfl, trivial⟩ k
        · have k := k.2 z
          refine ⟨fun z => ?_, fun z => ?_⟩
          · have k := k.1 z
            refine e_al o_21_163 rfl ?_
            refine e_c 1 o_21_164 rfl ?_
            refine e_clV (as := [.ref 6, .int 1]) (rest := []) o_21_165 rfl rfl (x_okd cl_21_25 ml_25 (Nat.le_of_ble_eq_true rfl) (Nat.le_of_ble_eq_true rfl)) (x_rc0 (ci := 4) (sk_6 (h := h) hs) mo_25) k ?_
            rintro h3 ⟨sh3, k⟩
            exact Ev.less (ls := [.ref 6, .null, .int x2]) ⟨Or.inr rfl, Or.inl rfl, Or.inr rfl, trivial⟩ k
          · have k := k.2 z
            refine ⟨fun z => ?_, fun z => ?_⟩
            · have k := k.1 z
              refine e_al o_21_163 rfl ?_
              refine e_c 1 o_21_164 rfl ?_
              refine e_clV (as := [.ref 6, .int 1]) (rest := []) o_21_165 rfl rfl (x_okd cl_21_25 ml_25 (Nat.le_of_ble_eq_true rfl) (Nat.le_of_ble_eq_true rfl)) (x_rc0 (ci := 4) (sk_6 (h := h) hs) mo_25) k ?_
              rintro h5 ⟨sh5, k⟩
              exact Ev.less (ls := [.ref 6, .null, .int x2]) ⟨Or.inr rfl, Or.inl rfl, Or.inr rfl, trivial⟩ k
            · have k := k.2 z
              refine ⟨fun z => ?_, fun z => ?_⟩
              · have k := k.1 z
                refine e_al o_21_135 rfl ?_
                refine e_clV (as := [.ref 6]) (rest := []) o_21_136 rfl rfl (x_okd cl_21_32 ml_32 (Nat.le_of_ble_eq_true rfl) (Nat.le_of_ble_eq_true rfl)) (x_rc0 (ci := 4) (sk_6 (h := h) hs) mo_32) k ?_
                rintro h7 ⟨sh7, k⟩
                refine e_go o_21_139 ?_
                exact Ev.less (ls := [.ref 6, .null, .int x2]) ⟨Or.inr rfl, Or.inl rfl, Or.inr rfl, trivial⟩ k
              · have k := k.2 z
                refine ⟨fun z => ?_, fun z => ?_⟩
                · have k := k.1 z
                  refine e_al o_21_142 rfl ?_
                  refine e_clV (as := [.ref 6]) (rest := []) o_21_143 rfl rfl (x_okd cl_21_40 ml_40 (Nat.le_of_ble_eq_true rfl) (Nat.le_of_ble_eq_true rfl)) (x_rc0 (ci := 4) (sk_6 (h := h) hs) mo_40) k ?_
                  rintro h9 ⟨sh9, k⟩
                  refine e_go o_21_146 ?_
                  exact Ev.less (ls := [.ref 6, .null, .int x2]) ⟨Or.inr rfl, Or.inl rfl, Or.inr rfl, trivial⟩ k
                · have k := k.2 z
                  refine ⟨fun z => ?_, fun z => ?_⟩
                  · have k := k.1 z
                    refine e_al o_21_163 rfl ?_
                    refine e_c 1 o_21_164 rfl ?_
                    refine e_clV (as := [.ref 6, .int 1]) (rest := []) o_21_165 rfl rfl (x_okd cl_21_25 ml_25 (Nat.le_of_ble_eq_true rfl) (Nat.le_of_ble_eq_true rfl)) (x_rc0 (ci := 4) (sk_6 (h := h) hs) mo_25) k ?_
                    rintro h11 ⟨sh11, k⟩
                    exact Ev.less (ls := [.ref 6, .null, .int x2]) ⟨Or.inr rfl, Or.inl rfl, Or.inr rfl, trivial⟩ k
                  · have k := k.2 z
                    refine ⟨fun z => ?_, fun z => ?_⟩
                    · have k := k.1 z
                      refine e_al o_21_163 rfl ?_
                      refine e_c 1 o_21_164 rfl ?_
                      refine e_clV (as := [.ref 6, .int 1]) (rest := []) o_21_165 rfl rfl (x_okd cl_21_25 ml_25 (Nat.le_of_ble_eq_true rfl) (Nat.le_of_ble_eq_true rfl)) (x_rc0 (ci := 4) (sk_6 (h := h) hs) mo_25) k ?_
                      rintro h13 ⟨sh13, k⟩
                      exact Ev.less (ls := [.ref 6, .null, .int x2]) ⟨Or.inr rfl, Or.inl rfl, Or.inr rfl, trivial⟩ k
                    · have k := k.2 z
                      refine ⟨fun z => ?_, fun z => ?_⟩
                      · have k := k.1 z
                        refine e_al o_21_163 rfl ?_
                        refine e_c 1 o_21_164 rfl ?_
                        refine e_clV (as := [.ref 6, .int 1]) (rest := []) o_21_165 rfl rfl (x_okd cl_21_25 ml_25 (Nat.le_of_ble_eq_true rfl) (Nat.le_of_ble_eq_true rfl)) (x_rc0 (ci := 4) (sk_6 (h := h) hs) mo_25) k ?_
                        rintro h15 ⟨sh15, k⟩
                        exact Ev.less (ls := [.ref 6, .null, .int x2]) ⟨Or.inr rfl, Or.inl rfl, Or.inr rfl, trivial⟩ k
                      · have k := k.2 z
                        refine ⟨fun z => ?_, fun z => ?_⟩
                        · have k := k.1 z
                          refine e_al o_21_163 rfl ?_
                          refine e_c 1 o_21_164 rfl ?_
                          refine e_clV (as := [.ref 6, .int 1]) (rest := []) o_21_165 rfl rfl (x_okd cl_21_25 ml_25 (Nat.le_of_ble_eq_true rfl) (Nat.le_of_ble_eq_true rfl)) (x_rc0 (ci := 4) (sk_6 (h := h) hs) mo_25) k ?_
                          rintro h17 ⟨sh17, k⟩
                          exact Ev.less (ls := [.ref 6, .null, .int x2]) ⟨Or.inr rfl, Or.inl rfl, Or.inr rfl, trivial⟩ k
                        · have k := k.2 z
                          refine ⟨fun z => ?_, fun z => ?_⟩
                          · have k := k.1 z
                            refine e_al o_21_149 rfl ?_
                            refine e_clV (as := [.ref 6]) (rest := []) o_21_150 rfl rfl (x_okd cl_21_43 ml_43 (Nat.le_of_ble_eq_true rfl) (Nat.le_of_ble_eq_true rfl)) (x_rc0 (ci := 4) (sk_6 (h := h) hs) mo_43) k ?_
                            rintro h19 ⟨sh19, k⟩
                            refine e_go o_21_153 ?_
                            exact Ev.less (ls := [.ref 6, .null, .int x2]) ⟨Or.inr rfl, Or.inl rfl, Or.inr rfl, trivial⟩ k
                          · have k := k.2 z
                            refine ⟨fun z => ?_, fun z => ?_⟩
                            · have k := k.1 z
                              refine e_al o_21_156 rfl ?_
                              refine e_clV (as := [.ref 6]) (rest := []) o_21_157 rfl rfl (x_okd cl_21_44 ml_44 (Nat.le_of_ble_eq_true rfl) (Nat.le_of_ble_eq_true rfl)) (x_rc0 (ci := 4) (sk_6 (h := h) hs) mo_44) k ?_
                              rintro h21 ⟨sh21, k⟩
                              refine e_go o_21_160 ?_
                              exact Ev.less (ls := [.ref 6, .null, .int x2]) ⟨Or.inr rfl, Or.inl rfl, Or.inr rfl, trivial⟩ k
                            · have k := k.2 z
                              refine e_al o_21_163 rfl ?_
                              refine e_c 1 o_21_164 rfl ?_
                              refine e_clV (as := [.ref 6, .int 1]) (rest := []) o_21_165 rfl rfl (x_okd cl_21_25 ml_25 (Nat.le_of_ble_eq_true rfl) (Nat.le_of_ble_eq_true rfl)) (x_rc0 (ci := 4) (sk_6 (h := h) hs) mo_25) k ?_
                              rintro h23 ⟨sh23, k⟩
                              exact Ev.less (ls := [.ref 6, .null, .int x2]) ⟨Or.inr rfl, Or.inl rfl, Or.inr rfl, trivial⟩ k
set_option maxHeartbeats 4000000 in
set_option maxRecDepth 100000 in
theorem B_21_168 {x2 : Int32} {h : XH} {Q : Value → XH → Prop} (hs : Sh h) (k : Ev 21 36 [.ref 6, .null, .int (x2 + 1)] [] h Q) : Ev 21 168 [.ref 6, .null, .int x2] [] h Q := by
  refine e_inc (ls' := [.ref 6, .null, .int (x2 + 1)]) o_21_168 rfl rfl rfl ?_
  refine e_go o_21_171 ?_
  exact Ev.less (ls := [.ref 6, .null, .int (x2 + 1)]) ⟨Or.inr rfl, Or.inl rfl, Or.inr rfl, trivial⟩ k
set_option maxHeartbeats 4000000 in
set_option maxRecDepth 100000 in
theorem B_21_174  {h : XH} {Q : Value → XH → Prop} (hs : Sh h) (k : Q .null h) : Ev 21 174 [.null, .null, .null] [] h Q := by
  exact e_ret0 o_21_174 k
set_option maxHeartbeats 4000000 in
set_option maxRecDepth 100000 in
theorem B_21_5 {x1 : Nat} {h : XH} {Q : Value → XH → Prop} (hs : Sh h) (hx1 : x1 = 14 ∨ x1 = 24) (k : ClV 22 [.ref x1] h (fun h1 => Sh h1 ∧ (Ev 21 36 [.ref 6, .null, .int 0] [] (xsI (xsI (xsI (xsI (xsI h1 6 1 0) 6 0 (-1)) 6 2 0) 6 3 (-1)) 6 5 0) Q))) : Ev 21 5 [.ref 6, .ref x1, .null] [] h Q := by
  refine e_al o_21_5 rfl ?_
  refine e_clV (as := [.ref x1]) (rest := []) o_21_6 rfl rfl (x_okd cl_21_22 ml_22 (Nat.le_of_ble_eq_true rfl) (Nat.le_of_ble_eq_true rfl)) (x_rc0 (ci := 5) (sc_k (h := h) hs hx1) mo_22) k ?_
  rintro h1 ⟨sh1, k⟩
  refine e_al o_21_9 rfl ?_
  refine e_c 0 o_21_10 rfl ?_
  refine e_pI o_21_11 (sk_6 (h := h1) sh1) ?_
  refine e_al o_21_14 rfl ?_
  refine e_c (-1) o_21_15 rfl ?_
  refine e_pI o_21_16 (sk_6 (h := h1) sh1) ?_
  refine e_al o_21_19 rfl ?_
  refine e_c 0 o_21_20 rfl ?_
  refine e_pI o_21_21 (sk_6 (h := h1) sh1) ?_
  refine e_al o_21_24 rfl ?_
  refine e_c (-1) o_21_25 rfl ?_
  refine e_pI o_21_26 (sk_6 (h := h1) sh1) ?_
  refine e_al o_21_29 rfl ?_
  refine e_c 0 o_21_30 rfl ?_
  refine e_pI o_21_31 (sk_6 (h := h1) sh1) ?_
  refine e_c 0 o_21_34 rfl ?_
  refine e_is (ls' := [.ref 6, .ref x1, .int 0]) o_21_35 (Nat.le_of_ble_eq_true rfl) rfl ?_
  exact Ev.less (ls := [.ref 6, .null, .int 0]) ⟨Or.inr rfl, Or.inl rfl, Or.inr rfl, trivial⟩ k
set_option maxHeartbeats 4000000 in
set_option maxRecDepth 100000 in
theorem B_24_0 {it : Nat} {h : XH} {Q : Value → XH → Prop} (hs : Sh h) (hit : it = 14 ∨ it = 24) (hin : xR h 6 8 = it) (k : (((xI h it 0) < 8) → ClI 26 [.ref 6, .int 100] h (fun v2 h1 => Sh h1 ∧ xR h1 6 8 = it ∧ (ClI 26 [.ref 6, .int 2] h1 (fun v4 h3 => Sh h3 ∧ xR h3 6 8 = it ∧ (ClI 26 [.ref 6, .int 3] h3 (fun v6 h5 => Sh h5 ∧ xR h5 6 8 = it ∧ (ClI 26 [.ref 6, .int 3] h5 (fun v8 h7 => Sh h7 ∧ xR h7 6 8 = it ∧ (InB (xI h7 6 5) 402 ∧ ((((xI h7 8 (tn (xI h7 6 5))) = 101) → Ev 24 86 [.ref 6, .int (xI h it 0), .int (xI h1 6 5), .int (xI h3 6 5), .int (xI h5 6 5), .int (xI h7 8 (tn (xI h7 6 5)))] [] h7 Q) ∧ (¬ ((xI h7 8 (tn (xI h7 6 5))) = 101) → ((¬ (xI h7 8 (tn (xI h7 6 5))) = 102) → Ev 24 93 [.ref 6, .int (xI h it 0), .int (xI h1 6 5), .int (xI h3 6 5), .int (xI h5 6 5), .int (xI h7 8 (tn (xI h7 6 5)))] [] h7 Q) ∧ (¬ (¬ (xI h7 8 (tn (xI h7 6 5))) = 102) → Ev 24 86 [.ref 6, .int (xI h it 0), .int (xI h1 6 5), .int (xI h3 6 5), .int (xI h5 6 5), .int (xI h7 8 (tn (xI h7 6 5)))] [] h7 Q)))))))))))) ∧ (¬ ((xI h it 0) < 8) → ClV 25 [.ref 6, .int 2] h (fun h9 => Sh h9 ∧ xR h9 6 8 = it ∧ (Q .null h9)))) : Ev 24 0 (x_ini 24 [.ref 6]) [] h Q := by
  rw [show x_ini 24 [.ref 6] = [.ref 6, .null, .null, .null, .null, .null] from x_inid ml_24 rfl]
  refine e_al o_24_0 rfl ?_
  refine e_gR (r := it) o_24_1 (sk_6 (h := h) hs) (hin) (by rcases hit with q | q <;> omega) ?_
  refine e_gI o_24_4 (sc_k (h := h) hs hit) ?_
  refine e_is (ls' := [.ref 6, .int (xI h it 0), .null, .null, .null, .null]) o_24_7 (Nat.le_of_ble_eq_true rfl) rfl ?_
  refine e_il o_24_8 rfl ?_
  refine e_c 8 o_24_9 rfl ?_
  refine e_if_2 o_24_11 (fun z => ?_) (fun z => ?_)
  · have k := k.1 z
    refine e_al o_24_20 rfl ?_
    refine e_c 100 o_24_21 rfl ?_
    refine e_clI (as := [.ref 6, .int 100]) (rest := []) o_24_23 rfl rfl (x_okd cl_24_26 ml_26 (Nat.le_of_ble_eq_true rfl) (Nat.le_of_ble_eq_true rfl)) (x_rc0 (ci := 4) (sk_6 (h := h) hs) mo_26) k ?_
    rintro v2 h1 ⟨sh1, ih1, k⟩
    refine e_pop o_24_26 rfl ?_
    refine e_al o_24_27 rfl ?_
    refine e_gI o_24_28 (sk_6 (h := h1) sh1) ?_
    refine e_is (ls' := [.ref 6, .int (xI h it 0), .int (xI h1 6 5), .null, .null, .null]) o_24_31 (Nat.le_of_ble_eq_true rfl) rfl ?_
    refine e_al o_24_32 rfl ?_
    refine e_c 2 o_24_33 rfl ?_
    refine e_clI (as := [.ref 6, .int 2]) (rest := []) o_24_34 rfl rfl (x_okd cl_24_26 ml_26 (Nat.le_of_ble_eq_true rfl) (Nat.le_of_ble_eq_true rfl)) (x_rc0 (ci := 4) (sk_6 (h := h1) sh1) mo_26) k ?_
    rintro v4 h3 ⟨sh3, ih3, k⟩
    refine e_pop o_24_37 rfl ?_
    refine e_al o_24_38 rfl ?_
    refine e_gI o_24_39 (sk_6 (h := h3) sh3) ?_
    refine e_is (ls' := [.ref 6, .int (xI h it 0), .int (xI h1 6 5), .int (xI h3 6 5), .null, .null]) o_24_42 (Nat.le_of_ble_eq_true rfl) rfl ?_
    refine e_al o_24_43 rfl ?_
    refine e_c 3 o_24_44 rfl ?_
    refine e_clI (as := [.ref 6, .int 3]) (rest := []) o_24_45 rfl rfl (x_okd cl_24_26 ml_26 (Nat.le_of_ble_eq_true rfl) (Nat.le_of_ble_eq_true rfl)) (x_rc0 (ci := 4) (sk_6 (h := h3) sh3) mo_26) k ?_
    rintro v6 h5 ⟨sh5, ih5, k⟩
    refine e_pop o_24_48 rfl ?_
    refine e_al o_24_49 rfl ?_
    refine e_gI o_24_50 (sk_6 (h := h5) sh5) ?_
    refine e_is (ls' := [.ref 6, .int (xI h it 0), .int (xI h1 6 5), .int (xI h3 6 5), .int (xI h5 6 5), .null]) o_24_53 (Nat.le_of_ble_eq_true rfl) rfl ?_
    refine e_al o_24_55 rfl ?_
    refine e_c 3 o_24_56 rfl ?_
    refine e_clI (as := [.ref 6, .int 3]) (rest := []) o_24_57 rfl rfl (x_okd cl_24_26 ml_26 (Nat.le_of_ble_eq_true rfl) (Nat.le_of_ble_eq_true rfl)) (x_rc0 (ci := 4) (sk_6 (h := h5) sh5) mo_26) k ?_
    rintro v8 h7 ⟨sh7, ih7, k⟩
    refine e_pop o_24_60 rfl ?_
    refine e_al o_24_61 rfl ?_
    refine e_gR (r := 8) o_24_62 (sk_6 (h := h7) sh7) (sr_6_10 (h := h7) sh7) (by decide) ?_
    refine e_al o_24_65 rfl ?_
    refine e_gI o_24_66 (sk_6 (h := h7) sh7) ?_
    obtain ⟨q, k⟩ := k
    refine e_ia (n := 402) o_24_69 (sk_8 (h := h7) sh7) (sn_8 (h := h7) sh7) q ?_
    refine e_is (ls' := [.ref 6, .int (xI h it 0), .int (xI h1 6 5), .int (xI h3 6 5), .int (xI h5 6 5), .int (xI h7 8 (tn (xI h7 6 5)))]) o_24_70 (Nat.le_of_ble_eq_true rfl) rfl ?_
    refine e_il o_24_72 rfl ?_
    refine e_c 101 o_24_74 rfl ?_
    refine e_if_0 o_24_76 (fun z => ?_) (fun z => ?_)
    · have k := k.1 z
      exact Ev.less (ls := [.ref 6, .int (xI h it 0), .int (xI h1 6 5), .int (xI h3 6 5), .int (xI h5 6 5), .int (xI h7 8 (tn (xI h7 6 5)))]) ⟨Or.inr rfl, Or.inr rfl, Or.inr rfl, Or.inr rfl, Or.inr rfl, Or.inr rfl, trivial⟩ k
    · have k := k.2 z
      refine e_il o_24_79 rfl ?_
      refine e_c 102 o_24_81 rfl ?_
      refine e_if_1 o_24_83 (fun z => ?_) (fun z => ?_)
      · have k := k.1 z
        exact Ev.less (ls := [.ref 6, .int (xI h it 0), .int (xI h1 6 5), .int (xI h3 6 5), .int (xI h5 6 5), .int (xI h7 8 (tn (xI h7 6 5)))]) ⟨Or.inr rfl, Or.inr rfl, Or.inr rfl, Or.inr rfl, Or.inr rfl, Or.inr rfl, trivial⟩ k
      · have k := k.2 z
        exact Ev.less (ls := [.ref 6, .int (xI h it 0), .int (xI h1 6 5), .int (xI h3 6 5), .int (xI h5 6 5), .int (xI h7 8 (tn (xI h7 6 5)))]) ⟨Or.inr rfl, Or.inr rfl, Or.inr rfl, Or.inr rfl, Or.inr rfl, Or.inr rfl, trivial⟩ k
  · have k := k.2 z
    refine e_al o_24_14 rfl ?_
    refine e_c 2 o_24_15 rfl ?_
    refine e_clV (as := [.ref 6, .int 2]) (rest := []) o_24_16 rfl rfl (x_okd cl_24_25 ml_25 (Nat.le_of_ble_eq_true rfl) (Nat.le_of_ble_eq_true rfl)) (x_rc0 (ci := 4) (sk_6 (h := h) hs) mo_25) k ?_
    rintro h9 ⟨sh9, ih9, k⟩
    exact e_ret0 o_24_19 k
set_option maxHeartbeats 4000000 in
set_option maxRecDepth 100000 in
theorem B_24_86 {it : Nat} {x1 : Int32} {x2 : Int32} {x3 : Int32} {x4 : Int32} {x5 : Int32} {h : XH} {Q : Value → XH → Prop} (hs : Sh h) (hit : it = 14 ∨ it = 24) (hin : xR h 6 8 = it) (k : ClI 26 [.ref 6, .int x5] h (fun v2 h1 => Sh h1 ∧ xR h1 6 8 = it ∧ (Ev 24 93 [.ref 6, .int x1, .int x2, .int x3, .int x4, .int x5] [] h1 Q))) : Ev 24 86 [.ref 6, .int x1, .int x2, .int x3, .int x4, .int x5] [] h Q := by
  refine e_al o_24_86 rfl ?_
  refine e_il o_24_87 rfl ?_
  refine e_clI (as := [.ref 6, .int x5]) (rest := []) o_24_89 rfl rfl (x_okd cl_24_26 ml_26 (Nat.le_of_ble_eq_true rfl) (Nat.le_of_ble_eq_true rfl)) (x_rc0 (ci := 4) (sk_6 (h := h) hs) mo_26) k ?_
  rintro v2 h1 ⟨sh1, ih1, k⟩
  refine e_pop o_24_92 rfl ?_
  exact Ev.less (ls := [.ref 6, .int x1, .int x2, .int x3, .int x4, .int x5]) ⟨Or.inr rfl, Or.inr rfl, Or.inr rfl, Or.inr rfl, Or.inr rfl, Or.inr rfl, trivial⟩ k
set_option maxHeartbeats 4000000 in
set_option maxRecDepth 100000 in
theorem B_24_93 {it : Nat} {x1 : Int32} {x2 : Int32} {x3 : Int32} {x4 : Int32} {x5 : Int32} {h : XH} {Q : Value → XH → Prop} (hs : Sh h) (hit : it = 14 ∨ it = 24) (hin : xR h 6 8 = it) (k : ClI 26 [.ref 6, .int 59] h (fun v2 h1 => Sh h1 ∧ xR h1 6 8 = it ∧ ((((xI h1 6 1) = 0) → ClV 27 [.ref 6, .int x2, .int x3, .int x4] h1 (fun h3 => Sh h3 ∧ xR h3 6 8 = it ∧ (InB x2 402 ∧ (InB x1 8 ∧ (InB x3 402 ∧ (InB x1 8 ∧ (∀ h5 : XH, h5 = (xsI (xsL h3 12 (tn x1) (xL h3 10 (tn x2))) (it + 1) (tn x1) ((if (if (xL (xsL h3 12 (tn x1) (xL h3 10 (tn x2))) 10 (tn x3)) < 3 then (xL (xsL h3 12 (tn x1) (xL h3 10 (tn x2))) 10 (tn x3)) else 3) < 1 then 1 else (if (xL (xsL h3 12 (tn x1) (xL h3 10 (tn x2))) 10 (tn x3)) < 3 then (xL (xsL h3 12 (tn x1) (xL h3 10 (tn x2))) 10 (tn x3)) else 3)) : Int64).toInt32) → (InB x4 402 ∧ (InB x1 8 ∧ (InB x1 8 ∧ (∀ h6 : XH, h6 = (xsI (xsI h5 (it + 2) (tn x1) ((xL h5 10 (tn x4)) : Int64).toInt32) (it + 3) (tn x1) (xI (xsI h5 (it + 2) (tn x1) ((xL h5 10 (tn x4)) : Int64).toInt32) it 6)) → (InB x1 8 ∧ (((¬ x5 = 101) → ∀ h7 : XH, h7 = (xsI (xsI h6 it 6 (if ((xI h6 it 6) * ((xI h6 (it + 1) (tn x1)) + 1)) < 2000 then ((xI h6 it 6) * ((xI h6 (it + 1) (tn x1)) + 1)) else 2000)) it 4 ((xI (xsI h6 it 6 (if ((xI h6 it 6) * ((xI h6 (it + 1) (tn x1)) + 1)) < 2000 then ((xI h6 it 6) * ((xI h6 (it + 1) (tn x1)) + 1)) else 2000)) it 4) ||| 0)) → (((¬ x5 = 102) → Q .null (xsI (xsI h7 it 5 ((xI h7 it 5) ||| 0)) it 0 ((xI (xsI h7 it 5 ((xI h7 it 5) ||| 0)) it 0) + 1))) ∧ (¬ (¬ x5 = 102) → Q .null (xsI (xsI h7 it 5 ((xI h7 it 5) ||| (1 <<< (x1 &&& 31)))) it 0 ((xI (xsI h7 it 5 ((xI h7 it 5) ||| (1 <<< (x1 &&& 31)))) it 0) + 1))))) ∧ (¬ (¬ x5 = 101) → ∀ h8 : XH, h8 = (xsI (xsI h6 it 6 (if ((xI h6 it 6) * ((xI h6 (it + 1) (tn x1)) + 1)) < 2000 then ((xI h6 it 6) * ((xI h6 (it + 1) (tn x1)) + 1)) else 2000)) it 4 ((xI (xsI h6 it 6 (if ((xI h6 it 6) * ((xI h6 (it + 1) (tn x1)) + 1)) < 2000 then ((xI h6 it 6) * ((xI h6 (it + 1) (tn x1)) + 1)) else 2000)) it 4) ||| (1 <<< (x1 &&& 31)))) → (((¬ x5 = 102) → Q .null (xsI (xsI h8 it 5 ((xI h8 it 5) ||| 0)) it 0 ((xI (xsI h8 it 5 ((xI h8 it 5) ||| 0)) it 0) + 1))) ∧ (¬ (¬ x5 = 102) → Q .null (xsI (xsI h8 it 5 ((xI h8 it 5) ||| (1 <<< (x1 &&& 31)))) it 0 ((xI (xsI h8 it 5 ((xI h8 it 5) ||| (1 <<< (x1 &&& 31)))) it 0) + 1)))))))))))))))))) ∧ (¬ ((xI h1 6 1) = 0) → Q .null h1)))) : Ev 24 93 [.ref 6, .int x1, .int x2, .int x3, .int x4, .int x5] [] h Q := by
  refine e_al o_24_93 rfl ?_
  refine e_c 59 o_24_94 rfl ?_
  refine e_clI (as := [.ref 6, .int 59]) (rest := []) o_24_96 rfl rfl (x_okd cl_24_26 ml_26 (Nat.le_of_ble_eq_true rfl) (Nat.le_of_ble_eq_true rfl)) (x_rc0 (ci := 4) (sk_6 (h := h) hs) mo_26) k ?_
  rintro v2 h1 ⟨sh1, ih1, k⟩
  refine e_pop o_24_99 rfl ?_
  refine e_al o_24_100 rfl ?_
  refine e_gI o_24_101 (sk_6 (h := h1) sh1) ?_
  refine e_i0_0 o_24_104 (fun z => ?_) (fun z => ?_)
  · have k := k.1 z
    refine e_al o_24_108 rfl ?_
    refine e_il o_24_109 rfl ?_
    refine e_il o_24_110 rfl ?_
    refine e_il o_24_111 rfl ?_
    refine e_clV (as := [.ref 6, .int x2, .int x3, .int x4]) (rest := []) o_24_113 rfl rfl (x_okd cl_24_27 ml_27 (Nat.le_of_ble_eq_true rfl) (Nat.le_of_ble_eq_true rfl)) (x_rc0 (ci := 4) (sk_6 (h := h1) sh1) mo_27) k ?_
    rintro h3 ⟨sh3, ih3, k⟩
    refine e_al o_24_116 rfl ?_
    refine e_gR (r := 12) o_24_117 (sk_6 (h := h3) sh3) (sr_6_14 (h := h3) sh3) (by decide) ?_
    refine e_il o_24_120 rfl ?_
    refine e_al o_24_121 rfl ?_
    refine e_gR (r := 10) o_24_122 (sk_6 (h := h3) sh3) (sr_6_12 (h := h3) sh3) (by decide) ?_
    refine e_il o_24_125 rfl ?_
    obtain ⟨q, k⟩ := k
    refine e_la (n := 402) o_24_126 (sk_10 (h := h3) sh3) (sn_10 (h := h3) sh3) q ?_
    obtain ⟨q, k⟩ := k
    refine e_las (n := 8) o_24_127 (sk_12 (h := h3) sh3) (sn_12 (h := h3) sh3) q ?_
    refine e_al o_24_128 rfl ?_
    refine e_gR (r := it) o_24_129 (sk_6 (h := h3) sh3) (ih3) (by rcases hit with q | q <;> omega) ?_
    refine e_gR (r := (it + 1)) o_24_132 (sc_k (h := h3) sh3 hit) (sc_r9 (h := h3) sh3 hit) (by omega) ?_
    refine e_il o_24_135 rfl ?_
    refine e_lc 1 o_24_136 rfl ?_
    refine e_lc 3 o_24_137 rfl ?_
    refine e_al o_24_140 rfl ?_
    refine e_gR (r := 10) o_24_141 (sk_6 (h := h3) sh3) (sr_6_12 (h := h3) sh3) (by decide) ?_
    refine e_il o_24_144 rfl ?_
    obtain ⟨q, k⟩ := k
    refine e_la (n := 402) o_24_145 (sk_10 (h := h3) sh3) (sn_10 (h := h3) sh3) q ?_
    refine e_lmin o_24_146 (Nat.le_of_ble_eq_true rfl) ?_
    refine e_lmax o_24_149 (Nat.le_of_ble_eq_true rfl) ?_
    refine e_l2i o_24_152 ?_
    obtain ⟨q, k⟩ := k
    refine e_ias (n := 8) o_24_153 ((sc_a1 (h := h3) sh3 hit).1) ((sc_a1 (h := h3) sh3 hit).2.2) ((sc_a1 (h := h3) sh3 hit).2.1) q ?_
    obtain ⟨h5, eh5⟩ : ∃ z : XH, z = (xsI (xsL h3 12 (tn x1) (xL h3 10 (tn x2))) (it + 1) (tn x1) ((if (if (xL (xsL h3 12 (tn x1) (xL h3 10 (tn x2))) 10 (tn x3)) < 3 then (xL (xsL h3 12 (tn x1) (xL h3 10 (tn x2))) 10 (tn x3)) else 3) < 1 then 1 else (if (xL (xsL h3 12 (tn x1) (xL h3 10 (tn x2))) 10 (tn x3)) < 3 then (xL (xsL h3 12 (tn x1) (xL h3 10 (tn x2))) 10 (tn x3)) else 3)) : Int64).toInt32) := ⟨_, rfl⟩
    show Ev 24 154 [.ref 6, .int x1, .int x2, .int x3, .int x4, .int x5] [] (xsI (xsL h3 12 (tn x1) (xL h3 10 (tn x2))) (it + 1) (tn x1) ((if (if (xL (xsL h3 12 (tn x1) (xL h3 10 (tn x2))) 10 (tn x3)) < 3 then (xL (xsL h3 12 (tn x1) (xL h3 10 (tn x2))) 10 (tn x3)) else 3) < 1 then 1 else (if (xL (xsL h3 12 (tn x1) (xL h3 10 (tn x2))) 10 (tn x3)) < 3 then (xL (xsL h3 12 (tn x1) (xL h3 10 (tn x2))) 10 (tn x3)) else 3)) : Int64).toInt32) Q
    rw [← eh5]
    have sh5 : Sh h5 := by rw [eh5]; exact (sh_I (sh_L sh3) (by have := (sc_a1 (h := h3) sh3 hit).2.2; omega))
    have ih5 : xR h5 6 8 = it := by rw [eh5]; exact (ih3 : xR h3 6 8 = it)
    have k := k h5 eh5
    refine e_al o_24_154 rfl ?_
    refine e_gR (r := it) o_24_155 (sk_6 (h := h5) sh5) (ih5) (by rcases hit with q | q <;> omega) ?_
    refine e_gR (r := (it + 2)) o_24_158 (sc_k (h := h5) sh5 hit) (sc_r10 (h := h5) sh5 hit) (by omega) ?_
    refine e_il o_24_161 rfl ?_
    refine e_al o_24_162 rfl ?_
    refine e_gR (r := 10) o_24_163 (sk_6 (h := h5) sh5) (sr_6_12 (h := h5) sh5) (by decide) ?_
    refine e_il o_24_166 rfl ?_
    obtain ⟨q, k⟩ := k
    refine e_la (n := 402) o_24_168 (sk_10 (h := h5) sh5) (sn_10 (h := h5) sh5) q ?_
    refine e_l2i o_24_169 ?_
    obtain ⟨q, k⟩ := k
    refine e_ias (n := 8) o_24_170 ((sc_a2 (h := h5) sh5 hit).1) ((sc_a2 (h := h5) sh5 hit).2.2) ((sc_a2 (h := h5) sh5 hit).2.1) q ?_
    refine e_al o_24_171 rfl ?_
    refine e_gR (r := it) o_24_172 (sk_6 (h := h5) sh5) (ih5) (by rcases hit with q | q <;> omega) ?_
    refine e_gR (r := (it + 3)) o_24_175 (sc_k (h := h5) sh5 hit) (sc_r11 (h := h5) sh5 hit) (by omega) ?_
    refine e_il o_24_178 rfl ?_
    refine e_al o_24_179 rfl ?_
    refine e_gR (r := it) o_24_180 (sk_6 (h := h5) sh5) (ih5) (by rcases hit with q | q <;> omega) ?_
    refine e_gI o_24_183 (sc_k (h := h5) sh5 hit) ?_
    obtain ⟨q, k⟩ := k
    refine e_ias (n := 8) o_24_186 ((sc_a3 (h := h5) sh5 hit).1) ((sc_a3 (h := h5) sh5 hit).2.2) ((sc_a3 (h := h5) sh5 hit).2.1) q ?_
    obtain ⟨h6, eh6⟩ : ∃ z : XH, z = (xsI (xsI h5 (it + 2) (tn x1) ((xL h5 10 (tn x4)) : Int64).toInt32) (it + 3) (tn x1) (xI (xsI h5 (it + 2) (tn x1) ((xL h5 10 (tn x4)) : Int64).toInt32) it 6)) := ⟨_, rfl⟩
    show Ev 24 187 [.ref 6, .int x1, .int x2, .int x3, .int x4, .int x5] [] (xsI (xsI h5 (it + 2) (tn x1) ((xL h5 10 (tn x4)) : Int64).toInt32) (it + 3) (tn x1) (xI (xsI h5 (it + 2) (tn x1) ((xL h5 10 (tn x4)) : Int64).toInt32) it 6)) Q
    rw [← eh6]
    have sh6 : Sh h6 := by rw [eh6]; exact (sh_I (sh_I sh5 (by have := (sc_a2 (h := h5) sh5 hit).2.2; omega)) (by have := (sc_a3 (h := h5) sh5 hit).2.2; omega))
    have ih6 : xR h6 6 8 = it := by rw [eh6]; exact (ih5 : xR h5 6 8 = it)
    have k := k h6 eh6
    refine e_al o_24_187 rfl ?_
    refine e_gR (r := it) o_24_188 (sk_6 (h := h6) sh6) (ih6) (by rcases hit with q | q <;> omega) ?_
    refine e_c 2000 o_24_191 rfl ?_
    refine e_al o_24_194 rfl ?_
    refine e_gR (r := it) o_24_195 (sk_6 (h := h6) sh6) (ih6) (by rcases hit with q | q <;> omega) ?_
    refine e_gI o_24_198 (sc_k (h := h6) sh6 hit) ?_
    refine e_al o_24_201 rfl ?_
    refine e_gR (r := it) o_24_202 (sk_6 (h := h6) sh6) (ih6) (by rcases hit with q | q <;> omega) ?_
    refine e_gR (r := (it + 1)) o_24_205 (sc_k (h := h6) sh6 hit) (sc_r9 (h := h6) sh6 hit) (by omega) ?_
    refine e_il o_24_208 rfl ?_
    obtain ⟨q, k⟩ := k
    refine e_ia (n := 8) o_24_209 ((sc_a1 (h := h6) sh6 hit).1) ((sc_a1 (h := h6) sh6 hit).2.1) q ?_
    refine e_c 1 o_24_210 rfl ?_
    refine e_bin o_24_211 rfl ?_
    refine e_bin o_24_212 rfl ?_
    refine e_min o_24_213 (Nat.le_of_ble_eq_true rfl) ?_
    refine e_pI o_24_216 (sc_k (h := h6) sh6 hit) ?_
    refine e_al o_24_219 rfl ?_
    refine e_gR (r := it) o_24_220 (sk_6 (h := h6) sh6) (ih6) (by rcases hit with q | q <;> omega) ?_
    refine e_dup o_24_223 rfl ?_
    refine e_gI o_24_224 (sc_k (h := h6) sh6 hit) ?_
    refine e_il o_24_227 rfl ?_
    refine e_c 101 o_24_229 rfl ?_
    refine e_if_1 o_24_231 (fun z => ?_) (fun z => ?_)
    · have k := k.1 z
      refine e_c 0 o_24_240 rfl ?_
      refine e_bin o_24_241 rfl ?_
      refine e_pI o_24_242 (sc_k (h := h6) sh6 hit) ?_
      obtain ⟨h7, eh7⟩ : ∃ z : XH, z = (xsI (xsI h6 it 6 (if ((xI h6 it 6) * ((xI h6 (it + 1) (tn x1)) + 1)) < 2000 then ((xI h6 it 6) * ((xI h6 (it + 1) (tn x1)) + 1)) else 2000)) it 4 ((xI (xsI h6 it 6 (if ((xI h6 it 6) * ((xI h6 (it + 1) (tn x1)) + 1)) < 2000 then ((xI h6 it 6) * ((xI h6 (it + 1) (tn x1)) + 1)) else 2000)) it 4) ||| 0)) := ⟨_, rfl⟩
      show Ev 24 245 [.ref 6, .int x1, .int x2, .int x3, .int x4, .int x5] [] (xsI (xsI h6 it 6 (if ((xI h6 it 6) * ((xI h6 (it + 1) (tn x1)) + 1)) < 2000 then ((xI h6 it 6) * ((xI h6 (it + 1) (tn x1)) + 1)) else 2000)) it 4 ((xI (xsI h6 it 6 (if ((xI h6 it 6) * ((xI h6 (it + 1) (tn x1)) + 1)) < 2000 then ((xI h6 it 6) * ((xI h6 (it + 1) (tn x1)) + 1)) else 2000)) it 4) ||| 0)) Q
      rw [← eh7]
      have sh7 : Sh h7 := by rw [eh7]; exact (sh_I (sh_I sh6 (by rcases hit with q | q <;> omega)) (by rcases hit with q | q <;> omega))
      have ih7 : xR h7 6 8 = it := by rw [eh7]; exact (ih6 : xR h6 6 8 = it)
      have k := k h7 eh7
      refine e_al o_24_245 rfl ?_
      refine e_gR (r := it) o_24_246 (sk_6 (h := h7) sh7) (ih7) (by rcases hit with q | q <;> omega) ?_
      refine e_dup o_24_249 rfl ?_
      refine e_gI o_24_250 (sc_k (h := h7) sh7 hit) ?_
      refine e_il o_24_253 rfl ?_
      refine e_c 102 o_24_255 rfl ?_
      refine e_if_1 o_24_257 (fun z => ?_) (fun z => ?_)
      · have k := k.1 z
        refine e_c 0 o_24_266 rfl ?_
        refine e_bin o_24_267 rfl ?_
        refine e_pI o_24_268 (sc_k (h := h7) sh7 hit) ?_
        refine e_al o_24_271 rfl ?_
        refine e_gR (r := it) o_24_272 (sk_6 (h := h7) sh7) (ih7) (by rcases hit with q | q <;> omega) ?_
        refine e_dup o_24_275 rfl ?_
        refine e_gI o_24_276 (sc_k (h := h7) sh7 hit) ?_
        refine e_c 1 o_24_279 rfl ?_
        refine e_bin o_24_280 rfl ?_
        refine e_pI o_24_281 (sc_k (h := h7) sh7 hit) ?_
        exact e_ret0 o_24_284 k
      · have k := k.2 z
        refine e_c 1 o_24_260 rfl ?_
        refine e_il o_24_261 rfl ?_
        refine e_bin o_24_262 rfl ?_
        refine e_go o_24_263 ?_
        refine e_bin o_24_267 rfl ?_
        refine e_pI o_24_268 (sc_k (h := h7) sh7 hit) ?_
        refine e_al o_24_271 rfl ?_
        refine e_gR (r := it) o_24_272 (sk_6 (h := h7) sh7) (ih7) (by rcases hit with q | q <;> omega) ?_
        refine e_dup o_24_275 rfl ?_
        refine e_gI o_24_276 (sc_k (h := h7) sh7 hit) ?_
        refine e_c 1 o_24_279 rfl ?_
        refine e_bin o_24_280 rfl ?_
        refine e_pI o_24_281 (sc_k (h := h7) sh7 hit) ?_
        exact e_ret0 o_24_284 k
    · have k := k.2 z
      refine e_c 1 o_24_234 rfl ?_
      refine e_il o_24_235 rfl ?_
      refine e_bin o_24_236 rfl ?_
      refine e_go o_24_237 ?_
      refine e_bin o_24_241 rfl ?_
      refine e_pI o_24_242 (sc_k (h := h6) sh6 hit) ?_
      obtain ⟨h8, eh8⟩ : ∃ z : XH, z = (xsI (xsI h6 it 6 (if ((xI h6 it 6) * ((xI h6 (it + 1) (tn x1)) + 1)) < 2000 then ((xI h6 it 6) * ((xI h6 (it + 1) (tn x1)) + 1)) else 2000)) it 4 ((xI (xsI h6 it 6 (if ((xI h6 it 6) * ((xI h6 (it + 1) (tn x1)) + 1)) < 2000 then ((xI h6 it 6) * ((xI h6 (it + 1) (tn x1)) + 1)) else 2000)) it 4) ||| (1 <<< (x1 &&& 31)))) := ⟨_, rfl⟩
      show Ev 24 245 [.ref 6, .int x1, .int x2, .int x3, .int x4, .int x5] [] (xsI (xsI h6 it 6 (if ((xI h6 it 6) * ((xI h6 (it + 1) (tn x1)) + 1)) < 2000 then ((xI h6 it 6) * ((xI h6 (it + 1) (tn x1)) + 1)) else 2000)) it 4 ((xI (xsI h6 it 6 (if ((xI h6 it 6) * ((xI h6 (it + 1) (tn x1)) + 1)) < 2000 then ((xI h6 it 6) * ((xI h6 (it + 1) (tn x1)) + 1)) else 2000)) it 4) ||| (1 <<< (x1 &&& 31)))) Q
      rw [← eh8]
      have sh8 : Sh h8 := by rw [eh8]; exact (sh_I (sh_I sh6 (by rcases hit with q | q <;> omega)) (by rcases hit with q | q <;> omega))
      have ih8 : xR h8 6 8 = it := by rw [eh8]; exact (ih6 : xR h6 6 8 = it)
      have k := k h8 eh8
      refine e_al o_24_245 rfl ?_
      refine e_gR (r := it) o_24_246 (sk_6 (h := h8) sh8) (ih8) (by rcases hit with q | q <;> omega) ?_
      refine e_dup o_24_249 rfl ?_
      refine e_gI o_24_250 (sc_k (h := h8) sh8 hit) ?_
      refine e_il o_24_253 rfl ?_
      refine e_c 102 o_24_255 rfl ?_
      refine e_if_1 o_24_257 (fun z => ?_) (fun z => ?_)
      · have k := k.1 z
        refine e_c 0 o_24_266 rfl ?_
        refine e_bin o_24_267 rfl ?_
        refine e_pI o_24_268 (sc_k (h := h8) sh8 hit) ?_
        refine e_al o_24_271 rfl ?_
        refine e_gR (r := it) o_24_272 (sk_6 (h := h8) sh8) (ih8) (by rcases hit with q | q <;> omega) ?_
        refine e_dup o_24_275 rfl ?_
        refine e_gI o_24_276 (sc_k (h := h8) sh8 hit) ?_
        refine e_c 1 o_24_279 rfl ?_
        refine e_bin o_24_280 rfl ?_
        refine e_pI o_24_281 (sc_k (h := h8) sh8 hit) ?_
        exact e_ret0 o_24_284 k
      · have k := k.2 z
        refine e_c 1 o_24_260 rfl ?_
        refine e_il o_24_261 rfl ?_
        refine e_bin o_24_262 rfl ?_
        refine e_go o_24_263 ?_
        refine e_bin o_24_267 rfl ?_
        refine e_pI o_24_268 (sc_k (h := h8) sh8 hit) ?_
        refine e_al o_24_271 rfl ?_
        refine e_gR (r := it) o_24_272 (sk_6 (h := h8) sh8) (ih8) (by rcases hit with q | q <;> omega) ?_
        refine e_dup o_24_275 rfl ?_
        refine e_gI o_24_276 (sc_k (h := h8) sh8 hit) ?_
        refine e_c 1 o_24_279 rfl ?_
        refine e_bin o_24_280 rfl ?_
        refine e_pI o_24_281 (sc_k (h := h8) sh8 hit) ?_
        exact e_ret0 o_24_284 k
  · have k := k.2 z
    exact e_ret0 o_24_107 k
set_option maxHeartbeats 4000000 in
set_option maxRecDepth 100000 in
theorem B_25_0 {it : Nat} {x1 : Int32} {h : XH} {Q : Value → XH → Prop} (hs : Sh h) (hit : it = 14 ∨ it = 24) (hin : xR h 6 8 = it) (k : ((¬ (xI h 6 1) = 0) → Q .null h) ∧ (¬ (¬ (xI h 6 1) = 0) → InB (xI (xsI h 6 1 x1) 6 5) 402 ∧ (Q .null (xsI (xsI h 6 1 x1) 6 0 (xI (xsI h 6 1 x1) 9 (tn (xI (xsI h 6 1 x1) 6 5))))))) : Ev 25 0 (x_ini 25 [.ref 6, .int x1]) [] h Q := by
  rw [show x_ini 25 [.ref 6, .int x1] = [.ref 6, .int x1] from x_inid ml_25 rfl]
  refine e_al o_25_0 rfl ?_
  refine e_gI o_25_1 (sk_6 (h := h) hs) ?_
  refine e_i0_1 o_25_4 (fun z => ?_) (fun z => ?_)
  · have k := k.1 z
    exact e_ret0 o_25_25 k
  · have k := k.2 z
    refine e_al o_25_7 rfl ?_
    refine e_il o_25_8 rfl ?_
    refine e_pI o_25_9 (sk_6 (h := h) hs) ?_
    refine e_al o_25_12 rfl ?_
    refine e_al o_25_13 rfl ?_
    refine e_gR (r := 9) o_25_14 (sk_6 (h := h) hs) (sr_6_11 (h := h) hs) (by decide) ?_
    refine e_al o_25_17 rfl ?_
    refine e_gI o_25_18 (sk_6 (h := h) hs) ?_
    obtain ⟨q, k⟩ := k
    refine e_ia (n := 402) o_25_21 (sk_9 (h := h) hs) (sn_9 (h := h) hs) q ?_
    refine e_pI o_25_22 (sk_6 (h := h) hs) ?_
    exact e_ret0 o_25_25 k
set_option maxHeartbeats 4000000 in
set_option maxRecDepth 100000 in
theorem B_26_0 {it : Nat} {x1 : Int32} {h : XH} {Q : Value → XH → Prop} (hs : Sh h) (hit : it = 14 ∨ it = 24) (hin : xR h 6 8 = it) (k : ((¬ (xI h 6 1) = 0) → ((¬ (xI h 6 1) = 0) → (((xI h 6 1) = 0) → Q (.int 1) (xsI h 6 5 ((xI h 6 5) + 1))) ∧ (¬ ((xI h 6 1) = 0) → Q (.int 0) h)) ∧ (¬ (¬ (xI h 6 1) = 0) → (((xI h 6 5) < 400) → (((xI h 6 1) = 0) → Q (.int 1) (xsI h 6 5 ((xI h 6 5) + 1))) ∧ (¬ ((xI h 6 1) = 0) → Q (.int 0) h)) ∧ (¬ ((xI h 6 5) < 400) → ClV 25 [.ref 6, .int 2] h (fun h1 => Sh h1 ∧ xR h1 6 8 = it ∧ ((((xI h1 6 1) = 0) → Q (.int 1) (xsI h1 6 5 ((xI h1 6 5) + 1))) ∧ (¬ ((xI h1 6 1) = 0) → Q (.int 0) h1)))))) ∧ (¬ (¬ (xI h 6 1) = 0) → InB (xI h 6 5) 402 ∧ ((((xI h 8 (tn (xI h 6 5))) = x1) → ((¬ (xI h 6 1) = 0) → (((xI h 6 1) = 0) → Q (.int 1) (xsI h 6 5 ((xI h 6 5) + 1))) ∧ (¬ ((xI h 6 1) = 0) → Q (.int 0) h)) ∧ (¬ (¬ (xI h 6 1) = 0) → (((xI h 6 5) < 400) → (((xI h 6 1) = 0) → Q (.int 1) (xsI h 6 5 ((xI h 6 5) + 1))) ∧ (¬ ((xI h 6 1) = 0) → Q (.int 0) h)) ∧ (¬ ((xI h 6 5) < 400) → ClV 25 [.ref 6, .int 2] h (fun h3 => Sh h3 ∧ xR h3 6 8 = it ∧ ((((xI h3 6 1) = 0) → Q (.int 1) (xsI h3 6 5 ((xI h3 6 5) + 1))) ∧ (¬ ((xI h3 6 1) = 0) → Q (.int 0) h3)))))) ∧ (¬ ((xI h 8 (tn (xI h 6 5))) = x1) → ClV 25 [.ref 6, .int 1] h (fun h5 => Sh h5 ∧ xR h5 6 8 = it ∧ (((¬ (xI h5 6 1) = 0) → (((xI h5 6 1) = 0) → Q (.int 1) (xsI h5 6 5 ((xI h5 6 5) + 1))) ∧ (¬ ((xI h5 6 1) = 0) → Q (.int 0) h5)) ∧ (¬ (¬ (xI h5 6 1) = 0) → (((xI h5 6 5) < 400) → (((xI h5 6 1) = 0) → Q (.int 1) (xsI h5 6 5 ((xI h5 6 5) + 1))) ∧ (¬ ((xI h5 6 1) = 0) → Q (.int 0) h5)) ∧ (¬ ((xI h5 6 5) < 400) → ClV 25 [.ref 6, .int 2] h5 (fun h7 => Sh h7 ∧ xR h7 6 8 = it ∧ ((((xI h7 6 1) = 0) → Q (.int 1) (xsI h7 6 5 ((xI h7 6 5) + 1))) ∧ (¬ ((xI h7 6 1) = 0) → Q (.int 0) h7))))))))))) : Ev 26 0 (x_ini 26 [.ref 6, .int x1]) [] h Q := by
  rw [show x_ini 26 [.ref 6, .int x1] = [.ref 6, .int x1] from x_inid ml_26 rfl]
  refine e_al o_26_0 rfl ?_
  refine e_gI o_26_1 (sk_6 (h := h) hs) ?_
  refine e_i0_1 o_26_4 (fun z => ?_) (fun z => ?_)
  · have k := k.1 z
    refine e_al o_26_25 rfl ?_
    refine e_gI o_26_26 (sk_6 (h := h) hs) ?_
    refine e_i0_1 o_26_29 (fun z => ?_) (fun z => ?_)
    · have k := k.1 z
      refine e_al o_26_47 rfl ?_
      refine e_gI o_26_48 (sk_6 (h := h) hs) ?_
      refine e_i0_0 o_26_51 (fun z => ?_) (fun z => ?_)
      · have k := k.1 z
        refine e_al o_26_56 rfl ?_
        refine e_dup o_26_57 rfl ?_
        refine e_gI o_26_58 (sk_6 (h := h) hs) ?_
        refine e_c 1 o_26_61 rfl ?_
        refine e_bin o_26_62 rfl ?_
        refine e_pI o_26_63 (sk_6 (h := h) hs) ?_
        refine e_c 1 o_26_66 rfl ?_
        exact e_retZ o_26_67 (by decide) k
      · have k := k.2 z
        refine e_c 0 o_26_54 rfl ?_
        exact e_retZ o_26_55 (by decide) k
    · have k := k.2 z
      refine e_al o_26_32 rfl ?_
      refine e_gI o_26_33 (sk_6 (h := h) hs) ?_
      refine e_c 400 o_26_36 rfl ?_
      refine e_if_2 o_26_39 (fun z => ?_) (fun z => ?_)
      · have k := k.1 z
        refine e_al o_26_47 rfl ?_
        refine e_gI o_26_48 (sk_6 (h := h) hs) ?_
        refine e_i0_0 o_26_51 (fun z => ?_) (fun z => ?_)
        · have k := k.1 z
          refine e_al o_26_56 rfl ?_
          refine e_dup o_26_57 rfl ?_
          refine e_gI o_26_58 (sk_6 (h := h) hs) ?_
          refine e_c 1 o_26_61 rfl ?_
          refine e_bin o_26_62 rfl ?_
          refine e_pI o_26_63 (sk_6 (h := h) hs) ?_
          refine e_c 1 o_26_66 rfl ?_
          exact e_retZ o_26_67 (by decide) k
        · have k := k.2 z
          refine e_c 0 o_26_54 rfl ?_
          exact e_retZ o_26_55 (by decide) k
      · have k := k.2 z
        refine e_al o_26_42 rfl ?_
        refine e_c 2 o_26_43 rfl ?_
        refine e_clV (as := [.ref 6, .int 2]) (rest := []) o_26_44 rfl rfl (x_okd cl_26_25 ml_25 (Nat.le_of_ble_eq_true rfl) (Nat.le_of_ble_eq_true rfl)) (x_rc0 (ci := 4) (sk_6 (h := h) hs) mo_25) k ?_
        rintro h1 ⟨sh1, ih1, k⟩
        refine e_al o_26_47 rfl ?_
        refine e_gI o_26_48 (sk_6 (h := h1) sh1) ?_
        refine e_i0_0 o_26_51 (fun z => ?_) (fun z => ?_)
        · have k := k.1 z
          refine e_al o_26_56 rfl ?_
          refine e_dup o_26_57 rfl ?_
          refine e_gI o_26_58 (sk_6 (h := h1) sh1) ?_
          refine e_c 1 o_26_61 rfl ?_
          refine e_bin o_26_62 rfl ?_
          refine e_pI o_26_63 (sk_6 (h := h1) sh1) ?_
          refine e_c 1 o_26_66 rfl ?_
          exact e_retZ o_26_67 (by decide) k
        · have k := k.2 z
          refine e_c 0 o_26_54 rfl ?_
          exact e_retZ o_26_55 (by decide) k
  · have k := k.2 z
    refine e_al o_26_7 rfl ?_
    refine e_gR (r := 8) o_26_8 (sk_6 (h := h) hs) (sr_6_10 (h := h) hs) (by decide) ?_
    refine e_al o_26_11 rfl ?_
    refine e_gI o_26_12 (sk_6 (h := h) hs) ?_
    obtain ⟨q, k⟩ := k
    refine e_ia (n := 402) o_26_15 (sk_8 (h := h) hs) (sn_8 (h := h) hs) q ?_
    refine e_il o_26_16 rfl ?_
    refine e_if_0 o_26_17 (fun z => ?_) (fun z => ?_)
    · have k := k.1 z
      refine e_al o_26_25 rfl ?_
      refine e_gI o_26_26 (sk_6 (h := h) hs) ?_
      refine e_i0_1 o_26_29 (fun z => ?_) (fun z => ?_)
      · have k := k.1 z
        refine e_al o_26_47 rfl ?_
        refine e_gI o_26_48 (sk_6 (h := h) hs) ?_
        refine e_i0_0 o_26_51 (fun z => ?_) (fun z => ?_)
        · have k := k.1 z
          refine e_al o_26_56 rfl ?_
          refine e_dup o_26_57 rfl ?_
          refine e_gI o_26_58 (sk_6 (h := h) hs) ?_
          refine e_c 1 o_26_61 rfl ?_
          refine e_bin o_26_62 rfl ?_
          refine e_pI o_26_63 (sk_6 (h := h) hs) ?_
          refine e_c 1 o_26_66 rfl ?_
          exact e_retZ o_26_67 (by decide) k
        · have k := k.2 z
          refine e_c 0 o_26_54 rfl ?_
          exact e_retZ o_26_55 (by decide) k
      · have k := k.2 z
        refine e_al o_26_32 rfl ?_
        refine e_gI o_26_33 (sk_6 (h := h) hs) ?_
        refine e_c 400 o_26_36 rfl ?_
        refine e_if_2 o_26_39 (fun z => ?_) (fun z => ?_)
        · have k := k.1 z
          refine e_al o_26_47 rfl ?_
          refine e_gI o_26_48 (sk_6 (h := h) hs) ?_
          refine e_i0_0 o_26_51 (fun z => ?_) (fun z => ?_)
          · have k := k.1 z
            refine e_al o_26_56 rfl ?_
            refine e_dup o_26_57 rfl ?_
            refine e_gI o_26_58 (sk_6 (h := h) hs) ?_
            refine e_c 1 o_26_61 rfl ?_
            refine e_bin o_26_62 rfl ?_
            refine e_pI o_26_63 (sk_6 (h := h) hs) ?_
            refine e_c 1 o_26_66 rfl ?_
            exact e_retZ o_26_67 (by decide) k
          · have k := k.2 z
            refine e_c 0 o_26_54 rfl ?_
            exact e_retZ o_26_55 (by decide) k
        · have k := k.2 z
          refine e_al o_26_42 rfl ?_
          refine e_c 2 o_26_43 rfl ?_
          refine e_clV (as := [.ref 6, .int 2]) (rest := []) o_26_44 rfl rfl (x_okd cl_26_25 ml_25 (Nat.le_of_ble_eq_true rfl) (Nat.le_of_ble_eq_true rfl)) (x_rc0 (ci := 4) (sk_6 (h := h) hs) mo_25) k ?_
          rintro h3 ⟨sh3, ih3, k⟩
          refine e_al o_26_47 rfl ?_
          refine e_gI o_26_48 (sk_6 (h := h3) sh3) ?_
          refine e_i0_0 o_26_51 (fun z => ?_) (fun z => ?_)
          · have k := k.1 z
            refine e_al o_26_56 rfl ?_
            refine e_dup o_26_57 rfl ?_
            refine e_gI o_26_58 (sk_6 (h := h3) sh3) ?_
            refine e_c 1 o_26_61 rfl ?_
            refine e_bin o_26_62 rfl ?_
            refine e_pI o_26_63 (sk_6 (h := h3) sh3) ?_
            refine e_c 1 o_26_66 rfl ?_
            exact e_retZ o_26_67 (by decide) k
          · have k := k.2 z
            refine e_c 0 o_26_54 rfl ?_
            exact e_retZ o_26_55 (by decide) k
    · have k := k.2 z
      refine e_al o_26_20 rfl ?_
      refine e_c 1 o_26_21 rfl ?_
      refine e_clV (as := [.ref 6, .int 1]) (rest := []) o_26_22 rfl rfl (x_okd cl_26_25 ml_25 (Nat.le_of_ble_eq_true rfl) (Nat.le_of_ble_eq_true rfl)) (x_rc0 (ci := 4) (sk_6 (h := h) hs) mo_25) k ?_
      rintro h5 ⟨sh5, ih5, k⟩
      refine e_al o_26_25 rfl ?_
      refine e_gI o_26_26 (sk_6 (h := h5) sh5) ?_
      refine e_i0_1 o_26_29 (fun z => ?_) (fun z => ?_)
      · have k := k.1 z
        refine e_al o_26_47 rfl ?_
        refine e_gI o_26_48 (sk_6 (h := h5) sh5) ?_
        refine e_i0_0 o_26_51 (fun z => ?_) (fun z => ?_)
        · have k := k.1 z
          refine e_al o_26_56 rfl ?_
          refine e_dup o_26_57 rfl ?_
          refine e_gI o_26_58 (sk_6 (h := h5) sh5) ?_
          refine e_c 1 o_26_61 rfl ?_
          refine e_bin o_26_62 rfl ?_
          refine e_pI o_26_63 (sk_6 (h := h5) sh5) ?_
          refine e_c 1 o_26_66 rfl ?_
          exact e_retZ o_26_67 (by decide) k
        · have k := k.2 z
          refine e_c 0 o_26_54 rfl ?_
          exact e_retZ o_26_55 (by decide) k
      · have k := k.2 z
        refine e_al o_26_32 rfl ?_
        refine e_gI o_26_33 (sk_6 (h := h5) sh5) ?_
        refine e_c 400 o_26_36 rfl ?_
        refine e_if_2 o_26_39 (fun z => ?_) (fun z => ?_)
        · have k := k.1 z
          refine e_al o_26_47 rfl ?_
          refine e_gI o_26_48 (sk_6 (h := h5) sh5) ?_
          refine e_i0_0 o_26_51 (fun z => ?_) (fun z => ?_)
          · have k := k.1 z
            refine e_al o_26_56 rfl ?_
            refine e_dup o_26_57 rfl ?_
            refine e_gI o_26_58 (sk_6 (h := h5) sh5) ?_
            refine e_c 1 o_26_61 rfl ?_
            refine e_bin o_26_62 rfl ?_
            refine e_pI o_26_63 (sk_6 (h := h5) sh5) ?_
            refine e_c 1 o_26_66 rfl ?_
            exact e_retZ o_26_67 (by decide) k
          · have k := k.2 z
            refine e_c 0 o_26_54 rfl ?_
            exact e_retZ o_26_55 (by decide) k
        · have k := k.2 z
          refine e_al o_26_42 rfl ?_
          refine e_c 2 o_26_43 rfl ?_
          refine e_clV (as := [.ref 6, .int 2]) (rest := []) o_26_44 rfl rfl (x_okd cl_26_25 ml_25 (Nat.le_of_ble_eq_true rfl) (Nat.le_of_ble_eq_true rfl)) (x_rc0 (ci := 4) (sk_6 (h := h5) sh5) mo_25) k ?_
          rintro h7 ⟨sh7, ih7, k⟩
          refine e_al o_26_47 rfl ?_
          refine e_gI o_26_48 (sk_6 (h := h7) sh7) ?_
          refine e_i0_0 o_26_51 (fun z => ?_) (fun z => ?_)
          · have k := k.1 z
            refine e_al o_26_56 rfl ?_
            refine e_dup o_26_57 rfl ?_
            refine e_gI o_26_58 (sk_6 (h := h7) sh7) ?_
            refine e_c 1 o_26_61 rfl ?_
            refine e_bin o_26_62 rfl ?_
            refine e_pI o_26_63 (sk_6 (h := h7) sh7) ?_
            refine e_c 1 o_26_66 rfl ?_
            exact e_retZ o_26_67 (by decide) k
          · have k := k.2 z
            refine e_c 0 o_26_54 rfl ?_
            exact e_retZ o_26_55 (by decide) k
set_option maxHeartbeats 4000000 in
set_option maxRecDepth 100000 in
theorem B_27_0 {it : Nat} {x1 : Int32} {x2 : Int32} {x3 : Int32} {h : XH} {Q : Value → XH → Prop} (hs : Sh h) (hit : it = 14 ∨ it = 24) (hin : xR h 6 8 = it) (k : InB x1 402 ∧ (ClI 28 [.ref 6, .long (xL h 10 (tn x1))] h (fun v2 h1 => Sh h1 ∧ xR h1 6 8 = it ∧ (((v2 = 0) → Ev 27 19 [.ref 6, .null, .int x2, .int x3] [] h1 Q) ∧ (¬ (v2 = 0) → ClV 31 [.ref 6, .int 3, .int x1] h1 (fun h3 => Sh h3 ∧ xR h3 6 8 = it ∧ (Ev 27 19 [.ref 6, .null, .int x2, .int x3] [] h3 Q))))))) : Ev 27 0 (x_ini 27 [.ref 6, .int x1, .int x2, .int x3]) [] h Q := by
  rw [show x_ini 27 [.ref 6, .int x1, .int x2, .int x3] = [.ref 6, .int x1, .int x2, .int x3] from x_inid ml_27 rfl]
  refine e_al o_27_0 rfl ?_
  refine e_al o_27_1 rfl ?_
  refine e_gR (r := 10) o_27_2 (sk_6 (h := h) hs) (sr_6_12 (h := h) hs) (by decide) ?_
  refine e_il o_27_5 rfl ?_
  obtain ⟨q, k⟩ := k
  refine e_la (n := 402) o_27_6 (sk_10 (h := h) hs) (sn_10 (h := h) hs) q ?_
  refine e_clI (as := [.ref 6, .long (xL h 10 (tn x1))]) (rest := []) o_27_7 rfl rfl (x_okd cl_27_28 ml_28 (Nat.le_of_ble_eq_true rfl) (Nat.le_of_ble_eq_true rfl)) (x_rc0 (ci := 4) (sk_6 (h := h) hs) mo_28) k ?_
  rintro v2 h1 ⟨sh1, ih1, k⟩
  refine e_i0_0 o_27_10 (fun z => ?_) (fun z => ?_)
  · have k := k.1 z
    exact Ev.less (ls := [.ref 6, .null, .int x2, .int x3]) ⟨Or.inr rfl, Or.inl rfl, Or.inr rfl, Or.inr rfl, trivial⟩ k
  · have k := k.2 z
    refine e_al o_27_13 rfl ?_
    refine e_c 3 o_27_14 rfl ?_
    refine e_il o_27_15 rfl ?_
    refine e_clV (as := [.ref 6, .int 3, .int x1]) (rest := []) o_27_16 rfl rfl (x_okd cl_27_31 ml_31 (Nat.le_of_ble_eq_true rfl) (Nat.le_of_ble_eq_true rfl)) (x_rc0 (ci := 4) (sk_6 (h := h1) sh1) mo_31) k ?_
    rintro h3 ⟨sh3, ih3, k⟩
    exact Ev.less (ls := [.ref 6, .null, .int x2, .int x3]) ⟨Or.inr rfl, Or.inl rfl, Or.inr rfl, Or.inr rfl, trivial⟩ k
set_option maxHeartbeats 4000000 in
set_option maxRecDepth 100000 in
theorem B_27_19 {it : Nat} {x2 : Int32} {x3 : Int32} {h : XH} {Q : Value → XH → Prop} (hs : Sh h) (hit : it = 14 ∨ it = 24) (hin : xR h 6 8 = it) (k : InB x2 402 ∧ ((((lg_cmp (xL h 10 (tn x2)) 1) < 0) → Ev 27 43 [.ref 6, .null, .int x2, .int x3] [] h Q) ∧ (¬ ((lg_cmp (xL h 10 (tn x2)) 1) < 0) → InB x2 402 ∧ ((((lg_cmp (xL h 10 (tn x2)) 3) ≤ 0) → Ev 27 49 [.ref 6, .null, .int x2, .int x3] [] h Q) ∧ (¬ ((lg_cmp (xL h 10 (tn x2)) 3) ≤ 0) → Ev 27 43 [.ref 6, .null, .int x2, .int x3] [] h Q))))) : Ev 27 19 [.ref 6, .null, .int x2, .int x3] [] h Q := by
  refine e_al o_27_19 rfl ?_
  refine e_gR (r := 10) o_27_20 (sk_6 (h := h) hs) (sr_6_12 (h := h) hs) (by decide) ?_
  refine e_il o_27_23 rfl ?_
  obtain ⟨q, k⟩ := k
  refine e_la (n := 402) o_27_24 (sk_10 (h := h) hs) (sn_10 (h := h) hs) q ?_
  refine e_lc 1 o_27_25 rfl ?_
  refine e_lcmp o_27_26 ?_
  refine e_i0_2 o_27_27 (fun z => ?_) (fun z => ?_)
  · have k := k.1 z
    exact Ev.less (ls := [.ref 6, .null, .int x2, .int x3]) ⟨Or.inr rfl, Or.inl rfl, Or.inr rfl, Or.inr rfl, trivial⟩ k
  · have k := k.2 z
    refine e_al o_27_30 rfl ?_
    refine e_gR (r := 10) o_27_31 (sk_6 (h := h) hs) (sr_6_12 (h := h) hs) (by decide) ?_
    refine e_il o_27_34 rfl ?_
    obtain ⟨q, k⟩ := k
    refine e_la (n := 402) o_27_35 (sk_10 (h := h) hs) (sn_10 (h := h) hs) q ?_
    refine e_lc 3 o_27_36 rfl ?_
    refine e_lcmp o_27_39 ?_
    refine e_i0_5 o_27_40 (fun z => ?_) (fun z => ?_)
    · have k := k.1 z
      exact Ev.less (ls := [.ref 6, .null, .int x2, .int x3]) ⟨Or.inr rfl, Or.inl rfl, Or.inr rfl, Or.inr rfl, trivial⟩ k
    · have k := k.2 z
      exact Ev.less (ls := [.ref 6, .null, .int x2, .int x3]) ⟨Or.inr rfl, Or.inl rfl, Or.inr rfl, Or.inr rfl, trivial⟩ k
set_option maxHeartbeats 4000000 in
set_option maxRecDepth 100000 in
theorem B_27_43 {it : Nat} {x2 : Int32} {x3 : Int32} {h : XH} {Q : Value → XH → Prop} (hs : Sh h) (hit : it = 14 ∨ it = 24) (hin : xR h 6 8 = it) (k : ClV 31 [.ref 6, .int 5, .int x2] h (fun h1 => Sh h1 ∧ xR h1 6 8 = it ∧ (Ev 27 49 [.ref 6, .null, .int x2, .int x3] [] h1 Q))) : Ev 27 43 [.ref 6, .null, .int x2, .int x3] [] h Q := by
  refine e_al o_27_43 rfl ?_
  refine e_c 5 o_27_44 rfl ?_
  refine e_il o_27_45 rfl ?_
  refine e_clV (as := [.ref 6, .int 5, .int x2]) (rest := []) o_27_46 rfl rfl (x_okd cl_27_31 ml_31 (Nat.le_of_ble_eq_true rfl) (Nat.le_of_ble_eq_true rfl)) (x_rc0 (ci := 4) (sk_6 (h := h) hs) mo_31) k ?_
  rintro h1 ⟨sh1, ih1, k⟩
  exact Ev.less (ls := [.ref 6, .null, .int x2, .int x3]) ⟨Or.inr rfl, Or.inl rfl, Or.inr rfl, Or.inr rfl, trivial⟩ k
set_option maxHeartbeats 4000000 in
set_option maxRecDepth 100000 in
theorem B_27_49 {it : Nat} {x2 : Int32} {x3 : Int32} {h : XH} {Q : Value → XH → Prop} (hs : Sh h) (hit : it = 14 ∨ it = 24) (hin : xR h 6 8 = it) (k : InB x2 402 ∧ ((((lg_cmp (((xI h it 6) : Int32).toInt64 * ((xL h 10 (tn x2)) + 1)) 2000) ≤ 0) → Ev 27 80 [.ref 6, .null, .int x2, .int x3] [] h Q) ∧ (¬ ((lg_cmp (((xI h it 6) : Int32).toInt64 * ((xL h 10 (tn x2)) + 1)) 2000) ≤ 0) → ClV 31 [.ref 6, .int 7, .int x2] h (fun h1 => Sh h1 ∧ xR h1 6 8 = it ∧ (Ev 27 80 [.ref 6, .null, .int x2, .int x3] [] h1 Q))))) : Ev 27 49 [.ref 6, .null, .int x2, .int x3] [] h Q := by
  refine e_al o_27_49 rfl ?_
  refine e_gR (r := it) o_27_50 (sk_6 (h := h) hs) (hin) (by rcases hit with q | q <;> omega) ?_
  refine e_gI o_27_53 (sc_k (h := h) hs hit) ?_
  refine e_i2l o_27_56 ?_
  refine e_al o_27_57 rfl ?_
  refine e_gR (r := 10) o_27_58 (sk_6 (h := h) hs) (sr_6_12 (h := h) hs) (by decide) ?_
  refine e_il o_27_61 rfl ?_
  obtain ⟨q, k⟩ := k
  refine e_la (n := 402) o_27_62 (sk_10 (h := h) hs) (sn_10 (h := h) hs) q ?_
  refine e_lc 1 o_27_63 rfl ?_
  refine e_lbin o_27_64 rfl ?_
  refine e_lbin o_27_65 rfl ?_
  refine e_lc 2000 o_27_66 rfl ?_
  refine e_lcmp o_27_69 ?_
  refine e_i0_5 o_27_70 (fun z => ?_) (fun z => ?_)
  · have k := k.1 z
    exact Ev.less (ls := [.ref 6, .null, .int x2, .int x3]) ⟨Or.inr rfl, Or.inl rfl, Or.inr rfl, Or.inr rfl, trivial⟩ k
  · have k := k.2 z
    refine e_al o_27_73 rfl ?_
    refine e_c 7 o_27_74 rfl ?_
    refine e_il o_27_76 rfl ?_
    refine e_clV (as := [.ref 6, .int 7, .int x2]) (rest := []) o_27_77 rfl rfl (x_okd cl_27_31 ml_31 (Nat.le_of_ble_eq_true rfl) (Nat.le_of_ble_eq_true rfl)) (x_rc0 (ci := 4) (sk_6 (h := h) hs) mo_31) k ?_
    rintro h1 ⟨sh1, ih1, k⟩
    exact Ev.less (ls := [.ref 6, .null, .int x2, .int x3]) ⟨Or.inr rfl, Or.inl rfl, Or.inr rfl, Or.inr rfl, trivial⟩ k
set_option maxHeartbeats 4000000 in
set_option maxRecDepth 100000 in
theorem B_27_80 {it : Nat} {x2 : Int32} {x3 : Int32} {h : XH} {Q : Value → XH → Prop} (hs : Sh h) (hit : it = 14 ∨ it = 24) (hin : xR h 6 8 = it) (k : InB x3 402 ∧ (InB x2 402 ∧ ((((lg_cmp (xL h 10 (tn x3)) (xL h 10 (tn x2))) ≤ 0) → Ev 27 102 [.null, .null, .null, .null] [] h Q) ∧ (¬ ((lg_cmp (xL h 10 (tn x3)) (xL h 10 (tn x2))) ≤ 0) → ClV 31 [.ref 6, .int 5, .int x3] h (fun h1 => Sh h1 ∧ xR h1 6 8 = it ∧ (Ev 27 102 [.null, .null, .null, .null] [] h1 Q)))))) : Ev 27 80 [.ref 6, .null, .int x2, .int x3] [] h Q := by
  refine e_al o_27_80 rfl ?_
  refine e_gR (r := 10) o_27_81 (sk_6 (h := h) hs) (sr_6_12 (h := h) hs) (by decide) ?_
  refine e_il o_27_84 rfl ?_
  obtain ⟨q, k⟩ := k
  refine e_la (n := 402) o_27_85 (sk_10 (h := h) hs) (sn_10 (h := h) hs) q ?_
  refine e_al o_27_86 rfl ?_
  refine e_gR (r := 10) o_27_87 (sk_6 (h := h) hs) (sr_6_12 (h := h) hs) (by decide) ?_
  refine e_il o_27_90 rfl ?_
  obtain ⟨q, k⟩ := k
  refine e_la (n := 402) o_27_91 (sk_10 (h := h) hs) (sn_10 (h := h) hs) q ?_
  refine e_lcmp o_27_92 ?_
  refine e_i0_5 o_27_93 (fun z => ?_) (fun z => ?_)
  · have k := k.1 z
    exact Ev.less (ls := [.null, .null, .null, .null]) ⟨Or.inl rfl, Or.inl rfl, Or.inl rfl, Or.inl rfl, trivial⟩ k
  · have k := k.2 z
    refine e_al o_27_96 rfl ?_
    refine e_c 5 o_27_97 rfl ?_
    refine e_il o_27_98 rfl ?_
    refine e_clV (as := [.ref 6, .int 5, .int x3]) (rest := []) o_27_99 rfl rfl (x_okd cl_27_31 ml_31 (Nat.le_of_ble_eq_true rfl) (Nat.le_of_ble_eq_true rfl)) (x_rc0 (ci := 4) (sk_6 (h := h) hs) mo_31) k ?_
    rintro h1 ⟨sh1, ih1, k⟩
    exact Ev.less (ls := [.null, .null, .null, .null]) ⟨Or.inl rfl, Or.inl rfl, Or.inl rfl, Or.inl rfl, trivial⟩ k
set_option maxHeartbeats 4000000 in
set_option maxRecDepth 100000 in
theorem B_27_102 {it : Nat} {h : XH} {Q : Value → XH → Prop} (hs : Sh h) (hit : it = 14 ∨ it = 24) (hin : xR h 6 8 = it) (k : Q .null h) : Ev 27 102 [.null, .null, .null, .null] [] h Q := by
  exact e_ret0 o_27_102 k
set_option maxHeartbeats 4000000 in
set_option maxRecDepth 100000 in
theorem B_28_0 {it : Nat} {x1 : Int64} {h : XH} {Q : Value → XH → Prop} (hs : Sh h) (hit : it = 14 ∨ it = 24) (hin : xR h 6 8 = it) (k : ClI 29 [.ref 6, .long x1] h (fun v2 h1 => Sh h1 ∧ xR h1 6 8 = it ∧ (((0 ≤ v2) → Q (.int 1) h1) ∧ (¬ (0 ≤ v2) → ClI 30 [.ref 6, .long x1] h1 (fun v4 h3 => Sh h3 ∧ xR h3 6 8 = it ∧ (((v4 < 0) → Q (.int 0) h3) ∧ (¬ (v4 < 0) → Q (.int 1) h3))))))) : Ev 28 0 (x_ini 28 [.ref 6, .long x1]) [] h Q := by
  rw [show x_ini 28 [.ref 6, .long x1] = [.ref 6, .long x1, .null] from x_inid ml_28 rfl]
  refine e_al o_28_0 rfl ?_
  refine e_ll o_28_1 rfl ?_
  refine e_clI (as := [.ref 6, .long x1]) (rest := []) o_28_2 rfl rfl (x_okd cl_28_29 ml_29 (Nat.le_of_ble_eq_true rfl) (Nat.le_of_ble_eq_true rfl)) (x_rc0 (ci := 4) (sk_6 (h := h) hs) mo_29) k ?_
  rintro v2 h1 ⟨sh1, ih1, k⟩
  refine e_i0_3 o_28_5 (fun z => ?_) (fun z => ?_)
  · have k := k.1 z
    refine e_c 1 o_28_16 rfl ?_
    refine e_go o_28_17 ?_
    exact e_retZ o_28_21 (by decide) k
  · have k := k.2 z
    refine e_al o_28_8 rfl ?_
    refine e_ll o_28_9 rfl ?_
    refine e_clI (as := [.ref 6, .long x1]) (rest := []) o_28_10 rfl rfl (x_okd cl_28_30 ml_30 (Nat.le_of_ble_eq_true rfl) (Nat.le_of_ble_eq_true rfl)) (x_rc0 (ci := 4) (sk_6 (h := h1) sh1) mo_30) k ?_
    rintro v4 h3 ⟨sh3, ih3, k⟩
    refine e_i0_2 o_28_13 (fun z => ?_) (fun z => ?_)
    · have k := k.1 z
      refine e_c 0 o_28_20 rfl ?_
      exact e_retZ o_28_21 (by decide) k
    · have k := k.2 z
      refine e_c 1 o_28_16 rfl ?_
      refine e_go o_28_17 ?_
      exact e_retZ o_28_21 (by decide) k
set_option maxHeartbeats 4000000 in
set_option maxRecDepth 100000 in
theorem B_29_0 {it : Nat} {x1 : Int64} {h : XH} {Q : Value → XH → Prop} (hs : Sh h) (hit : it = 14 ∨ it = 24) (hin : xR h 6 8 = it) (k : Ev 29 2 [.ref 6, .long x1, .null, .int 0] [] h Q) : Ev 29 0 (x_ini 29 [.ref 6, .long x1]) [] h Q := by
  rw [show x_ini 29 [.ref 6, .long x1] = [.ref 6, .long x1, .null, .null] from x_inid ml_29 rfl]
  refine e_c 0 o_29_0 rfl ?_
  refine e_is (ls' := [.ref 6, .long x1, .null, .int 0]) o_29_1 (Nat.le_of_ble_eq_true rfl) rfl ?_
  exact Ev.less (ls := [.ref 6, .long x1, .null, .int 0]) ⟨Or.inr rfl, Or.inr rfl, Or.inl rfl, Or.inr rfl, trivial⟩ k
set_option maxHeartbeats 4000000 in
set_option maxRecDepth 100000 in
theorem B_29_2 {it : Nat} {x1 : Int64} {x3 : Int32} {h : XH} {Q : Value → XH → Prop} (hs : Sh h) (hit : it = 14 ∨ it = 24) (hin : xR h 6 8 = it) (k : (((xI h it 0) ≤ x3) → Q (.int (-1)) h) ∧ (¬ ((xI h it 0) ≤ x3) → InB x3 8 ∧ (((¬ (lg_cmp (xL h 12 (tn x3)) x1) = 0) → Ev 29 2 [.ref 6, .long x1, .null, .int (x3 + 1)] [] h Q) ∧ (¬ (¬ (lg_cmp (xL h 12 (tn x3)) x1) = 0) → Q (.int x3) h)))) : Ev 29 2 [.ref 6, .long x1, .null, .int x3] [] h Q := by
  refine e_il o_29_2 rfl ?_
  refine e_al o_29_3 rfl ?_
  refine e_gR (r := it) o_29_4 (sk_6 (h := h) hs) (hin) (by rcases hit with q | q <;> omega) ?_
  refine e_gI o_29_7 (sc_k (h := h) hs hit) ?_
  refine e_if_3 o_29_10 (fun z => ?_) (fun z => ?_)
  · have k := k.1 z
    refine e_c (-1) o_29_32 rfl ?_
    exact e_retI o_29_33 k
  · have k := k.2 z
    refine e_al o_29_13 rfl ?_
    refine e_gR (r := 12) o_29_14 (sk_6 (h := h) hs) (sr_6_14 (h := h) hs) (by decide) ?_
    refine e_il o_29_17 rfl ?_
    obtain ⟨q, k⟩ := k
    refine e_la (n := 8) o_29_18 (sk_12 (h := h) hs) (sn_12 (h := h) hs) q ?_
    refine e_ll o_29_19 rfl ?_
    refine e_lcmp o_29_20 ?_
    refine e_i0_1 o_29_21 (fun z => ?_) (fun z => ?_)
    · have k := k.1 z
      refine e_inc (ls' := [.ref 6, .long x1, .null, .int (x3 + 1)]) o_29_26 rfl rfl rfl ?_
      refine e_go o_29_29 ?_
      exact Ev.less (ls := [.ref 6, .long x1, .null, .int (x3 + 1)]) ⟨Or.inr rfl, Or.inr rfl, Or.inl rfl, Or.inr rfl, trivial⟩ k
    · have k := k.2 z
      refine e_il o_29_24 rfl ?_
      exact e_retI o_29_25 k
set_option maxHeartbeats 4000000 in
set_option maxRecDepth 100000 in
theorem B_30_0 {it : Nat} {x1 : Int64} {h : XH} {Q : Value → XH → Prop} (hs : Sh h) (hit : it = 14 ∨ it = 24) (hin : xR h 6 8 = it) (k : Ev 30 2 [.ref 6, .long x1, .null, .int 0] [] h Q) : Ev 30 0 (x_ini 30 [.ref 6, .long x1]) [] h Q := by
  rw [show x_ini 30 [.ref 6, .long x1] = [.ref 6, .long x1, .null, .null] from x_inid ml_30 rfl]
  refine e_c 0 o_30_0 rfl ?_
  refine e_is (ls' := [.ref 6, .long x1, .null, .int 0]) o_30_1 (Nat.le_of_ble_eq_true rfl) rfl ?_
  exact Ev.less (ls := [.ref 6, .long x1, .null, .int 0]) ⟨Or.inr rfl, Or.inr rfl, Or.inl rfl, Or.inr rfl, trivial⟩ k
set_option maxHeartbeats 4000000 in
set_option maxRecDepth 100000 in
theorem B_30_2 {it : Nat} {x1 : Int64} {x3 : Int32} {h : XH} {Q : Value → XH → Prop} (hs : Sh h) (hit : it = 14 ∨ it = 24) (hin : xR h 6 8 = it) (k : (((xI h it 1) ≤ x3) → Q (.int (-1)) h) ∧ (¬ ((xI h it 1) ≤ x3) → InB x3 6 ∧ (((¬ (lg_cmp (xL h 13 (tn x3)) x1) = 0) → Ev 30 2 [.ref 6, .long x1, .null, .int (x3 + 1)] [] h Q) ∧ (¬ (¬ (lg_cmp (xL h 13 (tn x3)) x1) = 0) → Q (.int x3) h)))) : Ev 30 2 [.ref 6, .long x1, .null, .int x3] [] h Q := by
  refine e_il o_30_2 rfl ?_
  refine e_al o_30_3 rfl ?_
  refine e_gR (r := it) o_30_4 (sk_6 (h := h) hs) (hin) (by rcases hit with q | q <;> omega) ?_
  refine e_gI o_30_7 (sc_k (h := h) hs hit) ?_
  refine e_if_3 o_30_10 (fun z => ?_) (fun z => ?_)
  · have k := k.1 z
    refine e_c (-1) o_30_32 rfl ?_
    exact e_retI o_30_33 k
  · have k := k.2 z
    refine e_al o_30_13 rfl ?_
    refine e_gR (r := 13) o_30_14 (sk_6 (h := h) hs) (sr_6_15 (h := h) hs) (by decide) ?_
    refine e_il o_30_17 rfl ?_
    obtain ⟨q, k⟩ := k
    refine e_la (n := 6) o_30_18 (sk_13 (h := h) hs) (sn_13 (h := h) hs) q ?_
    refine e_ll o_30_19 rfl ?_
    refine e_lcmp o_30_20 ?_
    refine e_i0_1 o_30_21 (fun z => ?_) (fun z => ?_)
    · have k := k.1 z
      refine e_inc (ls' := [.ref 6, .long x1, .null, .int (x3 + 1)]) o_30_26 rfl rfl rfl ?_
      refine e_go o_30_29 ?_
      exact Ev.less (ls := [.ref 6, .long x1, .null, .int (x3 + 1)]) ⟨Or.inr rfl, Or.inr rfl, Or.inl rfl, Or.inr rfl, trivial⟩ k
    · have k := k.2 z
      refine e_il o_30_24 rfl ?_
      exact e_retI o_30_25 k
set_option maxHeartbeats 4000000 in
set_option maxRecDepth 100000 in
theorem B_31_0 {it : Nat} {x1 : Int32} {x2 : Int32} {h : XH} {Q : Value → XH → Prop} (hs : Sh h) (hit : it = 14 ∨ it = 24) (hin : xR h 6 8 = it) (k : ((¬ (xI h 6 2) = 0) → Q .null h) ∧ (¬ (¬ (xI h 6 2) = 0) → InB x2 402 ∧ (Q .null (xsI (xsI h 6 2 x1) 6 3 (xI (xsI h 6 2 x1) 9 (tn x2)))))) : Ev 31 0 (x_ini 31 [.ref 6, .int x1, .int x2]) [] h Q := by
  rw [show x_ini 31 [.ref 6, .int x1, .int x2] = [.ref 6, .int x1, .int x2] from x_inid ml_31 rfl]
  refine e_al o_31_0 rfl ?_
  refine e_gI o_31_1 (sk_6 (h := h) hs) ?_
  refine e_i0_1 o_31_4 (fun z => ?_) (fun z => ?_)
  · have k := k.1 z
    exact e_ret0 o_31_22 k
  · have k := k.2 z
    refine e_al o_31_7 rfl ?_
    refine e_il o_31_8 rfl ?_
    refine e_pI o_31_9 (sk_6 (h := h) hs) ?_
    refine e_al o_31_12 rfl ?_
    refine e_al o_31_13 rfl ?_
    refine e_gR (r := 9) o_31_14 (sk_6 (h := h) hs) (sr_6_11 (h := h) hs) (by decide) ?_
    refine e_il o_31_17 rfl ?_
    obtain ⟨q, k⟩ := k
    refine e_ia (n := 402) o_31_18 (sk_9 (h := h) hs) (sn_9 (h := h) hs) q ?_
    refine e_pI o_31_19 (sk_6 (h := h) hs) ?_
    exact e_ret0 o_31_22 k
set_option maxHeartbeats 4000000 in
set_option maxRecDepth 100000 in
theorem B_32_0 {it : Nat} {h : XH} {Q : Value → XH → Prop} (hs : Sh h) (hit : it = 14 ∨ it = 24) (hin : xR h 6 8 = it) (k : ClI 26 [.ref 6, .int 103] h (fun v2 h1 => Sh h1 ∧ xR h1 6 8 = it ∧ (ClI 26 [.ref 6, .int 2] h1 (fun v4 h3 => Sh h3 ∧ xR h3 6 8 = it ∧ (((v4 = 0) → ClV 33 [.ref 6] h3 (fun h5 => Sh h5 ∧ xR h5 6 8 = it ∧ (ClI 26 [.ref 6, .int 59] h5 (fun v8 h7 => Sh h7 ∧ xR h7 6 8 = it ∧ (Q .null h7))))) ∧ (¬ (v4 = 0) → InB (xI h1 6 5) 402 ∧ (ClI 29 [.ref 6, .long (xL h3 10 (tn (xI h1 6 5)))] h3 (fun v10 h9 => Sh h9 ∧ xR h9 6 8 = it ∧ (((0 ≤ v10) → InB v10 8 ∧ (ClV 33 [.ref 6] (xsI h9 (it + 4) (tn v10) (xI h9 it 7)) (fun h11 => Sh h11 ∧ xR h11 6 8 = it ∧ (ClI 26 [.ref 6, .int 59] h11 (fun v14 h13 => Sh h13 ∧ xR h13 6 8 = it ∧ (Q .null h13)))))) ∧ (¬ (0 ≤ v10) → ClV 31 [.ref 6, .int 4, .int (xI h1 6 5)] h9 (fun h15 => Sh h15 ∧ xR h15 6 8 = it ∧ (ClV 33 [.ref 6] h15 (fun h17 => Sh h17 ∧ xR h17 6 8 = it ∧ (ClI 26 [.ref 6, .int 59] h17 (fun v20 h19 => Sh h19 ∧ xR h19 6 8 = it ∧ (Q .null h19)))))))))))))))) : Ev 32 0 (x_ini 32 [.ref 6]) [] h Q := by
  rw [show x_ini 32 [.ref 6] = [.ref 6, .null, .null] from x_inid ml_32 rfl]
  refine e_al o_32_0 rfl ?_
  refine e_c 103 o_32_1 rfl ?_
  refine e_clI (as := [.ref 6, .int 103]) (rest := []) o_32_3 rfl rfl (x_okd cl_32_26 ml_26 (Nat.le_of_ble_eq_true rfl) (Nat.le_of_ble_eq_true rfl)) (x_rc0 (ci := 4) (sk_6 (h := h) hs) mo_26) k ?_
  rintro v2 h1 ⟨sh1, ih1, k⟩
  refine e_pop o_32_6 rfl ?_
  refine e_al o_32_7 rfl ?_
  refine e_gI o_32_8 (sk_6 (h := h1) sh1) ?_
  refine e_is (ls' := [.ref 6, .int (xI h1 6 5), .null]) o_32_11 (Nat.le_of_ble_eq_true rfl) rfl ?_
  refine e_al o_32_12 rfl ?_
  refine e_c 2 o_32_13 rfl ?_
  refine e_clI (as := [.ref 6, .int 2]) (rest := []) o_32_14 rfl rfl (x_okd cl_32_26 ml_26 (Nat.le_of_ble_eq_true rfl) (Nat.le_of_ble_eq_true rfl)) (x_rc0 (ci := 4) (sk_6 (h := h1) sh1) mo_26) k ?_
  rintro v4 h3 ⟨sh3, ih3, k⟩
  refine e_i0_0 o_32_17 (fun z => ?_) (fun z => ?_)
  · have k := k.1 z
    refine e_al o_32_60 rfl ?_
    refine e_clV (as := [.ref 6]) (rest := []) o_32_61 rfl rfl (x_okd cl_32_33 ml_33 (Nat.le_of_ble_eq_true rfl) (Nat.le_of_ble_eq_true rfl)) (x_rc0 (ci := 4) (sk_6 (h := h3) sh3) mo_33) k ?_
    rintro h5 ⟨sh5, ih5, k⟩
    refine e_al o_32_64 rfl ?_
    refine e_c 59 o_32_65 rfl ?_
    refine e_clI (as := [.ref 6, .int 59]) (rest := []) o_32_67 rfl rfl (x_okd cl_32_26 ml_26 (Nat.le_of_ble_eq_true rfl) (Nat.le_of_ble_eq_true rfl)) (x_rc0 (ci := 4) (sk_6 (h := h5) sh5) mo_26) k ?_
    rintro v8 h7 ⟨sh7, ih7, k⟩
    refine e_pop o_32_70 rfl ?_
    exact e_ret0 o_32_71 k
  · have k := k.2 z
    refine e_al o_32_20 rfl ?_
    refine e_al o_32_21 rfl ?_
    refine e_gR (r := 10) o_32_22 (sk_6 (h := h3) sh3) (sr_6_12 (h := h3) sh3) (by decide) ?_
    refine e_il o_32_25 rfl ?_
    obtain ⟨q, k⟩ := k
    refine e_la (n := 402) o_32_26 (sk_10 (h := h3) sh3) (sn_10 (h := h3) sh3) q ?_
    refine e_clI (as := [.ref 6, .long (xL h3 10 (tn (xI h1 6 5)))]) (rest := []) o_32_27 rfl rfl (x_okd cl_32_29 ml_29 (Nat.le_of_ble_eq_true rfl) (Nat.le_of_ble_eq_true rfl)) (x_rc0 (ci := 4) (sk_6 (h := h3) sh3) mo_29) k ?_
    rintro v10 h9 ⟨sh9, ih9, k⟩
    refine e_is (ls' := [.ref 6, .int (xI h1 6 5), .int v10]) o_32_30 (Nat.le_of_ble_eq_true rfl) rfl ?_
    refine e_il o_32_31 rfl ?_
    refine e_i0_3 o_32_32 (fun z => ?_) (fun z => ?_)
    · have k := k.1 z
      refine e_al o_32_44 rfl ?_
      refine e_gR (r := it) o_32_45 (sk_6 (h := h9) sh9) (ih9) (by rcases hit with q | q <;> omega) ?_
      refine e_gR (r := (it + 4)) o_32_48 (sc_k (h := h9) sh9 hit) (sc_r12 (h := h9) sh9 hit) (by omega) ?_
      refine e_il o_32_51 rfl ?_
      refine e_al o_32_52 rfl ?_
      refine e_gR (r := it) o_32_53 (sk_6 (h := h9) sh9) (ih9) (by rcases hit with q | q <;> omega) ?_
      refine e_gI o_32_56 (sc_k (h := h9) sh9 hit) ?_
      obtain ⟨q, k⟩ := k
      refine e_ias (n := 8) o_32_59 ((sc_a4 (h := h9) sh9 hit).1) ((sc_a4 (h := h9) sh9 hit).2.2) ((sc_a4 (h := h9) sh9 hit).2.1) q ?_
      refine e_al o_32_60 rfl ?_
      refine e_clV (as := [.ref 6]) (rest := []) o_32_61 rfl rfl (x_okd cl_32_33 ml_33 (Nat.le_of_ble_eq_true rfl) (Nat.le_of_ble_eq_true rfl)) (x_rc0 (ci := 4) (sk_6 (h := h9) sh9) mo_33) k ?_
      rintro h11 ⟨sh11, ih11, k⟩
      refine e_al o_32_64 rfl ?_
      refine e_c 59 o_32_65 rfl ?_
      refine e_clI (as := [.ref 6, .int 59]) (rest := []) o_32_67 rfl rfl (x_okd cl_32_26 ml_26 (Nat.le_of_ble_eq_true rfl) (Nat.le_of_ble_eq_true rfl)) (x_rc0 (ci := 4) (sk_6 (h := h11) sh11) mo_26) k ?_
      rintro v14 h13 ⟨sh13, ih13, k⟩
      refine e_pop o_32_70 rfl ?_
      exact e_ret0 o_32_71 k
    · have k := k.2 z
      refine e_al o_32_35 rfl ?_
      refine e_c 4 o_32_36 rfl ?_
      refine e_il o_32_37 rfl ?_
      refine e_clV (as := [.ref 6, .int 4, .int (xI h1 6 5)]) (rest := []) o_32_38 rfl rfl (x_okd cl_32_31 ml_31 (Nat.le_of_ble_eq_true rfl) (Nat.le_of_ble_eq_true rfl)) (x_rc0 (ci := 4) (sk_6 (h := h9) sh9) mo_31) k ?_
      rintro h15 ⟨sh15, ih15, k⟩
      refine e_go o_32_41 ?_
      refine e_al o_32_60 rfl ?_
      refine e_clV (as := [.ref 6]) (rest := []) o_32_61 rfl rfl (x_okd cl_32_33 ml_33 (Nat.le_of_ble_eq_true rfl) (Nat.le_of_ble_eq_true rfl)) (x_rc0 (ci := 4) (sk_6 (h := h15) sh15) mo_33) k ?_
      rintro h17 ⟨sh17, ih17, k⟩
      refine e_al o_32_64 rfl ?_
      refine e_c 59 o_32_65 rfl ?_
      refine e_clI (as := [.ref 6, .int 59]) (rest := []) o_32_67 rfl rfl (x_okd cl_32_26 ml_26 (Nat.le_of_ble_eq_true rfl) (Nat.le_of_ble_eq_true rfl)) (x_rc0 (ci := 4) (sk_6 (h := h17) sh17) mo_26) k ?_
      rintro v20 h19 ⟨sh19, ih19, k⟩
      refine e_pop o_32_70 rfl ?_
      exact e_ret0 o_32_71 k
set_option maxHeartbeats 4000000 in
set_option maxRecDepth 100000 in
theorem B_33_0 {it : Nat} {h : XH} {Q : Value → XH → Prop} (hs : Sh h) (hit : it = 14 ∨ it = 24) (hin : xR h 6 8 = it) (k : ClI 26 [.ref 6, .int 61] h (fun v2 h1 => Sh h1 ∧ xR h1 6 8 = it ∧ (Ev 33 9 [.ref 6, .int 0, .null] [] h1 Q))) : Ev 33 0 (x_ini 33 [.ref 6]) [] h Q := by
  rw [show x_ini 33 [.ref 6] = [.ref 6, .null, .null] from x_inid ml_33 rfl]
  refine e_al o_33_0 rfl ?_
  refine e_c 61 o_33_1 rfl ?_
  refine e_clI (as := [.ref 6, .int 61]) (rest := []) o_33_3 rfl rfl (x_okd cl_33_26 ml_26 (Nat.le_of_ble_eq_true rfl) (Nat.le_of_ble_eq_true rfl)) (x_rc0 (ci := 4) (sk_6 (h := h) hs) mo_26) k ?_
  rintro v2 h1 ⟨sh1, ih1, k⟩
  refine e_pop o_33_6 rfl ?_
  refine e_c 0 o_33_7 rfl ?_
  refine e_is (ls' := [.ref 6, .int 0, .null]) o_33_8 (Nat.le_of_ble_eq_true rfl) rfl ?_
  exact Ev.less (ls := [.ref 6, .int 0, .null]) ⟨Or.inr rfl, Or.inr rfl, Or.inl rfl, trivial⟩ k
set_option maxHeartbeats 4000000 in
set_option maxRecDepth 100000 in
theorem B_33_9 {it : Nat} {x1 : Int32} {h : XH} {Q : Value → XH → Prop} (hs : Sh h) (hit : it = 14 ∨ it = 24) (hin : xR h 6 8 = it) (k : ((4 < x1) → Ev 33 151 [.ref 6, .null, .null] [] h Q) ∧ (¬ (4 < x1) → ((¬ (xI h 6 1) = 0) → Ev 33 151 [.ref 6, .null, .null] [] h Q) ∧ (¬ (¬ (xI h 6 1) = 0) → InB (xI h 6 5) 402 ∧ (((¬ (xI h 8 (tn (xI h 6 5))) = 111) → Ev 33 151 [.ref 6, .null, .null] [] h Q) ∧ (¬ (¬ (xI h 8 (tn (xI h 6 5))) = 111) → ((¬ x1 = 4) → Ev 33 45 [.ref 6, .int x1, .null] [] h Q) ∧ (¬ (¬ x1 = 4) → ClV 25 [.ref 6, .int 2] h (fun h1 => Sh h1 ∧ xR h1 6 8 = it ∧ (Ev 33 45 [.ref 6, .int x1, .null] [] h1 Q)))))))) : Ev 33 9 [.ref 6, .int x1, .null] [] h Q := by
  refine e_il o_33_9 rfl ?_
  refine e_c 4 o_33_10 rfl ?_
  refine e_if_4 o_33_11 (fun z => ?_) (fun z => ?_)
  · have k := k.1 z
    exact Ev.less (ls := [.ref 6, .null, .null]) ⟨Or.inr rfl, Or.inl rfl, Or.inl rfl, trivial⟩ k
  · have k := k.2 z
    refine e_al o_33_14 rfl ?_
    refine e_gI o_33_15 (sk_6 (h := h) hs) ?_
    refine e_i0_1 o_33_18 (fun z => ?_) (fun z => ?_)
    · have k := k.1 z
      exact Ev.less (ls := [.ref 6, .null, .null]) ⟨Or.inr rfl, Or.inl rfl, Or.inl rfl, trivial⟩ k
    · have k := k.2 z
      refine e_al o_33_21 rfl ?_
      refine e_gR (r := 8) o_33_22 (sk_6 (h := h) hs) (sr_6_10 (h := h) hs) (by decide) ?_
      refine e_al o_33_25 rfl ?_
      refine e_gI o_33_26 (sk_6 (h := h) hs) ?_
      obtain ⟨q, k⟩ := k
      refine e_ia (n := 402) o_33_29 (sk_8 (h := h) hs) (sn_8 (h := h) hs) q ?_
      refine e_c 111 o_33_30 rfl ?_
      refine e_if_1 o_33_32 (fun z => ?_) (fun z => ?_)
      · have k := k.1 z
        exact Ev.less (ls := [.ref 6, .null, .null]) ⟨Or.inr rfl, Or.inl rfl, Or.inl rfl, trivial⟩ k
      · have k := k.2 z
        refine e_il o_33_35 rfl ?_
        refine e_c 4 o_33_36 rfl ?_
        refine e_if_1 o_33_37 (fun z => ?_) (fun z => ?_)
        · have k := k.1 z
          exact Ev.less (ls := [.ref 6, .int x1, .null]) ⟨Or.inr rfl, Or.inr rfl, Or.inl rfl, trivial⟩ k
        · have k := k.2 z
          refine e_al o_33_40 rfl ?_
          refine e_c 2 o_33_41 rfl ?_
          refine e_clV (as := [.ref 6, .int 2]) (rest := []) o_33_42 rfl rfl (x_okd cl_33_25 ml_25 (Nat.le_of_ble_eq_true rfl) (Nat.le_of_ble_eq_true rfl)) (x_rc0 (ci := 4) (sk_6 (h := h) hs) mo_25) k ?_
          rintro h1 ⟨sh1, ih1, k⟩
          exact Ev.less (ls := [.ref 6, .int x1, .null]) ⟨Or.inr rfl, Or.inr rfl, Or.inl rfl, trivial⟩ k
set_option maxHeartbeats 4000000 in
set_option maxRecDepth 100000 in
theorem B_33_45 {it : Nat} {x1 : Int32} {h : XH} {Q : Value → XH → Prop} (hs : Sh h) (hit : it = 14 ∨ it = 24) (hin : xR h 6 8 = it) (k : ClI 26 [.ref 6, .int 111] h (fun v2 h1 => Sh h1 ∧ xR h1 6 8 = it ∧ (ClV 34 [.ref 6, .int 1] h1 (fun h3 => Sh h3 ∧ xR h3 6 8 = it ∧ (ClI 26 [.ref 6, .int 60] h3 (fun v6 h5 => Sh h5 ∧ xR h5 6 8 = it ∧ (ClV 34 [.ref 6, .int 1] h5 (fun h7 => Sh h7 ∧ xR h7 6 8 = it ∧ (ClI 26 [.ref 6, .int 112] h7 (fun v10 h9 => Sh h9 ∧ xR h9 6 8 = it ∧ (ClV 37 [.ref 6, .int 6, .int 0] h9 (fun h11 => Sh h11 ∧ xR h11 6 8 = it ∧ (ClV 37 [.ref 6, .int 9, .int 0] h11 (fun h13 => Sh h13 ∧ xR h13 6 8 = it ∧ (ClV 34 [.ref 6, .int 1] h13 (fun h15 => Sh h15 ∧ xR h15 6 8 = it ∧ (ClV 37 [.ref 6, .int 10, .int 0] h15 (fun h17 => Sh h17 ∧ xR h17 6 8 = it ∧ (ClI 26 [.ref 6, .int 113] h17 (fun v20 h19 => Sh h19 ∧ xR h19 6 8 = it ∧ (((512 ≤ (xI h11 it 7)) → Ev 33 145 [.ref 6, .int x1, .null] [] h19 Q) ∧ (¬ (512 ≤ (xI h11 it 7)) → InB (xI h11 it 7) 512 ∧ (Ev 33 145 [.ref 6, .int x1, .null] [] (xsI h19 (it + 9) (tn (xI h11 it 7)) (((xI h19 it 7) <<< (4 &&& 31)) ||| 9)) Q))))))))))))))))))))))) : Ev 33 45 [.ref 6, .int x1, .null] [] h Q := by
  refine e_al o_33_45 rfl ?_
  refine e_c 111 o_33_46 rfl ?_
  refine e_clI (as := [.ref 6, .int 111]) (rest := []) o_33_48 rfl rfl (x_okd cl_33_26 ml_26 (Nat.le_of_ble_eq_true rfl) (Nat.le_of_ble_eq_true rfl)) (x_rc0 (ci := 4) (sk_6 (h := h) hs) mo_26) k ?_
  rintro v2 h1 ⟨sh1, ih1, k⟩
  refine e_pop o_33_51 rfl ?_
  refine e_al o_33_52 rfl ?_
  refine e_c 1 o_33_53 rfl ?_
  refine e_clV (as := [.ref 6, .int 1]) (rest := []) o_33_54 rfl rfl (x_okd cl_33_34 ml_34 (Nat.le_of_ble_eq_true rfl) (Nat.le_of_ble_eq_true rfl)) (x_rc0 (ci := 4) (sk_6 (h := h1) sh1) mo_34) k ?_
  rintro h3 ⟨sh3, ih3, k⟩
  refine e_al o_33_57 rfl ?_
  refine e_c 60 o_33_58 rfl ?_
  refine e_clI (as := [.ref 6, .int 60]) (rest := []) o_33_60 rfl rfl (x_okd cl_33_26 ml_26 (Nat.le_of_ble_eq_true rfl) (Nat.le_of_ble_eq_true rfl)) (x_rc0 (ci := 4) (sk_6 (h := h3) sh3) mo_26) k ?_
  rintro v6 h5 ⟨sh5, ih5, k⟩
  refine e_pop o_33_63 rfl ?_
  refine e_al o_33_64 rfl ?_
  refine e_c 1 o_33_65 rfl ?_
  refine e_clV (as := [.ref 6, .int 1]) (rest := []) o_33_66 rfl rfl (x_okd cl_33_34 ml_34 (Nat.le_of_ble_eq_true rfl) (Nat.le_of_ble_eq_true rfl)) (x_rc0 (ci := 4) (sk_6 (h := h5) sh5) mo_34) k ?_
  rintro h7 ⟨sh7, ih7, k⟩
  refine e_al o_33_69 rfl ?_
  refine e_c 112 o_33_70 rfl ?_
  refine e_clI (as := [.ref 6, .int 112]) (rest := []) o_33_72 rfl rfl (x_okd cl_33_26 ml_26 (Nat.le_of_ble_eq_true rfl) (Nat.le_of_ble_eq_true rfl)) (x_rc0 (ci := 4) (sk_6 (h := h7) sh7) mo_26) k ?_
  rintro v10 h9 ⟨sh9, ih9, k⟩
  refine e_pop o_33_75 rfl ?_
  refine e_al o_33_76 rfl ?_
  refine e_c 6 o_33_77 rfl ?_
  refine e_c 0 o_33_79 rfl ?_
  refine e_clV (as := [.ref 6, .int 6, .int 0]) (rest := []) o_33_80 rfl rfl (x_okd cl_33_37 ml_37 (Nat.le_of_ble_eq_true rfl) (Nat.le_of_ble_eq_true rfl)) (x_rc0 (ci := 4) (sk_6 (h := h9) sh9) mo_37) k ?_
  rintro h11 ⟨sh11, ih11, k⟩
  refine e_al o_33_83 rfl ?_
  refine e_gR (r := it) o_33_84 (sk_6 (h := h11) sh11) (ih11) (by rcases hit with q | q <;> omega) ?_
  refine e_gI o_33_87 (sc_k (h := h11) sh11 hit) ?_
  refine e_is (ls' := [.ref 6, .int x1, .int (xI h11 it 7)]) o_33_90 (Nat.le_of_ble_eq_true rfl) rfl ?_
  refine e_al o_33_91 rfl ?_
  refine e_c 9 o_33_92 rfl ?_
  refine e_c 0 o_33_94 rfl ?_
  refine e_clV (as := [.ref 6, .int 9, .int 0]) (rest := []) o_33_95 rfl rfl (x_okd cl_33_37 ml_37 (Nat.le_of_ble_eq_true rfl) (Nat.le_of_ble_eq_true rfl)) (x_rc0 (ci := 4) (sk_6 (h := h11) sh11) mo_37) k ?_
  rintro h13 ⟨sh13, ih13, k⟩
  refine e_al o_33_98 rfl ?_
  refine e_c 1 o_33_99 rfl ?_
  refine e_clV (as := [.ref 6, .int 1]) (rest := []) o_33_100 rfl rfl (x_okd cl_33_34 ml_34 (Nat.le_of_ble_eq_true rfl) (Nat.le_of_ble_eq_true rfl)) (x_rc0 (ci := 4) (sk_6 (h := h13) sh13) mo_34) k ?_
  rintro h15 ⟨sh15, ih15, k⟩
  refine e_al o_33_103 rfl ?_
  refine e_c 10 o_33_104 rfl ?_
  refine e_c 0 o_33_106 rfl ?_
  refine e_clV (as := [.ref 6, .int 10, .int 0]) (rest := []) o_33_107 rfl rfl (x_okd cl_33_37 ml_37 (Nat.le_of_ble_eq_true rfl) (Nat.le_of_ble_eq_true rfl)) (x_rc0 (ci := 4) (sk_6 (h := h15) sh15) mo_37) k ?_
  rintro h17 ⟨sh17, ih17, k⟩
  refine e_al o_33_110 rfl ?_
  refine e_c 113 o_33_111 rfl ?_
  refine e_clI (as := [.ref 6, .int 113]) (rest := []) o_33_113 rfl rfl (x_okd cl_33_26 ml_26 (Nat.le_of_ble_eq_true rfl) (Nat.le_of_ble_eq_true rfl)) (x_rc0 (ci := 4) (sk_6 (h := h17) sh17) mo_26) k ?_
  rintro v20 h19 ⟨sh19, ih19, k⟩
  refine e_pop o_33_116 rfl ?_
  refine e_il o_33_117 rfl ?_
  refine e_c 512 o_33_118 rfl ?_
  refine e_if_3 o_33_121 (fun z => ?_) (fun z => ?_)
  · have k := k.1 z
    exact Ev.less (ls := [.ref 6, .int x1, .null]) ⟨Or.inr rfl, Or.inr rfl, Or.inl rfl, trivial⟩ k
  · have k := k.2 z
    refine e_al o_33_124 rfl ?_
    refine e_gR (r := it) o_33_125 (sk_6 (h := h19) sh19) (ih19) (by rcases hit with q | q <;> omega) ?_
    refine e_gR (r := (it + 9)) o_33_128 (sc_k (h := h19) sh19 hit) (sc_r17 (h := h19) sh19 hit) (by omega) ?_
    refine e_il o_33_131 rfl ?_
    refine e_al o_33_132 rfl ?_
    refine e_gR (r := it) o_33_133 (sk_6 (h := h19) sh19) (ih19) (by rcases hit with q | q <;> omega) ?_
    refine e_gI o_33_136 (sc_k (h := h19) sh19 hit) ?_
    refine e_c 4 o_33_139 rfl ?_
    refine e_bin o_33_140 rfl ?_
    refine e_c 9 o_33_141 rfl ?_
    refine e_bin o_33_143 rfl ?_
    obtain ⟨q, k⟩ := k
    refine e_ias (n := 512) o_33_144 ((sc_a9 (h := h19) sh19 hit).1) ((sc_a9 (h := h19) sh19 hit).2.2) ((sc_a9 (h := h19) sh19 hit).2.1) q ?_
    exact Ev.less (ls := [.ref 6, .int x1, .null]) ⟨Or.inr rfl, Or.inr rfl, Or.inl rfl, trivial⟩ k
set_option maxHeartbeats 4000000 in
set_option maxRecDepth 100000 in
theorem B_33_145 {it : Nat} {x1 : Int32} {h : XH} {Q : Value → XH → Prop} (hs : Sh h) (hit : it = 14 ∨ it = 24) (hin : xR h 6 8 = it) (k : Ev 33 9 [.ref 6, .int (x1 + 1), .null] [] h Q) : Ev 33 145 [.ref 6, .int x1, .null] [] h Q := by
  refine e_inc (ls' := [.ref 6, .int (x1 + 1), .null]) o_33_145 rfl rfl rfl ?_
  refine e_go o_33_148 ?_
  exact Ev.less (ls := [.ref 6, .int (x1 + 1), .null]) ⟨Or.inr rfl, Or.inr rfl, Or.inl rfl, trivial⟩ k
set_option maxHeartbeats 4000000 in
set_option maxRecDepth 100000 in
theorem B_33_151 {it : Nat} {h : XH} {Q : Value → XH → Prop} (hs : Sh h) (hit : it = 14 ∨ it = 24) (hin : xR h 6 8 = it) (k : ClV 34 [.ref 6, .int 1] h (fun h1 => Sh h1 ∧ xR h1 6 8 = it ∧ (ClV 37 [.ref 6, .int 10, .int 0] h1 (fun h3 => Sh h3 ∧ xR h3 6 8 = it ∧ (Q .null h3))))) : Ev 33 151 [.ref 6, .null, .null] [] h Q := by
  refine e_al o_33_151 rfl ?_
  refine e_c 1 o_33_152 rfl ?_
  refine e_clV (as := [.ref 6, .int 1]) (rest := []) o_33_153 rfl rfl (x_okd cl_33_34 ml_34 (Nat.le_of_ble_eq_true rfl) (Nat.le_of_ble_eq_true rfl)) (x_rc0 (ci := 4) (sk_6 (h := h) hs) mo_34) k ?_
  rintro h1 ⟨sh1, ih1, k⟩
  refine e_al o_33_156 rfl ?_
  refine e_c 10 o_33_157 rfl ?_
  refine e_c 0 o_33_159 rfl ?_
  refine e_clV (as := [.ref 6, .int 10, .int 0]) (rest := []) o_33_160 rfl rfl (x_okd cl_33_37 ml_37 (Nat.le_of_ble_eq_true rfl) (Nat.le_of_ble_eq_true rfl)) (x_rc0 (ci := 4) (sk_6 (h := h1) sh1) mo_37) k ?_
  rintro h3 ⟨sh3, ih3, k⟩
  exact e_ret0 o_33_163 k
set_option maxHeartbeats 4000000 in
set_option maxRecDepth 100000 in
theorem B_34_0 {it : Nat} {x1 : Int32} {h : XH} {Q : Value → XH → Prop} (hs : Sh h) (hit : it = 14 ∨ it = 24) (hin : xR h 6 8 = it) (k : Ev 34 12 [.ref 6, .int x1, .int 0, .int 1, .int 0, .null] [] (xsI h 6 7 0) Q) : Ev 34 0 (x_ini 34 [.ref 6, .int x1]) [] h Q := by
  rw [show x_ini 34 [.ref 6, .int x1] = [.ref 6, .int x1, .null, .null, .null, .null] from x_inid ml_34 rfl]
  refine e_c 0 o_34_0 rfl ?_
  refine e_is (ls' := [.ref 6, .int x1, .int 0, .null, .null, .null]) o_34_1 (Nat.le_of_ble_eq_true rfl) rfl ?_
  refine e_c 1 o_34_2 rfl ?_
  refine e_is (ls' := [.ref 6, .int x1, .int 0, .int 1, .null, .null]) o_34_3 (Nat.le_of_ble_eq_true rfl) rfl ?_
  refine e_al o_34_4 rfl ?_
  refine e_c 0 o_34_5 rfl ?_
  refine e_pI o_34_6 (sk_6 (h := h) hs) ?_
  refine e_c 0 o_34_9 rfl ?_
  refine e_is (ls' := [.ref 6, .int x1, .int 0, .int 1, .int 0, .null]) o_34_10 (Nat.le_of_ble_eq_true rfl) rfl ?_
  exact Ev.less (ls := [.ref 6, .int x1, .int 0, .int 1, .int 0, .null]) ⟨Or.inr rfl, Or.inr rfl, Or.inr rfl, Or.inr rfl, Or.inr rfl, Or.inl rfl, trivial⟩ k
set_option maxHeartbeats 4000000 in
set_option maxRecDepth 100000 in
theorem B_34_12 {it : Nat} {x1 : Int32} {x2 : Int32} {x3 : Int32} {x4 : Int32} {h : XH} {Q : Value → XH → Prop} (hs : Sh h) (hit : it = 14 ∨ it = 24) (hin : xR h 6 8 = it) (k : ((400 < x4) → Ev 34 180 [.null, .null, .null, .null, .null, .null] [] h Q) ∧ (¬ (400 < x4) → ((¬ (xI h 6 1) = 0) → Ev 34 180 [.null, .null, .null, .null, .null, .null] [] h Q) ∧ (¬ (¬ (xI h 6 1) = 0) → InB (xI h 6 5) 402 ∧ (((x3 = 0) → Ev 34 72 [.ref 6, .int x1, .int x2, .int x3, .int x4, .int (xI h 8 (tn (xI h 6 5)))] [] h Q) ∧ (¬ (x3 = 0) → ((¬ (xI h 8 (tn (xI h 6 5))) = 40) → Ev 34 72 [.ref 6, .int x1, .int x2, .int x3, .int x4, .int (xI h 8 (tn (xI h 6 5)))] [] h Q) ∧ (¬ (¬ (xI h 8 (tn (xI h 6 5))) = 40) → ((x2 < 6) → Ev 34 60 [.ref 6, .int x1, .int x2, .int x3, .int x4, .int (xI h 8 (tn (xI h 6 5)))] [] h Q) ∧ (¬ (x2 < 6) → ClV 25 [.ref 6, .int 2] h (fun h1 => Sh h1 ∧ xR h1 6 8 = it ∧ (Ev 34 60 [.ref 6, .int x1, .int x2, .int x3, .int x4, .int (xI h 8 (tn (xI h 6 5)))] [] h1 Q))))))))) : Ev 34 12 [.ref 6, .int x1, .int x2, .int x3, .int x4, .null] [] h Q := by
  refine e_il o_34_12 rfl ?_
  refine e_c 400 o_34_14 rfl ?_
  refine e_if_4 o_34_17 (fun z => ?_) (fun z => ?_)
  · have k := k.1 z
    exact Ev.less (ls := [.null, .null, .null, .null, .null, .null]) ⟨Or.inl rfl, Or.inl rfl, Or.inl rfl, Or.inl rfl, Or.inl rfl, Or.inl rfl, trivial⟩ k
  · have k := k.2 z
    refine e_al o_34_20 rfl ?_
    refine e_gI o_34_21 (sk_6 (h := h) hs) ?_
    refine e_i0_1 o_34_24 (fun z => ?_) (fun z => ?_)
    · have k := k.1 z
      exact Ev.less (ls := [.null, .null, .null, .null, .null, .null]) ⟨Or.inl rfl, Or.inl rfl, Or.inl rfl, Or.inl rfl, Or.inl rfl, Or.inl rfl, trivial⟩ k
    · have k := k.2 z
      refine e_al o_34_27 rfl ?_
      refine e_gR (r := 8) o_34_28 (sk_6 (h := h) hs) (sr_6_10 (h := h) hs) (by decide) ?_
      refine e_al o_34_31 rfl ?_
      refine e_gI o_34_32 (sk_6 (h := h) hs) ?_
      obtain ⟨q, k⟩ := k
      refine e_ia (n := 402) o_34_35 (sk_8 (h := h) hs) (sn_8 (h := h) hs) q ?_
      refine e_is (ls' := [.ref 6, .int x1, .int x2, .int x3, .int x4, .int (xI h 8 (tn (xI h 6 5)))]) o_34_36 (Nat.le_of_ble_eq_true rfl) rfl ?_
      refine e_il o_34_38 rfl ?_
      refine e_i0_0 o_34_39 (fun z => ?_) (fun z => ?_)
      · have k := k.1 z
        exact Ev.less (ls := [.ref 6, .int x1, .int x2, .int x3, .int x4, .int (xI h 8 (tn (xI h 6 5)))]) ⟨Or.inr rfl, Or.inr rfl, Or.inr rfl, Or.inr rfl, Or.inr rfl, Or.inr rfl, trivial⟩ k
      · have k := k.2 z
        refine e_il o_34_42 rfl ?_
        refine e_c 40 o_34_44 rfl ?_
        refine e_if_1 o_34_46 (fun z => ?_) (fun z => ?_)
        · have k := k.1 z
          exact Ev.less (ls := [.ref 6, .int x1, .int x2, .int x3, .int x4, .int (xI h 8 (tn (xI h 6 5)))]) ⟨Or.inr rfl, Or.inr rfl, Or.inr rfl, Or.inr rfl, Or.inr rfl, Or.inr rfl, trivial⟩ k
        · have k := k.2 z
          refine e_il o_34_49 rfl ?_
          refine e_c 6 o_34_50 rfl ?_
          refine e_if_2 o_34_52 (fun z => ?_) (fun z => ?_)
          · have k := k.1 z
            exact Ev.less (ls := [.ref 6, .int x1, .int x2, .int x3, .int x4, .int (xI h 8 (tn (xI h 6 5)))]) ⟨Or.inr rfl, Or.inr rfl, Or.inr rfl, Or.inr rfl, Or.inr rfl, Or.inr rfl, trivial⟩ k
          · have k := k.2 z
            refine e_al o_34_55 rfl ?_
            refine e_c 2 o_34_56 rfl ?_
            refine e_clV (as := [.ref 6, .int 2]) (rest := []) o_34_57 rfl rfl (x_okd cl_34_25 ml_25 (Nat.le_of_ble_eq_true rfl) (Nat.le_of_ble_eq_true rfl)) (x_rc0 (ci := 4) (sk_6 (h := h) hs) mo_25) k ?_
            rintro h1 ⟨sh1, ih1, k⟩
            exact Ev.less (ls := [.ref 6, .int x1, .int x2, .int x3, .int x4, .int (xI h 8 (tn (xI h 6 5)))]) ⟨Or.inr rfl, Or.inr rfl, Or.inr rfl, Or.inr rfl, Or.inr rfl, Or.inr rfl, trivial⟩ k
set_option maxHeartbeats 4000000 in
set_option maxRecDepth 100000 in
theorem B_34_60 {it : Nat} {x1 : Int32} {x2 : Int32} {x3 : Int32} {x4 : Int32} {x5 : Int32} {h : XH} {Q : Value → XH → Prop} (hs : Sh h) (hit : it = 14 ∨ it = 24) (hin : xR h 6 8 = it) (k : ClV 35 [.ref 6, .int x5] h (fun h1 => Sh h1 ∧ xR h1 6 8 = it ∧ (Ev 34 167 [.ref 6, .int x1, .int (x2 + 1), .int x3, .int x4, .int x5] [] h1 Q))) : Ev 34 60 [.ref 6, .int x1, .int x2, .int x3, .int x4, .int x5] [] h Q := by
  refine e_inc (ls' := [.ref 6, .int x1, .int (x2 + 1), .int x3, .int x4, .int x5]) o_34_60 rfl rfl rfl ?_
  refine e_al o_34_63 rfl ?_
  refine e_il o_34_64 rfl ?_
  refine e_clV (as := [.ref 6, .int x5]) (rest := []) o_34_66 rfl rfl (x_okd cl_34_35 ml_35 (Nat.le_of_ble_eq_true rfl) (Nat.le_of_ble_eq_true rfl)) (x_rc0 (ci := 4) (sk_6 (h := h) hs) mo_35) k ?_
  rintro h1 ⟨sh1, ih1, k⟩
  refine e_go o_34_69 ?_
  exact Ev.less (ls := [.ref 6, .int x1, .int (x2 + 1), .int x3, .int x4, .int x5]) ⟨Or.inr rfl, Or.inr rfl, Or.inr rfl, Or.inr rfl, Or.inr rfl, Or.inr rfl, trivial⟩ k
set_option maxHeartbeats 4000000 in
set_option maxRecDepth 100000 in
theorem B_34_72 {it : Nat} {x1 : Int32} {x2 : Int32} {x3 : Int32} {x4 : Int32} {x5 : Int32} {h : XH} {Q : Value → XH → Prop} (hs : Sh h) (hit : it = 14 ∨ it = 24) (hin : xR h 6 8 = it) (k : ((x3 = 0) → ClI 38 [.int x5] h (fun v2 h1 => Sh h1 ∧ xR h1 6 8 = it ∧ (((v2 ≤ 0) → ((¬ x5 = 41) → Ev 34 152 [.ref 6, .null, .int x2, .null, .null, .null] [] h1 Q) ∧ (¬ (¬ x5 = 41) → ((x2 ≤ 0) → Ev 34 152 [.ref 6, .null, .int x2, .null, .null, .null] [] h1 Q) ∧ (¬ (x2 ≤ 0) → ClV 39 [.ref 6, .int 1] h1 (fun h3 => Sh h3 ∧ xR h3 6 8 = it ∧ (Ev 34 167 [.ref 6, .int x1, .int (x2 + (-1)), .int x3, .int x4, .int x5] [] (xsI h3 6 7 (if 0 < ((xI h3 6 7) - 1) then ((xI h3 6 7) - 1) else 0)) Q))))) ∧ (¬ (v2 ≤ 0) → ClI 38 [.int x5] h1 (fun v6 h5 => Sh h5 ∧ xR h5 6 8 = it ∧ (ClV 39 [.ref 6, .int v6] h5 (fun h7 => Sh h7 ∧ xR h7 6 8 = it ∧ (ClV 35 [.ref 6, .int x5] h7 (fun h9 => Sh h9 ∧ xR h9 6 8 = it ∧ (Ev 34 167 [.ref 6, .int x1, .int x2, .int 1, .int x4, .int x5] [] h9 Q)))))))))) ∧ (¬ (x3 = 0) → ClV 36 [.ref 6, .int x5, .int x1] h (fun h11 => Sh h11 ∧ xR h11 6 8 = it ∧ (Ev 34 167 [.ref 6, .int x1, .int x2, .int 0, .int x4, .int x5] [] h11 Q)))) : Ev 34 72 [.ref 6, .int x1, .int x2, .int x3, .int x4, .int x5] [] h Q := by
  refine e_il o_34_72 rfl ?_
  refine e_i0_0 o_34_73 (fun z => ?_) (fun z => ?_)
  · have k := k.1 z
    refine e_il o_34_88 rfl ?_
    refine e_clI (as := [.int x5]) (rest := []) o_34_90 rfl rfl (x_okd cl_34_38 ml_38 (Nat.le_of_ble_eq_true rfl) (Nat.le_of_ble_eq_true rfl)) (rfl) k ?_
    rintro v2 h1 ⟨sh1, ih1, k⟩
    refine e_i0_5 o_34_93 (fun z => ?_) (fun z => ?_)
    · have k := k.1 z
      refine e_il o_34_116 rfl ?_
      refine e_c 41 o_34_118 rfl ?_
      refine e_if_1 o_34_120 (fun z => ?_) (fun z => ?_)
      · have k := k.1 z
        exact Ev.less (ls := [.ref 6, .null, .int x2, .null, .null, .null]) ⟨Or.inr rfl, Or.inl rfl, Or.inr rfl, Or.inl rfl, Or.inl rfl, Or.inl rfl, trivial⟩ k
      · have k := k.2 z
        refine e_il o_34_123 rfl ?_
        refine e_i0_5 o_34_124 (fun z => ?_) (fun z => ?_)
        · have k := k.1 z
          exact Ev.less (ls := [.ref 6, .null, .int x2, .null, .null, .null]) ⟨Or.inr rfl, Or.inl rfl, Or.inr rfl, Or.inl rfl, Or.inl rfl, Or.inl rfl, trivial⟩ k
        · have k := k.2 z
          refine e_al o_34_127 rfl ?_
          refine e_c 1 o_34_128 rfl ?_
          refine e_clV (as := [.ref 6, .int 1]) (rest := []) o_34_129 rfl rfl (x_okd cl_34_39 ml_39 (Nat.le_of_ble_eq_true rfl) (Nat.le_of_ble_eq_true rfl)) (x_rc0 (ci := 4) (sk_6 (h := h1) sh1) mo_39) k ?_
          rintro h3 ⟨sh3, ih3, k⟩
          refine e_inc (ls' := [.ref 6, .int x1, .int (x2 + (-1)), .int x3, .int x4, .int x5]) o_34_132 rfl rfl rfl ?_
          refine e_al o_34_135 rfl ?_
          refine e_c 0 o_34_136 rfl ?_
          refine e_al o_34_137 rfl ?_
          refine e_gI o_34_138 (sk_6 (h := h3) sh3) ?_
          refine e_c 1 o_34_141 rfl ?_
          refine e_bin o_34_142 rfl ?_
          refine e_max o_34_143 (Nat.le_of_ble_eq_true rfl) ?_
          refine e_pI o_34_146 (sk_6 (h := h3) sh3) ?_
          refine e_go o_34_149 ?_
          exact Ev.less (ls := [.ref 6, .int x1, .int (x2 + (-1)), .int x3, .int x4, .int x5]) ⟨Or.inr rfl, Or.inr rfl, Or.inr rfl, Or.inr rfl, Or.inr rfl, Or.inr rfl, trivial⟩ k
    · have k := k.2 z
      refine e_al o_34_96 rfl ?_
      refine e_il o_34_97 rfl ?_
      refine e_clI (as := [.int x5]) (rest := [.ref 6]) o_34_99 rfl rfl (x_okd cl_34_38 ml_38 (Nat.le_of_ble_eq_true rfl) (Nat.le_of_ble_eq_true rfl)) (rfl) k ?_
      rintro v6 h5 ⟨sh5, ih5, k⟩
      refine e_clV (as := [.ref 6, .int v6]) (rest := []) o_34_102 rfl rfl (x_okd cl_34_39 ml_39 (Nat.le_of_ble_eq_true rfl) (Nat.le_of_ble_eq_true rfl)) (x_rc0 (ci := 4) (sk_6 (h := h5) sh5) mo_39) k ?_
      rintro h7 ⟨sh7, ih7, k⟩
      refine e_al o_34_105 rfl ?_
      refine e_il o_34_106 rfl ?_
      refine e_clV (as := [.ref 6, .int x5]) (rest := []) o_34_108 rfl rfl (x_okd cl_34_35 ml_35 (Nat.le_of_ble_eq_true rfl) (Nat.le_of_ble_eq_true rfl)) (x_rc0 (ci := 4) (sk_6 (h := h7) sh7) mo_35) k ?_
      rintro h9 ⟨sh9, ih9, k⟩
      refine e_c 1 o_34_111 rfl ?_
      refine e_is (ls' := [.ref 6, .int x1, .int x2, .int 1, .int x4, .int x5]) o_34_112 (Nat.le_of_ble_eq_true rfl) rfl ?_
      refine e_go o_34_113 ?_
      exact Ev.less (ls := [.ref 6, .int x1, .int x2, .int 1, .int x4, .int x5]) ⟨Or.inr rfl, Or.inr rfl, Or.inr rfl, Or.inr rfl, Or.inr rfl, Or.inr rfl, trivial⟩ k
  · have k := k.2 z
    refine e_al o_34_76 rfl ?_
    refine e_il o_34_77 rfl ?_
    refine e_il o_34_79 rfl ?_
    refine e_clV (as := [.ref 6, .int x5, .int x1]) (rest := []) o_34_80 rfl rfl (x_okd cl_34_36 ml_36 (Nat.le_of_ble_eq_true rfl) (Nat.le_of_ble_eq_true rfl)) (x_rc0 (ci := 4) (sk_6 (h := h) hs) mo_36) k ?_
    rintro h11 ⟨sh11, ih11, k⟩
    refine e_c 0 o_34_83 rfl ?_
    refine e_is (ls' := [.ref 6, .int x1, .int x2, .int 0, .int x4, .int x5]) o_34_84 (Nat.le_of_ble_eq_true rfl) rfl ?_
    refine e_go o_34_85 ?_
    exact Ev.less (ls := [.ref 6, .int x1, .int x2, .int 0, .int x4, .int x5]) ⟨Or.inr rfl, Or.inr rfl, Or.inr rfl, Or.inr rfl, Or.inr rfl, Or.inr rfl, trivial⟩ k
set_option maxHeartbeats 4000000 in
set_option maxRecDepth 100000 in
theorem B_34_152 {it : Nat} {x2 : Int32} {h : XH} {Q : Value → XH → Prop} (hs : Sh h) (hit : it = 14 ∨ it = 24) (hin : xR h 6 8 = it) (k : ((x2 ≤ 0) → Ev 34 161 [.ref 6, .null, .null, .null, .null, .null] [] h Q) ∧ (¬ (x2 ≤ 0) → ClV 25 [.ref 6, .int 1] h (fun h1 => Sh h1 ∧ xR h1 6 8 = it ∧ (Ev 34 161 [.ref 6, .null, .null, .null, .null, .null] [] h1 Q)))) : Ev 34 152 [.ref 6, .null, .int x2, .null, .null, .null] [] h Q := by
  refine e_il o_34_152 rfl ?_
  refine e_i0_5 o_34_153 (fun z => ?_) (fun z => ?_)
  · have k := k.1 z
    exact Ev.less (ls := [.ref 6, .null, .null, .null, .null, .null]) ⟨Or.inr rfl, Or.inl rfl, Or.inl rfl, Or.inl rfl, Or.inl rfl, Or.inl rfl, trivial⟩ k
  · have k := k.2 z
    refine e_al o_34_156 rfl ?_
    refine e_c 1 o_34_157 rfl ?_
    refine e_clV (as := [.ref 6, .int 1]) (rest := []) o_34_158 rfl rfl (x_okd cl_34_25 ml_25 (Nat.le_of_ble_eq_true rfl) (Nat.le_of_ble_eq_true rfl)) (x_rc0 (ci := 4) (sk_6 (h := h) hs) mo_25) k ?_
    rintro h1 ⟨sh1, ih1, k⟩
    exact Ev.less (ls := [.ref 6, .null, .null, .null, .null, .null]) ⟨Or.inr rfl, Or.inl rfl, Or.inl rfl, Or.inl rfl, Or.inl rfl, Or.inl rfl, trivial⟩ k
set_option maxHeartbeats 4000000 in
set_option maxRecDepth 100000 in
theorem B_34_161 {it : Nat} {h : XH} {Q : Value → XH → Prop} (hs : Sh h) (hit : it = 14 ∨ it = 24) (hin : xR h 6 8 = it) (k : ClV 39 [.ref 6, .int 1] h (fun h1 => Sh h1 ∧ xR h1 6 8 = it ∧ (Q .null h1))) : Ev 34 161 [.ref 6, .null, .null, .null, .null, .null] [] h Q := by
  refine e_al o_34_161 rfl ?_
  refine e_c 1 o_34_162 rfl ?_
  refine e_clV (as := [.ref 6, .int 1]) (rest := []) o_34_163 rfl rfl (x_okd cl_34_39 ml_39 (Nat.le_of_ble_eq_true rfl) (Nat.le_of_ble_eq_true rfl)) (x_rc0 (ci := 4) (sk_6 (h := h) hs) mo_39) k ?_
  rintro h1 ⟨sh1, ih1, k⟩
  exact e_ret0 o_34_166 k
set_option maxHeartbeats 4000000 in
set_option maxRecDepth 100000 in
theorem B_34_167 {it : Nat} {x1 : Int32} {x2 : Int32} {x3 : Int32} {x4 : Int32} {x5 : Int32} {h : XH} {Q : Value → XH → Prop} (hs : Sh h) (hit : it = 14 ∨ it = 24) (hin : xR h 6 8 = it) (k : ClI 26 [.ref 6, .int x5] h (fun v2 h1 => Sh h1 ∧ xR h1 6 8 = it ∧ (Ev 34 12 [.ref 6, .int x1, .int x2, .int x3, .int (x4 + 1), .null] [] h1 Q))) : Ev 34 167 [.ref 6, .int x1, .int x2, .int x3, .int x4, .int x5] [] h Q := by
  refine e_al o_34_167 rfl ?_
  refine e_il o_34_168 rfl ?_
  refine e_clI (as := [.ref 6, .int x5]) (rest := []) o_34_170 rfl rfl (x_okd cl_34_26 ml_26 (Nat.le_of_ble_eq_true rfl) (Nat.le_of_ble_eq_true rfl)) (x_rc0 (ci := 4) (sk_6 (h := h) hs) mo_26) k ?_
  rintro v2 h1 ⟨sh1, ih1, k⟩
  refine e_pop o_34_173 rfl ?_
  refine e_inc (ls' := [.ref 6, .int x1, .int x2, .int x3, .int (x4 + 1), .int x5]) o_34_174 rfl rfl rfl ?_
  refine e_go o_34_177 ?_
  exact Ev.less (ls := [.ref 6, .int x1, .int x2, .int x3, .int (x4 + 1), .null]) ⟨Or.inr rfl, Or.inr rfl, Or.inr rfl, Or.inr rfl, Or.inr rfl, Or.inl rfl, trivial⟩ k
set_option maxHeartbeats 4000000 in
set_option maxRecDepth 100000 in
theorem B_34_180 {it : Nat} {h : XH} {Q : Value → XH → Prop} (hs : Sh h) (hit : it = 14 ∨ it = 24) (hin : xR h 6 8 = it) (k : Q .null h) : Ev 34 180 [.null, .null, .null, .null, .null, .null] [] h Q := by
  exact e_ret0 o_34_180 k
set_option maxHeartbeats 4000000 in
set_option maxRecDepth 100000 in
theorem B_35_0 {it : Nat} {x1 : Int32} {h : XH} {Q : Value → XH → Prop} (hs : Sh h) (hit : it = 14 ∨ it = 24) (hin : xR h 6 8 = it) (k : (((Int32.ofNat 32) ≤ (xI h 6 7)) → Q .null h) ∧ (¬ ((Int32.ofNat 32) ≤ (xI h 6 7)) → InB (xI h 6 7) 32 ∧ (Q .null (xsI (xsI h 11 (tn (xI h 6 7)) x1) 6 7 ((xI (xsI h 11 (tn (xI h 6 7)) x1) 6 7) + 1))))) : Ev 35 0 (x_ini 35 [.ref 6, .int x1]) [] h Q := by
  rw [show x_ini 35 [.ref 6, .int x1] = [.ref 6, .int x1] from x_inid ml_35 rfl]
  refine e_al o_35_0 rfl ?_
  refine e_gI o_35_1 (sk_6 (h := h) hs) ?_
  refine e_al o_35_4 rfl ?_
  refine e_gR (r := 11) o_35_5 (sk_6 (h := h) hs) (sr_6_13 (h := h) hs) (by decide) ?_
  refine e_len (n := 32) o_35_8 (by rw [show _ = _ from sk_11 (h := h) hs]; decide) (sn_11 (h := h) hs) ?_
  refine e_if_3 o_35_9 (fun z => ?_) (fun z => ?_)
  · have k := k.1 z
    exact e_ret0 o_35_32 k
  · have k := k.2 z
    refine e_al o_35_12 rfl ?_
    refine e_gR (r := 11) o_35_13 (sk_6 (h := h) hs) (sr_6_13 (h := h) hs) (by decide) ?_
    refine e_al o_35_16 rfl ?_
    refine e_gI o_35_17 (sk_6 (h := h) hs) ?_
    refine e_il o_35_20 rfl ?_
    obtain ⟨q, k⟩ := k
    refine e_ias (n := 32) o_35_21 (sk_11 (h := h) hs) (by decide) (sn_11 (h := h) hs) q ?_
    refine e_al o_35_22 rfl ?_
    refine e_dup o_35_23 rfl ?_
    refine e_gI o_35_24 (sk_6 (h := h) hs) ?_
    refine e_c 1 o_35_27 rfl ?_
    refine e_bin o_35_28 rfl ?_
    refine e_pI o_35_29 (sk_6 (h := h) hs) ?_
    exact e_ret0 o_35_32 k
set_option maxHeartbeats 4000000 in
set_option maxRecDepth 100000 in
theorem B_36_0 {it : Nat} {x1 : Int32} {x2 : Int32} {h : XH} {Q : Value → XH → Prop} (hs : Sh h) (hit : it = 14 ∨ it = 24) (hin : xR h 6 8 = it) (k : ((¬ x1 = 3) → ((¬ x1 = 2) → ((¬ x1 = 115) → ((¬ x1 = 114) → ClV 25 [.ref 6, .int 1] h (fun h1 => Sh h1 ∧ xR h1 6 8 = it ∧ (Q .null h1))) ∧ (¬ (¬ x1 = 114) → ClV 37 [.ref 6, .int 1, .int (8 + (xI h 6 6))] h (fun h3 => Sh h3 ∧ xR h3 6 8 = it ∧ (((x2 = 0) → Q .null h3) ∧ (¬ (x2 = 0) → ClV 31 [.ref 6, .int 6, .int (xI h3 6 5)] h3 (fun h5 => Sh h5 ∧ xR h5 6 8 = it ∧ (Q .null h5))))))) ∧ (¬ (¬ x1 = 115) → ClV 37 [.ref 6, .int 1, .int 14] h (fun h7 => Sh h7 ∧ xR h7 6 8 = it ∧ (Q .null h7)))) ∧ (¬ (¬ x1 = 2) → ClV 37 [.ref 6, .int 11, .int (xI h 6 5)] h (fun h9 => Sh h9 ∧ xR h9 6 8 = it ∧ (Q .null h9)))) ∧ (¬ (¬ x1 = 3) → InB (xI h 6 5) 402 ∧ (ClV 37 [.ref 6, .int 0, .int ((xL h 10 (tn (xI h 6 5))) : Int64).toInt32] h (fun h11 => Sh h11 ∧ xR h11 6 8 = it ∧ (Q .null h11))))) : Ev 36 0 (x_ini 36 [.ref 6, .int x1, .int x2]) [] h Q := by
  rw [show x_ini 36 [.ref 6, .int x1, .int x2] = [.ref 6, .int x1, .int x2] from x_inid ml_36 rfl]
  refine e_il o_36_0 rfl ?_
  refine e_c 3 o_36_1 rfl ?_
  refine e_if_1 o_36_2 (fun z => ?_) (fun z => ?_)
  · have k := k.1 z
    refine e_il o_36_23 rfl ?_
    refine e_c 2 o_36_24 rfl ?_
    refine e_if_1 o_36_25 (fun z => ?_) (fun z => ?_)
    · have k := k.1 z
      refine e_il o_36_41 rfl ?_
      refine e_c 115 o_36_42 rfl ?_
      refine e_if_1 o_36_44 (fun z => ?_) (fun z => ?_)
      · have k := k.1 z
        refine e_il o_36_57 rfl ?_
        refine e_c 114 o_36_58 rfl ?_
        refine e_if_1 o_36_60 (fun z => ?_) (fun z => ?_)
        · have k := k.1 z
          refine e_al o_36_92 rfl ?_
          refine e_c 1 o_36_93 rfl ?_
          refine e_clV (as := [.ref 6, .int 1]) (rest := []) o_36_94 rfl rfl (x_okd cl_36_25 ml_25 (Nat.le_of_ble_eq_true rfl) (Nat.le_of_ble_eq_true rfl)) (x_rc0 (ci := 4) (sk_6 (h := h) hs) mo_25) k ?_
          rintro h1 ⟨sh1, ih1, k⟩
          exact e_ret0 o_36_97 k
        · have k := k.2 z
          refine e_al o_36_63 rfl ?_
          refine e_c 1 o_36_64 rfl ?_
          refine e_c 8 o_36_65 rfl ?_
          refine e_al o_36_67 rfl ?_
          refine e_gI o_36_68 (sk_6 (h := h) hs) ?_
          refine e_bin o_36_71 rfl ?_
          refine e_clV (as := [.ref 6, .int 1, .int (8 + (xI h 6 6))]) (rest := []) o_36_72 rfl rfl (x_okd cl_36_37 ml_37 (Nat.le_of_ble_eq_true rfl) (Nat.le_of_ble_eq_true rfl)) (x_rc0 (ci := 4) (sk_6 (h := h) hs) mo_37) k ?_
          rintro h3 ⟨sh3, ih3, k⟩
          refine e_il o_36_75 rfl ?_
          refine e_i0_0 o_36_76 (fun z => ?_) (fun z => ?_)
          · have k := k.1 z
            exact e_ret0 o_36_97 k
          · have k := k.2 z
            refine e_al o_36_79 rfl ?_
            refine e_c 6 o_36_80 rfl ?_
            refine e_al o_36_82 rfl ?_
            refine e_gI o_36_83 (sk_6 (h := h3) sh3) ?_
            refine e_clV (as := [.ref 6, .int 6, .int (xI h3 6 5)]) (rest := []) o_36_86 rfl rfl (x_okd cl_36_31 ml_31 (Nat.le_of_ble_eq_true rfl) (Nat.le_of_ble_eq_true rfl)) (x_rc0 (ci := 4) (sk_6 (h := h3) sh3) mo_31) k ?_
            rintro h5 ⟨sh5, ih5, k⟩
            refine e_go o_36_89 ?_
            exact e_ret0 o_36_97 k
      · have k := k.2 z
        refine e_al o_36_47 rfl ?_
        refine e_c 1 o_36_48 rfl ?_
        refine e_c 14 o_36_49 rfl ?_
        refine e_clV (as := [.ref 6, .int 1, .int 14]) (rest := []) o_36_51 rfl rfl (x_okd cl_36_37 ml_37 (Nat.le_of_ble_eq_true rfl) (Nat.le_of_ble_eq_true rfl)) (x_rc0 (ci := 4) (sk_6 (h := h) hs) mo_37) k ?_
        rintro h7 ⟨sh7, ih7, k⟩
        refine e_go o_36_54 ?_
        exact e_ret0 o_36_97 k
    · have k := k.2 z
      refine e_al o_36_28 rfl ?_
      refine e_c 11 o_36_29 rfl ?_
      refine e_al o_36_31 rfl ?_
      refine e_gI o_36_32 (sk_6 (h := h) hs) ?_
      refine e_clV (as := [.ref 6, .int 11, .int (xI h 6 5)]) (rest := []) o_36_35 rfl rfl (x_okd cl_36_37 ml_37 (Nat.le_of_ble_eq_true rfl) (Nat.le_of_ble_eq_true rfl)) (x_rc0 (ci := 4) (sk_6 (h := h) hs) mo_37) k ?_
      rintro h9 ⟨sh9, ih9, k⟩
      refine e_go o_36_38 ?_
      exact e_ret0 o_36_97 k
  · have k := k.2 z
    refine e_al o_36_5 rfl ?_
    refine e_c 0 o_36_6 rfl ?_
    refine e_al o_36_7 rfl ?_
    refine e_gR (r := 10) o_36_8 (sk_6 (h := h) hs) (sr_6_12 (h := h) hs) (by decide) ?_
    refine e_al o_36_11 rfl ?_
    refine e_gI o_36_12 (sk_6 (h := h) hs) ?_
    obtain ⟨q, k⟩ := k
    refine e_la (n := 402) o_36_15 (sk_10 (h := h) hs) (sn_10 (h := h) hs) q ?_
    refine e_l2i o_36_16 ?_
    refine e_clV (as := [.ref 6, .int 0, .int ((xL h 10 (tn (xI h 6 5))) : Int64).toInt32]) (rest := []) o_36_17 rfl rfl (x_okd cl_36_37 ml_37 (Nat.le_of_ble_eq_true rfl) (Nat.le_of_ble_eq_true rfl)) (x_rc0 (ci := 4) (sk_6 (h := h) hs) mo_37) k ?_
    rintro h11 ⟨sh11, ih11, k⟩
    refine e_go o_36_20 ?_
    exact e_ret0 o_36_97 k
set_option maxHeartbeats 4000000 in
set_option maxRecDepth 100000 in
theorem B_37_0 {it : Nat} {x1 : Int32} {x2 : Int32} {h : XH} {Q : Value → XH → Prop} (hs : Sh h) (hit : it = 14 ∨ it = 24) (hin : xR h 6 8 = it) (k : ((512 ≤ (xI h it 7)) → Q .null h) ∧ (¬ (512 ≤ (xI h it 7)) → InB (xI h it 7) 512 ∧ (∀ h1 : XH, h1 = (xsI (xsI h (it + 9) (tn (xI h it 7)) ((x2 <<< (4 &&& 31)) ||| x1)) it 7 ((xI (xsI h (it + 9) (tn (xI h it 7)) ((x2 <<< (4 &&& 31)) ||| x1)) it 7) + 1)) → (Q .null h1)))) : Ev 37 0 (x_ini 37 [.ref 6, .int x1, .int x2]) [] h Q := by
  rw [show x_ini 37 [.ref 6, .int x1, .int x2] = [.ref 6, .int x1, .int x2] from x_inid ml_37 rfl]
  refine e_al o_37_0 rfl ?_
  refine e_gR (r := it) o_37_1 (sk_6 (h := h) hs) (hin) (by rcases hit with q | q <;> omega) ?_
  refine e_gI o_37_4 (sc_k (h := h) hs hit) ?_
  refine e_c 512 o_37_7 rfl ?_
  refine e_if_3 o_37_10 (fun z => ?_) (fun z => ?_)
  · have k := k.1 z
    exact e_ret0 o_37_46 k
  · have k := k.2 z
    refine e_al o_37_13 rfl ?_
    refine e_gR (r := it) o_37_14 (sk_6 (h := h) hs) (hin) (by rcases hit with q | q <;> omega) ?_
    refine e_gR (r := (it + 9)) o_37_17 (sc_k (h := h) hs hit) (sc_r17 (h := h) hs hit) (by omega) ?_
    refine e_al o_37_20 rfl ?_
    refine e_gR (r := it) o_37_21 (sk_6 (h := h) hs) (hin) (by rcases hit with q | q <;> omega) ?_
    refine e_gI o_37_24 (sc_k (h := h) hs hit) ?_
    refine e_il o_37_27 rfl ?_
    refine e_c 4 o_37_28 rfl ?_
    refine e_bin o_37_29 rfl ?_
    refine e_il o_37_30 rfl ?_
    refine e_bin o_37_31 rfl ?_
    obtain ⟨q, k⟩ := k
    refine e_ias (n := 512) o_37_32 ((sc_a9 (h := h) hs hit).1) ((sc_a9 (h := h) hs hit).2.2) ((sc_a9 (h := h) hs hit).2.1) q ?_
    refine e_al o_37_33 rfl ?_
    refine e_gR (r := it) o_37_34 (sk_6 (h := h) hs) (hin) (by rcases hit with q | q <;> omega) ?_
    refine e_dup o_37_37 rfl ?_
    refine e_gI o_37_38 (sc_k (h := h) hs hit) ?_
    refine e_c 1 o_37_41 rfl ?_
    refine e_bin o_37_42 rfl ?_
    refine e_pI o_37_43 (sc_k (h := h) hs hit) ?_
    obtain ⟨h1, eh1⟩ : ∃ z : XH, z = (xsI (xsI h (it + 9) (tn (xI h it 7)) ((x2 <<< (4 &&& 31)) ||| x1)) it 7 ((xI (xsI h (it + 9) (tn (xI h it 7)) ((x2 <<< (4 &&& 31)) ||| x1)) it 7) + 1)) := ⟨_, rfl⟩
    show Ev 37 46 [.ref 6, .int x1, .int x2] [] (xsI (xsI h (it + 9) (tn (xI h it 7)) ((x2 <<< (4 &&& 31)) ||| x1)) it 7 ((xI (xsI h (it + 9) (tn (xI h it 7)) ((x2 <<< (4 &&& 31)) ||| x1)) it 7) + 1)) Q
    rw [← eh1]
    have sh1 : Sh h1 := by rw [eh1]; exact (sh_I (sh_I hs (by have := (sc_a9 (h := h) hs hit).2.2; omega)) (by rcases hit with q | q <;> omega))
    have ih1 : xR h1 6 8 = it := by rw [eh1]; exact (hin : xR h 6 8 = it)
    have k := k h1 eh1
    exact e_ret0 o_37_46 k
set_option maxHeartbeats 4000000 in
set_option maxRecDepth 100000 in
theorem B_38_0 {x0 : Int32} {h : XH} {Q : Value → XH → Prop} (hs : Sh h) (k : ((x0 = 42) → Q (.int 2) h) ∧ (¬ (x0 = 42) → ((¬ x0 = 47) → ((x0 = 43) → Q (.int 1) h) ∧ (¬ (x0 = 43) → ((¬ x0 = 45) → Q (.int 0) h) ∧ (¬ (¬ x0 = 45) → Q (.int 1) h))) ∧ (¬ (¬ x0 = 47) → Q (.int 2) h))) : Ev 38 0 (x_ini 38 [.int x0]) [] h Q := by
  rw [show x_ini 38 [.int x0] = [.int x0] from x_inid ml_38 rfl]
  refine e_il o_38_0 rfl ?_
  refine e_c 42 o_38_1 rfl ?_
  refine e_if_0 o_38_3 (fun z => ?_) (fun z => ?_)
  · have k := k.1 z
    refine e_c 2 o_38_12 rfl ?_
    exact e_retI o_38_13 k
  · have k := k.2 z
    refine e_il o_38_6 rfl ?_
    refine e_c 47 o_38_7 rfl ?_
    refine e_if_1 o_38_9 (fun z => ?_) (fun z => ?_)
    · have k := k.1 z
      refine e_il o_38_14 rfl ?_
      refine e_c 43 o_38_15 rfl ?_
      refine e_if_0 o_38_17 (fun z => ?_) (fun z => ?_)
      · have k := k.1 z
        refine e_c 1 o_38_26 rfl ?_
        refine e_go o_38_27 ?_
        exact e_retI o_38_31 k
      · have k := k.2 z
        refine e_il o_38_20 rfl ?_
        refine e_c 45 o_38_21 rfl ?_
        refine e_if_1 o_38_23 (fun z => ?_) (fun z => ?_)
        · have k := k.1 z
          refine e_c 0 o_38_30 rfl ?_
          exact e_retI o_38_31 k
        · have k := k.2 z
          refine e_c 1 o_38_26 rfl ?_
          refine e_go o_38_27 ?_
          exact e_retI o_38_31 k
    · have k := k.2 z
      refine e_c 2 o_38_12 rfl ?_
      exact e_retI o_38_13 k
set_option maxHeartbeats 4000000 in
set_option maxRecDepth 100000 in
theorem B_39_0 {it : Nat} {x1 : Int32} {h : XH} {Q : Value → XH → Prop} (hs : Sh h) (hit : it = 14 ∨ it = 24) (hin : xR h 6 8 = it) (k : (((xI h 6 7) ≤ 0) → Q .null h) ∧ (¬ ((xI h 6 7) ≤ 0) → InB ((xI h 6 7) - 1) 32 ∧ (ClI 38 [.int (xI h 11 (tn ((xI h 6 7) - 1)))] h (fun v2 h1 => Sh h1 ∧ xR h1 6 8 = it ∧ (((v2 < x1) → Q .null h1) ∧ (¬ (v2 < x1) → InB ((xI h1 6 7) - 1) 32 ∧ (((¬ (xI h1 11 (tn ((xI h1 6 7) - 1))) = 43) → ((¬ (xI h1 11 (tn ((xI h1 6 7) - 1))) = 45) → ((¬ (xI h1 11 (tn ((xI h1 6 7) - 1))) = 42) → ClV 37 [.ref 6, .int 5, .int 0] h1 (fun h3 => Sh h3 ∧ xR h3 6 8 = it ∧ (Ev 39 0 [.ref 6, .int x1, .null] [] (xsI h3 6 7 ((xI h3 6 7) - 1)) Q))) ∧ (¬ (¬ (xI h1 11 (tn ((xI h1 6 7) - 1))) = 42) → ClV 37 [.ref 6, .int 4, .int 0] h1 (fun h5 => Sh h5 ∧ xR h5 6 8 = it ∧ (Ev 39 0 [.ref 6, .int x1, .null] [] (xsI h5 6 7 ((xI h5 6 7) - 1)) Q)))) ∧ (¬ (¬ (xI h1 11 (tn ((xI h1 6 7) - 1))) = 45) → ClV 37 [.ref 6, .int 3, .int 0] h1 (fun h7 => Sh h7 ∧ xR h7 6 8 = it ∧ (Ev 39 0 [.ref 6, .int x1, .null] [] (xsI h7 6 7 ((xI h7 6 7) - 1)) Q)))) ∧ (¬ (¬ (xI h1 11 (tn ((xI h1 6 7) - 1))) = 43) → ClV 37 [.ref 6, .int 2, .int 0] h1 (fun h9 => Sh h9 ∧ xR h9 6 8 = it ∧ (Ev 39 0 [.ref 6, .int x1, .null] [] (xsI h9 6 7 ((xI h9 6 7) - 1)) Q)))))))))) : Ev 39 0 (x_ini 39 [.ref 6, .int x1]) [] h Q := by
  rw [show x_ini 39 [.ref 6, .int x1] = [.ref 6, .int x1, .null] from x_inid ml_39 rfl]
  refine e_al o_39_0 rfl ?_
  refine e_gI o_39_1 (sk_6 (h := h) hs) ?_
  refine e_i0_5 o_39_4 (fun z => ?_) (fun z => ?_)
  · have k := k.1 z
    exact e_ret0 o_39_86 k
  · have k := k.2 z
    refine e_al o_39_7 rfl ?_
    refine e_gR (r := 11) o_39_8 (sk_6 (h := h) hs) (sr_6_13 (h := h) hs) (by decide) ?_
    refine e_al o_39_11 rfl ?_
    refine e_gI o_39_12 (sk_6 (h := h) hs) ?_
    refine e_c 1 o_39_15 rfl ?_
    refine e_bin o_39_16 rfl ?_
    obtain ⟨q, k⟩ := k
    refine e_ia (n := 32) o_39_17 (sk_11 (h := h) hs) (sn_11 (h := h) hs) q ?_
    refine e_clI (as := [.int (xI h 11 (tn ((xI h 6 7) - 1)))]) (rest := []) o_39_18 rfl rfl (x_okd cl_39_38 ml_38 (Nat.le_of_ble_eq_true rfl) (Nat.le_of_ble_eq_true rfl)) (rfl) k ?_
    rintro v2 h1 ⟨sh1, ih1, k⟩
    refine e_il o_39_21 rfl ?_
    refine e_if_2 o_39_22 (fun z => ?_) (fun z => ?_)
    · have k := k.1 z
      exact e_ret0 o_39_86 k
    · have k := k.2 z
      refine e_al o_39_25 rfl ?_
      refine e_gR (r := 11) o_39_26 (sk_6 (h := h1) sh1) (sr_6_13 (h := h1) sh1) (by decide) ?_
      refine e_al o_39_29 rfl ?_
      refine e_gI o_39_30 (sk_6 (h := h1) sh1) ?_
      refine e_c 1 o_39_33 rfl ?_
      refine e_bin o_39_34 rfl ?_
      obtain ⟨q, k⟩ := k
      refine e_ia (n := 32) o_39_35 (sk_11 (h := h1) sh1) (sn_11 (h := h1) sh1) q ?_
      refine e_is (ls' := [.ref 6, .int x1, .int (xI h1 11 (tn ((xI h1 6 7) - 1)))]) o_39_36 (Nat.le_of_ble_eq_true rfl) rfl ?_
      refine e_al o_39_37 rfl ?_
      refine e_il o_39_38 rfl ?_
      refine e_c 43 o_39_39 rfl ?_
      refine e_if_1 o_39_41 (fun z => ?_) (fun z => ?_)
      · have k := k.1 z
        refine e_il o_39_48 rfl ?_
        refine e_c 45 o_39_49 rfl ?_
        refine e_if_1 o_39_51 (fun z => ?_) (fun z => ?_)
        · have k := k.1 z
          refine e_il o_39_58 rfl ?_
          refine e_c 42 o_39_59 rfl ?_
          refine e_if_1 o_39_61 (fun z => ?_) (fun z => ?_)
          · have k := k.1 z
            refine e_c 5 o_39_68 rfl ?_
            refine e_c 0 o_39_69 rfl ?_
            refine e_clV (as := [.ref 6, .int 5, .int 0]) (rest := []) o_39_70 rfl rfl (x_okd cl_39_37 ml_37 (Nat.le_of_ble_eq_true rfl) (Nat.le_of_ble_eq_true rfl)) (x_rc0 (ci := 4) (sk_6 (h := h1) sh1) mo_37) k ?_
            rintro h3 ⟨sh3, ih3, k⟩
            refine e_al o_39_73 rfl ?_
            refine e_dup o_39_74 rfl ?_
            refine e_gI o_39_75 (sk_6 (h := h3) sh3) ?_
            refine e_c 1 o_39_78 rfl ?_
            refine e_bin o_39_79 rfl ?_
            refine e_pI o_39_80 (sk_6 (h := h3) sh3) ?_
            refine e_go o_39_83 ?_
            exact Ev.less (ls := [.ref 6, .int x1, .null]) ⟨Or.inr rfl, Or.inr rfl, Or.inl rfl, trivial⟩ k
          · have k := k.2 z
            refine e_c 4 o_39_64 rfl ?_
            refine e_go o_39_65 ?_
            refine e_c 0 o_39_69 rfl ?_
            refine e_clV (as := [.ref 6, .int 4, .int 0]) (rest := []) o_39_70 rfl rfl (x_okd cl_39_37 ml_37 (Nat.le_of_ble_eq_true rfl) (Nat.le_of_ble_eq_true rfl)) (x_rc0 (ci := 4) (sk_6 (h := h1) sh1) mo_37) k ?_
            rintro h5 ⟨sh5, ih5, k⟩
            refine e_al o_39_73 rfl ?_
            refine e_dup o_39_74 rfl ?_
            refine e_gI o_39_75 (sk_6 (h := h5) sh5) ?_
            refine e_c 1 o_39_78 rfl ?_
            refine e_bin o_39_79 rfl ?_
            refine e_pI o_39_80 (sk_6 (h := h5) sh5) ?_
            refine e_go o_39_83 ?_
            exact Ev.less (ls := [.ref 6, .int x1, .null]) ⟨Or.inr rfl, Or.inr rfl, Or.inl rfl, trivial⟩ k
        · have k := k.2 z
          refine e_c 3 o_39_54 rfl ?_
          refine e_go o_39_55 ?_
          refine e_c 0 o_39_69 rfl ?_
          refine e_clV (as := [.ref 6, .int 3, .int 0]) (rest := []) o_39_70 rfl rfl (x_okd cl_39_37 ml_37 (Nat.le_of_ble_eq_true rfl) (Nat.le_of_ble_eq_true rfl)) (x_rc0 (ci := 4) (sk_6 (h := h1) sh1) mo_37) k ?_
          rintro h7 ⟨sh7, ih7, k⟩
          refine e_al o_39_73 rfl ?_
          refine e_dup o_39_74 rfl ?_
          refine e_gI o_39_75 (sk_6 (h := h7) sh7) ?_
          refine e_c 1 o_39_78 rfl ?_
          refine e_bin o_39_79 rfl ?_
          refine e_pI o_39_80 (sk_6 (h := h7) sh7) ?_
          refine e_go o_39_83 ?_
          exact Ev.less (ls := [.ref 6, .int x1, .null]) ⟨Or.inr rfl, Or.inr rfl, Or.inl rfl, trivial⟩ k
      · have k := k.2 z
        refine e_c 2 o_39_44 rfl ?_
        refine e_go o_39_45 ?_
        refine e_c 0 o_39_69 rfl ?_
        refine e_clV (as := [.ref 6, .int 2, .int 0]) (rest := []) o_39_70 rfl rfl (x_okd cl_39_37 ml_37 (Nat.le_of_ble_eq_true rfl) (Nat.le_of_ble_eq_true rfl)) (x_rc0 (ci := 4) (sk_6 (h := h1) sh1) mo_37) k ?_
        rintro h9 ⟨sh9, ih9, k⟩
        refine e_al o_39_73 rfl ?_
        refine e_dup o_39_74 rfl ?_
        refine e_gI o_39_75 (sk_6 (h := h9) sh9) ?_
        refine e_c 1 o_39_78 rfl ?_
        refine e_bin o_39_79 rfl ?_
        refine e_pI o_39_80 (sk_6 (h := h9) sh9) ?_
        refine e_go o_39_83 ?_
        exact Ev.less (ls := [.ref 6, .int x1, .null]) ⟨Or.inr rfl, Or.inr rfl, Or.inl rfl, trivial⟩ k
set_option maxHeartbeats 4000000 in
set_option maxRecDepth 100000 in
theorem B_40_0 {it : Nat} {h : XH} {Q : Value → XH → Prop} (hs : Sh h) (hit : it = 14 ∨ it = 24) (hin : xR h 6 8 = it) (k : (((xI (xsI h 6 6 (xI h it 1)) 6 6) < 6) → ClI 26 [.ref 6, .int 104] (xsI h 6 6 (xI h it 1)) (fun v2 h1 => Sh h1 ∧ xR h1 6 8 = it ∧ (ClI 26 [.ref 6, .int 2] h1 (fun v4 h3 => Sh h3 ∧ xR h3 6 8 = it ∧ (((v4 = 0) → Ev 40 93 [.ref 6, .null, .null] [] h3 Q) ∧ (¬ (v4 = 0) → InB (xI h1 6 5) 402 ∧ (ClI 28 [.ref 6, .long (xL h3 10 (tn (xI h1 6 5)))] h3 (fun v6 h5 => Sh h5 ∧ xR h5 6 8 = it ∧ (((v6 = 0) → Ev 40 65 [.ref 6, .int (xI h1 6 5), .null] [] h5 Q) ∧ (¬ (v6 = 0) → ClV 31 [.ref 6, .int 3, .int (xI h1 6 5)] h5 (fun h7 => Sh h7 ∧ xR h7 6 8 = it ∧ (Ev 40 65 [.ref 6, .int (xI h1 6 5), .null] [] h7 Q)))))))))))) ∧ (¬ ((xI (xsI h 6 6 (xI h it 1)) 6 6) < 6) → ClV 25 [.ref 6, .int 2] (xsI h 6 6 (xI h it 1)) (fun h9 => Sh h9 ∧ xR h9 6 8 = it ∧ (Q .null h9)))) : Ev 40 0 (x_ini 40 [.ref 6]) [] h Q := by
  rw [show x_ini 40 [.ref 6] = [.ref 6, .null, .null] from x_inid ml_40 rfl]
  refine e_al o_40_0 rfl ?_
  refine e_al o_40_1 rfl ?_
  refine e_gR (r := it) o_40_2 (sk_6 (h := h) hs) (hin) (by rcases hit with q | q <;> omega) ?_
  refine e_gI o_40_5 (sc_k (h := h) hs hit) ?_
  refine e_pI o_40_8 (sk_6 (h := h) hs) ?_
  refine e_al o_40_11 rfl ?_
  refine e_gI o_40_12 (sk_6 (h := h) hs) ?_
  refine e_c 6 o_40_15 rfl ?_
  refine e_if_2 o_40_17 (fun z => ?_) (fun z => ?_)
  · have k := k.1 z
    refine e_al o_40_26 rfl ?_
    refine e_c 104 o_40_27 rfl ?_
    refine e_clI (as := [.ref 6, .int 104]) (rest := []) o_40_29 rfl rfl (x_okd cl_40_26 ml_26 (Nat.le_of_ble_eq_true rfl) (Nat.le_of_ble_eq_true rfl)) (x_rc0 (ci := 4) (sk_6 (h := h) hs) mo_26) k ?_
    rintro v2 h1 ⟨sh1, ih1, k⟩
    refine e_pop o_40_32 rfl ?_
    refine e_al o_40_33 rfl ?_
    refine e_gI o_40_34 (sk_6 (h := h1) sh1) ?_
    refine e_is (ls' := [.ref 6, .int (xI h1 6 5), .null]) o_40_37 (Nat.le_of_ble_eq_true rfl) rfl ?_
    refine e_al o_40_38 rfl ?_
    refine e_c 2 o_40_39 rfl ?_
    refine e_clI (as := [.ref 6, .int 2]) (rest := []) o_40_40 rfl rfl (x_okd cl_40_26 ml_26 (Nat.le_of_ble_eq_true rfl) (Nat.le_of_ble_eq_true rfl)) (x_rc0 (ci := 4) (sk_6 (h := h1) sh1) mo_26) k ?_
    rintro v4 h3 ⟨sh3, ih3, k⟩
    refine e_i0_0 o_40_43 (fun z => ?_) (fun z => ?_)
    · have k := k.1 z
      exact Ev.less (ls := [.ref 6, .null, .null]) ⟨Or.inr rfl, Or.inl rfl, Or.inl rfl, trivial⟩ k
    · have k := k.2 z
      refine e_al o_40_46 rfl ?_
      refine e_al o_40_47 rfl ?_
      refine e_gR (r := 10) o_40_48 (sk_6 (h := h3) sh3) (sr_6_12 (h := h3) sh3) (by decide) ?_
      refine e_il o_40_51 rfl ?_
      obtain ⟨q, k⟩ := k
      refine e_la (n := 402) o_40_52 (sk_10 (h := h3) sh3) (sn_10 (h := h3) sh3) q ?_
      refine e_clI (as := [.ref 6, .long (xL h3 10 (tn (xI h1 6 5)))]) (rest := []) o_40_53 rfl rfl (x_okd cl_40_28 ml_28 (Nat.le_of_ble_eq_true rfl) (Nat.le_of_ble_eq_true rfl)) (x_rc0 (ci := 4) (sk_6 (h := h3) sh3) mo_28) k ?_
      rintro v6 h5 ⟨sh5, ih5, k⟩
      refine e_i0_0 o_40_56 (fun z => ?_) (fun z => ?_)
      · have k := k.1 z
        exact Ev.less (ls := [.ref 6, .int (xI h1 6 5), .null]) ⟨Or.inr rfl, Or.inr rfl, Or.inl rfl, trivial⟩ k
      · have k := k.2 z
        refine e_al o_40_59 rfl ?_
        refine e_c 3 o_40_60 rfl ?_
        refine e_il o_40_61 rfl ?_
        refine e_clV (as := [.ref 6, .int 3, .int (xI h1 6 5)]) (rest := []) o_40_62 rfl rfl (x_okd cl_40_31 ml_31 (Nat.le_of_ble_eq_true rfl) (Nat.le_of_ble_eq_true rfl)) (x_rc0 (ci := 4) (sk_6 (h := h5) sh5) mo_31) k ?_
        rintro h7 ⟨sh7, ih7, k⟩
        exact Ev.less (ls := [.ref 6, .int (xI h1 6 5), .null]) ⟨Or.inr rfl, Or.inr rfl, Or.inl rfl, trivial⟩ k
  · have k := k.2 z
    refine e_al o_40_20 rfl ?_
    refine e_c 2 o_40_21 rfl ?_
    refine e_clV (as := [.ref 6, .int 2]) (rest := []) o_40_22 rfl rfl (x_okd cl_40_25 ml_25 (Nat.le_of_ble_eq_true rfl) (Nat.le_of_ble_eq_true rfl)) (x_rc0 (ci := 4) (sk_6 (h := h) hs) mo_25) k ?_
    rintro h9 ⟨sh9, ih9, k⟩
    exact e_ret0 o_40_25 k
set_option maxHeartbeats 4000000 in
set_option maxRecDepth 100000 in
theorem B_40_65 {it : Nat} {x1 : Int32} {h : XH} {Q : Value → XH → Prop} (hs : Sh h) (hit : it = 14 ∨ it = 24) (hin : xR h 6 8 = it) (k : InB x1 402 ∧ (InB (xI h 6 6) 6 ∧ (Ev 40 93 [.ref 6, .null, .null] [] (xsI (xsL h 13 (tn (xI h 6 6)) (xL h 10 (tn x1))) it 1 ((xI (xsL h 13 (tn (xI h 6 6)) (xL h 10 (tn x1))) it 1) + 1)) Q))) : Ev 40 65 [.ref 6, .int x1, .null] [] h Q := by
  refine e_al o_40_65 rfl ?_
  refine e_gR (r := 13) o_40_66 (sk_6 (h := h) hs) (sr_6_15 (h := h) hs) (by decide) ?_
  refine e_al o_40_69 rfl ?_
  refine e_gI o_40_70 (sk_6 (h := h) hs) ?_
  refine e_al o_40_73 rfl ?_
  refine e_gR (r := 10) o_40_74 (sk_6 (h := h) hs) (sr_6_12 (h := h) hs) (by decide) ?_
  refine e_il o_40_77 rfl ?_
  obtain ⟨q, k⟩ := k
  refine e_la (n := 402) o_40_78 (sk_10 (h := h) hs) (sn_10 (h := h) hs) q ?_
  obtain ⟨q, k⟩ := k
  refine e_las (n := 6) o_40_79 (sk_13 (h := h) hs) (sn_13 (h := h) hs) q ?_
  refine e_al o_40_80 rfl ?_
  refine e_gR (r := it) o_40_81 (sk_6 (h := h) hs) (hin) (by rcases hit with q | q <;> omega) ?_
  refine e_dup o_40_84 rfl ?_
  refine e_gI o_40_85 (sc_k (h := h) hs hit) ?_
  refine e_c 1 o_40_88 rfl ?_
  refine e_bin o_40_89 rfl ?_
  refine e_pI o_40_90 (sc_k (h := h) hs hit) ?_
  exact Ev.less (ls := [.ref 6, .null, .null]) ⟨Or.inr rfl, Or.inl rfl, Or.inl rfl, trivial⟩ k
set_option maxHeartbeats 4000000 in
set_option maxRecDepth 100000 in
theorem B_40_93 {it : Nat} {h : XH} {Q : Value → XH → Prop} (hs : Sh h) (hit : it = 14 ∨ it = 24) (hin : xR h 6 8 = it) (k : ClV 41 [.ref 6] h (fun h1 => Sh h1 ∧ xR h1 6 8 = it ∧ (ClV 42 [.ref 6] h1 (fun h3 => Sh h3 ∧ xR h3 6 8 = it ∧ (Ev 40 103 [.ref 6, .null, .int 0] [] h3 Q))))) : Ev 40 93 [.ref 6, .null, .null] [] h Q := by
  refine e_al o_40_93 rfl ?_
  refine e_clV (as := [.ref 6]) (rest := []) o_40_94 rfl rfl (x_okd cl_40_41 ml_41 (Nat.le_of_ble_eq_true rfl) (Nat.le_of_ble_eq_true rfl)) (x_rc0 (ci := 4) (sk_6 (h := h) hs) mo_41) k ?_
  rintro h1 ⟨sh1, ih1, k⟩
  refine e_al o_40_97 rfl ?_
  refine e_clV (as := [.ref 6]) (rest := []) o_40_98 rfl rfl (x_okd cl_40_42 ml_42 (Nat.le_of_ble_eq_true rfl) (Nat.le_of_ble_eq_true rfl)) (x_rc0 (ci := 4) (sk_6 (h := h1) sh1) mo_42) k ?_
  rintro h3 ⟨sh3, ih3, k⟩
  refine e_c 0 o_40_101 rfl ?_
  refine e_is (ls' := [.ref 6, .null, .int 0]) o_40_102 (Nat.le_of_ble_eq_true rfl) rfl ?_
  exact Ev.less (ls := [.ref 6, .null, .int 0]) ⟨Or.inr rfl, Or.inl rfl, Or.inr rfl, trivial⟩ k
set_option maxHeartbeats 4000000 in
set_option maxRecDepth 100000 in
theorem B_40_103 {it : Nat} {x2 : Int32} {h : XH} {Q : Value → XH → Prop} (hs : Sh h) (hit : it = 14 ∨ it = 24) (hin : xR h 6 8 = it) (k : ((6 ≤ x2) → Ev 40 169 [.ref 6, .null, .null] [] h Q) ∧ (¬ (6 ≤ x2) → ((¬ (xI h 6 1) = 0) → Ev 40 169 [.ref 6, .null, .null] [] h Q) ∧ (¬ (¬ (xI h 6 1) = 0) → InB (xI h 6 5) 402 ∧ (((¬ (xI h 8 (tn (xI h 6 5))) = 108) → Ev 40 169 [.ref 6, .null, .null] [] h Q) ∧ (¬ (¬ (xI h 8 (tn (xI h 6 5))) = 108) → InB (xI h 6 6) 6 ∧ ((((xI h (it + 6) (tn (xI h 6 6))) < 6) → Ev 40 152 [.ref 6, .null, .int x2] [] h Q) ∧ (¬ ((xI h (it + 6) (tn (xI h 6 6))) < 6) → ClV 25 [.ref 6, .int 2] h (fun h1 => Sh h1 ∧ xR h1 6 8 = it ∧ (Ev 40 152 [.ref 6, .null, .int x2] [] h1 Q))))))))) : Ev 40 103 [.ref 6, .null, .int x2] [] h Q := by
  refine e_il o_40_103 rfl ?_
  refine e_c 6 o_40_104 rfl ?_
  refine e_if_3 o_40_106 (fun z => ?_) (fun z => ?_)
  · have k := k.1 z
    exact Ev.less (ls := [.ref 6, .null, .null]) ⟨Or.inr rfl, Or.inl rfl, Or.inl rfl, trivial⟩ k
  · have k := k.2 z
    refine e_al o_40_109 rfl ?_
    refine e_gI o_40_110 (sk_6 (h := h) hs) ?_
    refine e_i0_1 o_40_113 (fun z => ?_) (fun z => ?_)
    · have k := k.1 z
      exact Ev.less (ls := [.ref 6, .null, .null]) ⟨Or.inr rfl, Or.inl rfl, Or.inl rfl, trivial⟩ k
    · have k := k.2 z
      refine e_al o_40_116 rfl ?_
      refine e_gR (r := 8) o_40_117 (sk_6 (h := h) hs) (sr_6_10 (h := h) hs) (by decide) ?_
      refine e_al o_40_120 rfl ?_
      refine e_gI o_40_121 (sk_6 (h := h) hs) ?_
      obtain ⟨q, k⟩ := k
      refine e_ia (n := 402) o_40_124 (sk_8 (h := h) hs) (sn_8 (h := h) hs) q ?_
      refine e_c 108 o_40_125 rfl ?_
      refine e_if_1 o_40_127 (fun z => ?_) (fun z => ?_)
      · have k := k.1 z
        exact Ev.less (ls := [.ref 6, .null, .null]) ⟨Or.inr rfl, Or.inl rfl, Or.inl rfl, trivial⟩ k
      · have k := k.2 z
        refine e_al o_40_130 rfl ?_
        refine e_gR (r := it) o_40_131 (sk_6 (h := h) hs) (hin) (by rcases hit with q | q <;> omega) ?_
        refine e_gR (r := (it + 6)) o_40_134 (sc_k (h := h) hs hit) (sc_r14 (h := h) hs hit) (by omega) ?_
        refine e_al o_40_137 rfl ?_
        refine e_gI o_40_138 (sk_6 (h := h) hs) ?_
        obtain ⟨q, k⟩ := k
        refine e_ia (n := 6) o_40_141 ((sc_a6 (h := h) hs hit).1) ((sc_a6 (h := h) hs hit).2.1) q ?_
        refine e_c 6 o_40_142 rfl ?_
        refine e_if_2 o_40_144 (fun z => ?_) (fun z => ?_)
        · have k := k.1 z
          exact Ev.less (ls := [.ref 6, .null, .int x2]) ⟨Or.inr rfl, Or.inl rfl, Or.inr rfl, trivial⟩ k
        · have k := k.2 z
          refine e_al o_40_147 rfl ?_
          refine e_c 2 o_40_148 rfl ?_
          refine e_clV (as := [.ref 6, .int 2]) (rest := []) o_40_149 rfl rfl (x_okd cl_40_25 ml_25 (Nat.le_of_ble_eq_true rfl) (Nat.le_of_ble_eq_true rfl)) (x_rc0 (ci := 4) (sk_6 (h := h) hs) mo_25) k ?_
          rintro h1 ⟨sh1, ih1, k⟩
          exact Ev.less (ls := [.ref 6, .null, .int x2]) ⟨Or.inr rfl, Or.inl rfl, Or.inr rfl, trivial⟩ k
set_option maxHeartbeats 4000000 in
set_option maxRecDepth 100000 in
theorem B_40_152 {it : Nat} {x2 : Int32} {h : XH} {Q : Value → XH → Prop} (hs : Sh h) (hit : it = 14 ∨ it = 24) (hin : xR h 6 8 = it) (k : ClI 26 [.ref 6, .int 108] h (fun v2 h1 => Sh h1 ∧ xR h1 6 8 = it ∧ (ClV 42 [.ref 6] h1 (fun h3 => Sh h3 ∧ xR h3 6 8 = it ∧ (Ev 40 103 [.ref 6, .null, .int (x2 + 1)] [] h3 Q))))) : Ev 40 152 [.ref 6, .null, .int x2] [] h Q := by
  refine e_al o_40_152 rfl ?_
  refine e_c 108 o_40_153 rfl ?_
  refine e_clI (as := [.ref 6, .int 108]) (rest := []) o_40_155 rfl rfl (x_okd cl_40_26 ml_26 (Nat.le_of_ble_eq_true rfl) (Nat.le_of_ble_eq_true rfl)) (x_rc0 (ci := 4) (sk_6 (h := h) hs) mo_26) k ?_
  rintro v2 h1 ⟨sh1, ih1, k⟩
  refine e_pop o_40_158 rfl ?_
  refine e_al o_40_159 rfl ?_
  refine e_clV (as := [.ref 6]) (rest := []) o_40_160 rfl rfl (x_okd cl_40_42 ml_42 (Nat.le_of_ble_eq_true rfl) (Nat.le_of_ble_eq_true rfl)) (x_rc0 (ci := 4) (sk_6 (h := h1) sh1) mo_42) k ?_
  rintro h3 ⟨sh3, ih3, k⟩
  refine e_inc (ls' := [.ref 6, .null, .int (x2 + 1)]) o_40_163 rfl rfl rfl ?_
  refine e_go o_40_166 ?_
  exact Ev.less (ls := [.ref 6, .null, .int (x2 + 1)]) ⟨Or.inr rfl, Or.inl rfl, Or.inr rfl, trivial⟩ k
set_option maxHeartbeats 4000000 in
set_option maxRecDepth 100000 in
theorem B_40_169 {it : Nat} {h : XH} {Q : Value → XH → Prop} (hs : Sh h) (hit : it = 14 ∨ it = 24) (hin : xR h 6 8 = it) (k : ClI 26 [.ref 6, .int 59] h (fun v2 h1 => Sh h1 ∧ xR h1 6 8 = it ∧ (Q .null h1))) : Ev 40 169 [.ref 6, .null, .null] [] h Q := by
  refine e_al o_40_169 rfl ?_
  refine e_c 59 o_40_170 rfl ?_
  refine e_clI (as := [.ref 6, .int 59]) (rest := []) o_40_172 rfl rfl (x_okd cl_40_26 ml_26 (Nat.le_of_ble_eq_true rfl) (Nat.le_of_ble_eq_true rfl)) (x_rc0 (ci := 4) (sk_6 (h := h) hs) mo_26) k ?_
  rintro v2 h1 ⟨sh1, ih1, k⟩
  refine e_pop o_40_175 rfl ?_
  exact e_ret0 o_40_176 k
set_option maxHeartbeats 4000000 in
set_option maxRecDepth 100000 in
theorem B_41_0 {it : Nat} {h : XH} {Q : Value → XH → Prop} (hs : Sh h) (hit : it = 14 ∨ it = 24) (hin : xR h 6 8 = it) (k : InB (xI h 6 5) 402 ∧ (((¬ (xI h 8 (tn (xI h 6 5))) = 105) → ((¬ (xI h 8 (tn (xI h 6 5))) = 106) → InB (xI h 6 6) 6 ∧ ((((xI h 8 (tn (xI h 6 5))) = 105) → ClI 26 [.ref 6, .int (xI h 8 (tn (xI h 6 5)))] (xsI h (it + 5) (tn (xI h 6 6)) 2) (fun v2 h1 => Sh h1 ∧ xR h1 6 8 = it ∧ (Q .null h1))) ∧ (¬ ((xI h 8 (tn (xI h 6 5))) = 105) → (((xI h 8 (tn (xI h 6 5))) = 106) → ClI 26 [.ref 6, .int (xI h 8 (tn (xI h 6 5)))] (xsI h (it + 5) (tn (xI h 6 6)) 2) (fun v4 h3 => Sh h3 ∧ xR h3 6 8 = it ∧ (Q .null h3))) ∧ (¬ ((xI h 8 (tn (xI h 6 5))) = 106) → ((¬ (xI h 8 (tn (xI h 6 5))) = 107) → ClV 25 [.ref 6, .int 1] (xsI h (it + 5) (tn (xI h 6 6)) 2) (fun h5 => Sh h5 ∧ xR h5 6 8 = it ∧ (Q .null h5))) ∧ (¬ (¬ (xI h 8 (tn (xI h 6 5))) = 107) → ClI 26 [.ref 6, .int (xI h 8 (tn (xI h 6 5)))] (xsI h (it + 5) (tn (xI h 6 6)) 2) (fun v8 h7 => Sh h7 ∧ xR h7 6 8 = it ∧ (Q .null h7))))))) ∧ (¬ (¬ (xI h 8 (tn (xI h 6 5))) = 106) → InB (xI h 6 6) 6 ∧ ((((xI h 8 (tn (xI h 6 5))) = 105) → ClI 26 [.ref 6, .int (xI h 8 (tn (xI h 6 5)))] (xsI h (it + 5) (tn (xI h 6 6)) 1) (fun v10 h9 => Sh h9 ∧ xR h9 6 8 = it ∧ (Q .null h9))) ∧ (¬ ((xI h 8 (tn (xI h 6 5))) = 105) → (((xI h 8 (tn (xI h 6 5))) = 106) → ClI 26 [.ref 6, .int (xI h 8 (tn (xI h 6 5)))] (xsI h (it + 5) (tn (xI h 6 6)) 1) (fun v12 h11 => Sh h11 ∧ xR h11 6 8 = it ∧ (Q .null h11))) ∧ (¬ ((xI h 8 (tn (xI h 6 5))) = 106) → ((¬ (xI h 8 (tn (xI h 6 5))) = 107) → ClV 25 [.ref 6, .int 1] (xsI h (it + 5) (tn (xI h 6 6)) 1) (fun h13 => Sh h13 ∧ xR h13 6 8 = it ∧ (Q .null h13))) ∧ (¬ (¬ (xI h 8 (tn (xI h 6 5))) = 107) → ClI 26 [.ref 6, .int (xI h 8 (tn (xI h 6 5)))] (xsI h (it + 5) (tn (xI h 6 6)) 1) (fun v16 h15 => Sh h15 ∧ xR h15 6 8 = it ∧ (Q .null h15)))))))) ∧ (¬ (¬ (xI h 8 (tn (xI h 6 5))) = 105) → InB (xI h 6 6) 6 ∧ ((((xI h 8 (tn (xI h 6 5))) = 105) → ClI 26 [.ref 6, .int (xI h 8 (tn (xI h 6 5)))] (xsI h (it + 5) (tn (xI h 6 6)) 0) (fun v18 h17 => Sh h17 ∧ xR h17 6 8 = it ∧ (Q .null h17))) ∧ (¬ ((xI h 8 (tn (xI h 6 5))) = 105) → (((xI h 8 (tn (xI h 6 5))) = 106) → ClI 26 [.ref 6, .int (xI h 8 (tn (xI h 6 5)))] (xsI h (it + 5) (tn (xI h 6 6)) 0) (fun v20 h19 => Sh h19 ∧ xR h19 6 8 = it ∧ (Q .null h19))) ∧ (¬ ((xI h 8 (tn (xI h 6 5))) = 106) → ((¬ (xI h 8 (tn (xI h 6 5))) = 107) → ClV 25 [.ref 6, .int 1] (xsI h (it + 5) (tn (xI h 6 6)) 0) (fun h21 => Sh h21 ∧ xR h21 6 8 = it ∧ (Q .null h21))) ∧ (¬ (¬ (xI h 8 (tn (xI h 6 5))) = 107) → ClI 26 [.ref 6, .int (xI h 8 (tn (xI h 6 5)))] (xsI h (it + 5) (tn (xI h 6 6)) 0) (fun v24 h23 => Sh h23 ∧ xR h23 6 8 = it ∧ (Q .null h23))))))))) : Ev 41 0 (x_ini 41 [.ref 6]) [] h Q := by
  rw [show x_ini 41 [.ref 6] = [.ref 6, .null] from x_inid ml_41 rfl]
  refine e_al o_41_0 rfl ?_
  refine e_gR (r := 8) o_41_1 (sk_6 (h := h) hs) (sr_6_10 (h := h) hs) (by decide) ?_
  refine e_al o_41_4 rfl ?_
  refine e_gI o_41_5 (sk_6 (h := h) hs) ?_
  obtain ⟨q, k⟩ := k
  refine e_ia (n := 402) o_41_8 (sk_8 (h := h) hs) (sn_8 (h := h) hs) q ?_
  refine e_is (ls' := [.ref 6, .int (xI h 8 (tn (xI h 6 5)))]) o_41_9 (Nat.le_of_ble_eq_true rfl) rfl ?_
  refine e_al o_41_10 rfl ?_
  refine e_gR (r := it) o_41_11 (sk_6 (h := h) hs) (hin) (by rcases hit with q | q <;> omega) ?_
  refine e_gR (r := (it + 5)) o_41_14 (sc_k (h := h) hs hit) (sc_r13 (h := h) hs hit) (by omega) ?_
  refine e_al o_41_17 rfl ?_
  refine e_gI o_41_18 (sk_6 (h := h) hs) ?_
  refine e_il o_41_21 rfl ?_
  refine e_c 105 o_41_22 rfl ?_
  refine e_if_1 o_41_24 (fun z => ?_) (fun z => ?_)
  · have k := k.1 z
    refine e_il o_41_31 rfl ?_
    refine e_c 106 o_41_32 rfl ?_
    refine e_if_1 o_41_34 (fun z => ?_) (fun z => ?_)
    · have k := k.1 z
      refine e_c 2 o_41_41 rfl ?_
      obtain ⟨q, k⟩ := k
      refine e_ias (n := 6) o_41_42 ((sc_a5 (h := h) hs hit).1) ((sc_a5 (h := h) hs hit).2.2) ((sc_a5 (h := h) hs hit).2.1) q ?_
      refine e_il o_41_43 rfl ?_
      refine e_c 105 o_41_44 rfl ?_
      refine e_if_0 o_41_46 (fun z => ?_) (fun z => ?_)
      · have k := k.1 z
        refine e_al o_41_61 rfl ?_
        refine e_il o_41_62 rfl ?_
        refine e_clI (as := [.ref 6, .int (xI h 8 (tn (xI h 6 5)))]) (rest := []) o_41_63 rfl rfl (x_okd cl_41_26 ml_26 (Nat.le_of_ble_eq_true rfl) (Nat.le_of_ble_eq_true rfl)) (x_rc0 (ci := 4) (sk_6 (h := h) hs) mo_26) k ?_
        rintro v2 h1 ⟨sh1, ih1, k⟩
        refine e_pop o_41_66 rfl ?_
        refine e_go o_41_67 ?_
        exact e_ret0 o_41_75 k
      · have k := k.2 z
        refine e_il o_41_49 rfl ?_
        refine e_c 106 o_41_50 rfl ?_
        refine e_if_0 o_41_52 (fun z => ?_) (fun z => ?_)
        · have k := k.1 z
          refine e_al o_41_61 rfl ?_
          refine e_il o_41_62 rfl ?_
          refine e_clI (as := [.ref 6, .int (xI h 8 (tn (xI h 6 5)))]) (rest := []) o_41_63 rfl rfl (x_okd cl_41_26 ml_26 (Nat.le_of_ble_eq_true rfl) (Nat.le_of_ble_eq_true rfl)) (x_rc0 (ci := 4) (sk_6 (h := h) hs) mo_26) k ?_
          rintro v4 h3 ⟨sh3, ih3, k⟩
          refine e_pop o_41_66 rfl ?_
          refine e_go o_41_67 ?_
          exact e_ret0 o_41_75 k
        · have k := k.2 z
          refine e_il o_41_55 rfl ?_
          refine e_c 107 o_41_56 rfl ?_
          refine e_if_1 o_41_58 (fun z => ?_) (fun z => ?_)
          · have k := k.1 z
            refine e_al o_41_70 rfl ?_
            refine e_c 1 o_41_71 rfl ?_
            refine e_clV (as := [.ref 6, .int 1]) (rest := []) o_41_72 rfl rfl (x_okd cl_41_25 ml_25 (Nat.le_of_ble_eq_true rfl) (Nat.le_of_ble_eq_true rfl)) (x_rc0 (ci := 4) (sk_6 (h := h) hs) mo_25) k ?_
            rintro h5 ⟨sh5, ih5, k⟩
            exact e_ret0 o_41_75 k
          · have k := k.2 z
            refine e_al o_41_61 rfl ?_
            refine e_il o_41_62 rfl ?_
            refine e_clI (as := [.ref 6, .int (xI h 8 (tn (xI h 6 5)))]) (rest := []) o_41_63 rfl rfl (x_okd cl_41_26 ml_26 (Nat.le_of_ble_eq_true rfl) (Nat.le_of_ble_eq_true rfl)) (x_rc0 (ci := 4) (sk_6 (h := h) hs) mo_26) k ?_
            rintro v8 h7 ⟨sh7, ih7, k⟩
            refine e_pop o_41_66 rfl ?_
            refine e_go o_41_67 ?_
            exact e_ret0 o_41_75 k
    · have k := k.2 z
      refine e_c 1 o_41_37 rfl ?_
      refine e_go o_41_38 ?_
      obtain ⟨q, k⟩ := k
      refine e_ias (n := 6) o_41_42 ((sc_a5 (h := h) hs hit).1) ((sc_a5 (h := h) hs hit).2.2) ((sc_a5 (h := h) hs hit).2.1) q ?_
      refine e_il o_41_43 rfl ?_
      refine e_c 105 o_41_44 rfl ?_
      refine e_if_0 o_41_46 (fun z => ?_) (fun z => ?_)
      · have k := k.1 z
        refine e_al o_41_61 rfl ?_
        refine e_il o_41_62 rfl ?_
        refine e_clI (as := [.ref 6, .int (xI h 8 (tn (xI h 6 5)))]) (rest := []) o_41_63 rfl rfl (x_okd cl_41_26 ml_26 (Nat.le_of_ble_eq_true rfl) (Nat.le_of_ble_eq_true rfl)) (x_rc0 (ci := 4) (sk_6 (h := h) hs) mo_26) k ?_
        rintro v10 h9 ⟨sh9, ih9, k⟩
        refine e_pop o_41_66 rfl ?_
        refine e_go o_41_67 ?_
        exact e_ret0 o_41_75 k
      · have k := k.2 z
        refine e_il o_41_49 rfl ?_
        refine e_c 106 o_41_50 rfl ?_
        refine e_if_0 o_41_52 (fun z => ?_) (fun z => ?_)
        · have k := k.1 z
          refine e_al o_41_61 rfl ?_
          refine e_il o_41_62 rfl ?_
          refine e_clI (as := [.ref 6, .int (xI h 8 (tn (xI h 6 5)))]) (rest := []) o_41_63 rfl rfl (x_okd cl_41_26 ml_26 (Nat.le_of_ble_eq_true rfl) (Nat.le_of_ble_eq_true rfl)) (x_rc0 (ci := 4) (sk_6 (h := h) hs) mo_26) k ?_
          rintro v12 h11 ⟨sh11, ih11, k⟩
          refine e_pop o_41_66 rfl ?_
          refine e_go o_41_67 ?_
          exact e_ret0 o_41_75 k
        · have k := k.2 z
          refine e_il o_41_55 rfl ?_
          refine e_c 107 o_41_56 rfl ?_
          refine e_if_1 o_41_58 (fun z => ?_) (fun z => ?_)
          · have k := k.1 z
            refine e_al o_41_70 rfl ?_
            refine e_c 1 o_41_71 rfl ?_
            refine e_clV (as := [.ref 6, .int 1]) (rest := []) o_41_72 rfl rfl (x_okd cl_41_25 ml_25 (Nat.le_of_ble_eq_true rfl) (Nat.le_of_ble_eq_true rfl)) (x_rc0 (ci := 4) (sk_6 (h := h) hs) mo_25) k ?_
            rintro h13 ⟨sh13, ih13, k⟩
            exact e_ret0 o_41_75 k
          · have k := k.2 z
            refine e_al o_41_61 rfl ?_
            refine e_il o_41_62 rfl ?_
            refine e_clI (as := [.ref 6, .int (xI h 8 (tn (xI h 6 5)))]) (rest := []) o_41_63 rfl rfl (x_okd cl_41_26 ml_26 (Nat.le_of_ble_eq_true rfl) (Nat.le_of_ble_eq_true rfl)) (x_rc0 (ci := 4) (sk_6 (h := h) hs) mo_26) k ?_
            rintro v16 h15 ⟨sh15, ih15, k⟩
            refine e_pop o_41_66 rfl ?_
            refine e_go o_41_67 ?_
            exact e_ret0 o_41_75 k
  · have k := k.2 z
    refine e_c 0 o_41_27 rfl ?_
    refine e_go o_41_28 ?_
    obtain ⟨q, k⟩ := k
    refine e_ias (n := 6) o_41_42 ((sc_a5 (h := h) hs hit).1) ((sc_a5 (h := h) hs hit).2.2) ((sc_a5 (h := h) hs hit).2.1) q ?_
    refine e_il o_41_43 rfl ?_
    refine e_c 105 o_41_44 rfl ?_
    refine e_if_0 o_41_46 (fun z => ?_) (fun z => ?_)
    · have k := k.1 z
      refine e_al o_41_61 rfl ?_
      refine e_il o_41_62 rfl ?_
      refine e_clI (as := [.ref 6, .int (xI h 8 (tn (xI h 6 5)))]) (rest := []) o_41_63 rfl rfl (x_okd cl_41_26 ml_26 (Nat.le_of_ble_eq_true rfl) (Nat.le_of_ble_eq_true rfl)) (x_rc0 (ci := 4) (sk_6 (h := h) hs) mo_26) k ?_
      rintro v18 h17 ⟨sh17, ih17, k⟩
      refine e_pop o_41_66 rfl ?_
      refine e_go o_41_67 ?_
      exact e_ret0 o_41_75 k
    · have k := k.2 z
      refine e_il o_41_49 rfl ?_
      refine e_c 106 o_41_50 rfl ?_
      refine e_if_0 o_41_52 (fun z => ?_) (fun z => ?_)
      · have k := k.1 z
        refine e_al o_41_61 rfl ?_
        refine e_il o_41_62 rfl ?_
        refine e_clI (as := [.ref 6, .int (xI h 8 (tn (xI h 6 5)))]) (rest := []) o_41_63 rfl rfl (x_okd cl_41_26 ml_26 (Nat.le_of_ble_eq_true rfl) (Nat.le_of_ble_eq_true rfl)) (x_rc0 (ci := 4) (sk_6 (h := h) hs) mo_26) k ?_
        rintro v20 h19 ⟨sh19, ih19, k⟩
        refine e_pop o_41_66 rfl ?_
        refine e_go o_41_67 ?_
        exact e_ret0 o_41_75 k
      · have k := k.2 z
        refine e_il o_41_55 rfl ?_
        refine e_c 107 o_41_56 rfl ?_
        refine e_if_1 o_41_58 (fun z => ?_) (fun z => ?_)
        · have k := k.1 z
          refine e_al o_41_70 rfl ?_
          refine e_c 1 o_41_71 rfl ?_
          refine e_clV (as := [.ref 6, .int 1]) (rest := []) o_41_72 rfl rfl (x_okd cl_41_25 ml_25 (Nat.le_of_ble_eq_true rfl) (Nat.le_of_ble_eq_true rfl)) (x_rc0 (ci := 4) (sk_6 (h := h) hs) mo_25) k ?_
          rintro h21 ⟨sh21, ih21, k⟩
          exact e_ret0 o_41_75 k
        · have k := k.2 z
          refine e_al o_41_61 rfl ?_
          refine e_il o_41_62 rfl ?_
          refine e_clI (as := [.ref 6, .int (xI h 8 (tn (xI h 6 5)))]) (rest := []) o_41_63 rfl rfl (x_okd cl_41_26 ml_26 (Nat.le_of_ble_eq_true rfl) (Nat.le_of_ble_eq_true rfl)) (x_rc0 (ci := 4) (sk_6 (h := h) hs) mo_26) k ?_
          rintro v24 h23 ⟨sh23, ih23, k⟩
          refine e_pop o_41_66 rfl ?_
          refine e_go o_41_67 ?_
          exact e_ret0 o_41_75 k
set_option maxHeartbeats 4000000 in
set_option maxRecDepth 100000 in
theorem B_42_0 {it : Nat} {h : XH} {Q : Value → XH → Prop} (hs : Sh h) (hit : it = 14 ∨ it = 24) (hin : xR h 6 8 = it) (k : (((xI h 6 1) = 0) → InB (xI h 6 6) 6 ∧ (InB (((xI h 6 6) * 6) + (xI h (it + 6) (tn (xI h 6 6)))) 36 ∧ (InB (xI (xsI h (it + 8) (tn (((xI h 6 6) * 6) + (xI h (it + 6) (tn (xI h 6 6))))) (xI h it 7)) 6 6) 6 ∧ (InB (xI (xsI h (it + 8) (tn (((xI h 6 6) * 6) + (xI h (it + 6) (tn (xI h 6 6))))) (xI h it 7)) 6 6) 6 ∧ (∀ h1 : XH, h1 = (xsI (xsI h (it + 8) (tn (((xI h 6 6) * 6) + (xI h (it + 6) (tn (xI h 6 6))))) (xI h it 7)) (it + 6) (tn (xI (xsI h (it + 8) (tn (((xI h 6 6) * 6) + (xI h (it + 6) (tn (xI h 6 6))))) (xI h it 7)) 6 6)) ((xI (xsI h (it + 8) (tn (((xI h 6 6) * 6) + (xI h (it + 6) (tn (xI h 6 6))))) (xI h it 7)) (it + 6) (tn (xI (xsI h (it + 8) (tn (((xI h 6 6) * 6) + (xI h (it + 6) (tn (xI h 6 6))))) (xI h it 7)) 6 6))) + 1)) → (ClV 34 [.ref 6, .int 0] h1 (fun h2 => Sh h2 ∧ xR h2 6 8 = it ∧ (InB (xI h2 6 5) 402 ∧ ((((xI h2 8 (tn (xI h2 6 5))) = 60) → Ev 42 92 [.ref 6, .int (xI h2 8 (tn (xI h2 6 5)))] [] h2 Q) ∧ (¬ ((xI h2 8 (tn (xI h2 6 5))) = 60) → (((xI h2 8 (tn (xI h2 6 5))) = 61) → Ev 42 92 [.ref 6, .int (xI h2 8 (tn (xI h2 6 5)))] [] h2 Q) ∧ (¬ ((xI h2 8 (tn (xI h2 6 5))) = 61) → ((¬ (xI h2 8 (tn (xI h2 6 5))) = 62) → ClV 25 [.ref 6, .int 1] h2 (fun h4 => Sh h4 ∧ xR h4 6 8 = it ∧ (Ev 42 106 [.ref 6, .int (xI h2 8 (tn (xI h2 6 5)))] [] h4 Q))) ∧ (¬ (¬ (xI h2 8 (tn (xI h2 6 5))) = 62) → Ev 42 92 [.ref 6, .int (xI h2 8 (tn (xI h2 6 5)))] [] h2 Q)))))))))))) ∧ (¬ ((xI h 6 1) = 0) → Q .null h)) : Ev 42 0 (x_ini 42 [.ref 6]) [] h Q := by
  rw [show x_ini 42 [.ref 6] = [.ref 6, .null] from x_inid ml_42 rfl]
  refine e_al o_42_0 rfl ?_
  refine e_gI o_42_1 (sk_6 (h := h) hs) ?_
  refine e_i0_0 o_42_4 (fun z => ?_) (fun z => ?_)
  · have k := k.1 z
    refine e_al o_42_8 rfl ?_
    refine e_gR (r := it) o_42_9 (sk_6 (h := h) hs) (hin) (by rcases hit with q | q <;> omega) ?_
    refine e_gR (r := (it + 8)) o_42_12 (sc_k (h := h) hs hit) (sc_r16 (h := h) hs hit) (by omega) ?_
    refine e_al o_42_15 rfl ?_
    refine e_gI o_42_16 (sk_6 (h := h) hs) ?_
    refine e_c 6 o_42_19 rfl ?_
    refine e_bin o_42_21 rfl ?_
    refine e_al o_42_22 rfl ?_
    refine e_gR (r := it) o_42_23 (sk_6 (h := h) hs) (hin) (by rcases hit with q | q <;> omega) ?_
    refine e_gR (r := (it + 6)) o_42_26 (sc_k (h := h) hs hit) (sc_r14 (h := h) hs hit) (by omega) ?_
    refine e_al o_42_29 rfl ?_
    refine e_gI o_42_30 (sk_6 (h := h) hs) ?_
    obtain ⟨q, k⟩ := k
    refine e_ia (n := 6) o_42_33 ((sc_a6 (h := h) hs hit).1) ((sc_a6 (h := h) hs hit).2.1) q ?_
    refine e_bin o_42_34 rfl ?_
    refine e_al o_42_35 rfl ?_
    refine e_gR (r := it) o_42_36 (sk_6 (h := h) hs) (hin) (by rcases hit with q | q <;> omega) ?_
    refine e_gI o_42_39 (sc_k (h := h) hs hit) ?_
    obtain ⟨q, k⟩ := k
    refine e_ias (n := 36) o_42_42 ((sc_a8 (h := h) hs hit).1) ((sc_a8 (h := h) hs hit).2.2) ((sc_a8 (h := h) hs hit).2.1) q ?_
    refine e_al o_42_43 rfl ?_
    refine e_gR (r := it) o_42_44 (sk_6 (h := h) hs) (hin) (by rcases hit with q | q <;> omega) ?_
    refine e_gR (r := (it + 6)) o_42_47 (sc_k (h := h) hs hit) (sc_r14 (h := h) hs hit) (by omega) ?_
    refine e_al o_42_50 rfl ?_
    refine e_gI o_42_51 (sk_6 (h := h) hs) ?_
    refine e_dup2 o_42_54 ⟨rfl, rfl⟩ ?_
    obtain ⟨q, k⟩ := k
    refine e_ia (n := 6) o_42_55 ((sc_a6 (h := h) hs hit).1) ((sc_a6 (h := h) hs hit).2.1) q ?_
    refine e_c 1 o_42_56 rfl ?_
    refine e_bin o_42_57 rfl ?_
    obtain ⟨q, k⟩ := k
    refine e_ias (n := 6) o_42_58 ((sc_a6 (h := h) hs hit).1) ((sc_a6 (h := h) hs hit).2.2) ((sc_a6 (h := h) hs hit).2.1) q ?_
    obtain ⟨h1, eh1⟩ : ∃ z : XH, z = (xsI (xsI h (it + 8) (tn (((xI h 6 6) * 6) + (xI h (it + 6) (tn (xI h 6 6))))) (xI h it 7)) (it + 6) (tn (xI (xsI h (it + 8) (tn (((xI h 6 6) * 6) + (xI h (it + 6) (tn (xI h 6 6))))) (xI h it 7)) 6 6)) ((xI (xsI h (it + 8) (tn (((xI h 6 6) * 6) + (xI h (it + 6) (tn (xI h 6 6))))) (xI h it 7)) (it + 6) (tn (xI (xsI h (it + 8) (tn (((xI h 6 6) * 6) + (xI h (it + 6) (tn (xI h 6 6))))) (xI h it 7)) 6 6))) + 1)) := ⟨_, rfl⟩
    show Ev 42 59 [.ref 6, .null] [] (xsI (xsI h (it + 8) (tn (((xI h 6 6) * 6) + (xI h (it + 6) (tn (xI h 6 6))))) (xI h it 7)) (it + 6) (tn (xI (xsI h (it + 8) (tn (((xI h 6 6) * 6) + (xI h (it + 6) (tn (xI h 6 6))))) (xI h it 7)) 6 6)) ((xI (xsI h (it + 8) (tn (((xI h 6 6) * 6) + (xI h (it + 6) (tn (xI h 6 6))))) (xI h it 7)) (it + 6) (tn (xI (xsI h (it + 8) (tn (((xI h 6 6) * 6) + (xI h (it + 6) (tn (xI h 6 6))))) (xI h it 7)) 6 6))) + 1)) Q
    rw [← eh1]
    have sh1 : Sh h1 := by rw [eh1]; exact (sh_I (sh_I hs (by have := (sc_a8 (h := h) hs hit).2.2; omega)) (by have := (sc_a6 (h := h) hs hit).2.2; omega))
    have ih1 : xR h1 6 8 = it := by rw [eh1]; exact (hin : xR h 6 8 = it)
    have k := k h1 eh1
    refine e_al o_42_59 rfl ?_
    refine e_c 0 o_42_60 rfl ?_
    refine e_clV (as := [.ref 6, .int 0]) (rest := []) o_42_61 rfl rfl (x_okd cl_42_34 ml_34 (Nat.le_of_ble_eq_true rfl) (Nat.le_of_ble_eq_true rfl)) (x_rc0 (ci := 4) (sk_6 (h := h1) sh1) mo_34) k ?_
    rintro h2 ⟨sh2, ih2, k⟩
    refine e_al o_42_64 rfl ?_
    refine e_gR (r := 8) o_42_65 (sk_6 (h := h2) sh2) (sr_6_10 (h := h2) sh2) (by decide) ?_
    refine e_al o_42_68 rfl ?_
    refine e_gI o_42_69 (sk_6 (h := h2) sh2) ?_
    obtain ⟨q, k⟩ := k
    refine e_ia (n := 402) o_42_72 (sk_8 (h := h2) sh2) (sn_8 (h := h2) sh2) q ?_
    refine e_is (ls' := [.ref 6, .int (xI h2 8 (tn (xI h2 6 5)))]) o_42_73 (Nat.le_of_ble_eq_true rfl) rfl ?_
    refine e_il o_42_74 rfl ?_
    refine e_c 60 o_42_75 rfl ?_
    refine e_if_0 o_42_77 (fun z => ?_) (fun z => ?_)
    · have k := k.1 z
      exact Ev.less (ls := [.ref 6, .int (xI h2 8 (tn (xI h2 6 5)))]) ⟨Or.inr rfl, Or.inr rfl, trivial⟩ k
    · have k := k.2 z
      refine e_il o_42_80 rfl ?_
      refine e_c 61 o_42_81 rfl ?_
      refine e_if_0 o_42_83 (fun z => ?_) (fun z => ?_)
      · have k := k.1 z
        exact Ev.less (ls := [.ref 6, .int (xI h2 8 (tn (xI h2 6 5)))]) ⟨Or.inr rfl, Or.inr rfl, trivial⟩ k
      · have k := k.2 z
        refine e_il o_42_86 rfl ?_
        refine e_c 62 o_42_87 rfl ?_
        refine e_if_1 o_42_89 (fun z => ?_) (fun z => ?_)
        · have k := k.1 z
          refine e_al o_42_101 rfl ?_
          refine e_c 1 o_42_102 rfl ?_
          refine e_clV (as := [.ref 6, .int 1]) (rest := []) o_42_103 rfl rfl (x_okd cl_42_25 ml_25 (Nat.le_of_ble_eq_true rfl) (Nat.le_of_ble_eq_true rfl)) (x_rc0 (ci := 4) (sk_6 (h := h2) sh2) mo_25) k ?_
          rintro h4 ⟨sh4, ih4, k⟩
          exact Ev.less (ls := [.ref 6, .int (xI h2 8 (tn (xI h2 6 5)))]) ⟨Or.inr rfl, Or.inr rfl, trivial⟩ k
        · have k := k.2 z
          exact Ev.less (ls := [.ref 6, .int (xI h2 8 (tn (xI h2 6 5)))]) ⟨Or.inr rfl, Or.inr rfl, trivial⟩ k
  · have k := k.2 z
    exact e_ret0 o_42_7 k
set_option maxHeartbeats 4000000 in
set_option maxRecDepth 100000 in
theorem B_42_92 {it : Nat} {x1 : Int32} {h : XH} {Q : Value → XH → Prop} (hs : Sh h) (hit : it = 14 ∨ it = 24) (hin : xR h 6 8 = it) (k : ClI 26 [.ref 6, .int x1] h (fun v2 h1 => Sh h1 ∧ xR h1 6 8 = it ∧ (Ev 42 106 [.ref 6, .int x1] [] h1 Q))) : Ev 42 92 [.ref 6, .int x1] [] h Q := by
  refine e_al o_42_92 rfl ?_
  refine e_il o_42_93 rfl ?_
  refine e_clI (as := [.ref 6, .int x1]) (rest := []) o_42_94 rfl rfl (x_okd cl_42_26 ml_26 (Nat.le_of_ble_eq_true rfl) (Nat.le_of_ble_eq_true rfl)) (x_rc0 (ci := 4) (sk_6 (h := h) hs) mo_26) k ?_
  rintro v2 h1 ⟨sh1, ih1, k⟩
  refine e_pop o_42_97 rfl ?_
  refine e_go o_42_98 ?_
  exact Ev.less (ls := [.ref 6, .int x1]) ⟨Or.inr rfl, Or.inr rfl, trivial⟩ k
set_option maxHeartbeats 4000000 in
set_option maxRecDepth 100000 in
theorem B_42_106 {it : Nat} {x1 : Int32} {h : XH} {Q : Value → XH → Prop} (hs : Sh h) (hit : it = 14 ∨ it = 24) (hin : xR h 6 8 = it) (k : ClV 34 [.ref 6, .int 0] h (fun h1 => Sh h1 ∧ xR h1 6 8 = it ∧ (((¬ x1 = 60) → ((¬ x1 = 61) → ClV 37 [.ref 6, .int 8, .int 0] h1 (fun h3 => Sh h3 ∧ xR h3 6 8 = it ∧ (ClV 37 [.ref 6, .int 10, .int 0] h3 (fun h5 => Sh h5 ∧ xR h5 6 8 = it ∧ (Q .null h5))))) ∧ (¬ (¬ x1 = 61) → ClV 37 [.ref 6, .int 7, .int 0] h1 (fun h7 => Sh h7 ∧ xR h7 6 8 = it ∧ (ClV 37 [.ref 6, .int 10, .int 0] h7 (fun h9 => Sh h9 ∧ xR h9 6 8 = it ∧ (Q .null h9)))))) ∧ (¬ (¬ x1 = 60) → ClV 37 [.ref 6, .int 6, .int 0] h1 (fun h11 => Sh h11 ∧ xR h11 6 8 = it ∧ (ClV 37 [.ref 6, .int 10, .int 0] h11 (fun h13 => Sh h13 ∧ xR h13 6 8 = it ∧ (Q .null h13)))))))) : Ev 42 106 [.ref 6, .int x1] [] h Q := by
  refine e_al o_42_106 rfl ?_
  refine e_c 0 o_42_107 rfl ?_
  refine e_clV (as := [.ref 6, .int 0]) (rest := []) o_42_108 rfl rfl (x_okd cl_42_34 ml_34 (Nat.le_of_ble_eq_true rfl) (Nat.le_of_ble_eq_true rfl)) (x_rc0 (ci := 4) (sk_6 (h := h) hs) mo_34) k ?_
  rintro h1 ⟨sh1, ih1, k⟩
  refine e_al o_42_111 rfl ?_
  refine e_il o_42_112 rfl ?_
  refine e_c 60 o_42_113 rfl ?_
  refine e_if_1 o_42_115 (fun z => ?_) (fun z => ?_)
  · have k := k.1 z
    refine e_il o_42_123 rfl ?_
    refine e_c 61 o_42_124 rfl ?_
    refine e_if_1 o_42_126 (fun z => ?_) (fun z => ?_)
    · have k := k.1 z
      refine e_c 8 o_42_134 rfl ?_
      refine e_c 0 o_42_136 rfl ?_
      refine e_clV (as := [.ref 6, .int 8, .int 0]) (rest := []) o_42_137 rfl rfl (x_okd cl_42_37 ml_37 (Nat.le_of_ble_eq_true rfl) (Nat.le_of_ble_eq_true rfl)) (x_rc0 (ci := 4) (sk_6 (h := h1) sh1) mo_37) k ?_
      rintro h3 ⟨sh3, ih3, k⟩
      refine e_al o_42_140 rfl ?_
      refine e_c 10 o_42_141 rfl ?_
      refine e_c 0 o_42_143 rfl ?_
      refine e_clV (as := [.ref 6, .int 10, .int 0]) (rest := []) o_42_144 rfl rfl (x_okd cl_42_37 ml_37 (Nat.le_of_ble_eq_true rfl) (Nat.le_of_ble_eq_true rfl)) (x_rc0 (ci := 4) (sk_6 (h := h3) sh3) mo_37) k ?_
      rintro h5 ⟨sh5, ih5, k⟩
      exact e_ret0 o_42_147 k
    · have k := k.2 z
      refine e_c 7 o_42_129 rfl ?_
      refine e_go o_42_131 ?_
      refine e_c 0 o_42_136 rfl ?_
      refine e_clV (as := [.ref 6, .int 7, .int 0]) (rest := []) o_42_137 rfl rfl (x_okd cl_42_37 ml_37 (Nat.le_of_ble_eq_true rfl) (Nat.le_of_ble_eq_true rfl)) (x_rc0 (ci := 4) (sk_6 (h := h1) sh1) mo_37) k ?_
      rintro h7 ⟨sh7, ih7, k⟩
      refine e_al o_42_140 rfl ?_
      refine e_c 10 o_42_141 rfl ?_
      refine e_c 0 o_42_143 rfl ?_
      refine e_clV (as := [.ref 6, .int 10, .int 0]) (rest := []) o_42_144 rfl rfl (x_okd cl_42_37 ml_37 (Nat.le_of_ble_eq_true rfl) (Nat.le_of_ble_eq_true rfl)) (x_rc0 (ci := 4) (sk_6 (h := h7) sh7) mo_37) k ?_
      rintro h9 ⟨sh9, ih9, k⟩
      exact e_ret0 o_42_147 k
  · have k := k.2 z
    refine e_c 6 o_42_118 rfl ?_
    refine e_go o_42_120 ?_
    refine e_c 0 o_42_136 rfl ?_
    refine e_clV (as := [.ref 6, .int 6, .int 0]) (rest := []) o_42_137 rfl rfl (x_okd cl_42_37 ml_37 (Nat.le_of_ble_eq_true rfl) (Nat.le_of_ble_eq_true rfl)) (x_rc0 (ci := 4) (sk_6 (h := h1) sh1) mo_37) k ?_
    rintro h11 ⟨sh11, ih11, k⟩
    refine e_al o_42_140 rfl ?_
    refine e_c 10 o_42_141 rfl ?_
    refine e_c 0 o_42_143 rfl ?_
    refine e_clV (as := [.ref 6, .int 10, .int 0]) (rest := []) o_42_144 rfl rfl (x_okd cl_42_37 ml_37 (Nat.le_of_ble_eq_true rfl) (Nat.le_of_ble_eq_true rfl)) (x_rc0 (ci := 4) (sk_6 (h := h11) sh11) mo_37) k ?_
    rintro h13 ⟨sh13, ih13, k⟩
    exact e_ret0 o_42_147 k
set_option maxHeartbeats 4000000 in
set_option maxRecDepth 100000 in
theorem B_43_0 {it : Nat} {h : XH} {Q : Value → XH → Prop} (hs : Sh h) (hit : it = 14 ∨ it = 24) (hin : xR h 6 8 = it) (k : ClI 26 [.ref 6, .int 109] h (fun v2 h1 => Sh h1 ∧ xR h1 6 8 = it ∧ (ClI 26 [.ref 6, .int 3] h1 (fun v4 h3 => Sh h3 ∧ xR h3 6 8 = it ∧ (ClI 26 [.ref 6, .int 59] h3 (fun v6 h5 => Sh h5 ∧ xR h5 6 8 = it ∧ (((¬ (xI h5 6 1) = 0) → Q .null h5) ∧ (¬ (¬ (xI h5 6 1) = 0) → InB (xI h1 6 5) 402 ∧ ((((xI (xsI h5 it 2 ((xL h5 10 (tn (xI h1 6 5))) : Int64).toInt32) it 2) ≤ 100) → Q .null (xsI h5 it 2 ((xL h5 10 (tn (xI h1 6 5))) : Int64).toInt32)) ∧ (¬ ((xI (xsI h5 it 2 ((xL h5 10 (tn (xI h1 6 5))) : Int64).toInt32) it 2) ≤ 100) → ClV 31 [.ref 6, .int 5, .int (xI h1 6 5)] (xsI h5 it 2 ((xL h5 10 (tn (xI h1 6 5))) : Int64).toInt32) (fun h7 => Sh h7 ∧ xR h7 6 8 = it ∧ (Q .null h7)))))))))))) : Ev 43 0 (x_ini 43 [.ref 6]) [] h Q := by
  rw [show x_ini 43 [.ref 6] = [.ref 6, .null] from x_inid ml_43 rfl]
  refine e_al o_43_0 rfl ?_
  refine e_c 109 o_43_1 rfl ?_
  refine e_clI (as := [.ref 6, .int 109]) (rest := []) o_43_3 rfl rfl (x_okd cl_43_26 ml_26 (Nat.le_of_ble_eq_true rfl) (Nat.le_of_ble_eq_true rfl)) (x_rc0 (ci := 4) (sk_6 (h := h) hs) mo_26) k ?_
  rintro v2 h1 ⟨sh1, ih1, k⟩
  refine e_pop o_43_6 rfl ?_
  refine e_al o_43_7 rfl ?_
  refine e_gI o_43_8 (sk_6 (h := h1) sh1) ?_
  refine e_is (ls' := [.ref 6, .int (xI h1 6 5)]) o_43_11 (Nat.le_of_ble_eq_true rfl) rfl ?_
  refine e_al o_43_12 rfl ?_
  refine e_c 3 o_43_13 rfl ?_
  refine e_clI (as := [.ref 6, .int 3]) (rest := []) o_43_14 rfl rfl (x_okd cl_43_26 ml_26 (Nat.le_of_ble_eq_true rfl) (Nat.le_of_ble_eq_true rfl)) (x_rc0 (ci := 4) (sk_6 (h := h1) sh1) mo_26) k ?_
  rintro v4 h3 ⟨sh3, ih3, k⟩
  refine e_pop o_43_17 rfl ?_
  refine e_al o_43_18 rfl ?_
  refine e_c 59 o_43_19 rfl ?_
  refine e_clI (as := [.ref 6, .int 59]) (rest := []) o_43_21 rfl rfl (x_okd cl_43_26 ml_26 (Nat.le_of_ble_eq_true rfl) (Nat.le_of_ble_eq_true rfl)) (x_rc0 (ci := 4) (sk_6 (h := h3) sh3) mo_26) k ?_
  rintro v6 h5 ⟨sh5, ih5, k⟩
  refine e_pop o_43_24 rfl ?_
  refine e_al o_43_25 rfl ?_
  refine e_gI o_43_26 (sk_6 (h := h5) sh5) ?_
  refine e_i0_1 o_43_29 (fun z => ?_) (fun z => ?_)
  · have k := k.1 z
    exact e_ret0 o_43_64 k
  · have k := k.2 z
    refine e_al o_43_32 rfl ?_
    refine e_gR (r := it) o_43_33 (sk_6 (h := h5) sh5) (ih5) (by rcases hit with q | q <;> omega) ?_
    refine e_al o_43_36 rfl ?_
    refine e_gR (r := 10) o_43_37 (sk_6 (h := h5) sh5) (sr_6_12 (h := h5) sh5) (by decide) ?_
    refine e_il o_43_40 rfl ?_
    obtain ⟨q, k⟩ := k
    refine e_la (n := 402) o_43_41 (sk_10 (h := h5) sh5) (sn_10 (h := h5) sh5) q ?_
    refine e_l2i o_43_42 ?_
    refine e_pI o_43_43 (sc_k (h := h5) sh5 hit) ?_
    refine e_al o_43_46 rfl ?_
    refine e_gR (r := it) o_43_47 (sk_6 (h := h5) sh5) (ih5) (by rcases hit with q | q <;> omega) ?_
    refine e_gI o_43_50 (sc_k (h := h5) sh5 hit) ?_
    refine e_c 100 o_43_53 rfl ?_
    refine e_if_5 o_43_55 (fun z => ?_) (fun z => ?_)
    · have k := k.1 z
      exact e_ret0 o_43_64 k
    · have k := k.2 z
      refine e_al o_43_58 rfl ?_
      refine e_c 5 o_43_59 rfl ?_
      refine e_il o_43_60 rfl ?_
      refine e_clV (as := [.ref 6, .int 5, .int (xI h1 6 5)]) (rest := []) o_43_61 rfl rfl (x_okd cl_43_31 ml_31 (Nat.le_of_ble_eq_true rfl) (Nat.le_of_ble_eq_true rfl)) (x_rc0 (ci := 4) (sk_6 (h := h5) sh5) mo_31) k ?_
      rintro h7 ⟨sh7, ih7, k⟩
      exact e_ret0 o_43_64 k
set_option maxHeartbeats 4000000 in
set_option maxRecDepth 100000 in
theorem B_44_0 {it : Nat} {h : XH} {Q : Value → XH → Prop} (hs : Sh h) (hit : it = 14 ∨ it = 24) (hin : xR h 6 8 = it) (k : ClI 26 [.ref 6, .int 110] h (fun v2 h1 => Sh h1 ∧ xR h1 6 8 = it ∧ (ClI 26 [.ref 6, .int 3] h1 (fun v4 h3 => Sh h3 ∧ xR h3 6 8 = it ∧ (ClI 26 [.ref 6, .int 59] h3 (fun v6 h5 => Sh h5 ∧ xR h5 6 8 = it ∧ (((¬ (xI h5 6 1) = 0) → Q .null h5) ∧ (¬ (¬ (xI h5 6 1) = 0) → InB (xI h1 6 5) 402 ∧ (Q .null (xsI h5 it 3 ((xL h5 10 (tn (xI h1 6 5))) : Int64).toInt32)))))))))) : Ev 44 0 (x_ini 44 [.ref 6]) [] h Q := by
  rw [show x_ini 44 [.ref 6] = [.ref 6, .null] from x_inid ml_44 rfl]
  refine e_al o_44_0 rfl ?_
  refine e_c 110 o_44_1 rfl ?_
  refine e_clI (as := [.ref 6, .int 110]) (rest := []) o_44_3 rfl rfl (x_okd cl_44_26 ml_26 (Nat.le_of_ble_eq_true rfl) (Nat.le_of_ble_eq_true rfl)) (x_rc0 (ci := 4) (sk_6 (h := h) hs) mo_26) k ?_
  rintro v2 h1 ⟨sh1, ih1, k⟩
  refine e_pop o_44_6 rfl ?_
  refine e_al o_44_7 rfl ?_
  refine e_gI o_44_8 (sk_6 (h := h1) sh1) ?_
  refine e_is (ls' := [.ref 6, .int (xI h1 6 5)]) o_44_11 (Nat.le_of_ble_eq_true rfl) rfl ?_
  refine e_al o_44_12 rfl ?_
  refine e_c 3 o_44_13 rfl ?_
  refine e_clI (as := [.ref 6, .int 3]) (rest := []) o_44_14 rfl rfl (x_okd cl_44_26 ml_26 (Nat.le_of_ble_eq_true rfl) (Nat.le_of_ble_eq_true rfl)) (x_rc0 (ci := 4) (sk_6 (h := h1) sh1) mo_26) k ?_
  rintro v4 h3 ⟨sh3, ih3, k⟩
  refine e_pop o_44_17 rfl ?_
  refine e_al o_44_18 rfl ?_
  refine e_c 59 o_44_19 rfl ?_
  refine e_clI (as := [.ref 6, .int 59]) (rest := []) o_44_21 rfl rfl (x_okd cl_44_26 ml_26 (Nat.le_of_ble_eq_true rfl) (Nat.le_of_ble_eq_true rfl)) (x_rc0 (ci := 4) (sk_6 (h := h3) sh3) mo_26) k ?_
  rintro v6 h5 ⟨sh5, ih5, k⟩
  refine e_pop o_44_24 rfl ?_
  refine e_al o_44_25 rfl ?_
  refine e_gI o_44_26 (sk_6 (h := h5) sh5) ?_
  refine e_i0_1 o_44_29 (fun z => ?_) (fun z => ?_)
  · have k := k.1 z
    exact e_ret0 o_44_46 k
  · have k := k.2 z
    refine e_al o_44_32 rfl ?_
    refine e_gR (r := it) o_44_33 (sk_6 (h := h5) sh5) (ih5) (by rcases hit with q | q <;> omega) ?_
    refine e_al o_44_36 rfl ?_
    refine e_gR (r := 10) o_44_37 (sk_6 (h := h5) sh5) (sr_6_12 (h := h5) sh5) (by decide) ?_
    refine e_il o_44_40 rfl ?_
    obtain ⟨q, k⟩ := k
    refine e_la (n := 402) o_44_41 (sk_10 (h := h5) sh5) (sn_10 (h := h5) sh5) q ?_
    refine e_l2i o_44_42 ?_
    refine e_pI o_44_43 (sc_k (h := h5) sh5 hit) ?_
    exact e_ret0 o_44_46 k
set_option maxHeartbeats 4000000 in
set_option maxRecDepth 100000 in
theorem B_45_0 {it : Nat} {h : XH} {Q : Value → XH → Prop} (hs : Sh h) (hit : it = 14 ∨ it = 24) (hin : xR h 6 8 = it) (k : ((¬ (xI h 6 1) = 0) → Ev 45 30 [.ref 6] [] h Q) ∧ (¬ (¬ (xI h 6 1) = 0) → (((xI h 6 2) = 0) → Ev 45 30 [.ref 6] [] h Q) ∧ (¬ ((xI h 6 2) = 0) → Ev 45 30 [.ref 6] [] (xsI (xsI h 6 1 (xI h 6 2)) 6 0 (xI (xsI h 6 1 (xI h 6 2)) 6 3)) Q))) : Ev 45 0 (x_ini 45 [.ref 6]) [] h Q := by
  rw [show x_ini 45 [.ref 6] = [.ref 6] from x_inid ml_45 rfl]
  refine e_al o_45_0 rfl ?_
  refine e_gI o_45_1 (sk_6 (h := h) hs) ?_
  refine e_i0_1 o_45_4 (fun z => ?_) (fun z => ?_)
  · have k := k.1 z
    exact Ev.less (ls := [.ref 6]) ⟨Or.inr rfl, trivial⟩ k
  · have k := k.2 z
    refine e_al o_45_7 rfl ?_
    refine e_gI o_45_8 (sk_6 (h := h) hs) ?_
    refine e_i0_0 o_45_11 (fun z => ?_) (fun z => ?_)
    · have k := k.1 z
      exact Ev.less (ls := [.ref 6]) ⟨Or.inr rfl, trivial⟩ k
    · have k := k.2 z
      refine e_al o_45_14 rfl ?_
      refine e_al o_45_15 rfl ?_
      refine e_gI o_45_16 (sk_6 (h := h) hs) ?_
      refine e_pI o_45_19 (sk_6 (h := h) hs) ?_
      refine e_al o_45_22 rfl ?_
      refine e_al o_45_23 rfl ?_
      refine e_gI o_45_24 (sk_6 (h := h) hs) ?_
      refine e_pI o_45_27 (sk_6 (h := h) hs) ?_
      exact Ev.less (ls := [.ref 6]) ⟨Or.inr rfl, trivial⟩ k
set_option maxHeartbeats 4000000 in
set_option maxRecDepth 100000 in
theorem B_45_30 {it : Nat} {h : XH} {Q : Value → XH → Prop} (hs : Sh h) (hit : it = 14 ∨ it = 24) (hin : xR h 6 8 = it) (k : ((¬ (xI h 6 1) = 0) → Ev 45 41 [.ref 6] [] h Q) ∧ (¬ (¬ (xI h 6 1) = 0) → ClV 46 [.ref 6] h (fun h1 => Sh h1 ∧ xR h1 6 8 = it ∧ (Ev 45 41 [.ref 6] [] h1 Q)))) : Ev 45 30 [.ref 6] [] h Q := by
  refine e_al o_45_30 rfl ?_
  refine e_gI o_45_31 (sk_6 (h := h) hs) ?_
  refine e_i0_1 o_45_34 (fun z => ?_) (fun z => ?_)
  · have k := k.1 z
    exact Ev.less (ls := [.ref 6]) ⟨Or.inr rfl, trivial⟩ k
  · have k := k.2 z
    refine e_al o_45_37 rfl ?_
    refine e_clV (as := [.ref 6]) (rest := []) o_45_38 rfl rfl (x_okd cl_45_46 ml_46 (Nat.le_of_ble_eq_true rfl) (Nat.le_of_ble_eq_true rfl)) (x_rc0 (ci := 4) (sk_6 (h := h) hs) mo_46) k ?_
    rintro h1 ⟨sh1, ih1, k⟩
    exact Ev.less (ls := [.ref 6]) ⟨Or.inr rfl, trivial⟩ k
set_option maxHeartbeats 4000000 in
set_option maxRecDepth 100000 in
theorem B_45_41 {it : Nat} {h : XH} {Q : Value → XH → Prop} (hs : Sh h) (hit : it = 14 ∨ it = 24) (hin : xR h 6 8 = it) (k : ((¬ (xI h 6 1) = 0) → Ev 45 81 [.ref 6] [] h Q) ∧ (¬ (¬ (xI h 6 1) = 0) → ClV 47 [.ref 6] h (fun h1 => Sh h1 ∧ xR h1 6 8 = it ∧ (((¬ (xI h1 it 2) = 0) → Ev 45 81 [.ref 6] [] (xsI h1 it 8 0) Q) ∧ (¬ (¬ (xI h1 it 2) = 0) → ClI 49 [.ref 6] h1 (fun v4 h3 => Sh h3 ∧ xR h3 6 8 = it ∧ (((¬ v4 = 0) → Ev 45 81 [.ref 6] [] (xsI h3 it 8 0) Q) ∧ (¬ (¬ v4 = 0) → Ev 45 81 [.ref 6] [] (xsI h3 it 8 1) Q)))))))) : Ev 45 41 [.ref 6] [] h Q := by
  refine e_al o_45_41 rfl ?_
  refine e_gI o_45_42 (sk_6 (h := h) hs) ?_
  refine e_i0_1 o_45_45 (fun z => ?_) (fun z => ?_)
  · have k := k.1 z
    exact Ev.less (ls := [.ref 6]) ⟨Or.inr rfl, trivial⟩ k
  · have k := k.2 z
    refine e_al o_45_48 rfl ?_
    refine e_clV (as := [.ref 6]) (rest := []) o_45_49 rfl rfl (x_okd cl_45_47 ml_47 (Nat.le_of_ble_eq_true rfl) (Nat.le_of_ble_eq_true rfl)) (x_rc0 (ci := 4) (sk_6 (h := h) hs) mo_47) k ?_
    rintro h1 ⟨sh1, ih1, k⟩
    refine e_al o_45_52 rfl ?_
    refine e_gR (r := it) o_45_53 (sk_6 (h := h1) sh1) (ih1) (by rcases hit with q | q <;> omega) ?_
    refine e_al o_45_56 rfl ?_
    refine e_gR (r := it) o_45_57 (sk_6 (h := h1) sh1) (ih1) (by rcases hit with q | q <;> omega) ?_
    refine e_gI o_45_60 (sc_k (h := h1) sh1 hit) ?_
    refine e_i0_1 o_45_63 (fun z => ?_) (fun z => ?_)
    · have k := k.1 z
      refine e_c 0 o_45_77 rfl ?_
      refine e_pZ o_45_78 (sc_k (h := h1) sh1 hit) (by decide) ?_
      exact Ev.less (ls := [.ref 6]) ⟨Or.inr rfl, trivial⟩ k
    · have k := k.2 z
      refine e_al o_45_66 rfl ?_
      refine e_clI (as := [.ref 6]) (rest := [.ref it]) o_45_67 rfl rfl (x_okd cl_45_49 ml_49 (Nat.le_of_ble_eq_true rfl) (Nat.le_of_ble_eq_true rfl)) (x_rc0 (ci := 4) (sk_6 (h := h1) sh1) mo_49) k ?_
      rintro v4 h3 ⟨sh3, ih3, k⟩
      refine e_i0_1 o_45_70 (fun z => ?_) (fun z => ?_)
      · have k := k.1 z
        refine e_c 0 o_45_77 rfl ?_
        refine e_pZ o_45_78 (sc_k (h := h3) sh3 hit) (by decide) ?_
        exact Ev.less (ls := [.ref 6]) ⟨Or.inr rfl, trivial⟩ k
      · have k := k.2 z
        refine e_c 1 o_45_73 rfl ?_
        refine e_go o_45_74 ?_
        refine e_pZ o_45_78 (sc_k (h := h3) sh3 hit) (by decide) ?_
        exact Ev.less (ls := [.ref 6]) ⟨Or.inr rfl, trivial⟩ k
set_option maxHeartbeats 4000000 in
set_option maxRecDepth 100000 in
theorem B_45_81 {it : Nat} {h : XH} {Q : Value → XH → Prop} (hs : Sh h) (hit : it = 14 ∨ it = 24) (hin : xR h 6 8 = it) (k : Q (.int (xI h 6 1)) h) : Ev 45 81 [.ref 6] [] h Q := by
  refine e_al o_45_81 rfl ?_
  refine e_gI o_45_82 (sk_6 (h := h) hs) ?_
  exact e_retI o_45_85 k
set_option maxHeartbeats 4000000 in
set_option maxRecDepth 100000 in
theorem B_46_0 {it : Nat} {h : XH} {Q : Value → XH → Prop} (hs : Sh h) (hit : it = 14 ∨ it = 24) (hin : xR h 6 8 = it) (k : Ev 46 2 [.ref 6, .int 0, .null, .null, .null] [] h Q) : Ev 46 0 (x_ini 46 [.ref 6]) [] h Q := by
  rw [show x_ini 46 [.ref 6] = [.ref 6, .null, .null, .null, .null] from x_inid ml_46 rfl]
  refine e_c 0 o_46_0 rfl ?_
  refine e_is (ls' := [.ref 6, .int 0, .null, .null, .null]) o_46_1 (Nat.le_of_ble_eq_true rfl) rfl ?_
  exact Ev.less (ls := [.ref 6, .int 0, .null, .null, .null]) ⟨Or.inr rfl, Or.inr rfl, Or.inl rfl, Or.inl rfl, Or.inl rfl, trivial⟩ k
set_option maxHeartbeats 4000000 in
set_option maxRecDepth 100000 in
theorem B_46_2 {it : Nat} {x1 : Int32} {h : XH} {Q : Value → XH → Prop} (hs : Sh h) (hit : it = 14 ∨ it = 24) (hin : xR h 6 8 = it) (k : (((xI h it 7) ≤ x1) → Ev 46 129 [.null, .null, .null, .null, .null] [] h Q) ∧ (¬ ((xI h it 7) ≤ x1) → ((¬ (xI h 6 1) = 0) → Ev 46 129 [.null, .null, .null, .null, .null] [] h Q) ∧ (¬ (¬ (xI h 6 1) = 0) → InB x1 512 ∧ (((¬ ((xI h (it + 9) (tn x1)) &&& 15) = 11) → Ev 46 123 [.ref 6, .int x1, .null, .null, .null] [] h Q) ∧ (¬ (¬ ((xI h (it + 9) (tn x1)) &&& 15) = 11) → InB x1 512 ∧ (InB ((xI h (it + 9) (tn x1)) >>> (4 &&& 31)) 402 ∧ (ClI 29 [.ref 6, .long (xL h 10 (tn ((xI h (it + 9) (tn x1)) >>> (4 &&& 31))))] h (fun v2 h1 => Sh h1 ∧ xR h1 6 8 = it ∧ (InB ((xI h (it + 9) (tn x1)) >>> (4 &&& 31)) 402 ∧ (ClI 30 [.ref 6, .long (xL h1 10 (tn ((xI h (it + 9) (tn x1)) >>> (4 &&& 31))))] h1 (fun v4 h3 => Sh h3 ∧ xR h3 6 8 = it ∧ (((0 ≤ v2) → Ev 46 97 [.ref 6, .int x1, .null, .int v2, .int v4] [] h3 Q) ∧ (¬ (0 ≤ v2) → ((0 ≤ v4) → Ev 46 97 [.ref 6, .int x1, .null, .int v2, .int v4] [] h3 Q) ∧ (¬ (0 ≤ v4) → InB ((xI h (it + 9) (tn x1)) >>> (4 &&& 31)) 402 ∧ (Ev 46 97 [.ref 6, .int x1, .null, .int v2, .int v4] [] (xsI (xsI h3 6 1 8) 6 0 (xI (xsI h3 6 1 8) 9 (tn ((xI h (it + 9) (tn x1)) >>> (4 &&& 31))))) Q))))))))))))))) : Ev 46 2 [.ref 6, .int x1, .null, .null, .null] [] h Q := by
  refine e_il o_46_2 rfl ?_
  refine e_al o_46_3 rfl ?_
  refine e_gR (r := it) o_46_4 (sk_6 (h := h) hs) (hin) (by rcases hit with q | q <;> omega) ?_
  refine e_gI o_46_7 (sc_k (h := h) hs hit) ?_
  refine e_if_3 o_46_10 (fun z => ?_) (fun z => ?_)
  · have k := k.1 z
    exact Ev.less (ls := [.null, .null, .null, .null, .null]) ⟨Or.inl rfl, Or.inl rfl, Or.inl rfl, Or.inl rfl, Or.inl rfl, trivial⟩ k
  · have k := k.2 z
    refine e_al o_46_13 rfl ?_
    refine e_gI o_46_14 (sk_6 (h := h) hs) ?_
    refine e_i0_1 o_46_17 (fun z => ?_) (fun z => ?_)
    · have k := k.1 z
      exact Ev.less (ls := [.null, .null, .null, .null, .null]) ⟨Or.inl rfl, Or.inl rfl, Or.inl rfl, Or.inl rfl, Or.inl rfl, trivial⟩ k
    · have k := k.2 z
      refine e_al o_46_20 rfl ?_
      refine e_gR (r := it) o_46_21 (sk_6 (h := h) hs) (hin) (by rcases hit with q | q <;> omega) ?_
      refine e_gR (r := (it + 9)) o_46_24 (sc_k (h := h) hs hit) (sc_r17 (h := h) hs hit) (by omega) ?_
      refine e_il o_46_27 rfl ?_
      obtain ⟨q, k⟩ := k
      refine e_ia (n := 512) o_46_28 ((sc_a9 (h := h) hs hit).1) ((sc_a9 (h := h) hs hit).2.1) q ?_
      refine e_c 15 o_46_29 rfl ?_
      refine e_bin o_46_31 rfl ?_
      refine e_c 11 o_46_32 rfl ?_
      refine e_if_1 o_46_34 (fun z => ?_) (fun z => ?_)
      · have k := k.1 z
        exact Ev.less (ls := [.ref 6, .int x1, .null, .null, .null]) ⟨Or.inr rfl, Or.inr rfl, Or.inl rfl, Or.inl rfl, Or.inl rfl, trivial⟩ k
      · have k := k.2 z
        refine e_al o_46_37 rfl ?_
        refine e_gR (r := it) o_46_38 (sk_6 (h := h) hs) (hin) (by rcases hit with q | q <;> omega) ?_
        refine e_gR (r := (it + 9)) o_46_41 (sc_k (h := h) hs hit) (sc_r17 (h := h) hs hit) (by omega) ?_
        refine e_il o_46_44 rfl ?_
        obtain ⟨q, k⟩ := k
        refine e_ia (n := 512) o_46_45 ((sc_a9 (h := h) hs hit).1) ((sc_a9 (h := h) hs hit).2.1) q ?_
        refine e_c 4 o_46_46 rfl ?_
        refine e_bin o_46_47 rfl ?_
        refine e_is (ls' := [.ref 6, .int x1, .int ((xI h (it + 9) (tn x1)) >>> (4 &&& 31)), .null, .null]) o_46_48 (Nat.le_of_ble_eq_true rfl) rfl ?_
        refine e_al o_46_49 rfl ?_
        refine e_al o_46_50 rfl ?_
        refine e_gR (r := 10) o_46_51 (sk_6 (h := h) hs) (sr_6_12 (h := h) hs) (by decide) ?_
        refine e_il o_46_54 rfl ?_
        obtain ⟨q, k⟩ := k
        refine e_la (n := 402) o_46_55 (sk_10 (h := h) hs) (sn_10 (h := h) hs) q ?_
        refine e_clI (as := [.ref 6, .long (xL h 10 (tn ((xI h (it + 9) (tn x1)) >>> (4 &&& 31))))]) (rest := []) o_46_56 rfl rfl (x_okd cl_46_29 ml_29 (Nat.le_of_ble_eq_true rfl) (Nat.le_of_ble_eq_true rfl)) (x_rc0 (ci := 4) (sk_6 (h := h) hs) mo_29) k ?_
        rintro v2 h1 ⟨sh1, ih1, k⟩
        refine e_is (ls' := [.ref 6, .int x1, .int ((xI h (it + 9) (tn x1)) >>> (4 &&& 31)), .int v2, .null]) o_46_59 (Nat.le_of_ble_eq_true rfl) rfl ?_
        refine e_al o_46_60 rfl ?_
        refine e_al o_46_61 rfl ?_
        refine e_gR (r := 10) o_46_62 (sk_6 (h := h1) sh1) (sr_6_12 (h := h1) sh1) (by decide) ?_
        refine e_il o_46_65 rfl ?_
        obtain ⟨q, k⟩ := k
        refine e_la (n := 402) o_46_66 (sk_10 (h := h1) sh1) (sn_10 (h := h1) sh1) q ?_
        refine e_clI (as := [.ref 6, .long (xL h1 10 (tn ((xI h (it + 9) (tn x1)) >>> (4 &&& 31))))]) (rest := []) o_46_67 rfl rfl (x_okd cl_46_30 ml_30 (Nat.le_of_ble_eq_true rfl) (Nat.le_of_ble_eq_true rfl)) (x_rc0 (ci := 4) (sk_6 (h := h1) sh1) mo_30) k ?_
        rintro v4 h3 ⟨sh3, ih3, k⟩
        refine e_is (ls' := [.ref 6, .int x1, .int ((xI h (it + 9) (tn x1)) >>> (4 &&& 31)), .int v2, .int v4]) o_46_70 (Nat.le_of_ble_eq_true rfl) rfl ?_
        refine e_il o_46_72 rfl ?_
        refine e_i0_3 o_46_73 (fun z => ?_) (fun z => ?_)
        · have k := k.1 z
          exact Ev.less (ls := [.ref 6, .int x1, .null, .int v2, .int v4]) ⟨Or.inr rfl, Or.inr rfl, Or.inl rfl, Or.inr rfl, Or.inr rfl, trivial⟩ k
        · have k := k.2 z
          refine e_il o_46_76 rfl ?_
          refine e_i0_3 o_46_78 (fun z => ?_) (fun z => ?_)
          · have k := k.1 z
            exact Ev.less (ls := [.ref 6, .int x1, .null, .int v2, .int v4]) ⟨Or.inr rfl, Or.inr rfl, Or.inl rfl, Or.inr rfl, Or.inr rfl, trivial⟩ k
          · have k := k.2 z
            refine e_al o_46_81 rfl ?_
            refine e_c 8 o_46_82 rfl ?_
            refine e_pI o_46_84 (sk_6 (h := h3) sh3) ?_
            refine e_al o_46_87 rfl ?_
            refine e_al o_46_88 rfl ?_
            refine e_gR (r := 9) o_46_89 (sk_6 (h := h3) sh3) (sr_6_11 (h := h3) sh3) (by decide) ?_
            refine e_il o_46_92 rfl ?_
            obtain ⟨q, k⟩ := k
            refine e_ia (n := 402) o_46_93 (sk_9 (h := h3) sh3) (sn_9 (h := h3) sh3) q ?_
            refine e_pI o_46_94 (sk_6 (h := h3) sh3) ?_
            exact Ev.less (ls := [.ref 6, .int x1, .null, .int v2, .int v4]) ⟨Or.inr rfl, Or.inr rfl, Or.inl rfl, Or.inr rfl, Or.inr rfl, trivial⟩ k
set_option maxHeartbeats 4000000 in
set_option maxRecDepth 100000 in
theorem B_46_97 {it : Nat} {x1 : Int32} {x3 : Int32} {x4 : Int32} {h : XH} {Q : Value → XH → Prop} (hs : Sh h) (hit : it = 14 ∨ it = 24) (hin : xR h 6 8 = it) (k : ((x3 < 0) → InB x1 512 ∧ (Ev 46 123 [.ref 6, .int x1, .null, .null, .null] [] (xsI h (it + 9) (tn x1) (((8 + x4) <<< (4 &&& 31)) ||| 1)) Q)) ∧ (¬ (x3 < 0) → InB x1 512 ∧ (Ev 46 123 [.ref 6, .int x1, .null, .null, .null] [] (xsI h (it + 9) (tn x1) ((x3 <<< (4 &&& 31)) ||| 1)) Q))) : Ev 46 97 [.ref 6, .int x1, .null, .int x3, .int x4] [] h Q := by
  refine e_al o_46_97 rfl ?_
  refine e_gR (r := it) o_46_98 (sk_6 (h := h) hs) (hin) (by rcases hit with q | q <;> omega) ?_
  refine e_gR (r := (it + 9)) o_46_101 (sc_k (h := h) hs hit) (sc_r17 (h := h) hs hit) (by omega) ?_
  refine e_il o_46_104 rfl ?_
  refine e_il o_46_105 rfl ?_
  refine e_i0_2 o_46_106 (fun z => ?_) (fun z => ?_)
  · have k := k.1 z
    refine e_c 8 o_46_113 rfl ?_
    refine e_il o_46_115 rfl ?_
    refine e_bin o_46_117 rfl ?_
    refine e_c 4 o_46_118 rfl ?_
    refine e_bin o_46_119 rfl ?_
    refine e_c 1 o_46_120 rfl ?_
    refine e_bin o_46_121 rfl ?_
    obtain ⟨q, k⟩ := k
    refine e_ias (n := 512) o_46_122 ((sc_a9 (h := h) hs hit).1) ((sc_a9 (h := h) hs hit).2.2) ((sc_a9 (h := h) hs hit).2.1) q ?_
    exact Ev.less (ls := [.ref 6, .int x1, .null, .null, .null]) ⟨Or.inr rfl, Or.inr rfl, Or.inl rfl, Or.inl rfl, Or.inl rfl, trivial⟩ k
  · have k := k.2 z
    refine e_il o_46_109 rfl ?_
    refine e_go o_46_110 ?_
    refine e_c 4 o_46_118 rfl ?_
    refine e_bin o_46_119 rfl ?_
    refine e_c 1 o_46_120 rfl ?_
    refine e_bin o_46_121 rfl ?_
    obtain ⟨q, k⟩ := k
    refine e_ias (n := 512) o_46_122 ((sc_a9 (h := h) hs hit).1) ((sc_a9 (h := h) hs hit).2.2) ((sc_a9 (h := h) hs hit).2.1) q ?_
    exact Ev.less (ls := [.ref 6, .int x1, .null, .null, .null]) ⟨Or.inr rfl, Or.inr rfl, Or.inl rfl, Or.inl rfl, Or.inl rfl, trivial⟩ k
set_option maxHeartbeats 4000000 in
set_option maxRecDepth 100000 in
theorem B_46_123 {it : Nat} {x1 : Int32} {h : XH} {Q : Value → XH → Prop} (hs : Sh h) (hit : it = 14 ∨ it = 24) (hin : xR h 6 8 = it) (k : Ev 46 2 [.ref 6, .int (x1 + 1), .null, .null, .null] [] h Q) : Ev 46 123 [.ref 6, .int x1, .null, .null, .null] [] h Q := by
  refine e_inc (ls' := [.ref 6, .int (x1 + 1), .null, .null, .null]) o_46_123 rfl rfl rfl ?_
  refine e_go o_46_126 ?_
  exact Ev.less (ls := [.ref 6, .int (x1 + 1), .null, .null, .null]) ⟨Or.inr rfl, Or.inr rfl, Or.inl rfl, Or.inl rfl, Or.inl rfl, trivial⟩ k
set_option maxHeartbeats 4000000 in
set_option maxRecDepth 100000 in
theorem B_46_129 {it : Nat} {h : XH} {Q : Value → XH → Prop} (hs : Sh h) (hit : it = 14 ∨ it = 24) (hin : xR h 6 8 = it) (k : Q .null h) : Ev 46 129 [.null, .null, .null, .null, .null] [] h Q := by
  exact e_ret0 o_46_129 k
set_option maxHeartbeats 4000000 in
set_option maxRecDepth 100000 in
theorem B_47_0 {it : Nat} {h : XH} {Q : Value → XH → Prop} (hs : Sh h) (hit : it = 14 ∨ it = 24) (hin : xR h 6 8 = it) (k : Ev 47 2 [.ref 6, .int 0, .null] [] h Q) : Ev 47 0 (x_ini 47 [.ref 6]) [] h Q := by
  rw [show x_ini 47 [.ref 6] = [.ref 6, .null, .null] from x_inid ml_47 rfl]
  refine e_c 0 o_47_0 rfl ?_
  refine e_is (ls' := [.ref 6, .int 0, .null]) o_47_1 (Nat.le_of_ble_eq_true rfl) rfl ?_
  exact Ev.less (ls := [.ref 6, .int 0, .null]) ⟨Or.inr rfl, Or.inr rfl, Or.inl rfl, trivial⟩ k
set_option maxHeartbeats 4000000 in
set_option maxRecDepth 100000 in
theorem B_47_2 {it : Nat} {x1 : Int32} {h : XH} {Q : Value → XH → Prop} (hs : Sh h) (hit : it = 14 ∨ it = 24) (hin : xR h 6 8 = it) (k : (((xI h it 1) ≤ x1) → Q .null h) ∧ (¬ ((xI h it 1) ≤ x1) → Ev 47 15 [.ref 6, .int x1, .int 0] [] h Q)) : Ev 47 2 [.ref 6, .int x1, .null] [] h Q := by
  refine e_il o_47_2 rfl ?_
  refine e_al o_47_3 rfl ?_
  refine e_gR (r := it) o_47_4 (sk_6 (h := h) hs) (hin) (by rcases hit with q | q <;> omega) ?_
  refine e_gI o_47_7 (sc_k (h := h) hs hit) ?_
  refine e_if_3 o_47_10 (fun z => ?_) (fun z => ?_)
  · have k := k.1 z
    exact e_ret0 o_47_76 k
  · have k := k.2 z
    refine e_c 0 o_47_13 rfl ?_
    refine e_is (ls' := [.ref 6, .int x1, .int 0]) o_47_14 (Nat.le_of_ble_eq_true rfl) rfl ?_
    exact Ev.less (ls := [.ref 6, .int x1, .int 0]) ⟨Or.inr rfl, Or.inr rfl, Or.inr rfl, trivial⟩ k
set_option maxHeartbeats 4000000 in
set_option maxRecDepth 100000 in
theorem B_47_15 {it : Nat} {x1 : Int32} {x2 : Int32} {h : XH} {Q : Value → XH → Prop} (hs : Sh h) (hit : it = 14 ∨ it = 24) (hin : xR h 6 8 = it) (k : InB x1 6 ∧ ((((xI h (it + 6) (tn x1)) ≤ x2) → Ev 47 2 [.ref 6, .int (x1 + 1), .null] [] h Q) ∧ (¬ ((xI h (it + 6) (tn x1)) ≤ x2) → InB ((x1 * 6) + x2) 36 ∧ (ClI 48 [.ref 6, .int (xI h (it + 8) (tn ((x1 * 6) + x2)))] h (fun v2 h1 => Sh h1 ∧ xR h1 6 8 = it ∧ (((v2 = 0) → Ev 47 15 [.ref 6, .int x1, .int (x2 + 1)] [] h1 Q) ∧ (¬ (v2 = 0) → InB x1 6 ∧ (InB x1 6 ∧ (Ev 47 15 [.ref 6, .int x1, .int (x2 + 1)] [] (xsI h1 (it + 7) (tn x1) ((xI h1 (it + 7) (tn x1)) ||| (1 <<< (x2 &&& 31)))) Q))))))))) : Ev 47 15 [.ref 6, .int x1, .int x2] [] h Q := by
  refine e_il o_47_15 rfl ?_
  refine e_al o_47_16 rfl ?_
  refine e_gR (r := it) o_47_17 (sk_6 (h := h) hs) (hin) (by rcases hit with q | q <;> omega) ?_
  refine e_gR (r := (it + 6)) o_47_20 (sc_k (h := h) hs hit) (sc_r14 (h := h) hs hit) (by omega) ?_
  refine e_il o_47_23 rfl ?_
  obtain ⟨q, k⟩ := k
  refine e_ia (n := 6) o_47_24 ((sc_a6 (h := h) hs hit).1) ((sc_a6 (h := h) hs hit).2.1) q ?_
  refine e_if_3 o_47_25 (fun z => ?_) (fun z => ?_)
  · have k := k.1 z
    refine e_inc (ls' := [.ref 6, .int (x1 + 1), .int x2]) o_47_70 rfl rfl rfl ?_
    refine e_go o_47_73 ?_
    exact Ev.less (ls := [.ref 6, .int (x1 + 1), .null]) ⟨Or.inr rfl, Or.inr rfl, Or.inl rfl, trivial⟩ k
  · have k := k.2 z
    refine e_al o_47_28 rfl ?_
    refine e_al o_47_29 rfl ?_
    refine e_gR (r := it) o_47_30 (sk_6 (h := h) hs) (hin) (by rcases hit with q | q <;> omega) ?_
    refine e_gR (r := (it + 8)) o_47_33 (sc_k (h := h) hs hit) (sc_r16 (h := h) hs hit) (by omega) ?_
    refine e_il o_47_36 rfl ?_
    refine e_c 6 o_47_37 rfl ?_
    refine e_bin o_47_39 rfl ?_
    refine e_il o_47_40 rfl ?_
    refine e_bin o_47_41 rfl ?_
    obtain ⟨q, k⟩ := k
    refine e_ia (n := 36) o_47_42 ((sc_a8 (h := h) hs hit).1) ((sc_a8 (h := h) hs hit).2.1) q ?_
    refine e_clI (as := [.ref 6, .int (xI h (it + 8) (tn ((x1 * 6) + x2)))]) (rest := []) o_47_43 rfl rfl (x_okd cl_47_48 ml_48 (Nat.le_of_ble_eq_true rfl) (Nat.le_of_ble_eq_true rfl)) (x_rc0 (ci := 4) (sk_6 (h := h) hs) mo_48) k ?_
    rintro v2 h1 ⟨sh1, ih1, k⟩
    refine e_i0_0 o_47_46 (fun z => ?_) (fun z => ?_)
    · have k := k.1 z
      refine e_inc (ls' := [.ref 6, .int x1, .int (x2 + 1)]) o_47_64 rfl rfl rfl ?_
      refine e_go o_47_67 ?_
      exact Ev.less (ls := [.ref 6, .int x1, .int (x2 + 1)]) ⟨Or.inr rfl, Or.inr rfl, Or.inr rfl, trivial⟩ k
    · have k := k.2 z
      refine e_al o_47_49 rfl ?_
      refine e_gR (r := it) o_47_50 (sk_6 (h := h1) sh1) (ih1) (by rcases hit with q | q <;> omega) ?_
      refine e_gR (r := (it + 7)) o_47_53 (sc_k (h := h1) sh1 hit) (sc_r15 (h := h1) sh1 hit) (by omega) ?_
      refine e_il o_47_56 rfl ?_
      refine e_dup2 o_47_57 ⟨rfl, rfl⟩ ?_
      obtain ⟨q, k⟩ := k
      refine e_ia (n := 6) o_47_58 ((sc_a7 (h := h1) sh1 hit).1) ((sc_a7 (h := h1) sh1 hit).2.1) q ?_
      refine e_c 1 o_47_59 rfl ?_
      refine e_il o_47_60 rfl ?_
      refine e_bin o_47_61 rfl ?_
      refine e_bin o_47_62 rfl ?_
      obtain ⟨q, k⟩ := k
      refine e_ias (n := 6) o_47_63 ((sc_a7 (h := h1) sh1 hit).1) ((sc_a7 (h := h1) sh1 hit).2.2) ((sc_a7 (h := h1) sh1 hit).2.1) q ?_
      refine e_inc (ls' := [.ref 6, .int x1, .int (x2 + 1)]) o_47_64 rfl rfl rfl ?_
      refine e_go o_47_67 ?_
      exact Ev.less (ls := [.ref 6, .int x1, .int (x2 + 1)]) ⟨Or.inr rfl, Or.inr rfl, Or.inr rfl, trivial⟩ k
set_option maxHeartbeats 4000000 in
set_option maxRecDepth 100000 in
theorem B_48_0 {it : Nat} {x1 : Int32} {h : XH} {Q : Value → XH → Prop} (hs : Sh h) (hit : it = 14 ∨ it = 24) (hin : xR h 6 8 = it) (k : Ev 48 2 [.ref 6, .null, .int x1, .null] [] h Q) : Ev 48 0 (x_ini 48 [.ref 6, .int x1]) [] h Q := by
  rw [show x_ini 48 [.ref 6, .int x1] = [.ref 6, .int x1, .null, .null] from x_inid ml_48 rfl]
  refine e_il o_48_0 rfl ?_
  refine e_is (ls' := [.ref 6, .int x1, .int x1, .null]) o_48_1 (Nat.le_of_ble_eq_true rfl) rfl ?_
  exact Ev.less (ls := [.ref 6, .null, .int x1, .null]) ⟨Or.inr rfl, Or.inl rfl, Or.inr rfl, Or.inl rfl, trivial⟩ k
set_option maxHeartbeats 4000000 in
set_option maxRecDepth 100000 in
theorem B_48_2 {it : Nat} {x2 : Int32} {h : XH} {Q : Value → XH → Prop} (hs : Sh h) (hit : it = 14 ∨ it = 24) (hin : xR h 6 8 = it) (k : ((x2 < 0) → Q (.int 0) h) ∧ (¬ (x2 < 0) → (((xI h it 7) ≤ x2) → Q (.int 0) h) ∧ (¬ ((xI h it 7) ≤ x2) → InB x2 512 ∧ ((((xI h (it + 9) (tn x2)) = 10) → Q (.int 0) h) ∧ (¬ ((xI h (it + 9) (tn x2)) = 10) → InB x2 512 ∧ (InB x2 512 ∧ (((¬ ((xI h (it + 9) (tn x2)) &&& 15) = 1) → Ev 48 2 [.ref 6, .null, .int (x2 + 1), .null] [] h Q) ∧ (¬ (¬ ((xI h (it + 9) (tn x2)) &&& 15) = 1) → ((((xI h (it + 9) (tn x2)) >>> (4 &&& 31)) < (8 : Int32)) → Ev 48 2 [.ref 6, .null, .int (x2 + 1), .null] [] h Q) ∧ (¬ (((xI h (it + 9) (tn x2)) >>> (4 &&& 31)) < (8 : Int32)) → (((14 : Int32) ≤ ((xI h (it + 9) (tn x2)) >>> (4 &&& 31))) → Ev 48 2 [.ref 6, .null, .int (x2 + 1), .null] [] h Q) ∧ (¬ ((14 : Int32) ≤ ((xI h (it + 9) (tn x2)) >>> (4 &&& 31))) → Q (.int 1) h)))))))))) : Ev 48 2 [.ref 6, .null, .int x2, .null] [] h Q := by
  refine e_il o_48_2 rfl ?_
  refine e_i0_2 o_48_3 (fun z => ?_) (fun z => ?_)
  · have k := k.1 z
    refine e_c 0 o_48_79 rfl ?_
    exact e_retZ o_48_80 (by decide) k
  · have k := k.2 z
    refine e_il o_48_6 rfl ?_
    refine e_al o_48_7 rfl ?_
    refine e_gR (r := it) o_48_8 (sk_6 (h := h) hs) (hin) (by rcases hit with q | q <;> omega) ?_
    refine e_gI o_48_11 (sc_k (h := h) hs hit) ?_
    refine e_if_3 o_48_14 (fun z => ?_) (fun z => ?_)
    · have k := k.1 z
      refine e_c 0 o_48_79 rfl ?_
      exact e_retZ o_48_80 (by decide) k
    · have k := k.2 z
      refine e_al o_48_17 rfl ?_
      refine e_gR (r := it) o_48_18 (sk_6 (h := h) hs) (hin) (by rcases hit with q | q <;> omega) ?_
      refine e_gR (r := (it + 9)) o_48_21 (sc_k (h := h) hs hit) (sc_r17 (h := h) hs hit) (by omega) ?_
      refine e_il o_48_24 rfl ?_
      obtain ⟨q, k⟩ := k
      refine e_ia (n := 512) o_48_25 ((sc_a9 (h := h) hs hit).1) ((sc_a9 (h := h) hs hit).2.1) q ?_
      refine e_c 10 o_48_26 rfl ?_
      refine e_if_0 o_48_28 (fun z => ?_) (fun z => ?_)
      · have k := k.1 z
        refine e_c 0 o_48_79 rfl ?_
        exact e_retZ o_48_80 (by decide) k
      · have k := k.2 z
        refine e_al o_48_31 rfl ?_
        refine e_gR (r := it) o_48_32 (sk_6 (h := h) hs) (hin) (by rcases hit with q | q <;> omega) ?_
        refine e_gR (r := (it + 9)) o_48_35 (sc_k (h := h) hs hit) (sc_r17 (h := h) hs hit) (by omega) ?_
        refine e_il o_48_38 rfl ?_
        obtain ⟨q, k⟩ := k
        refine e_ia (n := 512) o_48_39 ((sc_a9 (h := h) hs hit).1) ((sc_a9 (h := h) hs hit).2.1) q ?_
        refine e_c 4 o_48_40 rfl ?_
        refine e_bin o_48_41 rfl ?_
        refine e_is (ls' := [.ref 6, .null, .int x2, .int ((xI h (it + 9) (tn x2)) >>> (4 &&& 31))]) o_48_42 (Nat.le_of_ble_eq_true rfl) rfl ?_
        refine e_al o_48_43 rfl ?_
        refine e_gR (r := it) o_48_44 (sk_6 (h := h) hs) (hin) (by rcases hit with q | q <;> omega) ?_
        refine e_gR (r := (it + 9)) o_48_47 (sc_k (h := h) hs hit) (sc_r17 (h := h) hs hit) (by omega) ?_
        refine e_il o_48_50 rfl ?_
        obtain ⟨q, k⟩ := k
        refine e_ia (n := 512) o_48_51 ((sc_a9 (h := h) hs hit).1) ((sc_a9 (h := h) hs hit).2.1) q ?_
        refine e_c 15 o_48_52 rfl ?_
        refine e_bin o_48_54 rfl ?_
        refine e_c 1 o_48_55 rfl ?_
        refine e_if_1 o_48_56 (fun z => ?_) (fun z => ?_)
        · have k := k.1 z
          refine e_inc (ls' := [.ref 6, .null, .int (x2 + 1), .int ((xI h (it + 9) (tn x2)) >>> (4 &&& 31))]) o_48_73 rfl rfl rfl ?_
          refine e_go o_48_76 ?_
          exact Ev.less (ls := [.ref 6, .null, .int (x2 + 1), .null]) ⟨Or.inr rfl, Or.inl rfl, Or.inr rfl, Or.inl rfl, trivial⟩ k
        · have k := k.2 z
          refine e_il o_48_59 rfl ?_
          refine e_c 8 o_48_60 rfl ?_
          refine e_if_2 o_48_62 (fun z => ?_) (fun z => ?_)
          · have k := k.1 z
            refine e_inc (ls' := [.ref 6, .null, .int (x2 + 1), .int ((xI h (it + 9) (tn x2)) >>> (4 &&& 31))]) o_48_73 rfl rfl rfl ?_
            refine e_go o_48_76 ?_
            exact Ev.less (ls := [.ref 6, .null, .int (x2 + 1), .null]) ⟨Or.inr rfl, Or.inl rfl, Or.inr rfl, Or.inl rfl, trivial⟩ k
          · have k := k.2 z
            refine e_il o_48_65 rfl ?_
            refine e_c 14 o_48_66 rfl ?_
            refine e_if_3 o_48_68 (fun z => ?_) (fun z => ?_)
            · have k := k.1 z
              refine e_inc (ls' := [.ref 6, .null, .int (x2 + 1), .int ((xI h (it + 9) (tn x2)) >>> (4 &&& 31))]) o_48_73 rfl rfl rfl ?_
              refine e_go o_48_76 ?_
              exact Ev.less (ls := [.ref 6, .null, .int (x2 + 1), .null]) ⟨Or.inr rfl, Or.inl rfl, Or.inr rfl, Or.inl rfl, trivial⟩ k
            · have k := k.2 z
              refine e_c 1 o_48_71 rfl ?_
              exact e_retZ o_48_72 (by decide) k
set_option maxHeartbeats 4000000 in
set_option maxRecDepth 100000 in
theorem B_49_0 {it : Nat} {h : XH} {Q : Value → XH → Prop} (hs : Sh h) (hit : it = 14 ∨ it = 24) (hin : xR h 6 8 = it) (k : Ev 49 2 [.ref 6, .int 0] [] h Q) : Ev 49 0 (x_ini 49 [.ref 6]) [] h Q := by
  rw [show x_ini 49 [.ref 6] = [.ref 6, .null] from x_inid ml_49 rfl]
  refine e_c 0 o_49_0 rfl ?_
  refine e_is (ls' := [.ref 6, .int 0]) o_49_1 (Nat.le_of_ble_eq_true rfl) rfl ?_
  exact Ev.less (ls := [.ref 6, .int 0]) ⟨Or.inr rfl, Or.inr rfl, trivial⟩ k
set_option maxHeartbeats 4000000 in
set_option maxRecDepth 100000 in
theorem B_49_2 {it : Nat} {x1 : Int32} {h : XH} {Q : Value → XH → Prop} (hs : Sh h) (hit : it = 14 ∨ it = 24) (hin : xR h 6 8 = it) (k : (((xI h it 7) ≤ x1) → Q (.int 0) h) ∧ (¬ ((xI h it 7) ≤ x1) → InB x1 512 ∧ (((¬ (xI h (it + 9) (tn x1)) = 225) → Ev 49 2 [.ref 6, .int (x1 + 1)] [] h Q) ∧ (¬ (¬ (xI h (it + 9) (tn x1)) = 225) → Q (.int 1) h)))) : Ev 49 2 [.ref 6, .int x1] [] h Q := by
  refine e_il o_49_2 rfl ?_
  refine e_al o_49_3 rfl ?_
  refine e_gR (r := it) o_49_4 (sk_6 (h := h) hs) (hin) (by rcases hit with q | q <;> omega) ?_
  refine e_gI o_49_7 (sc_k (h := h) hs hit) ?_
  refine e_if_3 o_49_10 (fun z => ?_) (fun z => ?_)
  · have k := k.1 z
    refine e_c 0 o_49_36 rfl ?_
    exact e_retZ o_49_37 (by decide) k
  · have k := k.2 z
    refine e_al o_49_13 rfl ?_
    refine e_gR (r := it) o_49_14 (sk_6 (h := h) hs) (hin) (by rcases hit with q | q <;> omega) ?_
    refine e_gR (r := (it + 9)) o_49_17 (sc_k (h := h) hs hit) (sc_r17 (h := h) hs hit) (by omega) ?_
    refine e_il o_49_20 rfl ?_
    obtain ⟨q, k⟩ := k
    refine e_ia (n := 512) o_49_21 ((sc_a9 (h := h) hs hit).1) ((sc_a9 (h := h) hs hit).2.1) q ?_
    refine e_c 225 o_49_22 rfl ?_
    refine e_if_1 o_49_25 (fun z => ?_) (fun z => ?_)
    · have k := k.1 z
      refine e_inc (ls' := [.ref 6, .int (x1 + 1)]) o_49_30 rfl rfl rfl ?_
      refine e_go o_49_33 ?_
      exact Ev.less (ls := [.ref 6, .int (x1 + 1)]) ⟨Or.inr rfl, Or.inr rfl, trivial⟩ k
    · have k := k.2 z
      refine e_c 1 o_49_28 rfl ?_
      exact e_retZ o_49_29 (by decide) k
