set_option maxHeartbeats 4000000 in
set_option maxRecDepth 100000 in
theorem B_187_0 {x1 : Int32} {h : XH} {Q : Value → XH → Prop} (hs : Sh h) (k : (((xI h 69 13) ≤ 0) → InB (xI (xsI h 69 13 x1) 69 11) 403 ∧ (Q .null (xsI (xsI h 69 13 x1) 69 14 (xI (xsI h 69 13 x1) 73 (tn (xI (xsI h 69 13 x1) 69 11)))))) ∧ (¬ ((xI h 69 13) ≤ 0) → Q .null h)) : Ev 187 0 (x_ini 187 [.ref 69, .int x1]) [] h Q := by
  rw [show x_ini 187 [.ref 69, .int x1] = [.ref 69, .int x1] from x_inid ml_187 rfl]
  refine e_al o_187_0 rfl ?_
  refine e_gI o_187_1 (sk_69 (h := h) hs) ?_
  refine e_i0_5 o_187_4 (fun z => ?_) (fun z => ?_)
  · have k := k.1 z
    refine e_al o_187_8 rfl ?_
    refine e_il o_187_9 rfl ?_
    refine e_pI o_187_10 (sk_69 (h := h) hs) ?_
    refine e_al o_187_13 rfl ?_
    refine e_al o_187_14 rfl ?_
    refine e_gR (r := 73) o_187_15 (sk_69 (h := h) hs) (sr_69_6 (h := h) hs) (by decide) ?_
    refine e_al o_187_18 rfl ?_
    refine e_gI o_187_19 (sk_69 (h := h) hs) ?_
    obtain ⟨q, k⟩ := k
    refine e_ia (n := 403) o_187_22 (sk_73 (h := h) hs) (sn_73 (h := h) hs) q ?_
    refine e_pI o_187_23 (sk_69 (h := h) hs) ?_
    exact e_ret0 o_187_26 k
  · have k := k.2 z
    exact e_ret0 o_187_7 k
set_option maxHeartbeats 4000000 in
set_option maxRecDepth 100000 in
theorem B_188_0  {h : XH} {Q : Value → XH → Prop} (hs : Sh h) (k : InB (xI h 69 19) 2 ∧ (ClI 189 [.ref 69] h (fun v2 h1 => Sh h1 ∧ (ClI 193 [.ref 69, .int 1, .int 3] h1 (fun v4 h3 => Sh h3 ∧ (((3 ≤ v4) → ClI 193 [.ref 69, .int 0, .int 3] h3 (fun v6 h5 => Sh h5 ∧ (InB ((8 * (xI h 69 19)) + (xI h 79 (tn (xI h 69 19)))) 16 ∧ (ClI 185 [.ref 69, .int 32] (xsI h5 82 (tn ((8 * (xI h 69 19)) + (xI h 79 (tn (xI h 69 19))))) 0) (fun v8 h7 => Sh h7 ∧ (((¬ v8 = 0) → Ev 188 80 [.ref 69, .int ((8 * (xI h 69 19)) + (xI h 79 (tn (xI h 69 19)))), .int v2, .int (xI h1 69 11), .int v4, .int v6] [] h7 Q) ∧ (¬ (¬ v8 = 0) → ClI 185 [.ref 69, .int 33] h7 (fun v10 h9 => Sh h9 ∧ (((v10 = 0) → Ev 188 104 [.ref 69, .int ((8 * (xI h 69 19)) + (xI h 79 (tn (xI h 69 19)))), .int v2, .int (xI h1 69 11), .int v4, .int v6] [] h9 Q) ∧ (¬ (v10 = 0) → Ev 188 80 [.ref 69, .int ((8 * (xI h 69 19)) + (xI h 79 (tn (xI h 69 19)))), .int v2, .int (xI h1 69 11), .int v4, .int v6] [] h9 Q)))))))))) ∧ (¬ (3 ≤ v4) → ClI 193 [.ref 69, .int 0, .int v4] h3 (fun v12 h11 => Sh h11 ∧ (InB ((8 * (xI h 69 19)) + (xI h 79 (tn (xI h 69 19)))) 16 ∧ (ClI 185 [.ref 69, .int 32] (xsI h11 82 (tn ((8 * (xI h 69 19)) + (xI h 79 (tn (xI h 69 19))))) 0) (fun v14 h13 => Sh h13 ∧ (((¬ v14 = 0) → Ev 188 80 [.ref 69, .int ((8 * (xI h 69 19)) + (xI h 79 (tn (xI h 69 19)))), .int v2, .int (xI h1 69 11), .int v4, .int v12] [] h13 Q) ∧ (¬ (¬ v14 = 0) → ClI 185 [.ref 69, .int 33] h13 (fun v16 h15 => Sh h15 ∧ (((v16 = 0) → Ev 188 104 [.ref 69, .int ((8 * (xI h 69 19)) + (xI h 79 (tn (xI h 69 19)))), .int v2, .int (xI h1 69 11), .int v4, .int v12] [] h15 Q) ∧ (¬ (v16 = 0) → Ev 188 80 [.ref 69, .int ((8 * (xI h 69 19)) + (xI h 79 (tn (xI h 69 19)))), .int v2, .int (xI h1 69 11), .int v4, .int v12] [] h15 Q)))))))))))))))) : Ev 188 0 (x_ini 188 [.ref 69]) [] h Q := by
  rw [show x_ini 188 [.ref 69] = [.ref 69, .null, .null, .null, .null, .null] from x_inid ml_188 rfl]
  refine e_c 8 o_188_0 rfl ?_
  refine e_al o_188_2 rfl ?_
  refine e_gI o_188_3 (sk_69 (h := h) hs) ?_
  refine e_bin o_188_6 rfl ?_
  refine e_al o_188_7 rfl ?_
  refine e_gR (r := 79) o_188_8 (sk_69 (h := h) hs) (sr_69_23 (h := h) hs) (by decide) ?_
  refine e_al o_188_11 rfl ?_
  refine e_gI o_188_12 (sk_69 (h := h) hs) ?_
  obtain ⟨q, k⟩ := k
  refine e_ia (n := 2) o_188_15 (sk_79 (h := h) hs) (sn_79 (h := h) hs) q ?_
  refine e_bin o_188_16 rfl ?_
  refine e_is (ls' := [.ref 69, .int ((8 * (xI h 69 19)) + (xI h 79 (tn (xI h 69 19)))), .null, .null, .null, .null]) o_188_17 (Nat.le_of_ble_eq_true rfl) rfl ?_
  refine e_al o_188_18 rfl ?_
  refine e_clI (as := [.ref 69]) (rest := []) o_188_19 rfl rfl (x_okd cl_188_189 ml_189 (Nat.le_of_ble_eq_true rfl) (Nat.le_of_ble_eq_true rfl)) (x_rc0 (ci := 9) (sk_69 (h := h) hs) mo_189) k ?_
  rintro v2 h1 ⟨sh1, k⟩
  refine e_is (ls' := [.ref 69, .int ((8 * (xI h 69 19)) + (xI h 79 (tn (xI h 69 19)))), .int v2, .null, .null, .null]) o_188_22 (Nat.le_of_ble_eq_true rfl) rfl ?_
  refine e_al o_188_23 rfl ?_
  refine e_gI o_188_24 (sk_69 (h := h1) sh1) ?_
  refine e_is (ls' := [.ref 69, .int ((8 * (xI h 69 19)) + (xI h 79 (tn (xI h 69 19)))), .int v2, .int (xI h1 69 11), .null, .null]) o_188_27 (Nat.le_of_ble_eq_true rfl) rfl ?_
  refine e_al o_188_28 rfl ?_
  refine e_c 1 o_188_29 rfl ?_
  refine e_c 3 o_188_30 rfl ?_
  refine e_clI (as := [.ref 69, .int 1, .int 3]) (rest := []) o_188_31 rfl rfl (x_okd cl_188_193 ml_193 (Nat.le_of_ble_eq_true rfl) (Nat.le_of_ble_eq_true rfl)) (x_rc0 (ci := 9) (sk_69 (h := h1) sh1) mo_193) k ?_
  rintro v4 h3 ⟨sh3, k⟩
  refine e_is (ls' := [.ref 69, .int ((8 * (xI h 69 19)) + (xI h 79 (tn (xI h 69 19)))), .int v2, .int (xI h1 69 11), .int v4, .null]) o_188_34 (Nat.le_of_ble_eq_true rfl) rfl ?_
  refine e_al o_188_36 rfl ?_
  refine e_c 0 o_188_37 rfl ?_
  refine e_il o_188_38 rfl ?_
  refine e_c 3 o_188_40 rfl ?_
  refine e_if_3 o_188_41 (fun z => ?_) (fun z => ?_)
  · have k := k.1 z
    refine e_c 3 o_188_49 rfl ?_
    refine e_clI (as := [.ref 69, .int 0, .int 3]) (rest := []) o_188_50 rfl rfl (x_okd cl_188_193 ml_193 (Nat.le_of_ble_eq_true rfl) (Nat.le_of_ble_eq_true rfl)) (x_rc0 (ci := 9) (sk_69 (h := h3) sh3) mo_193) k ?_
    rintro v6 h5 ⟨sh5, k⟩
    refine e_is (ls' := [.ref 69, .int ((8 * (xI h 69 19)) + (xI h 79 (tn (xI h 69 19)))), .int v2, .int (xI h1 69 11), .int v4, .int v6]) o_188_53 (Nat.le_of_ble_eq_true rfl) rfl ?_
    refine e_al o_188_55 rfl ?_
    refine e_gR (r := 82) o_188_56 (sk_69 (h := h5) sh5) (sr_69_26 (h := h5) sh5) (by decide) ?_
    refine e_il o_188_59 rfl ?_
    refine e_c 0 o_188_60 rfl ?_
    obtain ⟨q, k⟩ := k
    refine e_ias (n := 16) o_188_61 (sk_82 (h := h5) sh5) (by decide) (sn_82 (h := h5) sh5) q ?_
    refine e_al o_188_62 rfl ?_
    refine e_c 32 o_188_63 rfl ?_
    refine e_clI (as := [.ref 69, .int 32]) (rest := []) o_188_65 rfl rfl (x_okd cl_188_185 ml_185 (Nat.le_of_ble_eq_true rfl) (Nat.le_of_ble_eq_true rfl)) (x_rc0 (ci := 9) (sk_69 (h := h5) sh5) mo_185) k ?_
    rintro v8 h7 ⟨sh7, k⟩
    refine e_i0_1 o_188_68 (fun z => ?_) (fun z => ?_)
    · have k := k.1 z
      exact Ev.less (ls := [.ref 69, .int ((8 * (xI h 69 19)) + (xI h 79 (tn (xI h 69 19)))), .int v2, .int (xI h1 69 11), .int v4, .int v6]) ⟨Or.inr rfl, Or.inr rfl, Or.inr rfl, Or.inr rfl, Or.inr rfl, Or.inr rfl, trivial⟩ k
    · have k := k.2 z
      refine e_al o_188_71 rfl ?_
      refine e_c 33 o_188_72 rfl ?_
      refine e_clI (as := [.ref 69, .int 33]) (rest := []) o_188_74 rfl rfl (x_okd cl_188_185 ml_185 (Nat.le_of_ble_eq_true rfl) (Nat.le_of_ble_eq_true rfl)) (x_rc0 (ci := 9) (sk_69 (h := h7) sh7) mo_185) k ?_
      rintro v10 h9 ⟨sh9, k⟩
      refine e_i0_0 o_188_77 (fun z => ?_) (fun z => ?_)
      · have k := k.1 z
        exact Ev.less (ls := [.ref 69, .int ((8 * (xI h 69 19)) + (xI h 79 (tn (xI h 69 19)))), .int v2, .int (xI h1 69 11), .int v4, .int v6]) ⟨Or.inr rfl, Or.inr rfl, Or.inr rfl, Or.inr rfl, Or.inr rfl, Or.inr rfl, trivial⟩ k
      · have k := k.2 z
        exact Ev.less (ls := [.ref 69, .int ((8 * (xI h 69 19)) + (xI h 79 (tn (xI h 69 19)))), .int v2, .int (xI h1 69 11), .int v4, .int v6]) ⟨Or.inr rfl, Or.inr rfl, Or.inr rfl, Or.inr rfl, Or.inr rfl, Or.inr rfl, trivial⟩ k
  · have k := k.2 z
    refine e_il o_188_44 rfl ?_
    refine e_go o_188_46 ?_
    refine e_clI (as := [.ref 69, .int 0, .int v4]) (rest := []) o_188_50 rfl rfl (x_okd cl_188_193 ml_193 (Nat.le_of_ble_eq_true rfl) (Nat.le_of_ble_eq_true rfl)) (x_rc0 (ci := 9) (sk_69 (h := h3) sh3) mo_193) k ?_
    rintro v12 h11 ⟨sh11, k⟩
    refine e_is (ls' := [.ref 69, .int ((8 * (xI h 69 19)) + (xI h 79 (tn (xI h 69 19)))), .int v2, .int (xI h1 69 11), .int v4, .int v12]) o_188_53 (Nat.le_of_ble_eq_true rfl) rfl ?_
    refine e_al o_188_55 rfl ?_
    refine e_gR (r := 82) o_188_56 (sk_69 (h := h11) sh11) (sr_69_26 (h := h11) sh11) (by decide) ?_
    refine e_il o_188_59 rfl ?_
    refine e_c 0 o_188_60 rfl ?_
    obtain ⟨q, k⟩ := k
    refine e_ias (n := 16) o_188_61 (sk_82 (h := h11) sh11) (by decide) (sn_82 (h := h11) sh11) q ?_
    refine e_al o_188_62 rfl ?_
    refine e_c 32 o_188_63 rfl ?_
    refine e_clI (as := [.ref 69, .int 32]) (rest := []) o_188_65 rfl rfl (x_okd cl_188_185 ml_185 (Nat.le_of_ble_eq_true rfl) (Nat.le_of_ble_eq_true rfl)) (x_rc0 (ci := 9) (sk_69 (h := h11) sh11) mo_185) k ?_
    rintro v14 h13 ⟨sh13, k⟩
    refine e_i0_1 o_188_68 (fun z => ?_) (fun z => ?_)
    · have k := k.1 z
      exact Ev.less (ls := [.ref 69, .int ((8 * (xI h 69 19)) + (xI h 79 (tn (xI h 69 19)))), .int v2, .int (xI h1 69 11), .int v4, .int v12]) ⟨Or.inr rfl, Or.inr rfl, Or.inr rfl, Or.inr rfl, Or.inr rfl, Or.inr rfl, trivial⟩ k
    · have k := k.2 z
      refine e_al o_188_71 rfl ?_
      refine e_c 33 o_188_72 rfl ?_
      refine e_clI (as := [.ref 69, .int 33]) (rest := []) o_188_74 rfl rfl (x_okd cl_188_185 ml_185 (Nat.le_of_ble_eq_true rfl) (Nat.le_of_ble_eq_true rfl)) (x_rc0 (ci := 9) (sk_69 (h := h13) sh13) mo_185) k ?_
      rintro v16 h15 ⟨sh15, k⟩
      refine e_i0_0 o_188_77 (fun z => ?_) (fun z => ?_)
      · have k := k.1 z
        exact Ev.less (ls := [.ref 69, .int ((8 * (xI h 69 19)) + (xI h 79 (tn (xI h 69 19)))), .int v2, .int (xI h1 69 11), .int v4, .int v12]) ⟨Or.inr rfl, Or.inr rfl, Or.inr rfl, Or.inr rfl, Or.inr rfl, Or.inr rfl, trivial⟩ k
      · have k := k.2 z
        exact Ev.less (ls := [.ref 69, .int ((8 * (xI h 69 19)) + (xI h 79 (tn (xI h 69 19)))), .int v2, .int (xI h1 69 11), .int v4, .int v12]) ⟨Or.inr rfl, Or.inr rfl, Or.inr rfl, Or.inr rfl, Or.inr rfl, Or.inr rfl, trivial⟩ k
set_option maxHeartbeats 4000000 in
set_option maxRecDepth 100000 in
theorem B_188_80 {x1 : Int32} {x2 : Int32} {x3 : Int32} {x4 : Int32} {x5 : Int32} {h : XH} {Q : Value → XH → Prop} (hs : Sh h) (k : ClI 185 [.ref 69, .int 32] h (fun v2 h1 => Sh h1 ∧ (((v2 = 0) → InB x1 16 ∧ (ClV 190 [.ref 69] (xsI h1 82 (tn x1) 2) (fun h3 => Sh h3 ∧ (Ev 188 104 [.ref 69, .int x1, .int x2, .int x3, .int x4, .int x5] [] h3 Q)))) ∧ (¬ (v2 = 0) → InB x1 16 ∧ (ClV 190 [.ref 69] (xsI h1 82 (tn x1) 1) (fun h5 => Sh h5 ∧ (Ev 188 104 [.ref 69, .int x1, .int x2, .int x3, .int x4, .int x5] [] h5 Q))))))) : Ev 188 80 [.ref 69, .int x1, .int x2, .int x3, .int x4, .int x5] [] h Q := by
  refine e_al o_188_80 rfl ?_
  refine e_gR (r := 82) o_188_81 (sk_69 (h := h) hs) (sr_69_26 (h := h) hs) (by decide) ?_
  refine e_il o_188_84 rfl ?_
  refine e_al o_188_85 rfl ?_
  refine e_c 32 o_188_86 rfl ?_
  refine e_clI (as := [.ref 69, .int 32]) (rest := [.int x1, .ref 82]) o_188_88 rfl rfl (x_okd cl_188_185 ml_185 (Nat.le_of_ble_eq_true rfl) (Nat.le_of_ble_eq_true rfl)) (x_rc0 (ci := 9) (sk_69 (h := h) hs) mo_185) k ?_
  rintro v2 h1 ⟨sh1, k⟩
  refine e_i0_0 o_188_91 (fun z => ?_) (fun z => ?_)
  · have k := k.1 z
    refine e_c 2 o_188_98 rfl ?_
    obtain ⟨q, k⟩ := k
    refine e_ias (n := 16) o_188_99 (sk_82 (h := h1) sh1) (by decide) (sn_82 (h := h1) sh1) q ?_
    refine e_al o_188_100 rfl ?_
    refine e_clV (as := [.ref 69]) (rest := []) o_188_101 rfl rfl (x_okd cl_188_190 ml_190 (Nat.le_of_ble_eq_true rfl) (Nat.le_of_ble_eq_true rfl)) (x_rc0 (ci := 9) (sk_69 (h := h1) sh1) mo_190) k ?_
    rintro h3 ⟨sh3, k⟩
    exact Ev.less (ls := [.ref 69, .int x1, .int x2, .int x3, .int x4, .int x5]) ⟨Or.inr rfl, Or.inr rfl, Or.inr rfl, Or.inr rfl, Or.inr rfl, Or.inr rfl, trivial⟩ k
  · have k := k.2 z
    refine e_c 1 o_188_94 rfl ?_
    refine e_go o_188_95 ?_
    obtain ⟨q, k⟩ := k
    refine e_ias (n := 16) o_188_99 (sk_82 (h := h1) sh1) (by decide) (sn_82 (h := h1) sh1) q ?_
    refine e_al o_188_100 rfl ?_
    refine e_clV (as := [.ref 69]) (rest := []) o_188_101 rfl rfl (x_okd cl_188_190 ml_190 (Nat.le_of_ble_eq_true rfl) (Nat.le_of_ble_eq_true rfl)) (x_rc0 (ci := 9) (sk_69 (h := h1) sh1) mo_190) k ?_
    rintro h5 ⟨sh5, k⟩
    exact Ev.less (ls := [.ref 69, .int x1, .int x2, .int x3, .int x4, .int x5]) ⟨Or.inr rfl, Or.inr rfl, Or.inr rfl, Or.inr rfl, Or.inr rfl, Or.inr rfl, trivial⟩ k
set_option maxHeartbeats 4000000 in
set_option maxRecDepth 100000 in
theorem B_188_104 {x1 : Int32} {x2 : Int32} {x3 : Int32} {x4 : Int32} {x5 : Int32} {h : XH} {Q : Value → XH → Prop} (hs : Sh h) (k : ClV 191 [.ref 69, .int 4] h (fun h1 => Sh h1 ∧ ((((xI h1 69 13) ≤ 0) → ((x4 ≤ 0) → Ev 188 174 [.ref 69, .int x1, .int x2, .null, .int x4, .int x5] [] h1 Q) ∧ (¬ (x4 ≤ 0) → ((4 ≤ x4) → Ev 188 174 [.ref 69, .int x1, .int x2, .null, .int x4, .int x5] [] h1 Q) ∧ (¬ (4 ≤ x4) → InB (xI h1 69 19) 2 ∧ (((((xI h1 83 (tn (xI h1 69 19))) * (x4 + 1)) ≤ 2000) → InB (xI h1 69 19) 2 ∧ (InB (xI h1 69 19) 2 ∧ (Ev 188 174 [.ref 69, .int x1, .int x2, .null, .int x4, .int x5] [] (xsI h1 83 (tn (xI h1 69 19)) ((xI h1 83 (tn (xI h1 69 19))) * (x4 + 1))) Q))) ∧ (¬ (((xI h1 83 (tn (xI h1 69 19))) * (x4 + 1)) ≤ 2000) → ClV 192 [.ref 69, .int 7, .int x3] h1 (fun h3 => Sh h3 ∧ (Ev 188 174 [.ref 69, .int x1, .int x2, .null, .int x4, .int x5] [] h3 Q))))))) ∧ (¬ ((xI h1 69 13) ≤ 0) → Q .null h1)))) : Ev 188 104 [.ref 69, .int x1, .int x2, .int x3, .int x4, .int x5] [] h Q := by
  refine e_al o_188_104 rfl ?_
  refine e_c 4 o_188_105 rfl ?_
  refine e_clV (as := [.ref 69, .int 4]) (rest := []) o_188_106 rfl rfl (x_okd cl_188_191 ml_191 (Nat.le_of_ble_eq_true rfl) (Nat.le_of_ble_eq_true rfl)) (x_rc0 (ci := 9) (sk_69 (h := h) hs) mo_191) k ?_
  rintro h1 ⟨sh1, k⟩
  refine e_al o_188_109 rfl ?_
  refine e_gI o_188_110 (sk_69 (h := h1) sh1) ?_
  refine e_i0_5 o_188_113 (fun z => ?_) (fun z => ?_)
  · have k := k.1 z
    refine e_il o_188_117 rfl ?_
    refine e_i0_5 o_188_119 (fun z => ?_) (fun z => ?_)
    · have k := k.1 z
      exact Ev.less (ls := [.ref 69, .int x1, .int x2, .null, .int x4, .int x5]) ⟨Or.inr rfl, Or.inr rfl, Or.inr rfl, Or.inl rfl, Or.inr rfl, Or.inr rfl, trivial⟩ k
    · have k := k.2 z
      refine e_il o_188_122 rfl ?_
      refine e_c 4 o_188_124 rfl ?_
      refine e_if_3 o_188_125 (fun z => ?_) (fun z => ?_)
      · have k := k.1 z
        exact Ev.less (ls := [.ref 69, .int x1, .int x2, .null, .int x4, .int x5]) ⟨Or.inr rfl, Or.inr rfl, Or.inr rfl, Or.inl rfl, Or.inr rfl, Or.inr rfl, trivial⟩ k
      · have k := k.2 z
        refine e_al o_188_128 rfl ?_
        refine e_gR (r := 83) o_188_129 (sk_69 (h := h1) sh1) (sr_69_27 (h := h1) sh1) (by decide) ?_
        refine e_al o_188_132 rfl ?_
        refine e_gI o_188_133 (sk_69 (h := h1) sh1) ?_
        obtain ⟨q, k⟩ := k
        refine e_ia (n := 2) o_188_136 (sk_83 (h := h1) sh1) (sn_83 (h := h1) sh1) q ?_
        refine e_il o_188_137 rfl ?_
        refine e_c 1 o_188_139 rfl ?_
        refine e_bin o_188_140 rfl ?_
        refine e_bin o_188_141 rfl ?_
        refine e_c 2000 o_188_142 rfl ?_
        refine e_if_5 o_188_145 (fun z => ?_) (fun z => ?_)
        · have k := k.1 z
          refine e_al o_188_158 rfl ?_
          refine e_gR (r := 83) o_188_159 (sk_69 (h := h1) sh1) (sr_69_27 (h := h1) sh1) (by decide) ?_
          refine e_al o_188_162 rfl ?_
          refine e_gI o_188_163 (sk_69 (h := h1) sh1) ?_
          refine e_dup2 o_188_166 ⟨rfl, rfl⟩ ?_
          obtain ⟨q, k⟩ := k
          refine e_ia (n := 2) o_188_167 (sk_83 (h := h1) sh1) (sn_83 (h := h1) sh1) q ?_
          refine e_il o_188_168 rfl ?_
          refine e_c 1 o_188_170 rfl ?_
          refine e_bin o_188_171 rfl ?_
          refine e_bin o_188_172 rfl ?_
          obtain ⟨q, k⟩ := k
          refine e_ias (n := 2) o_188_173 (sk_83 (h := h1) sh1) (by decide) (sn_83 (h := h1) sh1) q ?_
          exact Ev.less (ls := [.ref 69, .int x1, .int x2, .null, .int x4, .int x5]) ⟨Or.inr rfl, Or.inr rfl, Or.inr rfl, Or.inl rfl, Or.inr rfl, Or.inr rfl, trivial⟩ k
        · have k := k.2 z
          refine e_al o_188_148 rfl ?_
          refine e_c 7 o_188_149 rfl ?_
          refine e_il o_188_151 rfl ?_
          refine e_clV (as := [.ref 69, .int 7, .int x3]) (rest := []) o_188_152 rfl rfl (x_okd cl_188_192 ml_192 (Nat.le_of_ble_eq_true rfl) (Nat.le_of_ble_eq_true rfl)) (x_rc0 (ci := 9) (sk_69 (h := h1) sh1) mo_192) k ?_
          rintro h3 ⟨sh3, k⟩
          refine e_go o_188_155 ?_
          exact Ev.less (ls := [.ref 69, .int x1, .int x2, .null, .int x4, .int x5]) ⟨Or.inr rfl, Or.inr rfl, Or.inr rfl, Or.inl rfl, Or.inr rfl, Or.inr rfl, trivial⟩ k
  · have k := k.2 z
    exact e_ret0 o_188_116 k
set_option maxHeartbeats 4000000 in
set_option maxRecDepth 100000 in
theorem B_188_174 {x1 : Int32} {x2 : Int32} {x4 : Int32} {x5 : Int32} {h : XH} {Q : Value → XH → Prop} (hs : Sh h) (k : InB x1 16 ∧ (InB x1 16 ∧ (InB (xI (xsI (xsI h 80 (tn x1) x4) 81 (tn x1) x5) 69 19) 2 ∧ (ClV 194 [.ref 69, .int x2, .int (xI (xsI (xsI h 80 (tn x1) x4) 81 (tn x1) x5) 79 (tn (xI (xsI (xsI h 80 (tn x1) x4) 81 (tn x1) x5) 69 19)))] (xsI (xsI h 80 (tn x1) x4) 81 (tn x1) x5) (fun h1 => Sh h1 ∧ (InB (xI h1 69 19) 2 ∧ (InB (xI h1 69 19) 2 ∧ (Q .null (xsI h1 79 (tn (xI h1 69 19)) ((xI h1 79 (tn (xI h1 69 19))) + 1)))))))))) : Ev 188 174 [.ref 69, .int x1, .int x2, .null, .int x4, .int x5] [] h Q := by
  refine e_al o_188_174 rfl ?_
  refine e_gR (r := 80) o_188_175 (sk_69 (h := h) hs) (sr_69_24 (h := h) hs) (by decide) ?_
  refine e_il o_188_178 rfl ?_
  refine e_il o_188_179 rfl ?_
  obtain ⟨q, k⟩ := k
  refine e_ias (n := 16) o_188_181 (sk_80 (h := h) hs) (by decide) (sn_80 (h := h) hs) q ?_
  refine e_al o_188_182 rfl ?_
  refine e_gR (r := 81) o_188_183 (sk_69 (h := h) hs) (sr_69_25 (h := h) hs) (by decide) ?_
  refine e_il o_188_186 rfl ?_
  refine e_il o_188_187 rfl ?_
  obtain ⟨q, k⟩ := k
  refine e_ias (n := 16) o_188_189 (sk_81 (h := h) hs) (by decide) (sn_81 (h := h) hs) q ?_
  refine e_al o_188_190 rfl ?_
  refine e_il o_188_191 rfl ?_
  refine e_al o_188_192 rfl ?_
  refine e_gR (r := 79) o_188_193 (sk_69 (h := h) hs) (sr_69_23 (h := h) hs) (by decide) ?_
  refine e_al o_188_196 rfl ?_
  refine e_gI o_188_197 (sk_69 (h := h) hs) ?_
  obtain ⟨q, k⟩ := k
  refine e_ia (n := 2) o_188_200 (sk_79 (h := h) hs) (sn_79 (h := h) hs) q ?_
  refine e_clV (as := [.ref 69, .int x2, .int (xI (xsI (xsI h 80 (tn x1) x4) 81 (tn x1) x5) 79 (tn (xI (xsI (xsI h 80 (tn x1) x4) 81 (tn x1) x5) 69 19)))]) (rest := []) o_188_201 rfl rfl (x_okd cl_188_194 ml_194 (Nat.le_of_ble_eq_true rfl) (Nat.le_of_ble_eq_true rfl)) (x_rc0 (ci := 9) (sk_69 (h := h) hs) mo_194) k ?_
  rintro h1 ⟨sh1, k⟩
  refine e_al o_188_204 rfl ?_
  refine e_gR (r := 79) o_188_205 (sk_69 (h := h1) sh1) (sr_69_23 (h := h1) sh1) (by decide) ?_
  refine e_al o_188_208 rfl ?_
  refine e_gI o_188_209 (sk_69 (h := h1) sh1) ?_
  refine e_dup2 o_188_212 ⟨rfl, rfl⟩ ?_
  obtain ⟨q, k⟩ := k
  refine e_ia (n := 2) o_188_213 (sk_79 (h := h1) sh1) (sn_79 (h := h1) sh1) q ?_
  refine e_c 1 o_188_214 rfl ?_
  refine e_bin o_188_215 rfl ?_
  obtain ⟨q, k⟩ := k
  refine e_ias (n := 2) o_188_216 (sk_79 (h := h1) sh1) (by decide) (sn_79 (h := h1) sh1) q ?_
  exact e_ret0 o_188_217 k
set_option maxHeartbeats 4000000 in
set_option maxRecDepth 100000 in
theorem B_189_0  {h : XH} {Q : Value → XH → Prop} (hs : Sh h) (k : ClV 190 [.ref 69] h (fun h1 => Sh h1 ∧ (ClV 191 [.ref 69, .int 1] h1 (fun h3 => Sh h3 ∧ (Ev 189 16 [.ref 69, .int (xI h1 69 11), .int 0] [] h3 Q))))) : Ev 189 0 (x_ini 189 [.ref 69]) [] h Q := by
  rw [show x_ini 189 [.ref 69] = [.ref 69, .null, .null] from x_inid ml_189 rfl]
  refine e_al o_189_0 rfl ?_
  refine e_clV (as := [.ref 69]) (rest := []) o_189_1 rfl rfl (x_okd cl_189_190 ml_190 (Nat.le_of_ble_eq_true rfl) (Nat.le_of_ble_eq_true rfl)) (x_rc0 (ci := 9) (sk_69 (h := h) hs) mo_190) k ?_
  rintro h1 ⟨sh1, k⟩
  refine e_al o_189_4 rfl ?_
  refine e_gI o_189_5 (sk_69 (h := h1) sh1) ?_
  refine e_is (ls' := [.ref 69, .int (xI h1 69 11), .null]) o_189_8 (Nat.le_of_ble_eq_true rfl) rfl ?_
  refine e_al o_189_9 rfl ?_
  refine e_c 1 o_189_10 rfl ?_
  refine e_clV (as := [.ref 69, .int 1]) (rest := []) o_189_11 rfl rfl (x_okd cl_189_191 ml_191 (Nat.le_of_ble_eq_true rfl) (Nat.le_of_ble_eq_true rfl)) (x_rc0 (ci := 9) (sk_69 (h := h1) sh1) mo_191) k ?_
  rintro h3 ⟨sh3, k⟩
  refine e_c 0 o_189_14 rfl ?_
  refine e_is (ls' := [.ref 69, .int (xI h1 69 11), .int 0]) o_189_15 (Nat.le_of_ble_eq_true rfl) rfl ?_
  exact Ev.less (ls := [.ref 69, .int (xI h1 69 11), .int 0]) ⟨Or.inr rfl, Or.inr rfl, Or.inr rfl, trivial⟩ k
set_option maxHeartbeats 4000000 in
set_option maxRecDepth 100000 in
theorem B_189_16 {x1 : Int32} {x2 : Int32} {h : XH} {Q : Value → XH → Prop} (hs : Sh h) (k : (((xI h 69 20) ≤ x2) → Q (.int x1) h) ∧ (¬ ((xI h 69 20) ≤ x2) → ((¬ (xI h 69 13) = 0) → Q (.int x1) h) ∧ (¬ (¬ (xI h 69 13) = 0) → InB x2 14 ∧ (InB x1 403 ∧ (((¬ (lg_cmp (xL h 77 (tn x2)) (xL h 75 (tn x1))) = 0) → Ev 189 16 [.ref 69, .int x1, .int (x2 + 1)] [] h Q) ∧ (¬ (¬ (lg_cmp (xL h 77 (tn x2)) (xL h 75 (tn x1))) = 0) → ClV 192 [.ref 69, .int 3, .int x1] h (fun h1 => Sh h1 ∧ (Ev 189 16 [.ref 69, .int x1, .int (x2 + 1)] [] h1 Q)))))))) : Ev 189 16 [.ref 69, .int x1, .int x2] [] h Q := by
  refine e_il o_189_16 rfl ?_
  refine e_al o_189_17 rfl ?_
  refine e_gI o_189_18 (sk_69 (h := h) hs) ?_
  refine e_if_3 o_189_21 (fun z => ?_) (fun z => ?_)
  · have k := k.1 z
    refine e_il o_189_59 rfl ?_
    exact e_retI o_189_60 k
  · have k := k.2 z
    refine e_al o_189_24 rfl ?_
    refine e_gI o_189_25 (sk_69 (h := h) hs) ?_
    refine e_i0_1 o_189_28 (fun z => ?_) (fun z => ?_)
    · have k := k.1 z
      refine e_il o_189_59 rfl ?_
      exact e_retI o_189_60 k
    · have k := k.2 z
      refine e_al o_189_31 rfl ?_
      refine e_gR (r := 77) o_189_32 (sk_69 (h := h) hs) (sr_69_21 (h := h) hs) (by decide) ?_
      refine e_il o_189_35 rfl ?_
      obtain ⟨q, k⟩ := k
      refine e_la (n := 14) o_189_36 (sk_77 (h := h) hs) (sn_77 (h := h) hs) q ?_
      refine e_al o_189_37 rfl ?_
      refine e_gR (r := 75) o_189_38 (sk_69 (h := h) hs) (sr_69_8 (h := h) hs) (by decide) ?_
      refine e_il o_189_41 rfl ?_
      obtain ⟨q, k⟩ := k
      refine e_la (n := 403) o_189_42 (sk_75 (h := h) hs) (sn_75 (h := h) hs) q ?_
      refine e_lcmp o_189_43 ?_
      refine e_i0_1 o_189_44 (fun z => ?_) (fun z => ?_)
      · have k := k.1 z
        refine e_inc (ls' := [.ref 69, .int x1, .int (x2 + 1)]) o_189_53 rfl rfl rfl ?_
        refine e_go o_189_56 ?_
        exact Ev.less (ls := [.ref 69, .int x1, .int (x2 + 1)]) ⟨Or.inr rfl, Or.inr rfl, Or.inr rfl, trivial⟩ k
      · have k := k.2 z
        refine e_al o_189_47 rfl ?_
        refine e_c 3 o_189_48 rfl ?_
        refine e_il o_189_49 rfl ?_
        refine e_clV (as := [.ref 69, .int 3, .int x1]) (rest := []) o_189_50 rfl rfl (x_okd cl_189_192 ml_192 (Nat.le_of_ble_eq_true rfl) (Nat.le_of_ble_eq_true rfl)) (x_rc0 (ci := 9) (sk_69 (h := h) hs) mo_192) k ?_
        rintro h1 ⟨sh1, k⟩
        refine e_inc (ls' := [.ref 69, .int x1, .int (x2 + 1)]) o_189_53 rfl rfl rfl ?_
        refine e_go o_189_56 ?_
        exact Ev.less (ls := [.ref 69, .int x1, .int (x2 + 1)]) ⟨Or.inr rfl, Or.inr rfl, Or.inr rfl, trivial⟩ k
set_option maxHeartbeats 4000000 in
set_option maxRecDepth 100000 in
theorem B_190_0  {h : XH} {Q : Value → XH → Prop} (hs : Sh h) (k : ((¬ (xI h 69 11) = 400) → Q .null (xsI h 69 11 ((xI h 69 11) + 1))) ∧ (¬ (¬ (xI h 69 11) = 400) → ClV 187 [.ref 69, .int 2] h (fun h1 => Sh h1 ∧ (Q .null h1)))) : Ev 190 0 (x_ini 190 [.ref 69]) [] h Q := by
  rw [show x_ini 190 [.ref 69] = [.ref 69] from x_inid ml_190 rfl]
  refine e_al o_190_0 rfl ?_
  refine e_gI o_190_1 (sk_69 (h := h) hs) ?_
  refine e_c 400 o_190_4 rfl ?_
  refine e_if_1 o_190_7 (fun z => ?_) (fun z => ?_)
  · have k := k.1 z
    refine e_al o_190_18 rfl ?_
    refine e_dup o_190_19 rfl ?_
    refine e_gI o_190_20 (sk_69 (h := h) hs) ?_
    refine e_c 1 o_190_23 rfl ?_
    refine e_bin o_190_24 rfl ?_
    refine e_pI o_190_25 (sk_69 (h := h) hs) ?_
    exact e_ret0 o_190_28 k
  · have k := k.2 z
    refine e_al o_190_10 rfl ?_
    refine e_c 2 o_190_11 rfl ?_
    refine e_clV (as := [.ref 69, .int 2]) (rest := []) o_190_12 rfl rfl (x_okd cl_190_187 ml_187 (Nat.le_of_ble_eq_true rfl) (Nat.le_of_ble_eq_true rfl)) (x_rc0 (ci := 9) (sk_69 (h := h) hs) mo_187) k ?_
    rintro h1 ⟨sh1, k⟩
    refine e_go o_190_15 ?_
    exact e_ret0 o_190_28 k
set_option maxHeartbeats 4000000 in
set_option maxRecDepth 100000 in
theorem B_191_0 {x1 : Int32} {h : XH} {Q : Value → XH → Prop} (hs : Sh h) (k : ClI 185 [.ref 69, .int x1] h (fun v2 h1 => Sh h1 ∧ (((v2 = 0) → ClV 187 [.ref 69, .int 1] h1 (fun h3 => Sh h3 ∧ (Q .null h3))) ∧ (¬ (v2 = 0) → ClV 190 [.ref 69] h1 (fun h5 => Sh h5 ∧ (Q .null h5)))))) : Ev 191 0 (x_ini 191 [.ref 69, .int x1]) [] h Q := by
  rw [show x_ini 191 [.ref 69, .int x1] = [.ref 69, .int x1] from x_inid ml_191 rfl]
  refine e_al o_191_0 rfl ?_
  refine e_il o_191_1 rfl ?_
  refine e_clI (as := [.ref 69, .int x1]) (rest := []) o_191_2 rfl rfl (x_okd cl_191_185 ml_185 (Nat.le_of_ble_eq_true rfl) (Nat.le_of_ble_eq_true rfl)) (x_rc0 (ci := 9) (sk_69 (h := h) hs) mo_185) k ?_
  rintro v2 h1 ⟨sh1, k⟩
  refine e_i0_0 o_191_5 (fun z => ?_) (fun z => ?_)
  · have k := k.1 z
    refine e_al o_191_15 rfl ?_
    refine e_c 1 o_191_16 rfl ?_
    refine e_clV (as := [.ref 69, .int 1]) (rest := []) o_191_17 rfl rfl (x_okd cl_191_187 ml_187 (Nat.le_of_ble_eq_true rfl) (Nat.le_of_ble_eq_true rfl)) (x_rc0 (ci := 9) (sk_69 (h := h1) sh1) mo_187) k ?_
    rintro h3 ⟨sh3, k⟩
    exact e_ret0 o_191_20 k
  · have k := k.2 z
    refine e_al o_191_8 rfl ?_
    refine e_clV (as := [.ref 69]) (rest := []) o_191_9 rfl rfl (x_okd cl_191_190 ml_190 (Nat.le_of_ble_eq_true rfl) (Nat.le_of_ble_eq_true rfl)) (x_rc0 (ci := 9) (sk_69 (h := h1) sh1) mo_190) k ?_
    rintro h5 ⟨sh5, k⟩
    refine e_go o_191_12 ?_
    exact e_ret0 o_191_20 k
set_option maxHeartbeats 4000000 in
set_option maxRecDepth 100000 in
theorem B_192_0 {x1 : Int32} {x2 : Int32} {h : XH} {Q : Value → XH → Prop} (hs : Sh h) (k : InB x2 403 ∧ (((0 < (xI h 69 13)) → Q .null h) ∧ (¬ (0 < (xI h 69 13)) → (((xI h 69 15) = 0) → Q .null (xsI (xsI h 69 15 x1) 69 16 (xI h 73 (tn x2)))) ∧ (¬ ((xI h 69 15) = 0) → (((xI h 69 16) < (xI h 73 (tn x2))) → Q .null h) ∧ (¬ ((xI h 69 16) < (xI h 73 (tn x2))) → ((¬ (xI h 73 (tn x2)) = (xI h 69 16)) → Q .null (xsI (xsI h 69 15 x1) 69 16 (xI h 73 (tn x2)))) ∧ (¬ (¬ (xI h 73 (tn x2)) = (xI h 69 16)) → ((x1 < (xI h 69 15)) → Q .null (xsI (xsI h 69 15 x1) 69 16 (xI h 73 (tn x2)))) ∧ (¬ (x1 < (xI h 69 15)) → Q .null h))))))) : Ev 192 0 (x_ini 192 [.ref 69, .int x1, .int x2]) [] h Q := by
  rw [show x_ini 192 [.ref 69, .int x1, .int x2] = [.ref 69, .int x1, .int x2, .null] from x_inid ml_192 rfl]
  refine e_al o_192_0 rfl ?_
  refine e_gR (r := 73) o_192_1 (sk_69 (h := h) hs) (sr_69_6 (h := h) hs) (by decide) ?_
  refine e_il o_192_4 rfl ?_
  obtain ⟨q, k⟩ := k
  refine e_ia (n := 403) o_192_5 (sk_73 (h := h) hs) (sn_73 (h := h) hs) q ?_
  refine e_is (ls' := [.ref 69, .int x1, .int x2, .int (xI h 73 (tn x2))]) o_192_6 (Nat.le_of_ble_eq_true rfl) rfl ?_
  refine e_al o_192_7 rfl ?_
  refine e_gI o_192_8 (sk_69 (h := h) hs) ?_
  refine e_i0_4 o_192_11 (fun z => ?_) (fun z => ?_)
  · have k := k.1 z
    exact e_ret0 o_192_45 k
  · have k := k.2 z
    refine e_al o_192_14 rfl ?_
    refine e_gI o_192_15 (sk_69 (h := h) hs) ?_
    refine e_i0_0 o_192_18 (fun z => ?_) (fun z => ?_)
    · have k := k.1 z
      refine e_al o_192_46 rfl ?_
      refine e_il o_192_47 rfl ?_
      refine e_pI o_192_48 (sk_69 (h := h) hs) ?_
      refine e_al o_192_51 rfl ?_
      refine e_il o_192_52 rfl ?_
      refine e_pI o_192_53 (sk_69 (h := h) hs) ?_
      exact e_ret0 o_192_56 k
    · have k := k.2 z
      refine e_il o_192_21 rfl ?_
      refine e_al o_192_22 rfl ?_
      refine e_gI o_192_23 (sk_69 (h := h) hs) ?_
      refine e_if_4 o_192_26 (fun z => ?_) (fun z => ?_)
      · have k := k.1 z
        exact e_ret0 o_192_45 k
      · have k := k.2 z
        refine e_il o_192_29 rfl ?_
        refine e_al o_192_30 rfl ?_
        refine e_gI o_192_31 (sk_69 (h := h) hs) ?_
        refine e_if_1 o_192_34 (fun z => ?_) (fun z => ?_)
        · have k := k.1 z
          refine e_al o_192_46 rfl ?_
          refine e_il o_192_47 rfl ?_
          refine e_pI o_192_48 (sk_69 (h := h) hs) ?_
          refine e_al o_192_51 rfl ?_
          refine e_il o_192_52 rfl ?_
          refine e_pI o_192_53 (sk_69 (h := h) hs) ?_
          exact e_ret0 o_192_56 k
        · have k := k.2 z
          refine e_il o_192_37 rfl ?_
          refine e_al o_192_38 rfl ?_
          refine e_gI o_192_39 (sk_69 (h := h) hs) ?_
          refine e_if_2 o_192_42 (fun z => ?_) (fun z => ?_)
          · have k := k.1 z
            refine e_al o_192_46 rfl ?_
            refine e_il o_192_47 rfl ?_
            refine e_pI o_192_48 (sk_69 (h := h) hs) ?_
            refine e_al o_192_51 rfl ?_
            refine e_il o_192_52 rfl ?_
            refine e_pI o_192_53 (sk_69 (h := h) hs) ?_
            exact e_ret0 o_192_56 k
          · have k := k.2 z
            exact e_ret0 o_192_45 k
set_option maxHeartbeats 4000000 in
set_option maxRecDepth 100000 in
theorem B_193_0 {x1 : Int32} {x2 : Int32} {h : XH} {Q : Value → XH → Prop} (hs : Sh h) (k : ((0 < (xI h 69 13)) → ClV 187 [.ref 69, .int 1] h (fun h1 => Sh h1 ∧ (Q (.int x1) h1))) ∧ (¬ (0 < (xI h 69 13)) → ClI 185 [.ref 69, .int 2] h (fun v4 h3 => Sh h3 ∧ (((¬ v4 = 0) → InB (xI h3 69 11) 403 ∧ ((((xI h3 74 (tn (xI h3 69 11))) < x1) → ClV 192 [.ref 69, .int 5, .int (xI h3 69 11)] h3 (fun h5 => Sh h5 ∧ (ClV 190 [.ref 69] h5 (fun h7 => Sh h7 ∧ (Q (.int (xI h3 74 (tn (xI h3 69 11)))) h7))))) ∧ (¬ ((xI h3 74 (tn (xI h3 69 11))) < x1) → (((xI h3 74 (tn (xI h3 69 11))) ≤ x2) → ClV 190 [.ref 69] h3 (fun h9 => Sh h9 ∧ (Q (.int (xI h3 74 (tn (xI h3 69 11)))) h9))) ∧ (¬ ((xI h3 74 (tn (xI h3 69 11))) ≤ x2) → ClV 192 [.ref 69, .int 5, .int (xI h3 69 11)] h3 (fun h11 => Sh h11 ∧ (ClV 190 [.ref 69] h11 (fun h13 => Sh h13 ∧ (Q (.int (xI h3 74 (tn (xI h3 69 11)))) h13)))))))) ∧ (¬ (¬ v4 = 0) → ClV 187 [.ref 69, .int 1] h3 (fun h15 => Sh h15 ∧ (Q (.int x1) h15))))))) : Ev 193 0 (x_ini 193 [.ref 69, .int x1, .int x2]) [] h Q := by
  rw [show x_ini 193 [.ref 69, .int x1, .int x2] = [.ref 69, .int x1, .int x2, .null] from x_inid ml_193 rfl]
  refine e_al o_193_0 rfl ?_
  refine e_gI o_193_1 (sk_69 (h := h) hs) ?_
  refine e_i0_4 o_193_4 (fun z => ?_) (fun z => ?_)
  · have k := k.1 z
    refine e_al o_193_15 rfl ?_
    refine e_c 1 o_193_16 rfl ?_
    refine e_clV (as := [.ref 69, .int 1]) (rest := []) o_193_17 rfl rfl (x_okd cl_193_187 ml_187 (Nat.le_of_ble_eq_true rfl) (Nat.le_of_ble_eq_true rfl)) (x_rc0 (ci := 9) (sk_69 (h := h) hs) mo_187) k ?_
    rintro h1 ⟨sh1, k⟩
    refine e_il o_193_20 rfl ?_
    exact e_retI o_193_21 k
  · have k := k.2 z
    refine e_al o_193_7 rfl ?_
    refine e_c 2 o_193_8 rfl ?_
    refine e_clI (as := [.ref 69, .int 2]) (rest := []) o_193_9 rfl rfl (x_okd cl_193_185 ml_185 (Nat.le_of_ble_eq_true rfl) (Nat.le_of_ble_eq_true rfl)) (x_rc0 (ci := 9) (sk_69 (h := h) hs) mo_185) k ?_
    rintro v4 h3 ⟨sh3, k⟩
    refine e_i0_1 o_193_12 (fun z => ?_) (fun z => ?_)
    · have k := k.1 z
      refine e_al o_193_22 rfl ?_
      refine e_gR (r := 74) o_193_23 (sk_69 (h := h3) sh3) (sr_69_7 (h := h3) sh3) (by decide) ?_
      refine e_al o_193_26 rfl ?_
      refine e_gI o_193_27 (sk_69 (h := h3) sh3) ?_
      obtain ⟨q, k⟩ := k
      refine e_ia (n := 403) o_193_30 (sk_74 (h := h3) sh3) (sn_74 (h := h3) sh3) q ?_
      refine e_is (ls' := [.ref 69, .int x1, .int x2, .int (xI h3 74 (tn (xI h3 69 11)))]) o_193_31 (Nat.le_of_ble_eq_true rfl) rfl ?_
      refine e_il o_193_32 rfl ?_
      refine e_il o_193_33 rfl ?_
      refine e_if_2 o_193_34 (fun z => ?_) (fun z => ?_)
      · have k := k.1 z
        refine e_al o_193_42 rfl ?_
        refine e_c 5 o_193_43 rfl ?_
        refine e_al o_193_44 rfl ?_
        refine e_gI o_193_45 (sk_69 (h := h3) sh3) ?_
        refine e_clV (as := [.ref 69, .int 5, .int (xI h3 69 11)]) (rest := []) o_193_48 rfl rfl (x_okd cl_193_192 ml_192 (Nat.le_of_ble_eq_true rfl) (Nat.le_of_ble_eq_true rfl)) (x_rc0 (ci := 9) (sk_69 (h := h3) sh3) mo_192) k ?_
        rintro h5 ⟨sh5, k⟩
        refine e_al o_193_51 rfl ?_
        refine e_clV (as := [.ref 69]) (rest := []) o_193_52 rfl rfl (x_okd cl_193_190 ml_190 (Nat.le_of_ble_eq_true rfl) (Nat.le_of_ble_eq_true rfl)) (x_rc0 (ci := 9) (sk_69 (h := h5) sh5) mo_190) k ?_
        rintro h7 ⟨sh7, k⟩
        refine e_il o_193_55 rfl ?_
        exact e_retI o_193_56 k
      · have k := k.2 z
        refine e_il o_193_37 rfl ?_
        refine e_il o_193_38 rfl ?_
        refine e_if_5 o_193_39 (fun z => ?_) (fun z => ?_)
        · have k := k.1 z
          refine e_al o_193_51 rfl ?_
          refine e_clV (as := [.ref 69]) (rest := []) o_193_52 rfl rfl (x_okd cl_193_190 ml_190 (Nat.le_of_ble_eq_true rfl) (Nat.le_of_ble_eq_true rfl)) (x_rc0 (ci := 9) (sk_69 (h := h3) sh3) mo_190) k ?_
          rintro h9 ⟨sh9, k⟩
          refine e_il o_193_55 rfl ?_
          exact e_retI o_193_56 k
        · have k := k.2 z
          refine e_al o_193_42 rfl ?_
          refine e_c 5 o_193_43 rfl ?_
          refine e_al o_193_44 rfl ?_
          refine e_gI o_193_45 (sk_69 (h := h3) sh3) ?_
          refine e_clV (as := [.ref 69, .int 5, .int (xI h3 69 11)]) (rest := []) o_193_48 rfl rfl (x_okd cl_193_192 ml_192 (Nat.le_of_ble_eq_true rfl) (Nat.le_of_ble_eq_true rfl)) (x_rc0 (ci := 9) (sk_69 (h := h3) sh3) mo_192) k ?_
          rintro h11 ⟨sh11, k⟩
          refine e_al o_193_51 rfl ?_
          refine e_clV (as := [.ref 69]) (rest := []) o_193_52 rfl rfl (x_okd cl_193_190 ml_190 (Nat.le_of_ble_eq_true rfl) (Nat.le_of_ble_eq_true rfl)) (x_rc0 (ci := 9) (sk_69 (h := h11) sh11) mo_190) k ?_
          rintro h13 ⟨sh13, k⟩
          refine e_il o_193_55 rfl ?_
          exact e_retI o_193_56 k
    · have k := k.2 z
      refine e_al o_193_15 rfl ?_
      refine e_c 1 o_193_16 rfl ?_
      refine e_clV (as := [.ref 69, .int 1]) (rest := []) o_193_17 rfl rfl (x_okd cl_193_187 ml_187 (Nat.le_of_ble_eq_true rfl) (Nat.le_of_ble_eq_true rfl)) (x_rc0 (ci := 9) (sk_69 (h := h3) sh3) mo_187) k ?_
      rintro h15 ⟨sh15, k⟩
      refine e_il o_193_20 rfl ?_
      exact e_retI o_193_21 k
set_option maxHeartbeats 4000000 in
set_option maxRecDepth 100000 in
theorem B_194_0 {x1 : Int32} {x2 : Int32} {h : XH} {Q : Value → XH → Prop} (hs : Sh h) (k : InB x1 403 ∧ (InB (xI h 69 20) 14 ∧ (InB (xI (xsL h 77 (tn (xI h 69 20)) (xL h 75 (tn x1))) 69 20) 14 ∧ (∀ h1 : XH, h1 = (xsI (xsI (xsL h 77 (tn (xI h 69 20)) (xL h 75 (tn x1))) 78 (tn (xI (xsL h 77 (tn (xI h 69 20)) (xL h 75 (tn x1))) 69 20)) x2) 69 20 ((xI (xsI (xsL h 77 (tn (xI h 69 20)) (xL h 75 (tn x1))) 78 (tn (xI (xsL h 77 (tn (xI h 69 20)) (xL h 75 (tn x1))) 69 20)) x2) 69 20) + 1)) → (Q .null h1))))) : Ev 194 0 (x_ini 194 [.ref 69, .int x1, .int x2]) [] h Q := by
  rw [show x_ini 194 [.ref 69, .int x1, .int x2] = [.ref 69, .int x1, .int x2] from x_inid ml_194 rfl]
  refine e_al o_194_0 rfl ?_
  refine e_gR (r := 77) o_194_1 (sk_69 (h := h) hs) (sr_69_21 (h := h) hs) (by decide) ?_
  refine e_al o_194_4 rfl ?_
  refine e_gI o_194_5 (sk_69 (h := h) hs) ?_
  refine e_al o_194_8 rfl ?_
  refine e_gR (r := 75) o_194_9 (sk_69 (h := h) hs) (sr_69_8 (h := h) hs) (by decide) ?_
  refine e_il o_194_12 rfl ?_
  obtain ⟨q, k⟩ := k
  refine e_la (n := 403) o_194_13 (sk_75 (h := h) hs) (sn_75 (h := h) hs) q ?_
  obtain ⟨q, k⟩ := k
  refine e_las (n := 14) o_194_14 (sk_77 (h := h) hs) (sn_77 (h := h) hs) q ?_
  refine e_al o_194_15 rfl ?_
  refine e_gR (r := 78) o_194_16 (sk_69 (h := h) hs) (sr_69_22 (h := h) hs) (by decide) ?_
  refine e_al o_194_19 rfl ?_
  refine e_gI o_194_20 (sk_69 (h := h) hs) ?_
  refine e_il o_194_23 rfl ?_
  obtain ⟨q, k⟩ := k
  refine e_ias (n := 14) o_194_24 (sk_78 (h := h) hs) (by decide) (sn_78 (h := h) hs) q ?_
  refine e_al o_194_25 rfl ?_
  refine e_dup o_194_26 rfl ?_
  refine e_gI o_194_27 (sk_69 (h := h) hs) ?_
  refine e_c 1 o_194_30 rfl ?_
  refine e_bin o_194_31 rfl ?_
  refine e_pI o_194_32 (sk_69 (h := h) hs) ?_
  obtain ⟨h1, eh1⟩ : ∃ z : XH, z = (xsI (xsI (xsL h 77 (tn (xI h 69 20)) (xL h 75 (tn x1))) 78 (tn (xI (xsL h 77 (tn (xI h 69 20)) (xL h 75 (tn x1))) 69 20)) x2) 69 20 ((xI (xsI (xsL h 77 (tn (xI h 69 20)) (xL h 75 (tn x1))) 78 (tn (xI (xsL h 77 (tn (xI h 69 20)) (xL h 75 (tn x1))) 69 20)) x2) 69 20) + 1)) := ⟨_, rfl⟩
  show Ev 194 35 [.ref 69, .int x1, .int x2] [] (xsI (xsI (xsL h 77 (tn (xI h 69 20)) (xL h 75 (tn x1))) 78 (tn (xI (xsL h 77 (tn (xI h 69 20)) (xL h 75 (tn x1))) 69 20)) x2) 69 20 ((xI (xsI (xsL h 77 (tn (xI h 69 20)) (xL h 75 (tn x1))) 78 (tn (xI (xsL h 77 (tn (xI h 69 20)) (xL h 75 (tn x1))) 69 20)) x2) 69 20) + 1)) Q
  rw [← eh1]
  have sh1 : Sh h1 := by rw [eh1]; exact (sh_I (sh_I (sh_L hs) (by decide)) (by decide))
  have k := k h1 eh1
  exact e_ret0 o_194_35 k
set_option maxHeartbeats 4000000 in
set_option maxRecDepth 100000 in
theorem B_195_0 {x1 : Int32} {h : XH} {Q : Value → XH → Prop} (hs : Sh h) (k : ClV 191 [.ref 69, .int 5] h (fun h1 => Sh h1 ∧ (Ev 195 12 [.ref 69, .int x1, .int (xI h1 69 45), .int 0] [] h1 Q))) : Ev 195 0 (x_ini 195 [.ref 69, .int x1]) [] h Q := by
  rw [show x_ini 195 [.ref 69, .int x1] = [.ref 69, .int x1, .null, .null] from x_inid ml_195 rfl]
  refine e_al o_195_0 rfl ?_
  refine e_c 5 o_195_1 rfl ?_
  refine e_clV (as := [.ref 69, .int 5]) (rest := []) o_195_2 rfl rfl (x_okd cl_195_191 ml_191 (Nat.le_of_ble_eq_true rfl) (Nat.le_of_ble_eq_true rfl)) (x_rc0 (ci := 9) (sk_69 (h := h) hs) mo_191) k ?_
  rintro h1 ⟨sh1, k⟩
  refine e_al o_195_5 rfl ?_
  refine e_gI o_195_6 (sk_69 (h := h1) sh1) ?_
  refine e_is (ls' := [.ref 69, .int x1, .int (xI h1 69 45), .null]) o_195_9 (Nat.le_of_ble_eq_true rfl) rfl ?_
  refine e_c 0 o_195_10 rfl ?_
  refine e_is (ls' := [.ref 69, .int x1, .int (xI h1 69 45), .int 0]) o_195_11 (Nat.le_of_ble_eq_true rfl) rfl ?_
  exact Ev.less (ls := [.ref 69, .int x1, .int (xI h1 69 45), .int 0]) ⟨Or.inr rfl, Or.inr rfl, Or.inr rfl, Or.inr rfl, trivial⟩ k
set_option maxHeartbeats 4000000 in
set_option maxRecDepth 100000 in
theorem B_195_12 {x1 : Int32} {x2 : Int32} {x3 : Int32} {h : XH} {Q : Value → XH → Prop} (hs : Sh h) (k : ((¬ (xI h 69 13) = 0) → Ev 195 129 [.ref 69, .int x1, .int x2, .null] [] h Q) ∧ (¬ (¬ (xI h 69 13) = 0) → ClI 185 [.ref 69, .int 29] h (fun v2 h1 => Sh h1 ∧ (((v2 = 0) → Ev 195 129 [.ref 69, .int x1, .int x2, .null] [] h1 Q) ∧ (¬ (v2 = 0) → ((¬ x3 = 4) → Ev 195 38 [.ref 69, .int x1, .int x2, .int x3] [] h1 Q) ∧ (¬ (¬ x3 = 4) → ClV 187 [.ref 69, .int 2] h1 (fun h3 => Sh h3 ∧ (Ev 195 38 [.ref 69, .int x1, .int x2, .int x3] [] h3 Q)))))))) : Ev 195 12 [.ref 69, .int x1, .int x2, .int x3] [] h Q := by
  refine e_al o_195_12 rfl ?_
  refine e_gI o_195_13 (sk_69 (h := h) hs) ?_
  refine e_i0_1 o_195_16 (fun z => ?_) (fun z => ?_)
  · have k := k.1 z
    exact Ev.less (ls := [.ref 69, .int x1, .int x2, .null]) ⟨Or.inr rfl, Or.inr rfl, Or.inr rfl, Or.inl rfl, trivial⟩ k
  · have k := k.2 z
    refine e_al o_195_19 rfl ?_
    refine e_c 29 o_195_20 rfl ?_
    refine e_clI (as := [.ref 69, .int 29]) (rest := []) o_195_22 rfl rfl (x_okd cl_195_185 ml_185 (Nat.le_of_ble_eq_true rfl) (Nat.le_of_ble_eq_true rfl)) (x_rc0 (ci := 9) (sk_69 (h := h) hs) mo_185) k ?_
    rintro v2 h1 ⟨sh1, k⟩
    refine e_i0_0 o_195_25 (fun z => ?_) (fun z => ?_)
    · have k := k.1 z
      exact Ev.less (ls := [.ref 69, .int x1, .int x2, .null]) ⟨Or.inr rfl, Or.inr rfl, Or.inr rfl, Or.inl rfl, trivial⟩ k
    · have k := k.2 z
      refine e_il o_195_28 rfl ?_
      refine e_c 4 o_195_29 rfl ?_
      refine e_if_1 o_195_30 (fun z => ?_) (fun z => ?_)
      · have k := k.1 z
        exact Ev.less (ls := [.ref 69, .int x1, .int x2, .int x3]) ⟨Or.inr rfl, Or.inr rfl, Or.inr rfl, Or.inr rfl, trivial⟩ k
      · have k := k.2 z
        refine e_al o_195_33 rfl ?_
        refine e_c 2 o_195_34 rfl ?_
        refine e_clV (as := [.ref 69, .int 2]) (rest := []) o_195_35 rfl rfl (x_okd cl_195_187 ml_187 (Nat.le_of_ble_eq_true rfl) (Nat.le_of_ble_eq_true rfl)) (x_rc0 (ci := 9) (sk_69 (h := h1) sh1) mo_187) k ?_
        rintro h3 ⟨sh3, k⟩
        exact Ev.less (ls := [.ref 69, .int x1, .int x2, .int x3]) ⟨Or.inr rfl, Or.inr rfl, Or.inr rfl, Or.inr rfl, trivial⟩ k
set_option maxHeartbeats 4000000 in
set_option maxRecDepth 100000 in
theorem B_195_38 {x1 : Int32} {x2 : Int32} {x3 : Int32} {h : XH} {Q : Value → XH → Prop} (hs : Sh h) (k : (((xI h 69 13) ≤ 0) → ClV 190 [.ref 69] h (fun h1 => Sh h1 ∧ (InB (xI h1 69 45) 260 ∧ (InB (xI (xsI h1 98 (tn (xI h1 69 45)) 1) 69 45) 260 ∧ (ClV 196 [.ref 69] (xsI (xsI h1 98 (tn (xI h1 69 45)) 1) 99 (tn (xI (xsI h1 98 (tn (xI h1 69 45)) 1) 69 45)) (xI (xsI h1 98 (tn (xI h1 69 45)) 1) 69 51)) (fun h3 => Sh h3 ∧ (ClV 191 [.ref 69, .int 13] h3 (fun h5 => Sh h5 ∧ (InB (xI h5 69 45) 260 ∧ (((¬ (xI (xsI h5 100 (tn (xI h5 69 45)) (xI h5 69 51)) 69 13) = 0) → Ev 195 110 [.ref 69, .int x1, .int x2, .int (x3 + 1)] [] (xsI h5 100 (tn (xI h5 69 45)) (xI h5 69 51)) Q) ∧ (¬ (¬ (xI (xsI h5 100 (tn (xI h5 69 45)) (xI h5 69 51)) 69 13) = 0) → ClV 196 [.ref 69] (xsI h5 100 (tn (xI h5 69 45)) (xI h5 69 51)) (fun h7 => Sh h7 ∧ (Ev 195 110 [.ref 69, .int x1, .int x2, .int (x3 + 1)] [] h7 Q))))))))))))) ∧ (¬ ((xI h 69 13) ≤ 0) → Q .null h)) : Ev 195 38 [.ref 69, .int x1, .int x2, .int x3] [] h Q := by
  refine e_al o_195_38 rfl ?_
  refine e_gI o_195_39 (sk_69 (h := h) hs) ?_
  refine e_i0_5 o_195_42 (fun z => ?_) (fun z => ?_)
  · have k := k.1 z
    refine e_inc (ls' := [.ref 69, .int x1, .int x2, .int (x3 + 1)]) o_195_46 rfl rfl rfl ?_
    refine e_al o_195_49 rfl ?_
    refine e_clV (as := [.ref 69]) (rest := []) o_195_50 rfl rfl (x_okd cl_195_190 ml_190 (Nat.le_of_ble_eq_true rfl) (Nat.le_of_ble_eq_true rfl)) (x_rc0 (ci := 9) (sk_69 (h := h) hs) mo_190) k ?_
    rintro h1 ⟨sh1, k⟩
    refine e_al o_195_53 rfl ?_
    refine e_gR (r := 98) o_195_54 (sk_69 (h := h1) sh1) (sr_69_46 (h := h1) sh1) (by decide) ?_
    refine e_al o_195_57 rfl ?_
    refine e_gI o_195_58 (sk_69 (h := h1) sh1) ?_
    refine e_c 1 o_195_61 rfl ?_
    obtain ⟨q, k⟩ := k
    refine e_zas (n := 260) o_195_62 (sk_98 (h := h1) sh1) (by decide) (sn_98 (h := h1) sh1) q ?_
    refine e_al o_195_63 rfl ?_
    refine e_gR (r := 99) o_195_64 (sk_69 (h := h1) sh1) (sr_69_47 (h := h1) sh1) (by decide) ?_
    refine e_al o_195_67 rfl ?_
    refine e_gI o_195_68 (sk_69 (h := h1) sh1) ?_
    refine e_al o_195_71 rfl ?_
    refine e_gI o_195_72 (sk_69 (h := h1) sh1) ?_
    obtain ⟨q, k⟩ := k
    refine e_ias (n := 260) o_195_75 (sk_99 (h := h1) sh1) (by decide) (sn_99 (h := h1) sh1) q ?_
    refine e_al o_195_76 rfl ?_
    refine e_clV (as := [.ref 69]) (rest := []) o_195_77 rfl rfl (x_okd cl_195_196 ml_196 (Nat.le_of_ble_eq_true rfl) (Nat.le_of_ble_eq_true rfl)) (x_rc0 (ci := 9) (sk_69 (h := h1) sh1) mo_196) k ?_
    rintro h3 ⟨sh3, k⟩
    refine e_al o_195_80 rfl ?_
    refine e_c 13 o_195_81 rfl ?_
    refine e_clV (as := [.ref 69, .int 13]) (rest := []) o_195_83 rfl rfl (x_okd cl_195_191 ml_191 (Nat.le_of_ble_eq_true rfl) (Nat.le_of_ble_eq_true rfl)) (x_rc0 (ci := 9) (sk_69 (h := h3) sh3) mo_191) k ?_
    rintro h5 ⟨sh5, k⟩
    refine e_al o_195_86 rfl ?_
    refine e_gR (r := 100) o_195_87 (sk_69 (h := h5) sh5) (sr_69_48 (h := h5) sh5) (by decide) ?_
    refine e_al o_195_90 rfl ?_
    refine e_gI o_195_91 (sk_69 (h := h5) sh5) ?_
    refine e_al o_195_94 rfl ?_
    refine e_gI o_195_95 (sk_69 (h := h5) sh5) ?_
    obtain ⟨q, k⟩ := k
    refine e_ias (n := 260) o_195_98 (sk_100 (h := h5) sh5) (by decide) (sn_100 (h := h5) sh5) q ?_
    refine e_al o_195_99 rfl ?_
    refine e_gI o_195_100 (sk_69 (h := h5) sh5) ?_
    refine e_i0_1 o_195_103 (fun z => ?_) (fun z => ?_)
    · have k := k.1 z
      exact Ev.less (ls := [.ref 69, .int x1, .int x2, .int (x3 + 1)]) ⟨Or.inr rfl, Or.inr rfl, Or.inr rfl, Or.inr rfl, trivial⟩ k
    · have k := k.2 z
      refine e_al o_195_106 rfl ?_
      refine e_clV (as := [.ref 69]) (rest := []) o_195_107 rfl rfl (x_okd cl_195_196 ml_196 (Nat.le_of_ble_eq_true rfl) (Nat.le_of_ble_eq_true rfl)) (x_rc0 (ci := 9) (sk_69 (h := h5) sh5) mo_196) k ?_
      rintro h7 ⟨sh7, k⟩
      exact Ev.less (ls := [.ref 69, .int x1, .int x2, .int (x3 + 1)]) ⟨Or.inr rfl, Or.inr rfl, Or.inr rfl, Or.inr rfl, trivial⟩ k
  · have k := k.2 z
    exact e_ret0 o_195_45 k
set_option maxHeartbeats 4000000 in
set_option maxRecDepth 100000 in
theorem B_195_110 {x1 : Int32} {x2 : Int32} {x3 : Int32} {h : XH} {Q : Value → XH → Prop} (hs : Sh h) (k : ClV 191 [.ref 69, .int 30] h (fun h1 => Sh h1 ∧ (ClV 200 [.ref 69] h1 (fun h3 => Sh h3 ∧ (ClV 191 [.ref 69, .int 31] h3 (fun h5 => Sh h5 ∧ (Ev 195 12 [.ref 69, .int x1, .int x2, .int x3] [] h5 Q))))))) : Ev 195 110 [.ref 69, .int x1, .int x2, .int x3] [] h Q := by
  refine e_al o_195_110 rfl ?_
  refine e_c 30 o_195_111 rfl ?_
  refine e_clV (as := [.ref 69, .int 30]) (rest := []) o_195_113 rfl rfl (x_okd cl_195_191 ml_191 (Nat.le_of_ble_eq_true rfl) (Nat.le_of_ble_eq_true rfl)) (x_rc0 (ci := 9) (sk_69 (h := h) hs) mo_191) k ?_
  rintro h1 ⟨sh1, k⟩
  refine e_al o_195_116 rfl ?_
  refine e_clV (as := [.ref 69]) (rest := []) o_195_117 rfl rfl (x_okd cl_195_200 ml_200 (Nat.le_of_ble_eq_true rfl) (Nat.le_of_ble_eq_true rfl)) (x_rc0 (ci := 9) (sk_69 (h := h1) sh1) mo_200) k ?_
  rintro h3 ⟨sh3, k⟩
  refine e_al o_195_120 rfl ?_
  refine e_c 31 o_195_121 rfl ?_
  refine e_clV (as := [.ref 69, .int 31]) (rest := []) o_195_123 rfl rfl (x_okd cl_195_191 ml_191 (Nat.le_of_ble_eq_true rfl) (Nat.le_of_ble_eq_true rfl)) (x_rc0 (ci := 9) (sk_69 (h := h3) sh3) mo_191) k ?_
  rintro h5 ⟨sh5, k⟩
  refine e_go o_195_126 ?_
  exact Ev.less (ls := [.ref 69, .int x1, .int x2, .int x3]) ⟨Or.inr rfl, Or.inr rfl, Or.inr rfl, Or.inr rfl, trivial⟩ k
set_option maxHeartbeats 4000000 in
set_option maxRecDepth 100000 in
theorem B_195_129 {x1 : Int32} {x2 : Int32} {h : XH} {Q : Value → XH → Prop} (hs : Sh h) (k : InB (xI h 69 45) 260 ∧ (ClV 200 [.ref 69] (xsI h 98 (tn (xI h 69 45)) 0) (fun h1 => Sh h1 ∧ (ClV 191 [.ref 69, .int 4] h1 (fun h3 => Sh h3 ∧ (((0 < (xI h3 69 13)) → Ev 195 159 [.null, .null, .null, .null] [] h3 Q) ∧ (¬ (0 < (xI h3 69 13)) → ((0 ≤ x1) → InB ((8 * (xI h3 69 19)) + x1) 16 ∧ (InB ((8 * (xI (xsI h3 96 (tn ((8 * (xI h3 69 19)) + x1)) x2) 69 19)) + x1) 16 ∧ (∀ h5 : XH, h5 = (xsI (xsI h3 96 (tn ((8 * (xI h3 69 19)) + x1)) x2) 97 (tn ((8 * (xI (xsI h3 96 (tn ((8 * (xI h3 69 19)) + x1)) x2) 69 19)) + x1)) (xI (xsI h3 96 (tn ((8 * (xI h3 69 19)) + x1)) x2) 69 45)) → (Q .null h5)))) ∧ (¬ (0 ≤ x1) → Ev 195 159 [.null, .null, .null, .null] [] h3 Q)))))))) : Ev 195 129 [.ref 69, .int x1, .int x2, .null] [] h Q := by
  refine e_al o_195_129 rfl ?_
  refine e_gR (r := 98) o_195_130 (sk_69 (h := h) hs) (sr_69_46 (h := h) hs) (by decide) ?_
  refine e_al o_195_133 rfl ?_
  refine e_gI o_195_134 (sk_69 (h := h) hs) ?_
  refine e_c 0 o_195_137 rfl ?_
  obtain ⟨q, k⟩ := k
  refine e_zas (n := 260) o_195_138 (sk_98 (h := h) hs) (by decide) (sn_98 (h := h) hs) q ?_
  refine e_al o_195_139 rfl ?_
  refine e_clV (as := [.ref 69]) (rest := []) o_195_140 rfl rfl (x_okd cl_195_200 ml_200 (Nat.le_of_ble_eq_true rfl) (Nat.le_of_ble_eq_true rfl)) (x_rc0 (ci := 9) (sk_69 (h := h) hs) mo_200) k ?_
  rintro h1 ⟨sh1, k⟩
  refine e_al o_195_143 rfl ?_
  refine e_c 4 o_195_144 rfl ?_
  refine e_clV (as := [.ref 69, .int 4]) (rest := []) o_195_145 rfl rfl (x_okd cl_195_191 ml_191 (Nat.le_of_ble_eq_true rfl) (Nat.le_of_ble_eq_true rfl)) (x_rc0 (ci := 9) (sk_69 (h := h1) sh1) mo_191) k ?_
  rintro h3 ⟨sh3, k⟩
  refine e_al o_195_148 rfl ?_
  refine e_gI o_195_149 (sk_69 (h := h3) sh3) ?_
  refine e_i0_4 o_195_152 (fun z => ?_) (fun z => ?_)
  · have k := k.1 z
    exact Ev.less (ls := [.null, .null, .null, .null]) ⟨Or.inl rfl, Or.inl rfl, Or.inl rfl, Or.inl rfl, trivial⟩ k
  · have k := k.2 z
    refine e_il o_195_155 rfl ?_
    refine e_i0_3 o_195_156 (fun z => ?_) (fun z => ?_)
    · have k := k.1 z
      refine e_al o_195_160 rfl ?_
      refine e_gR (r := 96) o_195_161 (sk_69 (h := h3) sh3) (sr_69_43 (h := h3) sh3) (by decide) ?_
      refine e_c 8 o_195_164 rfl ?_
      refine e_al o_195_166 rfl ?_
      refine e_gI o_195_167 (sk_69 (h := h3) sh3) ?_
      refine e_bin o_195_170 rfl ?_
      refine e_il o_195_171 rfl ?_
      refine e_bin o_195_172 rfl ?_
      refine e_il o_195_173 rfl ?_
      obtain ⟨q, k⟩ := k
      refine e_ias (n := 16) o_195_174 (sk_96 (h := h3) sh3) (by decide) (sn_96 (h := h3) sh3) q ?_
      refine e_al o_195_175 rfl ?_
      refine e_gR (r := 97) o_195_176 (sk_69 (h := h3) sh3) (sr_69_44 (h := h3) sh3) (by decide) ?_
      refine e_c 8 o_195_179 rfl ?_
      refine e_al o_195_181 rfl ?_
      refine e_gI o_195_182 (sk_69 (h := h3) sh3) ?_
      refine e_bin o_195_185 rfl ?_
      refine e_il o_195_186 rfl ?_
      refine e_bin o_195_187 rfl ?_
      refine e_al o_195_188 rfl ?_
      refine e_gI o_195_189 (sk_69 (h := h3) sh3) ?_
      obtain ⟨q, k⟩ := k
      refine e_ias (n := 16) o_195_192 (sk_97 (h := h3) sh3) (by decide) (sn_97 (h := h3) sh3) q ?_
      obtain ⟨h5, eh5⟩ : ∃ z : XH, z = (xsI (xsI h3 96 (tn ((8 * (xI h3 69 19)) + x1)) x2) 97 (tn ((8 * (xI (xsI h3 96 (tn ((8 * (xI h3 69 19)) + x1)) x2) 69 19)) + x1)) (xI (xsI h3 96 (tn ((8 * (xI h3 69 19)) + x1)) x2) 69 45)) := ⟨_, rfl⟩
      show Ev 195 193 [.ref 69, .int x1, .int x2, .null] [] (xsI (xsI h3 96 (tn ((8 * (xI h3 69 19)) + x1)) x2) 97 (tn ((8 * (xI (xsI h3 96 (tn ((8 * (xI h3 69 19)) + x1)) x2) 69 19)) + x1)) (xI (xsI h3 96 (tn ((8 * (xI h3 69 19)) + x1)) x2) 69 45)) Q
      rw [← eh5]
      have sh5 : Sh h5 := by rw [eh5]; exact (sh_I (sh_I sh3 (by decide)) (by decide))
      have k := k h5 eh5
      exact e_ret0 o_195_193 k
    · have k := k.2 z
      exact Ev.less (ls := [.null, .null, .null, .null]) ⟨Or.inl rfl, Or.inl rfl, Or.inl rfl, Or.inl rfl, trivial⟩ k
set_option maxHeartbeats 4000000 in
set_option maxRecDepth 100000 in
theorem B_195_159  {h : XH} {Q : Value → XH → Prop} (hs : Sh h) (k : Q .null h) : Ev 195 159 [.null, .null, .null, .null] [] h Q := by
  exact e_ret0 o_195_159 k
set_option maxHeartbeats 4000000 in
set_option maxRecDepth 100000 in
theorem B_196_0  {h : XH} {Q : Value → XH → Prop} (hs : Sh h) (k : Ev 196 12 [.ref 69, .int (xI (xsI h 69 55 0) 69 12), .int 1] [] (xsI h 69 55 0) Q) : Ev 196 0 (x_ini 196 [.ref 69]) [] h Q := by
  rw [show x_ini 196 [.ref 69] = [.ref 69, .null, .null] from x_inid ml_196 rfl]
  refine e_al o_196_0 rfl ?_
  refine e_c 0 o_196_1 rfl ?_
  refine e_pI o_196_2 (sk_69 (h := h) hs) ?_
  refine e_al o_196_5 rfl ?_
  refine e_gI o_196_6 (sk_69 (h := h) hs) ?_
  refine e_is (ls' := [.ref 69, .int (xI (xsI h 69 55 0) 69 12), .null]) o_196_9 (Nat.le_of_ble_eq_true rfl) rfl ?_
  refine e_c 1 o_196_10 rfl ?_
  refine e_is (ls' := [.ref 69, .int (xI (xsI h 69 55 0) 69 12), .int 1]) o_196_11 (Nat.le_of_ble_eq_true rfl) rfl ?_
  exact Ev.less (ls := [.ref 69, .int (xI (xsI h 69 55 0) 69 12), .int 1]) ⟨Or.inr rfl, Or.inr rfl, Or.inr rfl, trivial⟩ k
set_option maxHeartbeats 4000000 in
set_option maxRecDepth 100000 in
theorem B_196_12 {x1 : Int32} {x2 : Int32} {h : XH} {Q : Value → XH → Prop} (hs : Sh h) (k : ((x2 = 0) → Ev 196 272 [.null, .null, .null] [] h Q) ∧ (¬ (x2 = 0) → ((¬ (xI h 69 13) = 0) → Ev 196 272 [.null, .null, .null] [] h Q) ∧ (¬ (¬ (xI h 69 13) = 0) → Ev 196 23 [.ref 69, .int x1, .null] [] h Q))) : Ev 196 12 [.ref 69, .int x1, .int x2] [] h Q := by
  refine e_il o_196_12 rfl ?_
  refine e_i0_0 o_196_13 (fun z => ?_) (fun z => ?_)
  · have k := k.1 z
    exact Ev.less (ls := [.null, .null, .null]) ⟨Or.inl rfl, Or.inl rfl, Or.inl rfl, trivial⟩ k
  · have k := k.2 z
    refine e_al o_196_16 rfl ?_
    refine e_gI o_196_17 (sk_69 (h := h) hs) ?_
    refine e_i0_1 o_196_20 (fun z => ?_) (fun z => ?_)
    · have k := k.1 z
      exact Ev.less (ls := [.null, .null, .null]) ⟨Or.inl rfl, Or.inl rfl, Or.inl rfl, trivial⟩ k
    · have k := k.2 z
      exact Ev.less (ls := [.ref 69, .int x1, .null]) ⟨Or.inr rfl, Or.inr rfl, Or.inl rfl, trivial⟩ k
set_option maxHeartbeats 4000000 in
set_option maxRecDepth 100000 in
theorem B_196_23 {x1 : Int32} {h : XH} {Q : Value → XH → Prop} (hs : Sh h) (k : ClI 185 [.ref 69, .int 6] h (fun v2 h1 => Sh h1 ∧ (((v2 = 0) → ClV 197 [.ref 69] h1 (fun h3 => Sh h3 ∧ ((((xI h3 69 13) ≤ 0) → Ev 196 96 [.ref 69, .int x1, .null] [] h3 Q) ∧ (¬ ((xI h3 69 13) ≤ 0) → Q .null h3)))) ∧ (¬ (v2 = 0) → ((¬ (xI h1 69 12) = 6) → Ev 196 46 [.ref 69, .int x1, .null] [] h1 Q) ∧ (¬ (¬ (xI h1 69 12) = 6) → ClV 187 [.ref 69, .int 2] h1 (fun h5 => Sh h5 ∧ (Ev 196 46 [.ref 69, .int x1, .null] [] h5 Q))))))) : Ev 196 23 [.ref 69, .int x1, .null] [] h Q := by
  refine e_al o_196_23 rfl ?_
  refine e_c 6 o_196_24 rfl ?_
  refine e_clI (as := [.ref 69, .int 6]) (rest := []) o_196_26 rfl rfl (x_okd cl_196_185 ml_185 (Nat.le_of_ble_eq_true rfl) (Nat.le_of_ble_eq_true rfl)) (x_rc0 (ci := 9) (sk_69 (h := h) hs) mo_185) k ?_
  rintro v2 h1 ⟨sh1, k⟩
  refine e_i0_0 o_196_29 (fun z => ?_) (fun z => ?_)
  · have k := k.1 z
    refine e_al o_196_84 rfl ?_
    refine e_clV (as := [.ref 69]) (rest := []) o_196_85 rfl rfl (x_okd cl_196_197 ml_197 (Nat.le_of_ble_eq_true rfl) (Nat.le_of_ble_eq_true rfl)) (x_rc0 (ci := 9) (sk_69 (h := h1) sh1) mo_197) k ?_
    rintro h3 ⟨sh3, k⟩
    refine e_al o_196_88 rfl ?_
    refine e_gI o_196_89 (sk_69 (h := h3) sh3) ?_
    refine e_i0_5 o_196_92 (fun z => ?_) (fun z => ?_)
    · have k := k.1 z
      exact Ev.less (ls := [.ref 69, .int x1, .null]) ⟨Or.inr rfl, Or.inr rfl, Or.inl rfl, trivial⟩ k
    · have k := k.2 z
      exact e_ret0 o_196_95 k
  · have k := k.2 z
    refine e_al o_196_32 rfl ?_
    refine e_gI o_196_33 (sk_69 (h := h1) sh1) ?_
    refine e_c 6 o_196_36 rfl ?_
    refine e_if_1 o_196_38 (fun z => ?_) (fun z => ?_)
    · have k := k.1 z
      exact Ev.less (ls := [.ref 69, .int x1, .null]) ⟨Or.inr rfl, Or.inr rfl, Or.inl rfl, trivial⟩ k
    · have k := k.2 z
      refine e_al o_196_41 rfl ?_
      refine e_c 2 o_196_42 rfl ?_
      refine e_clV (as := [.ref 69, .int 2]) (rest := []) o_196_43 rfl rfl (x_okd cl_196_187 ml_187 (Nat.le_of_ble_eq_true rfl) (Nat.le_of_ble_eq_true rfl)) (x_rc0 (ci := 9) (sk_69 (h := h1) sh1) mo_187) k ?_
      rintro h5 ⟨sh5, k⟩
      exact Ev.less (ls := [.ref 69, .int x1, .null]) ⟨Or.inr rfl, Or.inr rfl, Or.inl rfl, trivial⟩ k
set_option maxHeartbeats 4000000 in
set_option maxRecDepth 100000 in
theorem B_196_46 {x1 : Int32} {h : XH} {Q : Value → XH → Prop} (hs : Sh h) (k : ClV 190 [.ref 69] (xsI h 69 12 ((xI h 69 12) + 1)) (fun h1 => Sh h1 ∧ (InB (xI h1 69 55) 64 ∧ (Ev 196 23 [.ref 69, .int x1, .null] [] (xsI (xsI h1 105 (tn (xI h1 69 55)) 6) 69 55 ((xI (xsI h1 105 (tn (xI h1 69 55)) 6) 69 55) + 1)) Q)))) : Ev 196 46 [.ref 69, .int x1, .null] [] h Q := by
  refine e_al o_196_46 rfl ?_
  refine e_dup o_196_47 rfl ?_
  refine e_gI o_196_48 (sk_69 (h := h) hs) ?_
  refine e_c 1 o_196_51 rfl ?_
  refine e_bin o_196_52 rfl ?_
  refine e_pI o_196_53 (sk_69 (h := h) hs) ?_
  refine e_al o_196_56 rfl ?_
  refine e_clV (as := [.ref 69]) (rest := []) o_196_57 rfl rfl (x_okd cl_196_190 ml_190 (Nat.le_of_ble_eq_true rfl) (Nat.le_of_ble_eq_true rfl)) (x_rc0 (ci := 9) (sk_69 (h := h) hs) mo_190) k ?_
  rintro h1 ⟨sh1, k⟩
  refine e_al o_196_60 rfl ?_
  refine e_gR (r := 105) o_196_61 (sk_69 (h := h1) sh1) (sr_69_54 (h := h1) sh1) (by decide) ?_
  refine e_al o_196_64 rfl ?_
  refine e_gI o_196_65 (sk_69 (h := h1) sh1) ?_
  refine e_c 6 o_196_68 rfl ?_
  obtain ⟨q, k⟩ := k
  refine e_ias (n := 64) o_196_70 (sk_105 (h := h1) sh1) (by decide) (sn_105 (h := h1) sh1) q ?_
  refine e_al o_196_71 rfl ?_
  refine e_dup o_196_72 rfl ?_
  refine e_gI o_196_73 (sk_69 (h := h1) sh1) ?_
  refine e_c 1 o_196_76 rfl ?_
  refine e_bin o_196_77 rfl ?_
  refine e_pI o_196_78 (sk_69 (h := h1) sh1) ?_
  refine e_go o_196_81 ?_
  exact Ev.less (ls := [.ref 69, .int x1, .null]) ⟨Or.inr rfl, Or.inr rfl, Or.inl rfl, trivial⟩ k
set_option maxHeartbeats 4000000 in
set_option maxRecDepth 100000 in
theorem B_196_96 {x1 : Int32} {h : XH} {Q : Value → XH → Prop} (hs : Sh h) (k : ClI 185 [.ref 69, .int 7] h (fun v2 h1 => Sh h1 ∧ (((v2 = 0) → Ev 196 145 [.ref 69, .int x1, .null] [] h1 Q) ∧ (¬ (v2 = 0) → (((xI h1 69 12) ≤ x1) → Ev 196 145 [.ref 69, .int x1, .null] [] h1 Q) ∧ (¬ ((xI h1 69 12) ≤ x1) → ClV 199 [.ref 69, .int 0] h1 (fun h3 => Sh h3 ∧ (ClV 190 [.ref 69] (xsI (xsI h3 69 55 ((xI h3 69 55) - 1)) 69 12 ((xI (xsI h3 69 55 ((xI h3 69 55) - 1)) 69 12) - 1)) (fun h5 => Sh h5 ∧ (Ev 196 96 [.ref 69, .int x1, .null] [] h5 Q))))))))) : Ev 196 96 [.ref 69, .int x1, .null] [] h Q := by
  refine e_al o_196_96 rfl ?_
  refine e_c 7 o_196_97 rfl ?_
  refine e_clI (as := [.ref 69, .int 7]) (rest := []) o_196_99 rfl rfl (x_okd cl_196_185 ml_185 (Nat.le_of_ble_eq_true rfl) (Nat.le_of_ble_eq_true rfl)) (x_rc0 (ci := 9) (sk_69 (h := h) hs) mo_185) k ?_
  rintro v2 h1 ⟨sh1, k⟩
  refine e_i0_0 o_196_102 (fun z => ?_) (fun z => ?_)
  · have k := k.1 z
    exact Ev.less (ls := [.ref 69, .int x1, .null]) ⟨Or.inr rfl, Or.inr rfl, Or.inl rfl, trivial⟩ k
  · have k := k.2 z
    refine e_al o_196_105 rfl ?_
    refine e_gI o_196_106 (sk_69 (h := h1) sh1) ?_
    refine e_il o_196_109 rfl ?_
    refine e_if_5 o_196_110 (fun z => ?_) (fun z => ?_)
    · have k := k.1 z
      exact Ev.less (ls := [.ref 69, .int x1, .null]) ⟨Or.inr rfl, Or.inr rfl, Or.inl rfl, trivial⟩ k
    · have k := k.2 z
      refine e_al o_196_113 rfl ?_
      refine e_c 0 o_196_114 rfl ?_
      refine e_clV (as := [.ref 69, .int 0]) (rest := []) o_196_115 rfl rfl (x_okd cl_196_199 ml_199 (Nat.le_of_ble_eq_true rfl) (Nat.le_of_ble_eq_true rfl)) (x_rc0 (ci := 9) (sk_69 (h := h1) sh1) mo_199) k ?_
      rintro h3 ⟨sh3, k⟩
      refine e_al o_196_118 rfl ?_
      refine e_dup o_196_119 rfl ?_
      refine e_gI o_196_120 (sk_69 (h := h3) sh3) ?_
      refine e_c 1 o_196_123 rfl ?_
      refine e_bin o_196_124 rfl ?_
      refine e_pI o_196_125 (sk_69 (h := h3) sh3) ?_
      refine e_al o_196_128 rfl ?_
      refine e_dup o_196_129 rfl ?_
      refine e_gI o_196_130 (sk_69 (h := h3) sh3) ?_
      refine e_c 1 o_196_133 rfl ?_
      refine e_bin o_196_134 rfl ?_
      refine e_pI o_196_135 (sk_69 (h := h3) sh3) ?_
      refine e_al o_196_138 rfl ?_
      refine e_clV (as := [.ref 69]) (rest := []) o_196_139 rfl rfl (x_okd cl_196_190 ml_190 (Nat.le_of_ble_eq_true rfl) (Nat.le_of_ble_eq_true rfl)) (x_rc0 (ci := 9) (sk_69 (h := h3) sh3) mo_190) k ?_
      rintro h5 ⟨sh5, k⟩
      refine e_go o_196_142 ?_
      exact Ev.less (ls := [.ref 69, .int x1, .null]) ⟨Or.inr rfl, Or.inr rfl, Or.inl rfl, trivial⟩ k
set_option maxHeartbeats 4000000 in
set_option maxRecDepth 100000 in
theorem B_196_145 {x1 : Int32} {h : XH} {Q : Value → XH → Prop} (hs : Sh h) (k : ClI 185 [.ref 69, .int 8] h (fun v2 h1 => Sh h1 ∧ (((¬ v2 = 0) → Ev 196 181 [.ref 69, .int x1, .null] [] h1 Q) ∧ (¬ (¬ v2 = 0) → ClI 185 [.ref 69, .int 9] h1 (fun v4 h3 => Sh h3 ∧ (((¬ v4 = 0) → Ev 196 181 [.ref 69, .int x1, .null] [] h3 Q) ∧ (¬ (¬ v4 = 0) → ClI 185 [.ref 69, .int 10] h3 (fun v6 h5 => Sh h5 ∧ (((¬ v6 = 0) → Ev 196 181 [.ref 69, .int x1, .null] [] h5 Q) ∧ (¬ (¬ v6 = 0) → ClI 185 [.ref 69, .int 15] h5 (fun v8 h7 => Sh h7 ∧ (((v8 = 0) → ((¬ (0 : Int32) = 0) → ClI 185 [.ref 69, .int 10] h7 (fun v10 h9 => Sh h9 ∧ (((¬ v10 = 0) → ClV 199 [.ref 69, .int 1] h9 (fun h11 => Sh h11 ∧ (InB (xI h11 69 11) 403 ∧ (InB (xI h11 69 55) 64 ∧ (∀ h13 : XH, h13 = (xsI (xsI h11 105 (tn (xI h11 69 55)) (xI h11 72 (tn (xI h11 69 11)))) 69 55 ((xI (xsI h11 105 (tn (xI h11 69 55)) (xI h11 72 (tn (xI h11 69 11)))) 69 55) + 1)) → (ClV 190 [.ref 69] h13 (fun h14 => Sh h14 ∧ (Ev 196 12 [.ref 69, .int x1, .int 0] [] h14 Q)))))))) ∧ (¬ (¬ v10 = 0) → ClI 185 [.ref 69, .int 15] h9 (fun v17 h16 => Sh h16 ∧ (((v17 = 0) → ClV 199 [.ref 69, .int 0] h16 (fun h18 => Sh h18 ∧ (InB (xI h18 69 11) 403 ∧ (InB (xI h18 69 55) 64 ∧ (∀ h20 : XH, h20 = (xsI (xsI h18 105 (tn (xI h18 69 55)) (xI h18 72 (tn (xI h18 69 11)))) 69 55 ((xI (xsI h18 105 (tn (xI h18 69 55)) (xI h18 72 (tn (xI h18 69 11)))) 69 55) + 1)) → (ClV 190 [.ref 69] h20 (fun h21 => Sh h21 ∧ (Ev 196 12 [.ref 69, .int x1, .int 0] [] h21 Q)))))))) ∧ (¬ (v17 = 0) → ClV 199 [.ref 69, .int 1] h16 (fun h23 => Sh h23 ∧ (InB (xI h23 69 11) 403 ∧ (InB (xI h23 69 55) 64 ∧ (∀ h25 : XH, h25 = (xsI (xsI h23 105 (tn (xI h23 69 55)) (xI h23 72 (tn (xI h23 69 11)))) 69 55 ((xI (xsI h23 105 (tn (xI h23 69 55)) (xI h23 72 (tn (xI h23 69 11)))) 69 55) + 1)) → (ClV 190 [.ref 69] h25 (fun h26 => Sh h26 ∧ (Ev 196 12 [.ref 69, .int x1, .int 0] [] h26 Q)))))))))))))) ∧ (¬ (¬ (0 : Int32) = 0) → (((xI h7 69 12) ≤ x1) → Ev 196 204 [.ref 69, .null, .null] [] h7 Q) ∧ (¬ ((xI h7 69 12) ≤ x1) → ClV 187 [.ref 69, .int 1] h7 (fun h28 => Sh h28 ∧ (Ev 196 204 [.ref 69, .null, .null] [] h28 Q))))) ∧ (¬ (v8 = 0) → Ev 196 181 [.ref 69, .int x1, .null] [] h7 Q))))))))))))) : Ev 196 145 [.ref 69, .int x1, .null] [] h Q := by
  refine e_al o_196_145 rfl ?_
  refine e_c 8 o_196_146 rfl ?_
  refine e_clI (as := [.ref 69, .int 8]) (rest := []) o_196_148 rfl rfl (x_okd cl_196_185 ml_185 (Nat.le_of_ble_eq_true rfl) (Nat.le_of_ble_eq_true rfl)) (x_rc0 (ci := 9) (sk_69 (h := h) hs) mo_185) k ?_
  rintro v2 h1 ⟨sh1, k⟩
  refine e_i0_1 o_196_151 (fun z => ?_) (fun z => ?_)
  · have k := k.1 z
    exact Ev.less (ls := [.ref 69, .int x1, .null]) ⟨Or.inr rfl, Or.inr rfl, Or.inl rfl, trivial⟩ k
  · have k := k.2 z
    refine e_al o_196_154 rfl ?_
    refine e_c 9 o_196_155 rfl ?_
    refine e_clI (as := [.ref 69, .int 9]) (rest := []) o_196_157 rfl rfl (x_okd cl_196_185 ml_185 (Nat.le_of_ble_eq_true rfl) (Nat.le_of_ble_eq_true rfl)) (x_rc0 (ci := 9) (sk_69 (h := h1) sh1) mo_185) k ?_
    rintro v4 h3 ⟨sh3, k⟩
    refine e_i0_1 o_196_160 (fun z => ?_) (fun z => ?_)
    · have k := k.1 z
      exact Ev.less (ls := [.ref 69, .int x1, .null]) ⟨Or.inr rfl, Or.inr rfl, Or.inl rfl, trivial⟩ k
    · have k := k.2 z
      refine e_al o_196_163 rfl ?_
      refine e_c 10 o_196_164 rfl ?_
      refine e_clI (as := [.ref 69, .int 10]) (rest := []) o_196_166 rfl rfl (x_okd cl_196_185 ml_185 (Nat.le_of_ble_eq_true rfl) (Nat.le_of_ble_eq_true rfl)) (x_rc0 (ci := 9) (sk_69 (h := h3) sh3) mo_185) k ?_
      rintro v6 h5 ⟨sh5, k⟩
      refine e_i0_1 o_196_169 (fun z => ?_) (fun z => ?_)
      · have k := k.1 z
        exact Ev.less (ls := [.ref 69, .int x1, .null]) ⟨Or.inr rfl, Or.inr rfl, Or.inl rfl, trivial⟩ k
      · have k := k.2 z
        refine e_al o_196_172 rfl ?_
        refine e_c 15 o_196_173 rfl ?_
        refine e_clI (as := [.ref 69, .int 15]) (rest := []) o_196_175 rfl rfl (x_okd cl_196_185 ml_185 (Nat.le_of_ble_eq_true rfl) (Nat.le_of_ble_eq_true rfl)) (x_rc0 (ci := 9) (sk_69 (h := h5) sh5) mo_185) k ?_
        rintro v8 h7 ⟨sh7, k⟩
        refine e_i0_0 o_196_178 (fun z => ?_) (fun z => ?_)
        · have k := k.1 z
          refine e_c 0 o_196_185 rfl ?_
          refine e_is (ls' := [.ref 69, .int x1, .int 0]) o_196_186 (Nat.le_of_ble_eq_true rfl) rfl ?_
          refine e_il o_196_187 rfl ?_
          refine e_i0_1 o_196_188 (fun z => ?_) (fun z => ?_)
          · have k := k.1 z
            refine e_al o_196_210 rfl ?_
            refine e_al o_196_211 rfl ?_
            refine e_c 10 o_196_212 rfl ?_
            refine e_clI (as := [.ref 69, .int 10]) (rest := [.ref 69]) o_196_214 rfl rfl (x_okd cl_196_185 ml_185 (Nat.le_of_ble_eq_true rfl) (Nat.le_of_ble_eq_true rfl)) (x_rc0 (ci := 9) (sk_69 (h := h7) sh7) mo_185) k ?_
            rintro v10 h9 ⟨sh9, k⟩
            refine e_i0_1 o_196_217 (fun z => ?_) (fun z => ?_)
            · have k := k.1 z
              refine e_c 1 o_196_229 rfl ?_
              refine e_go o_196_230 ?_
              refine e_clV (as := [.ref 69, .int 1]) (rest := []) o_196_234 rfl rfl (x_okd cl_196_199 ml_199 (Nat.le_of_ble_eq_true rfl) (Nat.le_of_ble_eq_true rfl)) (x_rc0 (ci := 9) (sk_69 (h := h9) sh9) mo_199) k ?_
              rintro h11 ⟨sh11, k⟩
              refine e_al o_196_237 rfl ?_
              refine e_gR (r := 105) o_196_238 (sk_69 (h := h11) sh11) (sr_69_54 (h := h11) sh11) (by decide) ?_
              refine e_al o_196_241 rfl ?_
              refine e_gI o_196_242 (sk_69 (h := h11) sh11) ?_
              refine e_al o_196_245 rfl ?_
              refine e_gR (r := 72) o_196_246 (sk_69 (h := h11) sh11) (sr_69_5 (h := h11) sh11) (by decide) ?_
              refine e_al o_196_249 rfl ?_
              refine e_gI o_196_250 (sk_69 (h := h11) sh11) ?_
              obtain ⟨q, k⟩ := k
              refine e_ia (n := 403) o_196_253 (sk_72 (h := h11) sh11) (sn_72 (h := h11) sh11) q ?_
              obtain ⟨q, k⟩ := k
              refine e_ias (n := 64) o_196_254 (sk_105 (h := h11) sh11) (by decide) (sn_105 (h := h11) sh11) q ?_
              refine e_al o_196_255 rfl ?_
              refine e_dup o_196_256 rfl ?_
              refine e_gI o_196_257 (sk_69 (h := h11) sh11) ?_
              refine e_c 1 o_196_260 rfl ?_
              refine e_bin o_196_261 rfl ?_
              refine e_pI o_196_262 (sk_69 (h := h11) sh11) ?_
              obtain ⟨h13, eh13⟩ : ∃ z : XH, z = (xsI (xsI h11 105 (tn (xI h11 69 55)) (xI h11 72 (tn (xI h11 69 11)))) 69 55 ((xI (xsI h11 105 (tn (xI h11 69 55)) (xI h11 72 (tn (xI h11 69 11)))) 69 55) + 1)) := ⟨_, rfl⟩
              show Ev 196 265 [.ref 69, .int x1, .int 0] [] (xsI (xsI h11 105 (tn (xI h11 69 55)) (xI h11 72 (tn (xI h11 69 11)))) 69 55 ((xI (xsI h11 105 (tn (xI h11 69 55)) (xI h11 72 (tn (xI h11 69 11)))) 69 55) + 1)) Q
              rw [← eh13]
              have sh13 : Sh h13 := by rw [eh13]; exact (sh_I (sh_I sh11 (by decide)) (by decide))
              have k := k h13 eh13
              refine e_al o_196_265 rfl ?_
              refine e_clV (as := [.ref 69]) (rest := []) o_196_266 rfl rfl (x_okd cl_196_190 ml_190 (Nat.le_of_ble_eq_true rfl) (Nat.le_of_ble_eq_true rfl)) (x_rc0 (ci := 9) (sk_69 (h := h13) sh13) mo_190) k ?_
              rintro h14 ⟨sh14, k⟩
              refine e_go o_196_269 ?_
              exact Ev.less (ls := [.ref 69, .int x1, .int 0]) ⟨Or.inr rfl, Or.inr rfl, Or.inr rfl, trivial⟩ k
            · have k := k.2 z
              refine e_al o_196_220 rfl ?_
              refine e_c 15 o_196_221 rfl ?_
              refine e_clI (as := [.ref 69, .int 15]) (rest := [.ref 69]) o_196_223 rfl rfl (x_okd cl_196_185 ml_185 (Nat.le_of_ble_eq_true rfl) (Nat.le_of_ble_eq_true rfl)) (x_rc0 (ci := 9) (sk_69 (h := h9) sh9) mo_185) k ?_
              rintro v17 h16 ⟨sh16, k⟩
              refine e_i0_0 o_196_226 (fun z => ?_) (fun z => ?_)
              · have k := k.1 z
                refine e_c 0 o_196_233 rfl ?_
                refine e_clV (as := [.ref 69, .int 0]) (rest := []) o_196_234 rfl rfl (x_okd cl_196_199 ml_199 (Nat.le_of_ble_eq_true rfl) (Nat.le_of_ble_eq_true rfl)) (x_rc0 (ci := 9) (sk_69 (h := h16) sh16) mo_199) k ?_
                rintro h18 ⟨sh18, k⟩
                refine e_al o_196_237 rfl ?_
                refine e_gR (r := 105) o_196_238 (sk_69 (h := h18) sh18) (sr_69_54 (h := h18) sh18) (by decide) ?_
                refine e_al o_196_241 rfl ?_
                refine e_gI o_196_242 (sk_69 (h := h18) sh18) ?_
                refine e_al o_196_245 rfl ?_
                refine e_gR (r := 72) o_196_246 (sk_69 (h := h18) sh18) (sr_69_5 (h := h18) sh18) (by decide) ?_
                refine e_al o_196_249 rfl ?_
                refine e_gI o_196_250 (sk_69 (h := h18) sh18) ?_
                obtain ⟨q, k⟩ := k
                refine e_ia (n := 403) o_196_253 (sk_72 (h := h18) sh18) (sn_72 (h := h18) sh18) q ?_
                obtain ⟨q, k⟩ := k
                refine e_ias (n := 64) o_196_254 (sk_105 (h := h18) sh18) (by decide) (sn_105 (h := h18) sh18) q ?_
                refine e_al o_196_255 rfl ?_
                refine e_dup o_196_256 rfl ?_
                refine e_gI o_196_257 (sk_69 (h := h18) sh18) ?_
                refine e_c 1 o_196_260 rfl ?_
                refine e_bin o_196_261 rfl ?_
                refine e_pI o_196_262 (sk_69 (h := h18) sh18) ?_
                obtain ⟨h20, eh20⟩ : ∃ z : XH, z = (xsI (xsI h18 105 (tn (xI h18 69 55)) (xI h18 72 (tn (xI h18 69 11)))) 69 55 ((xI (xsI h18 105 (tn (xI h18 69 55)) (xI h18 72 (tn (xI h18 69 11)))) 69 55) + 1)) := ⟨_, rfl⟩
                show Ev 196 265 [.ref 69, .int x1, .int 0] [] (xsI (xsI h18 105 (tn (xI h18 69 55)) (xI h18 72 (tn (xI h18 69 11)))) 69 55 ((xI (xsI h18 105 (tn (xI h18 69 55)) (xI h18 72 (tn (xI h18 69 11)))) 69 55) + 1)) Q
                rw [← eh20]
                have sh20 : Sh h20 := by rw [eh20]; exact (sh_I (sh_I sh18 (by decide)) (by decide))
                have k := k h20 eh20
                refine e_al o_196_265 rfl ?_
                refine e_clV (as := [.ref 69]) (rest := []) o_196_266 rfl rfl (x_okd cl_196_190 ml_190 (Nat.le_of_ble_eq_true rfl) (Nat.le_of_ble_eq_true rfl)) (x_rc0 (ci := 9) (sk_69 (h := h20) sh20) mo_190) k ?_
                rintro h21 ⟨sh21, k⟩
                refine e_go o_196_269 ?_
                exact Ev.less (ls := [.ref 69, .int x1, .int 0]) ⟨Or.inr rfl, Or.inr rfl, Or.inr rfl, trivial⟩ k
              · have k := k.2 z
                refine e_c 1 o_196_229 rfl ?_
                refine e_go o_196_230 ?_
                refine e_clV (as := [.ref 69, .int 1]) (rest := []) o_196_234 rfl rfl (x_okd cl_196_199 ml_199 (Nat.le_of_ble_eq_true rfl) (Nat.le_of_ble_eq_true rfl)) (x_rc0 (ci := 9) (sk_69 (h := h16) sh16) mo_199) k ?_
                rintro h23 ⟨sh23, k⟩
                refine e_al o_196_237 rfl ?_
                refine e_gR (r := 105) o_196_238 (sk_69 (h := h23) sh23) (sr_69_54 (h := h23) sh23) (by decide) ?_
                refine e_al o_196_241 rfl ?_
                refine e_gI o_196_242 (sk_69 (h := h23) sh23) ?_
                refine e_al o_196_245 rfl ?_
                refine e_gR (r := 72) o_196_246 (sk_69 (h := h23) sh23) (sr_69_5 (h := h23) sh23) (by decide) ?_
                refine e_al o_196_249 rfl ?_
                refine e_gI o_196_250 (sk_69 (h := h23) sh23) ?_
                obtain ⟨q, k⟩ := k
                refine e_ia (n := 403) o_196_253 (sk_72 (h := h23) sh23) (sn_72 (h := h23) sh23) q ?_
                obtain ⟨q, k⟩ := k
                refine e_ias (n := 64) o_196_254 (sk_105 (h := h23) sh23) (by decide) (sn_105 (h := h23) sh23) q ?_
                refine e_al o_196_255 rfl ?_
                refine e_dup o_196_256 rfl ?_
                refine e_gI o_196_257 (sk_69 (h := h23) sh23) ?_
                refine e_c 1 o_196_260 rfl ?_
                refine e_bin o_196_261 rfl ?_
                refine e_pI o_196_262 (sk_69 (h := h23) sh23) ?_
                obtain ⟨h25, eh25⟩ : ∃ z : XH, z = (xsI (xsI h23 105 (tn (xI h23 69 55)) (xI h23 72 (tn (xI h23 69 11)))) 69 55 ((xI (xsI h23 105 (tn (xI h23 69 55)) (xI h23 72 (tn (xI h23 69 11)))) 69 55) + 1)) := ⟨_, rfl⟩
                show Ev 196 265 [.ref 69, .int x1, .int 0] [] (xsI (xsI h23 105 (tn (xI h23 69 55)) (xI h23 72 (tn (xI h23 69 11)))) 69 55 ((xI (xsI h23 105 (tn (xI h23 69 55)) (xI h23 72 (tn (xI h23 69 11)))) 69 55) + 1)) Q
                rw [← eh25]
                have sh25 : Sh h25 := by rw [eh25]; exact (sh_I (sh_I sh23 (by decide)) (by decide))
                have k := k h25 eh25
                refine e_al o_196_265 rfl ?_
                refine e_clV (as := [.ref 69]) (rest := []) o_196_266 rfl rfl (x_okd cl_196_190 ml_190 (Nat.le_of_ble_eq_true rfl) (Nat.le_of_ble_eq_true rfl)) (x_rc0 (ci := 9) (sk_69 (h := h25) sh25) mo_190) k ?_
                rintro h26 ⟨sh26, k⟩
                refine e_go o_196_269 ?_
                exact Ev.less (ls := [.ref 69, .int x1, .int 0]) ⟨Or.inr rfl, Or.inr rfl, Or.inr rfl, trivial⟩ k
          · have k := k.2 z
            refine e_al o_196_191 rfl ?_
            refine e_gI o_196_192 (sk_69 (h := h7) sh7) ?_
            refine e_il o_196_195 rfl ?_
            refine e_if_5 o_196_196 (fun z => ?_) (fun z => ?_)
            · have k := k.1 z
              exact Ev.less (ls := [.ref 69, .null, .null]) ⟨Or.inr rfl, Or.inl rfl, Or.inl rfl, trivial⟩ k
            · have k := k.2 z
              refine e_al o_196_199 rfl ?_
              refine e_c 1 o_196_200 rfl ?_
              refine e_clV (as := [.ref 69, .int 1]) (rest := []) o_196_201 rfl rfl (x_okd cl_196_187 ml_187 (Nat.le_of_ble_eq_true rfl) (Nat.le_of_ble_eq_true rfl)) (x_rc0 (ci := 9) (sk_69 (h := h7) sh7) mo_187) k ?_
              rintro h28 ⟨sh28, k⟩
              exact Ev.less (ls := [.ref 69, .null, .null]) ⟨Or.inr rfl, Or.inl rfl, Or.inl rfl, trivial⟩ k
        · have k := k.2 z
          exact Ev.less (ls := [.ref 69, .int x1, .null]) ⟨Or.inr rfl, Or.inr rfl, Or.inl rfl, trivial⟩ k
set_option maxHeartbeats 4000000 in
set_option maxRecDepth 100000 in
theorem B_196_181 {x1 : Int32} {h : XH} {Q : Value → XH → Prop} (hs : Sh h) (k : ((¬ (1 : Int32) = 0) → ClI 185 [.ref 69, .int 10] h (fun v2 h1 => Sh h1 ∧ (((¬ v2 = 0) → ClV 199 [.ref 69, .int 1] h1 (fun h3 => Sh h3 ∧ (InB (xI h3 69 11) 403 ∧ (InB (xI h3 69 55) 64 ∧ (∀ h5 : XH, h5 = (xsI (xsI h3 105 (tn (xI h3 69 55)) (xI h3 72 (tn (xI h3 69 11)))) 69 55 ((xI (xsI h3 105 (tn (xI h3 69 55)) (xI h3 72 (tn (xI h3 69 11)))) 69 55) + 1)) → (ClV 190 [.ref 69] h5 (fun h6 => Sh h6 ∧ (Ev 196 12 [.ref 69, .int x1, .int 1] [] h6 Q)))))))) ∧ (¬ (¬ v2 = 0) → ClI 185 [.ref 69, .int 15] h1 (fun v9 h8 => Sh h8 ∧ (((v9 = 0) → ClV 199 [.ref 69, .int 0] h8 (fun h10 => Sh h10 ∧ (InB (xI h10 69 11) 403 ∧ (InB (xI h10 69 55) 64 ∧ (∀ h12 : XH, h12 = (xsI (xsI h10 105 (tn (xI h10 69 55)) (xI h10 72 (tn (xI h10 69 11)))) 69 55 ((xI (xsI h10 105 (tn (xI h10 69 55)) (xI h10 72 (tn (xI h10 69 11)))) 69 55) + 1)) → (ClV 190 [.ref 69] h12 (fun h13 => Sh h13 ∧ (Ev 196 12 [.ref 69, .int x1, .int 1] [] h13 Q)))))))) ∧ (¬ (v9 = 0) → ClV 199 [.ref 69, .int 1] h8 (fun h15 => Sh h15 ∧ (InB (xI h15 69 11) 403 ∧ (InB (xI h15 69 55) 64 ∧ (∀ h17 : XH, h17 = (xsI (xsI h15 105 (tn (xI h15 69 55)) (xI h15 72 (tn (xI h15 69 11)))) 69 55 ((xI (xsI h15 105 (tn (xI h15 69 55)) (xI h15 72 (tn (xI h15 69 11)))) 69 55) + 1)) → (ClV 190 [.ref 69] h17 (fun h18 => Sh h18 ∧ (Ev 196 12 [.ref 69, .int x1, .int 1] [] h18 Q)))))))))))))) ∧ (¬ (¬ (1 : Int32) = 0) → (((xI h 69 12) ≤ x1) → Ev 196 204 [.ref 69, .null, .null] [] h Q) ∧ (¬ ((xI h 69 12) ≤ x1) → ClV 187 [.ref 69, .int 1] h (fun h20 => Sh h20 ∧ (Ev 196 204 [.ref 69, .null, .null] [] h20 Q))))) : Ev 196 181 [.ref 69, .int x1, .null] [] h Q := by
  refine e_c 1 o_196_181 rfl ?_
  refine e_go o_196_182 ?_
  refine e_is (ls' := [.ref 69, .int x1, .int 1]) o_196_186 (Nat.le_of_ble_eq_true rfl) rfl ?_
  refine e_il o_196_187 rfl ?_
  refine e_i0_1 o_196_188 (fun z => ?_) (fun z => ?_)
  · have k := k.1 z
    refine e_al o_196_210 rfl ?_
    refine e_al o_196_211 rfl ?_
    refine e_c 10 o_196_212 rfl ?_
    refine e_clI (as := [.ref 69, .int 10]) (rest := [.ref 69]) o_196_214 rfl rfl (x_okd cl_196_185 ml_185 (Nat.le_of_ble_eq_true rfl) (Nat.le_of_ble_eq_true rfl)) (x_rc0 (ci := 9) (sk_69 (h := h) hs) mo_185) k ?_
    rintro v2 h1 ⟨sh1, k⟩
    refine e_i0_1 o_196_217 (fun z => ?_) (fun z => ?_)
    · have k := k.1 z
      refine e_c 1 o_196_229 rfl ?_
      refine e_go o_196_230 ?_
      refine e_clV (as := [.ref 69, .int 1]) (rest := []) o_196_234 rfl rfl (x_okd cl_196_199 ml_199 (Nat.le_of_ble_eq_true rfl) (Nat.le_of_ble_eq_true rfl)) (x_rc0 (ci := 9) (sk_69 (h := h1) sh1) mo_199) k ?_
      rintro h3 ⟨sh3, k⟩
      refine e_al o_196_237 rfl ?_
      refine e_gR (r := 105) o_196_238 (sk_69 (h := h3) sh3) (sr_69_54 (h := h3) sh3) (by decide) ?_
      refine e_al o_196_241 rfl ?_
      refine e_gI o_196_242 (sk_69 (h := h3) sh3) ?_
      refine e_al o_196_245 rfl ?_
      refine e_gR (r := 72) o_196_246 (sk_69 (h := h3) sh3) (sr_69_5 (h := h3) sh3) (by decide) ?_
      refine e_al o_196_249 rfl ?_
      refine e_gI o_196_250 (sk_69 (h := h3) sh3) ?_
      obtain ⟨q, k⟩ := k
      refine e_ia (n := 403) o_196_253 (sk_72 (h := h3) sh3) (sn_72 (h := h3) sh3) q ?_
      obtain ⟨q, k⟩ := k
      refine e_ias (n := 64) o_196_254 (sk_105 (h := h3) sh3) (by decide) (sn_105 (h := h3) sh3) q ?_
      refine e_al o_196_255 rfl ?_
      refine e_dup o_196_256 rfl ?_
      refine e_gI o_196_257 (sk_69 (h := h3) sh3) ?_
      refine e_c 1 o_196_260 rfl ?_
      refine e_bin o_196_261 rfl ?_
      refine e_pI o_196_262 (sk_69 (h := h3) sh3) ?_
      obtain ⟨h5, eh5⟩ : ∃ z : XH, z = (xsI (xsI h3 105 (tn (xI h3 69 55)) (xI h3 72 (tn (xI h3 69 11)))) 69 55 ((xI (xsI h3 105 (tn (xI h3 69 55)) (xI h3 72 (tn (xI h3 69 11)))) 69 55) + 1)) := ⟨_, rfl⟩
      show Ev 196 265 [.ref 69, .int x1, .int 1] [] (xsI (xsI h3 105 (tn (xI h3 69 55)) (xI h3 72 (tn (xI h3 69 11)))) 69 55 ((xI (xsI h3 105 (tn (xI h3 69 55)) (xI h3 72 (tn (xI h3 69 11)))) 69 55) + 1)) Q
      rw [← eh5]
      have sh5 : Sh h5 := by rw [eh5]; exact (sh_I (sh_I sh3 (by decide)) (by decide))
      have k := k h5 eh5
      refine e_al o_196_265 rfl ?_
      refine e_clV (as := [.ref 69]) (rest := []) o_196_266 rfl rfl (x_okd cl_196_190 ml_190 (Nat.le_of_ble_eq_true rfl) (Nat.le_of_ble_eq_true rfl)) (x_rc0 (ci := 9) (sk_69 (h := h5) sh5) mo_190) k ?_
      rintro h6 ⟨sh6, k⟩
      refine e_go o_196_269 ?_
      exact Ev.less (ls := [.ref 69, .int x1, .int 1]) ⟨Or.inr rfl, Or.inr rfl, Or.inr rfl, trivial⟩ k
    · have k := k.2 z
      refine e_al o_196_220 rfl ?_
      refine e_c 15 o_196_221 rfl ?_
      refine e_clI (as := [.ref 69, .int 15]) (rest := [.ref 69]) o_196_223 rfl rfl (x_okd cl_196_185 ml_185 (Nat.le_of_ble_eq_true rfl) (Nat.le_of_ble_eq_true rfl)) (x_rc0 (ci := 9) (sk_69 (h := h1) sh1) mo_185) k ?_
      rintro v9 h8 ⟨sh8, k⟩
      refine e_i0_0 o_196_226 (fun z => ?_) (fun z => ?_)
      · have k := k.1 z
        refine e_c 0 o_196_233 rfl ?_
        refine e_clV (as := [.ref 69, .int 0]) (rest := []) o_196_234 rfl rfl (x_okd cl_196_199 ml_199 (Nat.le_of_ble_eq_true rfl) (Nat.le_of_ble_eq_true rfl)) (x_rc0 (ci := 9) (sk_69 (h := h8) sh8) mo_199) k ?_
        rintro h10 ⟨sh10, k⟩
        refine e_al o_196_237 rfl ?_
        refine e_gR (r := 105) o_196_238 (sk_69 (h := h10) sh10) (sr_69_54 (h := h10) sh10) (by decide) ?_
        refine e_al o_196_241 rfl ?_
        refine e_gI o_196_242 (sk_69 (h := h10) sh10) ?_
        refine e_al o_196_245 rfl ?_
        refine e_gR (r := 72) o_196_246 (sk_69 (h := h10) sh10) (sr_69_5 (h := h10) sh10) (by decide) ?_
        refine e_al o_196_249 rfl ?_
        refine e_gI o_196_250 (sk_69 (h := h10) sh10) ?_
        obtain ⟨q, k⟩ := k
        refine e_ia (n := 403) o_196_253 (sk_72 (h := h10) sh10) (sn_72 (h := h10) sh10) q ?_
        obtain ⟨q, k⟩ := k
        refine e_ias (n := 64) o_196_254 (sk_105 (h := h10) sh10) (by decide) (sn_105 (h := h10) sh10) q ?_
        refine e_al o_196_255 rfl ?_
        refine e_dup o_196_256 rfl ?_
        refine e_gI o_196_257 (sk_69 (h := h10) sh10) ?_
        refine e_c 1 o_196_260 rfl ?_
        refine e_bin o_196_261 rfl ?_
        refine e_pI o_196_262 (sk_69 (h := h10) sh10) ?_
        obtain ⟨h12, eh12⟩ : ∃ z : XH, z = (xsI (xsI h10 105 (tn (xI h10 69 55)) (xI h10 72 (tn (xI h10 69 11)))) 69 55 ((xI (xsI h10 105 (tn (xI h10 69 55)) (xI h10 72 (tn (xI h10 69 11)))) 69 55) + 1)) := ⟨_, rfl⟩
        show Ev 196 265 [.ref 69, .int x1, .int 1] [] (xsI (xsI h10 105 (tn (xI h10 69 55)) (xI h10 72 (tn (xI h10 69 11)))) 69 55 ((xI (xsI h10 105 (tn (xI h10 69 55)) (xI h10 72 (tn (xI h10 69 11)))) 69 55) + 1)) Q
        rw [← eh12]
        have sh12 : Sh h12 := by rw [eh12]; exact (sh_I (sh_I sh10 (by decide)) (by decide))
        have k := k h12 eh12
        refine e_al o_196_265 rfl ?_
        refine e_clV (as := [.ref 69]) (rest := []) o_196_266 rfl rfl (x_okd cl_196_190 ml_190 (Nat.le_of_ble_eq_true rfl) (Nat.le_of_ble_eq_true rfl)) (x_rc0 (ci := 9) (sk_69 (h := h12) sh12) mo_190) k ?_
        rintro h13 ⟨sh13, k⟩
        refine e_go o_196_269 ?_
        exact Ev.less (ls := [.ref 69, .int x1, .int 1]) ⟨Or.inr rfl, Or.inr rfl, Or.inr rfl, trivial⟩ k
      · have k := k.2 z
        refine e_c 1 o_196_229 rfl ?_
        refine e_go o_196_230 ?_
        refine e_clV (as := [.ref 69, .int 1]) (rest := []) o_196_234 rfl rfl (x_okd cl_196_199 ml_199 (Nat.le_of_ble_eq_true rfl) (Nat.le_of_ble_eq_true rfl)) (x_rc0 (ci := 9) (sk_69 (h := h8) sh8) mo_199) k ?_
        rintro h15 ⟨sh15, k⟩
        refine e_al o_196_237 rfl ?_
        refine e_gR (r := 105) o_196_238 (sk_69 (h := h15) sh15) (sr_69_54 (h := h15) sh15) (by decide) ?_
        refine e_al o_196_241 rfl ?_
        refine e_gI o_196_242 (sk_69 (h := h15) sh15) ?_
        refine e_al o_196_245 rfl ?_
        refine e_gR (r := 72) o_196_246 (sk_69 (h := h15) sh15) (sr_69_5 (h := h15) sh15) (by decide) ?_
        refine e_al o_196_249 rfl ?_
        refine e_gI o_196_250 (sk_69 (h := h15) sh15) ?_
        obtain ⟨q, k⟩ := k
        refine e_ia (n := 403) o_196_253 (sk_72 (h := h15) sh15) (sn_72 (h := h15) sh15) q ?_
        obtain ⟨q, k⟩ := k
        refine e_ias (n := 64) o_196_254 (sk_105 (h := h15) sh15) (by decide) (sn_105 (h := h15) sh15) q ?_
        refine e_al o_196_255 rfl ?_
        refine e_dup o_196_256 rfl ?_
        refine e_gI o_196_257 (sk_69 (h := h15) sh15) ?_
        refine e_c 1 o_196_260 rfl ?_
        refine e_bin o_196_261 rfl ?_
        refine e_pI o_196_262 (sk_69 (h := h15) sh15) ?_
        obtain ⟨h17, eh17⟩ : ∃ z : XH, z = (xsI (xsI h15 105 (tn (xI h15 69 55)) (xI h15 72 (tn (xI h15 69 11)))) 69 55 ((xI (xsI h15 105 (tn (xI h15 69 55)) (xI h15 72 (tn (xI h15 69 11)))) 69 55) + 1)) := ⟨_, rfl⟩
        show Ev 196 265 [.ref 69, .int x1, .int 1] [] (xsI (xsI h15 105 (tn (xI h15 69 55)) (xI h15 72 (tn (xI h15 69 11)))) 69 55 ((xI (xsI h15 105 (tn (xI h15 69 55)) (xI h15 72 (tn (xI h15 69 11)))) 69 55) + 1)) Q
        rw [← eh17]
        have sh17 : Sh h17 := by rw [eh17]; exact (sh_I (sh_I sh15 (by decide)) (by decide))
        have k := k h17 eh17
        refine e_al o_196_265 rfl ?_
        refine e_clV (as := [.ref 69]) (rest := []) o_196_266 rfl rfl (x_okd cl_196_190 ml_190 (Nat.le_of_ble_eq_true rfl) (Nat.le_of_ble_eq_true rfl)) (x_rc0 (ci := 9) (sk_69 (h := h17) sh17) mo_190) k ?_
        rintro h18 ⟨sh18, k⟩
        refine e_go o_196_269 ?_
        exact Ev.less (ls := [.ref 69, .int x1, .int 1]) ⟨Or.inr rfl, Or.inr rfl, Or.inr rfl, trivial⟩ k
  · have k := k.2 z
    refine e_al o_196_191 rfl ?_
    refine e_gI o_196_192 (sk_69 (h := h) hs) ?_
    refine e_il o_196_195 rfl ?_
    refine e_if_5 o_196_196 (fun z => ?_) (fun z => ?_)
    · have k := k.1 z
      exact Ev.less (ls := [.ref 69, .null, .null]) ⟨Or.inr rfl, Or.inl rfl, Or.inl rfl, trivial⟩ k
    · have k := k.2 z
      refine e_al o_196_199 rfl ?_
      refine e_c 1 o_196_200 rfl ?_
      refine e_clV (as := [.ref 69, .int 1]) (rest := []) o_196_201 rfl rfl (x_okd cl_196_187 ml_187 (Nat.le_of_ble_eq_true rfl) (Nat.le_of_ble_eq_true rfl)) (x_rc0 (ci := 9) (sk_69 (h := h) hs) mo_187) k ?_
      rintro h20 ⟨sh20, k⟩
      exact Ev.less (ls := [.ref 69, .null, .null]) ⟨Or.inr rfl, Or.inl rfl, Or.inl rfl, trivial⟩ k
set_option maxHeartbeats 4000000 in
set_option maxRecDepth 100000 in
theorem B_196_204  {h : XH} {Q : Value → XH → Prop} (hs : Sh h) (k : ClV 199 [.ref 69, .int 0] h (fun h1 => Sh h1 ∧ (Q .null h1))) : Ev 196 204 [.ref 69, .null, .null] [] h Q := by
  refine e_al o_196_204 rfl ?_
  refine e_c 0 o_196_205 rfl ?_
  refine e_clV (as := [.ref 69, .int 0]) (rest := []) o_196_206 rfl rfl (x_okd cl_196_199 ml_199 (Nat.le_of_ble_eq_true rfl) (Nat.le_of_ble_eq_true rfl)) (x_rc0 (ci := 9) (sk_69 (h := h) hs) mo_199) k ?_
  rintro h1 ⟨sh1, k⟩
  exact e_ret0 o_196_209 k
set_option maxHeartbeats 4000000 in
set_option maxRecDepth 100000 in
theorem B_196_272  {h : XH} {Q : Value → XH → Prop} (hs : Sh h) (k : Q .null h) : Ev 196 272 [.null, .null, .null] [] h Q := by
  exact e_ret0 o_196_272 k
set_option maxHeartbeats 4000000 in
set_option maxRecDepth 100000 in
theorem B_197_0  {h : XH} {Q : Value → XH → Prop} (hs : Sh h) (k : ClI 185 [.ref 69, .int 2] h (fun v2 h1 => Sh h1 ∧ (((v2 = 0) → ClI 185 [.ref 69, .int 1] h1 (fun v4 h3 => Sh h3 ∧ (((v4 = 0) → ClI 185 [.ref 69, .int 34] h3 (fun v6 h5 => Sh h5 ∧ (((v6 = 0) → ClI 185 [.ref 69, .int 35] h5 (fun v8 h7 => Sh h7 ∧ (((v8 = 0) → ClV 187 [.ref 69, .int 1] h7 (fun h9 => Sh h9 ∧ (Q .null h9))) ∧ (¬ (v8 = 0) → ClV 198 [.ref 69, .int 1, .int 15] h7 (fun h11 => Sh h11 ∧ (ClV 190 [.ref 69] h11 (fun h13 => Sh h13 ∧ (Q .null h13)))))))) ∧ (¬ (v6 = 0) → (((xI h5 69 42) = 0) → ClV 198 [.ref 69, .int 1, .int 14] h5 (fun h15 => Sh h15 ∧ (ClV 190 [.ref 69] h15 (fun h17 => Sh h17 ∧ (Q .null h17))))) ∧ (¬ ((xI h5 69 42) = 0) → ClV 192 [.ref 69, .int 6, .int (xI h5 69 11)] h5 (fun h19 => Sh h19 ∧ (ClV 198 [.ref 69, .int 1, .int 14] h19 (fun h21 => Sh h21 ∧ (ClV 190 [.ref 69] h21 (fun h23 => Sh h23 ∧ (Q .null h23))))))))))) ∧ (¬ (v4 = 0) → InB (xI h3 69 39) 400 ∧ (InB (xI (xsI h3 94 (tn (xI h3 69 39)) (xI h3 69 51)) 69 39) 400 ∧ (∀ h25 : XH, h25 = (xsI (xsI h3 94 (tn (xI h3 69 39)) (xI h3 69 51)) 95 (tn (xI (xsI h3 94 (tn (xI h3 69 39)) (xI h3 69 51)) 69 39)) (xI (xsI h3 94 (tn (xI h3 69 39)) (xI h3 69 51)) 69 11)) → (ClV 198 [.ref 69, .int 1, .int 0] (xsI h25 69 39 ((xI h25 69 39) + 1)) (fun h26 => Sh h26 ∧ (ClV 190 [.ref 69] h26 (fun h28 => Sh h28 ∧ (Q .null h28))))))))))) ∧ (¬ (v2 = 0) → InB (xI h1 69 11) 403 ∧ (ClV 198 [.ref 69, .int 0, .int (xI h1 74 (tn (xI h1 69 11)))] h1 (fun h30 => Sh h30 ∧ (ClV 190 [.ref 69] h30 (fun h32 => Sh h32 ∧ (Q .null h32))))))))) : Ev 197 0 (x_ini 197 [.ref 69]) [] h Q := by
  rw [show x_ini 197 [.ref 69] = [.ref 69] from x_inid ml_197 rfl]
  refine e_al o_197_0 rfl ?_
  refine e_c 2 o_197_1 rfl ?_
  refine e_clI (as := [.ref 69, .int 2]) (rest := []) o_197_2 rfl rfl (x_okd cl_197_185 ml_185 (Nat.le_of_ble_eq_true rfl) (Nat.le_of_ble_eq_true rfl)) (x_rc0 (ci := 9) (sk_69 (h := h) hs) mo_185) k ?_
  rintro v2 h1 ⟨sh1, k⟩
  refine e_i0_0 o_197_5 (fun z => ?_) (fun z => ?_)
  · have k := k.1 z
    refine e_al o_197_29 rfl ?_
    refine e_c 1 o_197_30 rfl ?_
    refine e_clI (as := [.ref 69, .int 1]) (rest := []) o_197_31 rfl rfl (x_okd cl_197_185 ml_185 (Nat.le_of_ble_eq_true rfl) (Nat.le_of_ble_eq_true rfl)) (x_rc0 (ci := 9) (sk_69 (h := h1) sh1) mo_185) k ?_
    rintro v4 h3 ⟨sh3, k⟩
    refine e_i0_0 o_197_34 (fun z => ?_) (fun z => ?_)
    · have k := k.1 z
      refine e_al o_197_86 rfl ?_
      refine e_c 34 o_197_87 rfl ?_
      refine e_clI (as := [.ref 69, .int 34]) (rest := []) o_197_89 rfl rfl (x_okd cl_197_185 ml_185 (Nat.le_of_ble_eq_true rfl) (Nat.le_of_ble_eq_true rfl)) (x_rc0 (ci := 9) (sk_69 (h := h3) sh3) mo_185) k ?_
      rintro v6 h5 ⟨sh5, k⟩
      refine e_i0_0 o_197_92 (fun z => ?_) (fun z => ?_)
      · have k := k.1 z
        refine e_al o_197_126 rfl ?_
        refine e_c 35 o_197_127 rfl ?_
        refine e_clI (as := [.ref 69, .int 35]) (rest := []) o_197_129 rfl rfl (x_okd cl_197_185 ml_185 (Nat.le_of_ble_eq_true rfl) (Nat.le_of_ble_eq_true rfl)) (x_rc0 (ci := 9) (sk_69 (h := h5) sh5) mo_185) k ?_
        rintro v8 h7 ⟨sh7, k⟩
        refine e_i0_0 o_197_132 (fun z => ?_) (fun z => ?_)
        · have k := k.1 z
          refine e_al o_197_149 rfl ?_
          refine e_c 1 o_197_150 rfl ?_
          refine e_clV (as := [.ref 69, .int 1]) (rest := []) o_197_151 rfl rfl (x_okd cl_197_187 ml_187 (Nat.le_of_ble_eq_true rfl) (Nat.le_of_ble_eq_true rfl)) (x_rc0 (ci := 9) (sk_69 (h := h7) sh7) mo_187) k ?_
          rintro h9 ⟨sh9, k⟩
          exact e_ret0 o_197_154 k
        · have k := k.2 z
          refine e_al o_197_135 rfl ?_
          refine e_c 1 o_197_136 rfl ?_
          refine e_c 15 o_197_137 rfl ?_
          refine e_clV (as := [.ref 69, .int 1, .int 15]) (rest := []) o_197_139 rfl rfl (x_okd cl_197_198 ml_198 (Nat.le_of_ble_eq_true rfl) (Nat.le_of_ble_eq_true rfl)) (x_rc0 (ci := 9) (sk_69 (h := h7) sh7) mo_198) k ?_
          rintro h11 ⟨sh11, k⟩
          refine e_al o_197_142 rfl ?_
          refine e_clV (as := [.ref 69]) (rest := []) o_197_143 rfl rfl (x_okd cl_197_190 ml_190 (Nat.le_of_ble_eq_true rfl) (Nat.le_of_ble_eq_true rfl)) (x_rc0 (ci := 9) (sk_69 (h := h11) sh11) mo_190) k ?_
          rintro h13 ⟨sh13, k⟩
          refine e_go o_197_146 ?_
          exact e_ret0 o_197_154 k
      · have k := k.2 z
        refine e_al o_197_95 rfl ?_
        refine e_gI o_197_96 (sk_69 (h := h5) sh5) ?_
        refine e_i0_0 o_197_99 (fun z => ?_) (fun z => ?_)
        · have k := k.1 z
          refine e_al o_197_112 rfl ?_
          refine e_c 1 o_197_113 rfl ?_
          refine e_c 14 o_197_114 rfl ?_
          refine e_clV (as := [.ref 69, .int 1, .int 14]) (rest := []) o_197_116 rfl rfl (x_okd cl_197_198 ml_198 (Nat.le_of_ble_eq_true rfl) (Nat.le_of_ble_eq_true rfl)) (x_rc0 (ci := 9) (sk_69 (h := h5) sh5) mo_198) k ?_
          rintro h15 ⟨sh15, k⟩
          refine e_al o_197_119 rfl ?_
          refine e_clV (as := [.ref 69]) (rest := []) o_197_120 rfl rfl (x_okd cl_197_190 ml_190 (Nat.le_of_ble_eq_true rfl) (Nat.le_of_ble_eq_true rfl)) (x_rc0 (ci := 9) (sk_69 (h := h15) sh15) mo_190) k ?_
          rintro h17 ⟨sh17, k⟩
          refine e_go o_197_123 ?_
          exact e_ret0 o_197_154 k
        · have k := k.2 z
          refine e_al o_197_102 rfl ?_
          refine e_c 6 o_197_103 rfl ?_
          refine e_al o_197_105 rfl ?_
          refine e_gI o_197_106 (sk_69 (h := h5) sh5) ?_
          refine e_clV (as := [.ref 69, .int 6, .int (xI h5 69 11)]) (rest := []) o_197_109 rfl rfl (x_okd cl_197_192 ml_192 (Nat.le_of_ble_eq_true rfl) (Nat.le_of_ble_eq_true rfl)) (x_rc0 (ci := 9) (sk_69 (h := h5) sh5) mo_192) k ?_
          rintro h19 ⟨sh19, k⟩
          refine e_al o_197_112 rfl ?_
          refine e_c 1 o_197_113 rfl ?_
          refine e_c 14 o_197_114 rfl ?_
          refine e_clV (as := [.ref 69, .int 1, .int 14]) (rest := []) o_197_116 rfl rfl (x_okd cl_197_198 ml_198 (Nat.le_of_ble_eq_true rfl) (Nat.le_of_ble_eq_true rfl)) (x_rc0 (ci := 9) (sk_69 (h := h19) sh19) mo_198) k ?_
          rintro h21 ⟨sh21, k⟩
          refine e_al o_197_119 rfl ?_
          refine e_clV (as := [.ref 69]) (rest := []) o_197_120 rfl rfl (x_okd cl_197_190 ml_190 (Nat.le_of_ble_eq_true rfl) (Nat.le_of_ble_eq_true rfl)) (x_rc0 (ci := 9) (sk_69 (h := h21) sh21) mo_190) k ?_
          rintro h23 ⟨sh23, k⟩
          refine e_go o_197_123 ?_
          exact e_ret0 o_197_154 k
    · have k := k.2 z
      refine e_al o_197_37 rfl ?_
      refine e_gR (r := 94) o_197_38 (sk_69 (h := h3) sh3) (sr_69_40 (h := h3) sh3) (by decide) ?_
      refine e_al o_197_41 rfl ?_
      refine e_gI o_197_42 (sk_69 (h := h3) sh3) ?_
      refine e_al o_197_45 rfl ?_
      refine e_gI o_197_46 (sk_69 (h := h3) sh3) ?_
      obtain ⟨q, k⟩ := k
      refine e_ias (n := 400) o_197_49 (sk_94 (h := h3) sh3) (by decide) (sn_94 (h := h3) sh3) q ?_
      refine e_al o_197_50 rfl ?_
      refine e_gR (r := 95) o_197_51 (sk_69 (h := h3) sh3) (sr_69_41 (h := h3) sh3) (by decide) ?_
      refine e_al o_197_54 rfl ?_
      refine e_gI o_197_55 (sk_69 (h := h3) sh3) ?_
      refine e_al o_197_58 rfl ?_
      refine e_gI o_197_59 (sk_69 (h := h3) sh3) ?_
      obtain ⟨q, k⟩ := k
      refine e_ias (n := 400) o_197_62 (sk_95 (h := h3) sh3) (by decide) (sn_95 (h := h3) sh3) q ?_
      obtain ⟨h25, eh25⟩ : ∃ z : XH, z = (xsI (xsI h3 94 (tn (xI h3 69 39)) (xI h3 69 51)) 95 (tn (xI (xsI h3 94 (tn (xI h3 69 39)) (xI h3 69 51)) 69 39)) (xI (xsI h3 94 (tn (xI h3 69 39)) (xI h3 69 51)) 69 11)) := ⟨_, rfl⟩
      show Ev 197 63 [.ref 69] [] (xsI (xsI h3 94 (tn (xI h3 69 39)) (xI h3 69 51)) 95 (tn (xI (xsI h3 94 (tn (xI h3 69 39)) (xI h3 69 51)) 69 39)) (xI (xsI h3 94 (tn (xI h3 69 39)) (xI h3 69 51)) 69 11)) Q
      rw [← eh25]
      have sh25 : Sh h25 := by rw [eh25]; exact (sh_I (sh_I sh3 (by decide)) (by decide))
      have k := k h25 eh25
      refine e_al o_197_63 rfl ?_
      refine e_dup o_197_64 rfl ?_
      refine e_gI o_197_65 (sk_69 (h := h25) sh25) ?_
      refine e_c 1 o_197_68 rfl ?_
      refine e_bin o_197_69 rfl ?_
      refine e_pI o_197_70 (sk_69 (h := h25) sh25) ?_
      refine e_al o_197_73 rfl ?_
      refine e_c 1 o_197_74 rfl ?_
      refine e_c 0 o_197_75 rfl ?_
      refine e_clV (as := [.ref 69, .int 1, .int 0]) (rest := []) o_197_76 rfl rfl (x_okd cl_197_198 ml_198 (Nat.le_of_ble_eq_true rfl) (Nat.le_of_ble_eq_true rfl)) (x_rc0 (ci := 9) (sk_69 (h := h25) sh25) mo_198) k ?_
      rintro h26 ⟨sh26, k⟩
      refine e_al o_197_79 rfl ?_
      refine e_clV (as := [.ref 69]) (rest := []) o_197_80 rfl rfl (x_okd cl_197_190 ml_190 (Nat.le_of_ble_eq_true rfl) (Nat.le_of_ble_eq_true rfl)) (x_rc0 (ci := 9) (sk_69 (h := h26) sh26) mo_190) k ?_
      rintro h28 ⟨sh28, k⟩
      refine e_go o_197_83 ?_
      exact e_ret0 o_197_154 k
  · have k := k.2 z
    refine e_al o_197_8 rfl ?_
    refine e_c 0 o_197_9 rfl ?_
    refine e_al o_197_10 rfl ?_
    refine e_gR (r := 74) o_197_11 (sk_69 (h := h1) sh1) (sr_69_7 (h := h1) sh1) (by decide) ?_
    refine e_al o_197_14 rfl ?_
    refine e_gI o_197_15 (sk_69 (h := h1) sh1) ?_
    obtain ⟨q, k⟩ := k
    refine e_ia (n := 403) o_197_18 (sk_74 (h := h1) sh1) (sn_74 (h := h1) sh1) q ?_
    refine e_clV (as := [.ref 69, .int 0, .int (xI h1 74 (tn (xI h1 69 11)))]) (rest := []) o_197_19 rfl rfl (x_okd cl_197_198 ml_198 (Nat.le_of_ble_eq_true rfl) (Nat.le_of_ble_eq_true rfl)) (x_rc0 (ci := 9) (sk_69 (h := h1) sh1) mo_198) k ?_
    rintro h30 ⟨sh30, k⟩
    refine e_al o_197_22 rfl ?_
    refine e_clV (as := [.ref 69]) (rest := []) o_197_23 rfl rfl (x_okd cl_197_190 ml_190 (Nat.le_of_ble_eq_true rfl) (Nat.le_of_ble_eq_true rfl)) (x_rc0 (ci := 9) (sk_69 (h := h30) sh30) mo_190) k ?_
    rintro h32 ⟨sh32, k⟩
    refine e_go o_197_26 ?_
    exact e_ret0 o_197_154 k
set_option maxHeartbeats 4000000 in
set_option maxRecDepth 100000 in
theorem B_198_0 {x1 : Int32} {x2 : Int32} {h : XH} {Q : Value → XH → Prop} (hs : Sh h) (k : InB (xI h 69 51) 840 ∧ (InB (xI (xsI h 103 (tn (xI h 69 51)) x1) 69 51) 840 ∧ (∀ h1 : XH, h1 = (xsI (xsI (xsI h 103 (tn (xI h 69 51)) x1) 104 (tn (xI (xsI h 103 (tn (xI h 69 51)) x1) 69 51)) x2) 69 51 ((xI (xsI (xsI h 103 (tn (xI h 69 51)) x1) 104 (tn (xI (xsI h 103 (tn (xI h 69 51)) x1) 69 51)) x2) 69 51) + 1)) → (Q .null h1)))) : Ev 198 0 (x_ini 198 [.ref 69, .int x1, .int x2]) [] h Q := by
  rw [show x_ini 198 [.ref 69, .int x1, .int x2] = [.ref 69, .int x1, .int x2] from x_inid ml_198 rfl]
  refine e_al o_198_0 rfl ?_
  refine e_gR (r := 103) o_198_1 (sk_69 (h := h) hs) (sr_69_52 (h := h) hs) (by decide) ?_
  refine e_al o_198_4 rfl ?_
  refine e_gI o_198_5 (sk_69 (h := h) hs) ?_
  refine e_il o_198_8 rfl ?_
  obtain ⟨q, k⟩ := k
  refine e_ias (n := 840) o_198_9 (sk_103 (h := h) hs) (by decide) (sn_103 (h := h) hs) q ?_
  refine e_al o_198_10 rfl ?_
  refine e_gR (r := 104) o_198_11 (sk_69 (h := h) hs) (sr_69_53 (h := h) hs) (by decide) ?_
  refine e_al o_198_14 rfl ?_
  refine e_gI o_198_15 (sk_69 (h := h) hs) ?_
  refine e_il o_198_18 rfl ?_
  obtain ⟨q, k⟩ := k
  refine e_ias (n := 840) o_198_19 (sk_104 (h := h) hs) (by decide) (sn_104 (h := h) hs) q ?_
  refine e_al o_198_20 rfl ?_
  refine e_dup o_198_21 rfl ?_
  refine e_gI o_198_22 (sk_69 (h := h) hs) ?_
  refine e_c 1 o_198_25 rfl ?_
  refine e_bin o_198_26 rfl ?_
  refine e_pI o_198_27 (sk_69 (h := h) hs) ?_
  obtain ⟨h1, eh1⟩ : ∃ z : XH, z = (xsI (xsI (xsI h 103 (tn (xI h 69 51)) x1) 104 (tn (xI (xsI h 103 (tn (xI h 69 51)) x1) 69 51)) x2) 69 51 ((xI (xsI (xsI h 103 (tn (xI h 69 51)) x1) 104 (tn (xI (xsI h 103 (tn (xI h 69 51)) x1) 69 51)) x2) 69 51) + 1)) := ⟨_, rfl⟩
  show Ev 198 30 [.ref 69, .int x1, .int x2] [] (xsI (xsI (xsI h 103 (tn (xI h 69 51)) x1) 104 (tn (xI (xsI h 103 (tn (xI h 69 51)) x1) 69 51)) x2) 69 51 ((xI (xsI (xsI h 103 (tn (xI h 69 51)) x1) 104 (tn (xI (xsI h 103 (tn (xI h 69 51)) x1) 69 51)) x2) 69 51) + 1)) Q
  rw [← eh1]
  have sh1 : Sh h1 := by rw [eh1]; exact (sh_I (sh_I (sh_I hs (by decide)) (by decide)) (by decide))
  have k := k h1 eh1
  exact e_ret0 o_198_30 k
set_option maxHeartbeats 4000000 in
set_option maxRecDepth 100000 in
theorem B_199_0 {x1 : Int32} {h : XH} {Q : Value → XH → Prop} (hs : Sh h) (k : (((xI h 69 55) ≤ 0) → Q .null h) ∧ (¬ ((xI h 69 55) ≤ 0) → InB ((xI h 69 55) - 1) 64 ∧ ((((xI h 105 (tn ((xI h 69 55) - 1))) = 6) → Q .null h) ∧ (¬ ((xI h 105 (tn ((xI h 69 55) - 1))) = 6) → ((x1 = 0) → ((¬ (xI h 105 (tn ((xI h 69 55) - 1))) = 8) → ((¬ (xI h 105 (tn ((xI h 69 55) - 1))) = 9) → ((¬ (xI h 105 (tn ((xI h 69 55) - 1))) = 10) → ClV 198 [.ref 69, .int 5, .int 0] (xsI h 69 55 ((xI h 69 55) - 1)) (fun h1 => Sh h1 ∧ (Ev 199 0 [.ref 69, .int x1, .null] [] h1 Q))) ∧ (¬ (¬ (xI h 105 (tn ((xI h 69 55) - 1))) = 10) → ClV 198 [.ref 69, .int 4, .int 0] (xsI h 69 55 ((xI h 69 55) - 1)) (fun h3 => Sh h3 ∧ (Ev 199 0 [.ref 69, .int x1, .null] [] h3 Q)))) ∧ (¬ (¬ (xI h 105 (tn ((xI h 69 55) - 1))) = 9) → ClV 198 [.ref 69, .int 3, .int 0] (xsI h 69 55 ((xI h 69 55) - 1)) (fun h5 => Sh h5 ∧ (Ev 199 0 [.ref 69, .int x1, .null] [] h5 Q)))) ∧ (¬ (¬ (xI h 105 (tn ((xI h 69 55) - 1))) = 8) → ClV 198 [.ref 69, .int 2, .int 0] (xsI h 69 55 ((xI h 69 55) - 1)) (fun h7 => Sh h7 ∧ (Ev 199 0 [.ref 69, .int x1, .null] [] h7 Q)))) ∧ (¬ (x1 = 0) → (((xI h 105 (tn ((xI h 69 55) - 1))) = 8) → Q .null h) ∧ (¬ ((xI h 105 (tn ((xI h 69 55) - 1))) = 8) → ((¬ (xI h 105 (tn ((xI h 69 55) - 1))) = 9) → ((¬ (xI h 105 (tn ((xI h 69 55) - 1))) = 8) → ((¬ (xI h 105 (tn ((xI h 69 55) - 1))) = 9) → ((¬ (xI h 105 (tn ((xI h 69 55) - 1))) = 10) → ClV 198 [.ref 69, .int 5, .int 0] (xsI h 69 55 ((xI h 69 55) - 1)) (fun h9 => Sh h9 ∧ (Ev 199 0 [.ref 69, .int x1, .null] [] h9 Q))) ∧ (¬ (¬ (xI h 105 (tn ((xI h 69 55) - 1))) = 10) → ClV 198 [.ref 69, .int 4, .int 0] (xsI h 69 55 ((xI h 69 55) - 1)) (fun h11 => Sh h11 ∧ (Ev 199 0 [.ref 69, .int x1, .null] [] h11 Q)))) ∧ (¬ (¬ (xI h 105 (tn ((xI h 69 55) - 1))) = 9) → ClV 198 [.ref 69, .int 3, .int 0] (xsI h 69 55 ((xI h 69 55) - 1)) (fun h13 => Sh h13 ∧ (Ev 199 0 [.ref 69, .int x1, .null] [] h13 Q)))) ∧ (¬ (¬ (xI h 105 (tn ((xI h 69 55) - 1))) = 8) → ClV 198 [.ref 69, .int 2, .int 0] (xsI h 69 55 ((xI h 69 55) - 1)) (fun h15 => Sh h15 ∧ (Ev 199 0 [.ref 69, .int x1, .null] [] h15 Q)))) ∧ (¬ (¬ (xI h 105 (tn ((xI h 69 55) - 1))) = 9) → Q .null h))))))) : Ev 199 0 (x_ini 199 [.ref 69, .int x1]) [] h Q := by
  rw [show x_ini 199 [.ref 69, .int x1] = [.ref 69, .int x1, .null] from x_inid ml_199 rfl]
  refine e_al o_199_0 rfl ?_
  refine e_gI o_199_1 (sk_69 (h := h) hs) ?_
  refine e_i0_5 o_199_4 (fun z => ?_) (fun z => ?_)
  · have k := k.1 z
    exact e_ret0 o_199_91 k
  · have k := k.2 z
    refine e_al o_199_7 rfl ?_
    refine e_gR (r := 105) o_199_8 (sk_69 (h := h) hs) (sr_69_54 (h := h) hs) (by decide) ?_
    refine e_al o_199_11 rfl ?_
    refine e_gI o_199_12 (sk_69 (h := h) hs) ?_
    refine e_c 1 o_199_15 rfl ?_
    refine e_bin o_199_16 rfl ?_
    obtain ⟨q, k⟩ := k
    refine e_ia (n := 64) o_199_17 (sk_105 (h := h) hs) (sn_105 (h := h) hs) q ?_
    refine e_is (ls' := [.ref 69, .int x1, .int (xI h 105 (tn ((xI h 69 55) - 1)))]) o_199_18 (Nat.le_of_ble_eq_true rfl) rfl ?_
    refine e_il o_199_19 rfl ?_
    refine e_c 6 o_199_20 rfl ?_
    refine e_if_0 o_199_22 (fun z => ?_) (fun z => ?_)
    · have k := k.1 z
      exact e_ret0 o_199_41 k
    · have k := k.2 z
      refine e_il o_199_25 rfl ?_
      refine e_i0_0 o_199_26 (fun z => ?_) (fun z => ?_)
      · have k := k.1 z
        refine e_al o_199_42 rfl ?_
        refine e_dup o_199_43 rfl ?_
        refine e_gI o_199_44 (sk_69 (h := h) hs) ?_
        refine e_c 1 o_199_47 rfl ?_
        refine e_bin o_199_48 rfl ?_
        refine e_pI o_199_49 (sk_69 (h := h) hs) ?_
        refine e_al o_199_52 rfl ?_
        refine e_il o_199_53 rfl ?_
        refine e_c 8 o_199_54 rfl ?_
        refine e_if_1 o_199_56 (fun z => ?_) (fun z => ?_)
        · have k := k.1 z
          refine e_il o_199_63 rfl ?_
          refine e_c 9 o_199_64 rfl ?_
          refine e_if_1 o_199_66 (fun z => ?_) (fun z => ?_)
          · have k := k.1 z
            refine e_il o_199_73 rfl ?_
            refine e_c 10 o_199_74 rfl ?_
            refine e_if_1 o_199_76 (fun z => ?_) (fun z => ?_)
            · have k := k.1 z
              refine e_c 5 o_199_83 rfl ?_
              refine e_c 0 o_199_84 rfl ?_
              refine e_clV (as := [.ref 69, .int 5, .int 0]) (rest := []) o_199_85 rfl rfl (x_okd cl_199_198 ml_198 (Nat.le_of_ble_eq_true rfl) (Nat.le_of_ble_eq_true rfl)) (x_rc0 (ci := 9) (sk_69 (h := h) hs) mo_198) k ?_
              rintro h1 ⟨sh1, k⟩
              refine e_go o_199_88 ?_
              exact Ev.less (ls := [.ref 69, .int x1, .null]) ⟨Or.inr rfl, Or.inr rfl, Or.inl rfl, trivial⟩ k
            · have k := k.2 z
              refine e_c 4 o_199_79 rfl ?_
              refine e_go o_199_80 ?_
              refine e_c 0 o_199_84 rfl ?_
              refine e_clV (as := [.ref 69, .int 4, .int 0]) (rest := []) o_199_85 rfl rfl (x_okd cl_199_198 ml_198 (Nat.le_of_ble_eq_true rfl) (Nat.le_of_ble_eq_true rfl)) (x_rc0 (ci := 9) (sk_69 (h := h) hs) mo_198) k ?_
              rintro h3 ⟨sh3, k⟩
              refine e_go o_199_88 ?_
              exact Ev.less (ls := [.ref 69, .int x1, .null]) ⟨Or.inr rfl, Or.inr rfl, Or.inl rfl, trivial⟩ k
          · have k := k.2 z
            refine e_c 3 o_199_69 rfl ?_
            refine e_go o_199_70 ?_
            refine e_c 0 o_199_84 rfl ?_
            refine e_clV (as := [.ref 69, .int 3, .int 0]) (rest := []) o_199_85 rfl rfl (x_okd cl_199_198 ml_198 (Nat.le_of_ble_eq_true rfl) (Nat.le_of_ble_eq_true rfl)) (x_rc0 (ci := 9) (sk_69 (h := h) hs) mo_198) k ?_
            rintro h5 ⟨sh5, k⟩
            refine e_go o_199_88 ?_
            exact Ev.less (ls := [.ref 69, .int x1, .null]) ⟨Or.inr rfl, Or.inr rfl, Or.inl rfl, trivial⟩ k
        · have k := k.2 z
          refine e_c 2 o_199_59 rfl ?_
          refine e_go o_199_60 ?_
          refine e_c 0 o_199_84 rfl ?_
          refine e_clV (as := [.ref 69, .int 2, .int 0]) (rest := []) o_199_85 rfl rfl (x_okd cl_199_198 ml_198 (Nat.le_of_ble_eq_true rfl) (Nat.le_of_ble_eq_true rfl)) (x_rc0 (ci := 9) (sk_69 (h := h) hs) mo_198) k ?_
          rintro h7 ⟨sh7, k⟩
          refine e_go o_199_88 ?_
          exact Ev.less (ls := [.ref 69, .int x1, .null]) ⟨Or.inr rfl, Or.inr rfl, Or.inl rfl, trivial⟩ k
      · have k := k.2 z
        refine e_il o_199_29 rfl ?_
        refine e_c 8 o_199_30 rfl ?_
        refine e_if_0 o_199_32 (fun z => ?_) (fun z => ?_)
        · have k := k.1 z
          exact e_ret0 o_199_41 k
        · have k := k.2 z
          refine e_il o_199_35 rfl ?_
          refine e_c 9 o_199_36 rfl ?_
          refine e_if_1 o_199_38 (fun z => ?_) (fun z => ?_)
          · have k := k.1 z
            refine e_al o_199_42 rfl ?_
            refine e_dup o_199_43 rfl ?_
            refine e_gI o_199_44 (sk_69 (h := h) hs) ?_
            refine e_c 1 o_199_47 rfl ?_
            refine e_bin o_199_48 rfl ?_
            refine e_pI o_199_49 (sk_69 (h := h) hs) ?_
            refine e_al o_199_52 rfl ?_
            refine e_il o_199_53 rfl ?_
            refine e_c 8 o_199_54 rfl ?_
            refine e_if_1 o_199_56 (fun z => ?_) (fun z => ?_)
            · have k := k.1 z
              refine e_il o_199_63 rfl ?_
              refine e_c 9 o_199_64 rfl ?_
              refine e_if_1 o_199_66 (fun z => ?_) (fun z => ?_)
              · have k := k.1 z
                refine e_il o_199_73 rfl ?_
                refine e_c 10 o_199_74 rfl ?_
                refine e_if_1 o_199_76 (fun z => ?_) (fun z => ?_)
                · have k := k.1 z
                  refine e_c 5 o_199_83 rfl ?_
                  refine e_c 0 o_199_84 rfl ?_
                  refine e_clV (as := [.ref 69, .int 5, .int 0]) (rest := []) o_199_85 rfl rfl (x_okd cl_199_198 ml_198 (Nat.le_of_ble_eq_true rfl) (Nat.le_of_ble_eq_true rfl)) (x_rc0 (ci := 9) (sk_69 (h := h) hs) mo_198) k ?_
                  rintro h9 ⟨sh9, k⟩
                  refine e_go o_199_88 ?_
                  exact Ev.less (ls := [.ref 69, .int x1, .null]) ⟨Or.inr rfl, Or.inr rfl, Or.inl rfl, trivial⟩ k
                · have k := k.2 z
                  refine e_c 4 o_199_79 rfl ?_
                  refine e_go o_199_80 ?_
                  refine e_c 0 o_199_84 rfl ?_
                  refine e_clV (as := [.ref 69, .int 4, .int 0]) (rest := []) o_199_85 rfl rfl (x_okd cl_199_198 ml_198 (Nat.le_of_ble_eq_true rfl) (Nat.le_of_ble_eq_true rfl)) (x_rc0 (ci := 9) (sk_69 (h := h) hs) mo_198) k ?_
                  rintro h11 ⟨sh11, k⟩
                  refine e_go o_199_88 ?_
                  exact Ev.less (ls := [.ref 69, .int x1, .null]) ⟨Or.inr rfl, Or.inr rfl, Or.inl rfl, trivial⟩ k
              · have k := k.2 z
                refine e_c 3 o_199_69 rfl ?_
                refine e_go o_199_70 ?_
                refine e_c 0 o_199_84 rfl ?_
                refine e_clV (as := [.ref 69, .int 3, .int 0]) (rest := []) o_199_85 rfl rfl (x_okd cl_199_198 ml_198 (Nat.le_of_ble_eq_true rfl) (Nat.le_of_ble_eq_true rfl)) (x_rc0 (ci := 9) (sk_69 (h := h) hs) mo_198) k ?_
                rintro h13 ⟨sh13, k⟩
                refine e_go o_199_88 ?_
                exact Ev.less (ls := [.ref 69, .int x1, .null]) ⟨Or.inr rfl, Or.inr rfl, Or.inl rfl, trivial⟩ k
            · have k := k.2 z
              refine e_c 2 o_199_59 rfl ?_
              refine e_go o_199_60 ?_
              refine e_c 0 o_199_84 rfl ?_
              refine e_clV (as := [.ref 69, .int 2, .int 0]) (rest := []) o_199_85 rfl rfl (x_okd cl_199_198 ml_198 (Nat.le_of_ble_eq_true rfl) (Nat.le_of_ble_eq_true rfl)) (x_rc0 (ci := 9) (sk_69 (h := h) hs) mo_198) k ?_
              rintro h15 ⟨sh15, k⟩
              refine e_go o_199_88 ?_
              exact Ev.less (ls := [.ref 69, .int x1, .null]) ⟨Or.inr rfl, Or.inr rfl, Or.inl rfl, trivial⟩ k
          · have k := k.2 z
            exact e_ret0 o_199_41 k
set_option maxHeartbeats 4000000 in
set_option maxRecDepth 100000 in
theorem B_200_0  {h : XH} {Q : Value → XH → Prop} (hs : Sh h) (k : InB (xI h 69 45) 260 ∧ (((¬ (xI (xsI h 101 (tn (xI h 69 45)) (xI h 69 51)) 69 13) = 0) → InB (xI (xsI h 101 (tn (xI h 69 45)) (xI h 69 51)) 69 45) 260 ∧ (∀ h1 : XH, h1 = (xsI (xsI h 101 (tn (xI h 69 45)) (xI h 69 51)) 102 (tn (xI (xsI h 101 (tn (xI h 69 45)) (xI h 69 51)) 69 45)) (xI (xsI h 101 (tn (xI h 69 45)) (xI h 69 51)) 69 51)) → (Q .null (xsI h1 69 45 ((xI h1 69 45) + 1))))) ∧ (¬ (¬ (xI (xsI h 101 (tn (xI h 69 45)) (xI h 69 51)) 69 13) = 0) → ClV 196 [.ref 69] (xsI h 101 (tn (xI h 69 45)) (xI h 69 51)) (fun h2 => Sh h2 ∧ (InB (xI h2 69 45) 260 ∧ (Q .null (xsI (xsI h2 102 (tn (xI h2 69 45)) (xI h2 69 51)) 69 45 ((xI (xsI h2 102 (tn (xI h2 69 45)) (xI h2 69 51)) 69 45) + 1)))))))) : Ev 200 0 (x_ini 200 [.ref 69]) [] h Q := by
  rw [show x_ini 200 [.ref 69] = [.ref 69] from x_inid ml_200 rfl]
  refine e_al o_200_0 rfl ?_
  refine e_gR (r := 101) o_200_1 (sk_69 (h := h) hs) (sr_69_49 (h := h) hs) (by decide) ?_
  refine e_al o_200_4 rfl ?_
  refine e_gI o_200_5 (sk_69 (h := h) hs) ?_
  refine e_al o_200_8 rfl ?_
  refine e_gI o_200_9 (sk_69 (h := h) hs) ?_
  obtain ⟨q, k⟩ := k
  refine e_ias (n := 260) o_200_12 (sk_101 (h := h) hs) (by decide) (sn_101 (h := h) hs) q ?_
  refine e_al o_200_13 rfl ?_
  refine e_gI o_200_14 (sk_69 (h := h) hs) ?_
  refine e_i0_1 o_200_17 (fun z => ?_) (fun z => ?_)
  · have k := k.1 z
    refine e_al o_200_24 rfl ?_
    refine e_gR (r := 102) o_200_25 (sk_69 (h := h) hs) (sr_69_50 (h := h) hs) (by decide) ?_
    refine e_al o_200_28 rfl ?_
    refine e_gI o_200_29 (sk_69 (h := h) hs) ?_
    refine e_al o_200_32 rfl ?_
    refine e_gI o_200_33 (sk_69 (h := h) hs) ?_
    obtain ⟨q, k⟩ := k
    refine e_ias (n := 260) o_200_36 (sk_102 (h := h) hs) (by decide) (sn_102 (h := h) hs) q ?_
    obtain ⟨h1, eh1⟩ : ∃ z : XH, z = (xsI (xsI h 101 (tn (xI h 69 45)) (xI h 69 51)) 102 (tn (xI (xsI h 101 (tn (xI h 69 45)) (xI h 69 51)) 69 45)) (xI (xsI h 101 (tn (xI h 69 45)) (xI h 69 51)) 69 51)) := ⟨_, rfl⟩
    show Ev 200 37 [.ref 69] [] (xsI (xsI h 101 (tn (xI h 69 45)) (xI h 69 51)) 102 (tn (xI (xsI h 101 (tn (xI h 69 45)) (xI h 69 51)) 69 45)) (xI (xsI h 101 (tn (xI h 69 45)) (xI h 69 51)) 69 51)) Q
    rw [← eh1]
    have sh1 : Sh h1 := by rw [eh1]; exact (sh_I (sh_I hs (by decide)) (by decide))
    have k := k h1 eh1
    refine e_al o_200_37 rfl ?_
    refine e_dup o_200_38 rfl ?_
    refine e_gI o_200_39 (sk_69 (h := h1) sh1) ?_
    refine e_c 1 o_200_42 rfl ?_
    refine e_bin o_200_43 rfl ?_
    refine e_pI o_200_44 (sk_69 (h := h1) sh1) ?_
    exact e_ret0 o_200_47 k
  · have k := k.2 z
    refine e_al o_200_20 rfl ?_
    refine e_clV (as := [.ref 69]) (rest := []) o_200_21 rfl rfl (x_okd cl_200_196 ml_196 (Nat.le_of_ble_eq_true rfl) (Nat.le_of_ble_eq_true rfl)) (x_rc0 (ci := 9) (sk_69 (h := h) hs) mo_196) k ?_
    rintro h2 ⟨sh2, k⟩
    refine e_al o_200_24 rfl ?_
    refine e_gR (r := 102) o_200_25 (sk_69 (h := h2) sh2) (sr_69_50 (h := h2) sh2) (by decide) ?_
    refine e_al o_200_28 rfl ?_
    refine e_gI o_200_29 (sk_69 (h := h2) sh2) ?_
    refine e_al o_200_32 rfl ?_
    refine e_gI o_200_33 (sk_69 (h := h2) sh2) ?_
    obtain ⟨q, k⟩ := k
    refine e_ias (n := 260) o_200_36 (sk_102 (h := h2) sh2) (by decide) (sn_102 (h := h2) sh2) q ?_
    refine e_al o_200_37 rfl ?_
    refine e_dup o_200_38 rfl ?_
    refine e_gI o_200_39 (sk_69 (h := h2) sh2) ?_
    refine e_c 1 o_200_42 rfl ?_
    refine e_bin o_200_43 rfl ?_
    refine e_pI o_200_44 (sk_69 (h := h2) sh2) ?_
    exact e_ret0 o_200_47 k
set_option maxHeartbeats 4000000 in
set_option maxRecDepth 100000 in
theorem B_201_0  {h : XH} {Q : Value → XH → Prop} (hs : Sh h) (k : InB (xI h 69 19) 2 ∧ (ClI 189 [.ref 69] h (fun v2 h1 => Sh h1 ∧ (InB (xI h1 69 11) 403 ∧ (InB ((6 * (xI h 69 19)) + (xI h 84 (tn (xI h 69 19)))) 12 ∧ (((¬ (xI (xsI h1 85 (tn ((6 * (xI h 69 19)) + (xI h 84 (tn (xI h 69 19))))) ((xI h1 72 (tn (xI h1 69 11))) - 23)) 69 13) = 0) → Ev 201 81 [.ref 69, .int ((6 * (xI h 69 19)) + (xI h 84 (tn (xI h 69 19)))), .int v2] [] (xsI h1 85 (tn ((6 * (xI h 69 19)) + (xI h 84 (tn (xI h 69 19))))) ((xI h1 72 (tn (xI h1 69 11))) - 23)) Q) ∧ (¬ (¬ (xI (xsI h1 85 (tn ((6 * (xI h 69 19)) + (xI h 84 (tn (xI h 69 19))))) ((xI h1 72 (tn (xI h1 69 11))) - 23)) 69 13) = 0) → InB (xI (xsI h1 85 (tn ((6 * (xI h 69 19)) + (xI h 84 (tn (xI h 69 19))))) ((xI h1 72 (tn (xI h1 69 11))) - 23)) 69 11) 403 ∧ ((((xI (xsI h1 85 (tn ((6 * (xI h 69 19)) + (xI h 84 (tn (xI h 69 19))))) ((xI h1 72 (tn (xI h1 69 11))) - 23)) 72 (tn (xI (xsI h1 85 (tn ((6 * (xI h 69 19)) + (xI h 84 (tn (xI h 69 19))))) ((xI h1 72 (tn (xI h1 69 11))) - 23)) 69 11))) < 23) → Ev 201 76 [.ref 69, .int ((6 * (xI h 69 19)) + (xI h 84 (tn (xI h 69 19)))), .int v2] [] (xsI h1 85 (tn ((6 * (xI h 69 19)) + (xI h 84 (tn (xI h 69 19))))) ((xI h1 72 (tn (xI h1 69 11))) - 23)) Q) ∧ (¬ ((xI (xsI h1 85 (tn ((6 * (xI h 69 19)) + (xI h 84 (tn (xI h 69 19))))) ((xI h1 72 (tn (xI h1 69 11))) - 23)) 72 (tn (xI (xsI h1 85 (tn ((6 * (xI h 69 19)) + (xI h 84 (tn (xI h 69 19))))) ((xI h1 72 (tn (xI h1 69 11))) - 23)) 69 11))) < 23) → InB (xI (xsI h1 85 (tn ((6 * (xI h 69 19)) + (xI h 84 (tn (xI h 69 19))))) ((xI h1 72 (tn (xI h1 69 11))) - 23)) 69 11) 403 ∧ ((((xI (xsI h1 85 (tn ((6 * (xI h 69 19)) + (xI h 84 (tn (xI h 69 19))))) ((xI h1 72 (tn (xI h1 69 11))) - 23)) 72 (tn (xI (xsI h1 85 (tn ((6 * (xI h 69 19)) + (xI h 84 (tn (xI h 69 19))))) ((xI h1 72 (tn (xI h1 69 11))) - 23)) 69 11))) ≤ 25) → Ev 201 81 [.ref 69, .int ((6 * (xI h 69 19)) + (xI h 84 (tn (xI h 69 19)))), .int v2] [] (xsI h1 85 (tn ((6 * (xI h 69 19)) + (xI h 84 (tn (xI h 69 19))))) ((xI h1 72 (tn (xI h1 69 11))) - 23)) Q) ∧ (¬ ((xI (xsI h1 85 (tn ((6 * (xI h 69 19)) + (xI h 84 (tn (xI h 69 19))))) ((xI h1 72 (tn (xI h1 69 11))) - 23)) 72 (tn (xI (xsI h1 85 (tn ((6 * (xI h 69 19)) + (xI h 84 (tn (xI h 69 19))))) ((xI h1 72 (tn (xI h1 69 11))) - 23)) 69 11))) ≤ 25) → Ev 201 76 [.ref 69, .int ((6 * (xI h 69 19)) + (xI h 84 (tn (xI h 69 19)))), .int v2] [] (xsI h1 85 (tn ((6 * (xI h 69 19)) + (xI h 84 (tn (xI h 69 19))))) ((xI h1 72 (tn (xI h1 69 11))) - 23)) Q))))))))))) : Ev 201 0 (x_ini 201 [.ref 69]) [] h Q := by
  rw [show x_ini 201 [.ref 69] = [.ref 69, .null, .null] from x_inid ml_201 rfl]
  refine e_c 6 o_201_0 rfl ?_
  refine e_al o_201_2 rfl ?_
  refine e_gI o_201_3 (sk_69 (h := h) hs) ?_
  refine e_bin o_201_6 rfl ?_
  refine e_al o_201_7 rfl ?_
  refine e_gR (r := 84) o_201_8 (sk_69 (h := h) hs) (sr_69_28 (h := h) hs) (by decide) ?_
  refine e_al o_201_11 rfl ?_
  refine e_gI o_201_12 (sk_69 (h := h) hs) ?_
  obtain ⟨q, k⟩ := k
  refine e_ia (n := 2) o_201_15 (sk_84 (h := h) hs) (sn_84 (h := h) hs) q ?_
  refine e_bin o_201_16 rfl ?_
  refine e_is (ls' := [.ref 69, .int ((6 * (xI h 69 19)) + (xI h 84 (tn (xI h 69 19)))), .null]) o_201_17 (Nat.le_of_ble_eq_true rfl) rfl ?_
  refine e_al o_201_18 rfl ?_
  refine e_clI (as := [.ref 69]) (rest := []) o_201_19 rfl rfl (x_okd cl_201_189 ml_189 (Nat.le_of_ble_eq_true rfl) (Nat.le_of_ble_eq_true rfl)) (x_rc0 (ci := 9) (sk_69 (h := h) hs) mo_189) k ?_
  rintro v2 h1 ⟨sh1, k⟩
  refine e_is (ls' := [.ref 69, .int ((6 * (xI h 69 19)) + (xI h 84 (tn (xI h 69 19)))), .int v2]) o_201_22 (Nat.le_of_ble_eq_true rfl) rfl ?_
  refine e_al o_201_23 rfl ?_
  refine e_gR (r := 85) o_201_24 (sk_69 (h := h1) sh1) (sr_69_29 (h := h1) sh1) (by decide) ?_
  refine e_il o_201_27 rfl ?_
  refine e_al o_201_28 rfl ?_
  refine e_gR (r := 72) o_201_29 (sk_69 (h := h1) sh1) (sr_69_5 (h := h1) sh1) (by decide) ?_
  refine e_al o_201_32 rfl ?_
  refine e_gI o_201_33 (sk_69 (h := h1) sh1) ?_
  obtain ⟨q, k⟩ := k
  refine e_ia (n := 403) o_201_36 (sk_72 (h := h1) sh1) (sn_72 (h := h1) sh1) q ?_
  refine e_c 23 o_201_37 rfl ?_
  refine e_bin o_201_39 rfl ?_
  obtain ⟨q, k⟩ := k
  refine e_ias (n := 12) o_201_40 (sk_85 (h := h1) sh1) (by decide) (sn_85 (h := h1) sh1) q ?_
  refine e_al o_201_41 rfl ?_
  refine e_gI o_201_42 (sk_69 (h := h1) sh1) ?_
  refine e_i0_1 o_201_45 (fun z => ?_) (fun z => ?_)
  · have k := k.1 z
    exact Ev.less (ls := [.ref 69, .int ((6 * (xI h 69 19)) + (xI h 84 (tn (xI h 69 19)))), .int v2]) ⟨Or.inr rfl, Or.inr rfl, Or.inr rfl, trivial⟩ k
  · have k := k.2 z
    refine e_al o_201_48 rfl ?_
    refine e_gR (r := 72) o_201_49 (sk_69 (h := h1) sh1) (sr_69_5 (h := h1) sh1) (by decide) ?_
    refine e_al o_201_52 rfl ?_
    refine e_gI o_201_53 (sk_69 (h := h1) sh1) ?_
    obtain ⟨q, k⟩ := k
    refine e_ia (n := 403) o_201_56 (sk_72 (h := h1) sh1) (sn_72 (h := h1) sh1) q ?_
    refine e_c 23 o_201_57 rfl ?_
    refine e_if_2 o_201_59 (fun z => ?_) (fun z => ?_)
    · have k := k.1 z
      exact Ev.less (ls := [.ref 69, .int ((6 * (xI h 69 19)) + (xI h 84 (tn (xI h 69 19)))), .int v2]) ⟨Or.inr rfl, Or.inr rfl, Or.inr rfl, trivial⟩ k
    · have k := k.2 z
      refine e_al o_201_62 rfl ?_
      refine e_gR (r := 72) o_201_63 (sk_69 (h := h1) sh1) (sr_69_5 (h := h1) sh1) (by decide) ?_
      refine e_al o_201_66 rfl ?_
      refine e_gI o_201_67 (sk_69 (h := h1) sh1) ?_
      obtain ⟨q, k⟩ := k
      refine e_ia (n := 403) o_201_70 (sk_72 (h := h1) sh1) (sn_72 (h := h1) sh1) q ?_
      refine e_c 25 o_201_71 rfl ?_
      refine e_if_5 o_201_73 (fun z => ?_) (fun z => ?_)
      · have k := k.1 z
        exact Ev.less (ls := [.ref 69, .int ((6 * (xI h 69 19)) + (xI h 84 (tn (xI h 69 19)))), .int v2]) ⟨Or.inr rfl, Or.inr rfl, Or.inr rfl, trivial⟩ k
      · have k := k.2 z
        exact Ev.less (ls := [.ref 69, .int ((6 * (xI h 69 19)) + (xI h 84 (tn (xI h 69 19)))), .int v2]) ⟨Or.inr rfl, Or.inr rfl, Or.inr rfl, trivial⟩ k
set_option maxHeartbeats 4000000 in
set_option maxRecDepth 100000 in
theorem B_201_76 {x1 : Int32} {x2 : Int32} {h : XH} {Q : Value → XH → Prop} (hs : Sh h) (k : ClV 187 [.ref 69, .int 1] h (fun h1 => Sh h1 ∧ (Ev 201 81 [.ref 69, .int x1, .int x2] [] h1 Q))) : Ev 201 76 [.ref 69, .int x1, .int x2] [] h Q := by
  refine e_al o_201_76 rfl ?_
  refine e_c 1 o_201_77 rfl ?_
  refine e_clV (as := [.ref 69, .int 1]) (rest := []) o_201_78 rfl rfl (x_okd cl_201_187 ml_187 (Nat.le_of_ble_eq_true rfl) (Nat.le_of_ble_eq_true rfl)) (x_rc0 (ci := 9) (sk_69 (h := h) hs) mo_187) k ?_
  rintro h1 ⟨sh1, k⟩
  exact Ev.less (ls := [.ref 69, .int x1, .int x2]) ⟨Or.inr rfl, Or.inr rfl, Or.inr rfl, trivial⟩ k
set_option maxHeartbeats 4000000 in
set_option maxRecDepth 100000 in
theorem B_201_81 {x1 : Int32} {x2 : Int32} {h : XH} {Q : Value → XH → Prop} (hs : Sh h) (k : ((¬ (xI h 69 13) = 0) → Ev 201 92 [.ref 69, .int x1, .int x2] [] h Q) ∧ (¬ (¬ (xI h 69 13) = 0) → ClV 190 [.ref 69] h (fun h1 => Sh h1 ∧ (Ev 201 92 [.ref 69, .int x1, .int x2] [] h1 Q)))) : Ev 201 81 [.ref 69, .int x1, .int x2] [] h Q := by
  refine e_al o_201_81 rfl ?_
  refine e_gI o_201_82 (sk_69 (h := h) hs) ?_
  refine e_i0_1 o_201_85 (fun z => ?_) (fun z => ?_)
  · have k := k.1 z
    exact Ev.less (ls := [.ref 69, .int x1, .int x2]) ⟨Or.inr rfl, Or.inr rfl, Or.inr rfl, trivial⟩ k
  · have k := k.2 z
    refine e_al o_201_88 rfl ?_
    refine e_clV (as := [.ref 69]) (rest := []) o_201_89 rfl rfl (x_okd cl_201_190 ml_190 (Nat.le_of_ble_eq_true rfl) (Nat.le_of_ble_eq_true rfl)) (x_rc0 (ci := 9) (sk_69 (h := h) hs) mo_190) k ?_
    rintro h1 ⟨sh1, k⟩
    exact Ev.less (ls := [.ref 69, .int x1, .int x2]) ⟨Or.inr rfl, Or.inr rfl, Or.inr rfl, trivial⟩ k
set_option maxHeartbeats 4000000 in
set_option maxRecDepth 100000 in
theorem B_201_92 {x1 : Int32} {x2 : Int32} {h : XH} {Q : Value → XH → Prop} (hs : Sh h) (k : InB x1 12 ∧ (ClV 202 [.ref 69] (xsI h 86 (tn x1) (xI h 69 32)) (fun h1 => Sh h1 ∧ (Ev 201 106 [.ref 69, .int x1, .int x2] [] h1 Q)))) : Ev 201 92 [.ref 69, .int x1, .int x2] [] h Q := by
  refine e_al o_201_92 rfl ?_
  refine e_gR (r := 86) o_201_93 (sk_69 (h := h) hs) (sr_69_30 (h := h) hs) (by decide) ?_
  refine e_il o_201_96 rfl ?_
  refine e_al o_201_97 rfl ?_
  refine e_gI o_201_98 (sk_69 (h := h) hs) ?_
  obtain ⟨q, k⟩ := k
  refine e_ias (n := 12) o_201_101 (sk_86 (h := h) hs) (by decide) (sn_86 (h := h) hs) q ?_
  refine e_al o_201_102 rfl ?_
  refine e_clV (as := [.ref 69]) (rest := []) o_201_103 rfl rfl (x_okd cl_201_202 ml_202 (Nat.le_of_ble_eq_true rfl) (Nat.le_of_ble_eq_true rfl)) (x_rc0 (ci := 9) (sk_69 (h := h) hs) mo_202) k ?_
  rintro h1 ⟨sh1, k⟩
  exact Ev.less (ls := [.ref 69, .int x1, .int x2]) ⟨Or.inr rfl, Or.inr rfl, Or.inr rfl, trivial⟩ k
set_option maxHeartbeats 4000000 in
set_option maxRecDepth 100000 in
theorem B_201_106 {x1 : Int32} {x2 : Int32} {h : XH} {Q : Value → XH → Prop} (hs : Sh h) (k : ((¬ (xI h 69 13) = 0) → Ev 201 162 [.ref 69, .int x1, .int x2] [] h Q) ∧ (¬ (¬ (xI h 69 13) = 0) → ClI 185 [.ref 69, .int 26] h (fun v2 h1 => Sh h1 ∧ (((v2 = 0) → Ev 201 162 [.ref 69, .int x1, .int x2] [] h1 Q) ∧ (¬ (v2 = 0) → InB x1 12 ∧ (((¬ ((xI h1 69 32) - (xI h1 86 (tn x1))) = 6) → Ev 201 143 [.ref 69, .int x1, .int x2] [] h1 Q) ∧ (¬ (¬ ((xI h1 69 32) - (xI h1 86 (tn x1))) = 6) → ClV 187 [.ref 69, .int 2] h1 (fun h3 => Sh h3 ∧ (Ev 201 143 [.ref 69, .int x1, .int x2] [] h3 Q))))))))) : Ev 201 106 [.ref 69, .int x1, .int x2] [] h Q := by
  refine e_al o_201_106 rfl ?_
  refine e_gI o_201_107 (sk_69 (h := h) hs) ?_
  refine e_i0_1 o_201_110 (fun z => ?_) (fun z => ?_)
  · have k := k.1 z
    exact Ev.less (ls := [.ref 69, .int x1, .int x2]) ⟨Or.inr rfl, Or.inr rfl, Or.inr rfl, trivial⟩ k
  · have k := k.2 z
    refine e_al o_201_113 rfl ?_
    refine e_c 26 o_201_114 rfl ?_
    refine e_clI (as := [.ref 69, .int 26]) (rest := []) o_201_116 rfl rfl (x_okd cl_201_185 ml_185 (Nat.le_of_ble_eq_true rfl) (Nat.le_of_ble_eq_true rfl)) (x_rc0 (ci := 9) (sk_69 (h := h) hs) mo_185) k ?_
    rintro v2 h1 ⟨sh1, k⟩
    refine e_i0_0 o_201_119 (fun z => ?_) (fun z => ?_)
    · have k := k.1 z
      exact Ev.less (ls := [.ref 69, .int x1, .int x2]) ⟨Or.inr rfl, Or.inr rfl, Or.inr rfl, trivial⟩ k
    · have k := k.2 z
      refine e_al o_201_122 rfl ?_
      refine e_gI o_201_123 (sk_69 (h := h1) sh1) ?_
      refine e_al o_201_126 rfl ?_
      refine e_gR (r := 86) o_201_127 (sk_69 (h := h1) sh1) (sr_69_30 (h := h1) sh1) (by decide) ?_
      refine e_il o_201_130 rfl ?_
      obtain ⟨q, k⟩ := k
      refine e_ia (n := 12) o_201_131 (sk_86 (h := h1) sh1) (sn_86 (h := h1) sh1) q ?_
      refine e_bin o_201_132 rfl ?_
      refine e_c 6 o_201_133 rfl ?_
      refine e_if_1 o_201_135 (fun z => ?_) (fun z => ?_)
      · have k := k.1 z
        exact Ev.less (ls := [.ref 69, .int x1, .int x2]) ⟨Or.inr rfl, Or.inr rfl, Or.inr rfl, trivial⟩ k
      · have k := k.2 z
        refine e_al o_201_138 rfl ?_
        refine e_c 2 o_201_139 rfl ?_
        refine e_clV (as := [.ref 69, .int 2]) (rest := []) o_201_140 rfl rfl (x_okd cl_201_187 ml_187 (Nat.le_of_ble_eq_true rfl) (Nat.le_of_ble_eq_true rfl)) (x_rc0 (ci := 9) (sk_69 (h := h1) sh1) mo_187) k ?_
        rintro h3 ⟨sh3, k⟩
        exact Ev.less (ls := [.ref 69, .int x1, .int x2]) ⟨Or.inr rfl, Or.inr rfl, Or.inr rfl, trivial⟩ k
set_option maxHeartbeats 4000000 in
set_option maxRecDepth 100000 in
theorem B_201_143 {x1 : Int32} {x2 : Int32} {h : XH} {Q : Value → XH → Prop} (hs : Sh h) (k : (((xI h 69 13) ≤ 0) → ClV 190 [.ref 69] h (fun h1 => Sh h1 ∧ (ClV 202 [.ref 69] h1 (fun h3 => Sh h3 ∧ (Ev 201 106 [.ref 69, .int x1, .int x2] [] h3 Q))))) ∧ (¬ ((xI h 69 13) ≤ 0) → Q .null h)) : Ev 201 143 [.ref 69, .int x1, .int x2] [] h Q := by
  refine e_al o_201_143 rfl ?_
  refine e_gI o_201_144 (sk_69 (h := h) hs) ?_
  refine e_i0_5 o_201_147 (fun z => ?_) (fun z => ?_)
  · have k := k.1 z
    refine e_al o_201_151 rfl ?_
    refine e_clV (as := [.ref 69]) (rest := []) o_201_152 rfl rfl (x_okd cl_201_190 ml_190 (Nat.le_of_ble_eq_true rfl) (Nat.le_of_ble_eq_true rfl)) (x_rc0 (ci := 9) (sk_69 (h := h) hs) mo_190) k ?_
    rintro h1 ⟨sh1, k⟩
    refine e_al o_201_155 rfl ?_
    refine e_clV (as := [.ref 69]) (rest := []) o_201_156 rfl rfl (x_okd cl_201_202 ml_202 (Nat.le_of_ble_eq_true rfl) (Nat.le_of_ble_eq_true rfl)) (x_rc0 (ci := 9) (sk_69 (h := h1) sh1) mo_202) k ?_
    rintro h3 ⟨sh3, k⟩
    refine e_go o_201_159 ?_
    exact Ev.less (ls := [.ref 69, .int x1, .int x2]) ⟨Or.inr rfl, Or.inr rfl, Or.inr rfl, trivial⟩ k
  · have k := k.2 z
    exact e_ret0 o_201_150 k
set_option maxHeartbeats 4000000 in
set_option maxRecDepth 100000 in
theorem B_201_162 {x1 : Int32} {x2 : Int32} {h : XH} {Q : Value → XH → Prop} (hs : Sh h) (k : ClV 191 [.ref 69, .int 4] h (fun h1 => Sh h1 ∧ (InB x1 12 ∧ ((((xI (xsI h1 87 (tn x1) (xI h1 69 32)) 69 13) ≤ 0) → InB (xI (xsI h1 87 (tn x1) (xI h1 69 32)) 69 19) 2 ∧ (ClV 194 [.ref 69, .int x2, .int (8 + (xI (xsI h1 87 (tn x1) (xI h1 69 32)) 84 (tn (xI (xsI h1 87 (tn x1) (xI h1 69 32)) 69 19))))] (xsI h1 87 (tn x1) (xI h1 69 32)) (fun h3 => Sh h3 ∧ (InB (xI h3 69 19) 2 ∧ (InB (xI h3 69 19) 2 ∧ (Q .null (xsI h3 84 (tn (xI h3 69 19)) ((xI h3 84 (tn (xI h3 69 19))) + 1)))))))) ∧ (¬ ((xI (xsI h1 87 (tn x1) (xI h1 69 32)) 69 13) ≤ 0) → Q .null (xsI h1 87 (tn x1) (xI h1 69 32))))))) : Ev 201 162 [.ref 69, .int x1, .int x2] [] h Q := by
  refine e_al o_201_162 rfl ?_
  refine e_c 4 o_201_163 rfl ?_
  refine e_clV (as := [.ref 69, .int 4]) (rest := []) o_201_164 rfl rfl (x_okd cl_201_191 ml_191 (Nat.le_of_ble_eq_true rfl) (Nat.le_of_ble_eq_true rfl)) (x_rc0 (ci := 9) (sk_69 (h := h) hs) mo_191) k ?_
  rintro h1 ⟨sh1, k⟩
  refine e_al o_201_167 rfl ?_
  refine e_gR (r := 87) o_201_168 (sk_69 (h := h1) sh1) (sr_69_31 (h := h1) sh1) (by decide) ?_
  refine e_il o_201_171 rfl ?_
  refine e_al o_201_172 rfl ?_
  refine e_gI o_201_173 (sk_69 (h := h1) sh1) ?_
  obtain ⟨q, k⟩ := k
  refine e_ias (n := 12) o_201_176 (sk_87 (h := h1) sh1) (by decide) (sn_87 (h := h1) sh1) q ?_
  refine e_al o_201_177 rfl ?_
  refine e_gI o_201_178 (sk_69 (h := h1) sh1) ?_
  refine e_i0_5 o_201_181 (fun z => ?_) (fun z => ?_)
  · have k := k.1 z
    refine e_al o_201_185 rfl ?_
    refine e_il o_201_186 rfl ?_
    refine e_c 8 o_201_187 rfl ?_
    refine e_al o_201_189 rfl ?_
    refine e_gR (r := 84) o_201_190 (sk_69 (h := h1) sh1) (sr_69_28 (h := h1) sh1) (by decide) ?_
    refine e_al o_201_193 rfl ?_
    refine e_gI o_201_194 (sk_69 (h := h1) sh1) ?_
    obtain ⟨q, k⟩ := k
    refine e_ia (n := 2) o_201_197 (sk_84 (h := h1) sh1) (sn_84 (h := h1) sh1) q ?_
    refine e_bin o_201_198 rfl ?_
    refine e_clV (as := [.ref 69, .int x2, .int (8 + (xI (xsI h1 87 (tn x1) (xI h1 69 32)) 84 (tn (xI (xsI h1 87 (tn x1) (xI h1 69 32)) 69 19))))]) (rest := []) o_201_199 rfl rfl (x_okd cl_201_194 ml_194 (Nat.le_of_ble_eq_true rfl) (Nat.le_of_ble_eq_true rfl)) (x_rc0 (ci := 9) (sk_69 (h := h1) sh1) mo_194) k ?_
    rintro h3 ⟨sh3, k⟩
    refine e_al o_201_202 rfl ?_
    refine e_gR (r := 84) o_201_203 (sk_69 (h := h3) sh3) (sr_69_28 (h := h3) sh3) (by decide) ?_
    refine e_al o_201_206 rfl ?_
    refine e_gI o_201_207 (sk_69 (h := h3) sh3) ?_
    refine e_dup2 o_201_210 ⟨rfl, rfl⟩ ?_
    obtain ⟨q, k⟩ := k
    refine e_ia (n := 2) o_201_211 (sk_84 (h := h3) sh3) (sn_84 (h := h3) sh3) q ?_
    refine e_c 1 o_201_212 rfl ?_
    refine e_bin o_201_213 rfl ?_
    obtain ⟨q, k⟩ := k
    refine e_ias (n := 2) o_201_214 (sk_84 (h := h3) sh3) (by decide) (sn_84 (h := h3) sh3) q ?_
    exact e_ret0 o_201_215 k
  · have k := k.2 z
    exact e_ret0 o_201_184 k
set_option maxHeartbeats 4000000 in
set_option maxRecDepth 100000 in
theorem B_202_0  {h : XH} {Q : Value → XH → Prop} (hs : Sh h) (k : (((xI h 69 13) ≤ 0) → InB (xI h 69 32) 72 ∧ (ClV 196 [.ref 69] (xsI h 89 (tn (xI h 69 32)) (xI h 69 51)) (fun h1 => Sh h1 ∧ (ClI 185 [.ref 69, .int 13] h1 (fun v4 h3 => Sh h3 ∧ (((v4 = 0) → ClI 185 [.ref 69, .int 5] h3 (fun v6 h5 => Sh h5 ∧ (((v6 = 0) → InB (xI h1 69 32) 72 ∧ (((¬ (xI (xsI h5 88 (tn (xI h1 69 32)) 2) 69 13) = 0) → Ev 202 98 [.ref 69] [] (xsI h5 88 (tn (xI h1 69 32)) 2) Q) ∧ (¬ (¬ (xI (xsI h5 88 (tn (xI h1 69 32)) 2) 69 13) = 0) → ClI 185 [.ref 69, .int 13] (xsI h5 88 (tn (xI h1 69 32)) 2) (fun v8 h7 => Sh h7 ∧ (((¬ v8 = 0) → Ev 202 98 [.ref 69] [] h7 Q) ∧ (¬ (¬ v8 = 0) → ClI 185 [.ref 69, .int 5] h7 (fun v10 h9 => Sh h9 ∧ (((¬ v10 = 0) → Ev 202 98 [.ref 69] [] h9 Q) ∧ (¬ (¬ v10 = 0) → ClI 185 [.ref 69, .int 16] h9 (fun v12 h11 => Sh h11 ∧ (((¬ v12 = 0) → Ev 202 98 [.ref 69] [] h11 Q) ∧ (¬ (¬ v12 = 0) → ClV 187 [.ref 69, .int 1] h11 (fun h13 => Sh h13 ∧ (Ev 202 98 [.ref 69] [] h13 Q)))))))))))))) ∧ (¬ (v6 = 0) → InB (xI h1 69 32) 72 ∧ (((¬ (xI (xsI h5 88 (tn (xI h1 69 32)) 1) 69 13) = 0) → Ev 202 98 [.ref 69] [] (xsI h5 88 (tn (xI h1 69 32)) 1) Q) ∧ (¬ (¬ (xI (xsI h5 88 (tn (xI h1 69 32)) 1) 69 13) = 0) → ClI 185 [.ref 69, .int 13] (xsI h5 88 (tn (xI h1 69 32)) 1) (fun v16 h15 => Sh h15 ∧ (((¬ v16 = 0) → Ev 202 98 [.ref 69] [] h15 Q) ∧ (¬ (¬ v16 = 0) → ClI 185 [.ref 69, .int 5] h15 (fun v18 h17 => Sh h17 ∧ (((¬ v18 = 0) → Ev 202 98 [.ref 69] [] h17 Q) ∧ (¬ (¬ v18 = 0) → ClI 185 [.ref 69, .int 16] h17 (fun v20 h19 => Sh h19 ∧ (((¬ v20 = 0) → Ev 202 98 [.ref 69] [] h19 Q) ∧ (¬ (¬ v20 = 0) → ClV 187 [.ref 69, .int 1] h19 (fun h21 => Sh h21 ∧ (Ev 202 98 [.ref 69] [] h21 Q))))))))))))))))) ∧ (¬ (v4 = 0) → InB (xI h1 69 32) 72 ∧ (((¬ (xI (xsI h3 88 (tn (xI h1 69 32)) 0) 69 13) = 0) → Ev 202 98 [.ref 69] [] (xsI h3 88 (tn (xI h1 69 32)) 0) Q) ∧ (¬ (¬ (xI (xsI h3 88 (tn (xI h1 69 32)) 0) 69 13) = 0) → ClI 185 [.ref 69, .int 13] (xsI h3 88 (tn (xI h1 69 32)) 0) (fun v24 h23 => Sh h23 ∧ (((¬ v24 = 0) → Ev 202 98 [.ref 69] [] h23 Q) ∧ (¬ (¬ v24 = 0) → ClI 185 [.ref 69, .int 5] h23 (fun v26 h25 => Sh h25 ∧ (((¬ v26 = 0) → Ev 202 98 [.ref 69] [] h25 Q) ∧ (¬ (¬ v26 = 0) → ClI 185 [.ref 69, .int 16] h25 (fun v28 h27 => Sh h27 ∧ (((¬ v28 = 0) → Ev 202 98 [.ref 69] [] h27 Q) ∧ (¬ (¬ v28 = 0) → ClV 187 [.ref 69, .int 1] h27 (fun h29 => Sh h29 ∧ (Ev 202 98 [.ref 69] [] h29 Q)))))))))))))))))))) ∧ (¬ ((xI h 69 13) ≤ 0) → Q .null h)) : Ev 202 0 (x_ini 202 [.ref 69]) [] h Q := by
  rw [show x_ini 202 [.ref 69] = [.ref 69] from x_inid ml_202 rfl]
  refine e_al o_202_0 rfl ?_
  refine e_gI o_202_1 (sk_69 (h := h) hs) ?_
  refine e_i0_5 o_202_4 (fun z => ?_) (fun z => ?_)
  · have k := k.1 z
    refine e_al o_202_8 rfl ?_
    refine e_gR (r := 89) o_202_9 (sk_69 (h := h) hs) (sr_69_34 (h := h) hs) (by decide) ?_
    refine e_al o_202_12 rfl ?_
    refine e_gI o_202_13 (sk_69 (h := h) hs) ?_
    refine e_al o_202_16 rfl ?_
    refine e_gI o_202_17 (sk_69 (h := h) hs) ?_
    obtain ⟨q, k⟩ := k
    refine e_ias (n := 72) o_202_20 (sk_89 (h := h) hs) (by decide) (sn_89 (h := h) hs) q ?_
    refine e_al o_202_21 rfl ?_
    refine e_clV (as := [.ref 69]) (rest := []) o_202_22 rfl rfl (x_okd cl_202_196 ml_196 (Nat.le_of_ble_eq_true rfl) (Nat.le_of_ble_eq_true rfl)) (x_rc0 (ci := 9) (sk_69 (h := h) hs) mo_196) k ?_
    rintro h1 ⟨sh1, k⟩
    refine e_al o_202_25 rfl ?_
    refine e_gR (r := 88) o_202_26 (sk_69 (h := h1) sh1) (sr_69_33 (h := h1) sh1) (by decide) ?_
    refine e_al o_202_29 rfl ?_
    refine e_gI o_202_30 (sk_69 (h := h1) sh1) ?_
    refine e_al o_202_33 rfl ?_
    refine e_c 13 o_202_34 rfl ?_
    refine e_clI (as := [.ref 69, .int 13]) (rest := [.int (xI h1 69 32), .ref 88]) o_202_36 rfl rfl (x_okd cl_202_185 ml_185 (Nat.le_of_ble_eq_true rfl) (Nat.le_of_ble_eq_true rfl)) (x_rc0 (ci := 9) (sk_69 (h := h1) sh1) mo_185) k ?_
    rintro v4 h3 ⟨sh3, k⟩
    refine e_i0_0 o_202_39 (fun z => ?_) (fun z => ?_)
    · have k := k.1 z
      refine e_al o_202_46 rfl ?_
      refine e_c 5 o_202_47 rfl ?_
      refine e_clI (as := [.ref 69, .int 5]) (rest := [.int (xI h1 69 32), .ref 88]) o_202_48 rfl rfl (x_okd cl_202_185 ml_185 (Nat.le_of_ble_eq_true rfl) (Nat.le_of_ble_eq_true rfl)) (x_rc0 (ci := 9) (sk_69 (h := h3) sh3) mo_185) k ?_
      rintro v6 h5 ⟨sh5, k⟩
      refine e_i0_0 o_202_51 (fun z => ?_) (fun z => ?_)
      · have k := k.1 z
        refine e_c 2 o_202_58 rfl ?_
        obtain ⟨q, k⟩ := k
        refine e_ias (n := 72) o_202_59 (sk_88 (h := h5) sh5) (by decide) (sn_88 (h := h5) sh5) q ?_
        refine e_al o_202_60 rfl ?_
        refine e_gI o_202_61 (sk_69 (h := h5) sh5) ?_
        refine e_i0_1 o_202_64 (fun z => ?_) (fun z => ?_)
        · have k := k.1 z
          exact Ev.less (ls := [.ref 69]) ⟨Or.inr rfl, trivial⟩ k
        · have k := k.2 z
          refine e_al o_202_67 rfl ?_
          refine e_c 13 o_202_68 rfl ?_
          refine e_clI (as := [.ref 69, .int 13]) (rest := []) o_202_70 rfl rfl (x_okd cl_202_185 ml_185 (Nat.le_of_ble_eq_true rfl) (Nat.le_of_ble_eq_true rfl)) (x_rc0 (ci := 9) (sk_69 (h := h5) sh5) mo_185) k ?_
          rintro v8 h7 ⟨sh7, k⟩
          refine e_i0_1 o_202_73 (fun z => ?_) (fun z => ?_)
          · have k := k.1 z
            exact Ev.less (ls := [.ref 69]) ⟨Or.inr rfl, trivial⟩ k
          · have k := k.2 z
            refine e_al o_202_76 rfl ?_
            refine e_c 5 o_202_77 rfl ?_
            refine e_clI (as := [.ref 69, .int 5]) (rest := []) o_202_78 rfl rfl (x_okd cl_202_185 ml_185 (Nat.le_of_ble_eq_true rfl) (Nat.le_of_ble_eq_true rfl)) (x_rc0 (ci := 9) (sk_69 (h := h7) sh7) mo_185) k ?_
            rintro v10 h9 ⟨sh9, k⟩
            refine e_i0_1 o_202_81 (fun z => ?_) (fun z => ?_)
            · have k := k.1 z
              exact Ev.less (ls := [.ref 69]) ⟨Or.inr rfl, trivial⟩ k
            · have k := k.2 z
              refine e_al o_202_84 rfl ?_
              refine e_c 16 o_202_85 rfl ?_
              refine e_clI (as := [.ref 69, .int 16]) (rest := []) o_202_87 rfl rfl (x_okd cl_202_185 ml_185 (Nat.le_of_ble_eq_true rfl) (Nat.le_of_ble_eq_true rfl)) (x_rc0 (ci := 9) (sk_69 (h := h9) sh9) mo_185) k ?_
              rintro v12 h11 ⟨sh11, k⟩
              refine e_i0_1 o_202_90 (fun z => ?_) (fun z => ?_)
              · have k := k.1 z
                exact Ev.less (ls := [.ref 69]) ⟨Or.inr rfl, trivial⟩ k
              · have k := k.2 z
                refine e_al o_202_93 rfl ?_
                refine e_c 1 o_202_94 rfl ?_
                refine e_clV (as := [.ref 69, .int 1]) (rest := []) o_202_95 rfl rfl (x_okd cl_202_187 ml_187 (Nat.le_of_ble_eq_true rfl) (Nat.le_of_ble_eq_true rfl)) (x_rc0 (ci := 9) (sk_69 (h := h11) sh11) mo_187) k ?_
                rintro h13 ⟨sh13, k⟩
                exact Ev.less (ls := [.ref 69]) ⟨Or.inr rfl, trivial⟩ k
      · have k := k.2 z
        refine e_c 1 o_202_54 rfl ?_
        refine e_go o_202_55 ?_
        obtain ⟨q, k⟩ := k
        refine e_ias (n := 72) o_202_59 (sk_88 (h := h5) sh5) (by decide) (sn_88 (h := h5) sh5) q ?_
        refine e_al o_202_60 rfl ?_
        refine e_gI o_202_61 (sk_69 (h := h5) sh5) ?_
        refine e_i0_1 o_202_64 (fun z => ?_) (fun z => ?_)
        · have k := k.1 z
          exact Ev.less (ls := [.ref 69]) ⟨Or.inr rfl, trivial⟩ k
        · have k := k.2 z
          refine e_al o_202_67 rfl ?_
          refine e_c 13 o_202_68 rfl ?_
          refine e_clI (as := [.ref 69, .int 13]) (rest := []) o_202_70 rfl rfl (x_okd cl_202_185 ml_185 (Nat.le_of_ble_eq_true rfl) (Nat.le_of_ble_eq_true rfl)) (x_rc0 (ci := 9) (sk_69 (h := h5) sh5) mo_185) k ?_
          rintro v16 h15 ⟨sh15, k⟩
          refine e_i0_1 o_202_73 (fun z => ?_) (fun z => ?_)
          · have k := k.1 z
            exact Ev.less (ls := [.ref 69]) ⟨Or.inr rfl, trivial⟩ k
          · have k := k.2 z
            refine e_al o_202_76 rfl ?_
            refine e_c 5 o_202_77 rfl ?_
            refine e_clI (as := [.ref 69, .int 5]) (rest := []) o_202_78 rfl rfl (x_okd cl_202_185 ml_185 (Nat.le_of_ble_eq_true rfl) (Nat.le_of_ble_eq_true rfl)) (x_rc0 (ci := 9) (sk_69 (h := h15) sh15) mo_185) k ?_
            rintro v18 h17 ⟨sh17, k⟩
            refine e_i0_1 o_202_81 (fun z => ?_) (fun z => ?_)
            · have k := k.1 z
              exact Ev.less (ls := [.ref 69]) ⟨Or.inr rfl, trivial⟩ k
            · have k := k.2 z
              refine e_al o_202_84 rfl ?_
              refine e_c 16 o_202_85 rfl ?_
              refine e_clI (as := [.ref 69, .int 16]) (rest := []) o_202_87 rfl rfl (x_okd cl_202_185 ml_185 (Nat.le_of_ble_eq_true rfl) (Nat.le_of_ble_eq_true rfl)) (x_rc0 (ci := 9) (sk_69 (h := h17) sh17) mo_185) k ?_
              rintro v20 h19 ⟨sh19, k⟩
              refine e_i0_1 o_202_90 (fun z => ?_) (fun z => ?_)
              · have k := k.1 z
                exact Ev.less (ls := [.ref 69]) ⟨Or.inr rfl, trivial⟩ k
              · have k := k.2 z
                refine e_al o_202_93 rfl ?_
                refine e_c 1 o_202_94 rfl ?_
                refine e_clV (as := [.ref 69, .int 1]) (rest := []) o_202_95 rfl rfl (x_okd cl_202_187 ml_187 (Nat.le_of_ble_eq_true rfl) (Nat.le_of_ble_eq_true rfl)) (x_rc0 (ci := 9) (sk_69 (h := h19) sh19) mo_187) k ?_
                rintro h21 ⟨sh21, k⟩
                exact Ev.less (ls := [.ref 69]) ⟨Or.inr rfl, trivial⟩ k
    · have k := k.2 z
      refine e_c 0 o_202_42 rfl ?_
      refine e_go o_202_43 ?_
      obtain ⟨q, k⟩ := k
      refine e_ias (n := 72) o_202_59 (sk_88 (h := h3) sh3) (by decide) (sn_88 (h := h3) sh3) q ?_
      refine e_al o_202_60 rfl ?_
      refine e_gI o_202_61 (sk_69 (h := h3) sh3) ?_
      refine e_i0_1 o_202_64 (fun z => ?_) (fun z => ?_)
      · have k := k.1 z
        exact Ev.less (ls := [.ref 69]) ⟨Or.inr rfl, trivial⟩ k
      · have k := k.2 z
        refine e_al o_202_67 rfl ?_
        refine e_c 13 o_202_68 rfl ?_
        refine e_clI (as := [.ref 69, .int 13]) (rest := []) o_202_70 rfl rfl (x_okd cl_202_185 ml_185 (Nat.le_of_ble_eq_true rfl) (Nat.le_of_ble_eq_true rfl)) (x_rc0 (ci := 9) (sk_69 (h := h3) sh3) mo_185) k ?_
        rintro v24 h23 ⟨sh23, k⟩
        refine e_i0_1 o_202_73 (fun z => ?_) (fun z => ?_)
        · have k := k.1 z
          exact Ev.less (ls := [.ref 69]) ⟨Or.inr rfl, trivial⟩ k
        · have k := k.2 z
          refine e_al o_202_76 rfl ?_
          refine e_c 5 o_202_77 rfl ?_
          refine e_clI (as := [.ref 69, .int 5]) (rest := []) o_202_78 rfl rfl (x_okd cl_202_185 ml_185 (Nat.le_of_ble_eq_true rfl) (Nat.le_of_ble_eq_true rfl)) (x_rc0 (ci := 9) (sk_69 (h := h23) sh23) mo_185) k ?_
          rintro v26 h25 ⟨sh25, k⟩
          refine e_i0_1 o_202_81 (fun z => ?_) (fun z => ?_)
          · have k := k.1 z
            exact Ev.less (ls := [.ref 69]) ⟨Or.inr rfl, trivial⟩ k
          · have k := k.2 z
            refine e_al o_202_84 rfl ?_
            refine e_c 16 o_202_85 rfl ?_
            refine e_clI (as := [.ref 69, .int 16]) (rest := []) o_202_87 rfl rfl (x_okd cl_202_185 ml_185 (Nat.le_of_ble_eq_true rfl) (Nat.le_of_ble_eq_true rfl)) (x_rc0 (ci := 9) (sk_69 (h := h25) sh25) mo_185) k ?_
            rintro v28 h27 ⟨sh27, k⟩
            refine e_i0_1 o_202_90 (fun z => ?_) (fun z => ?_)
            · have k := k.1 z
              exact Ev.less (ls := [.ref 69]) ⟨Or.inr rfl, trivial⟩ k
            · have k := k.2 z
              refine e_al o_202_93 rfl ?_
              refine e_c 1 o_202_94 rfl ?_
              refine e_clV (as := [.ref 69, .int 1]) (rest := []) o_202_95 rfl rfl (x_okd cl_202_187 ml_187 (Nat.le_of_ble_eq_true rfl) (Nat.le_of_ble_eq_true rfl)) (x_rc0 (ci := 9) (sk_69 (h := h27) sh27) mo_187) k ?_
              rintro h29 ⟨sh29, k⟩
              exact Ev.less (ls := [.ref 69]) ⟨Or.inr rfl, trivial⟩ k
  · have k := k.2 z
    exact e_ret0 o_202_7 k
set_option maxHeartbeats 4000000 in
set_option maxRecDepth 100000 in
theorem B_202_98  {h : XH} {Q : Value → XH → Prop} (hs : Sh h) (k : (((xI h 69 13) ≤ 0) → ClV 190 [.ref 69] h (fun h1 => Sh h1 ∧ (InB (xI h1 69 32) 72 ∧ (((¬ (xI (xsI h1 90 (tn (xI h1 69 32)) (xI h1 69 51)) 69 13) = 0) → Ev 202 134 [.ref 69] [] (xsI h1 90 (tn (xI h1 69 32)) (xI h1 69 51)) Q) ∧ (¬ (¬ (xI (xsI h1 90 (tn (xI h1 69 32)) (xI h1 69 51)) 69 13) = 0) → ClV 196 [.ref 69] (xsI h1 90 (tn (xI h1 69 32)) (xI h1 69 51)) (fun h3 => Sh h3 ∧ (Ev 202 134 [.ref 69] [] h3 Q))))))) ∧ (¬ ((xI h 69 13) ≤ 0) → Q .null h)) : Ev 202 98 [.ref 69] [] h Q := by
  refine e_al o_202_98 rfl ?_
  refine e_gI o_202_99 (sk_69 (h := h) hs) ?_
  refine e_i0_5 o_202_102 (fun z => ?_) (fun z => ?_)
  · have k := k.1 z
    refine e_al o_202_106 rfl ?_
    refine e_clV (as := [.ref 69]) (rest := []) o_202_107 rfl rfl (x_okd cl_202_190 ml_190 (Nat.le_of_ble_eq_true rfl) (Nat.le_of_ble_eq_true rfl)) (x_rc0 (ci := 9) (sk_69 (h := h) hs) mo_190) k ?_
    rintro h1 ⟨sh1, k⟩
    refine e_al o_202_110 rfl ?_
    refine e_gR (r := 90) o_202_111 (sk_69 (h := h1) sh1) (sr_69_35 (h := h1) sh1) (by decide) ?_
    refine e_al o_202_114 rfl ?_
    refine e_gI o_202_115 (sk_69 (h := h1) sh1) ?_
    refine e_al o_202_118 rfl ?_
    refine e_gI o_202_119 (sk_69 (h := h1) sh1) ?_
    obtain ⟨q, k⟩ := k
    refine e_ias (n := 72) o_202_122 (sk_90 (h := h1) sh1) (by decide) (sn_90 (h := h1) sh1) q ?_
    refine e_al o_202_123 rfl ?_
    refine e_gI o_202_124 (sk_69 (h := h1) sh1) ?_
    refine e_i0_1 o_202_127 (fun z => ?_) (fun z => ?_)
    · have k := k.1 z
      exact Ev.less (ls := [.ref 69]) ⟨Or.inr rfl, trivial⟩ k
    · have k := k.2 z
      refine e_al o_202_130 rfl ?_
      refine e_clV (as := [.ref 69]) (rest := []) o_202_131 rfl rfl (x_okd cl_202_196 ml_196 (Nat.le_of_ble_eq_true rfl) (Nat.le_of_ble_eq_true rfl)) (x_rc0 (ci := 9) (sk_69 (h := h1) sh1) mo_196) k ?_
      rintro h3 ⟨sh3, k⟩
      exact Ev.less (ls := [.ref 69]) ⟨Or.inr rfl, trivial⟩ k
  · have k := k.2 z
    exact e_ret0 o_202_105 k
set_option maxHeartbeats 4000000 in
set_option maxRecDepth 100000 in
theorem B_202_134  {h : XH} {Q : Value → XH → Prop} (hs : Sh h) (k : InB (xI h 69 32) 72 ∧ (Q .null (xsI (xsI h 91 (tn (xI h 69 32)) (xI h 69 51)) 69 32 ((xI (xsI h 91 (tn (xI h 69 32)) (xI h 69 51)) 69 32) + 1)))) : Ev 202 134 [.ref 69] [] h Q := by
  refine e_al o_202_134 rfl ?_
  refine e_gR (r := 91) o_202_135 (sk_69 (h := h) hs) (sr_69_36 (h := h) hs) (by decide) ?_
  refine e_al o_202_138 rfl ?_
  refine e_gI o_202_139 (sk_69 (h := h) hs) ?_
  refine e_al o_202_142 rfl ?_
  refine e_gI o_202_143 (sk_69 (h := h) hs) ?_
  obtain ⟨q, k⟩ := k
  refine e_ias (n := 72) o_202_146 (sk_91 (h := h) hs) (by decide) (sn_91 (h := h) hs) q ?_
  refine e_al o_202_147 rfl ?_
  refine e_dup o_202_148 rfl ?_
  refine e_gI o_202_149 (sk_69 (h := h) hs) ?_
  refine e_c 1 o_202_152 rfl ?_
  refine e_bin o_202_153 rfl ?_
  refine e_pI o_202_154 (sk_69 (h := h) hs) ?_
  exact e_ret0 o_202_157 k
set_option maxHeartbeats 4000000 in
set_option maxRecDepth 100000 in
theorem B_203_0  {h : XH} {Q : Value → XH → Prop} (hs : Sh h) (k : Ev 203 2 [.ref 69, .int 0, .null, .null] [] h Q) : Ev 203 0 (x_ini 203 [.ref 69]) [] h Q := by
  rw [show x_ini 203 [.ref 69] = [.ref 69, .null, .null, .null] from x_inid ml_203 rfl]
  refine e_c 0 o_203_0 rfl ?_
  refine e_is (ls' := [.ref 69, .int 0, .null, .null]) o_203_1 (Nat.le_of_ble_eq_true rfl) rfl ?_
  exact Ev.less (ls := [.ref 69, .int 0, .null, .null]) ⟨Or.inr rfl, Or.inr rfl, Or.inl rfl, Or.inl rfl, trivial⟩ k
set_option maxHeartbeats 4000000 in
set_option maxRecDepth 100000 in
theorem B_203_2 {x1 : Int32} {h : XH} {Q : Value → XH → Prop} (hs : Sh h) (k : (((xI h 69 39) ≤ x1) → Q .null h) ∧ (¬ ((xI h 69 39) ≤ x1) → Ev 203 14 [.ref 69, .int x1, .int (-1), .int 0] [] h Q)) : Ev 203 2 [.ref 69, .int x1, .null, .null] [] h Q := by
  refine e_il o_203_2 rfl ?_
  refine e_al o_203_3 rfl ?_
  refine e_gI o_203_4 (sk_69 (h := h) hs) ?_
  refine e_if_3 o_203_7 (fun z => ?_) (fun z => ?_)
  · have k := k.1 z
    exact e_ret0 o_203_98 k
  · have k := k.2 z
    refine e_c (-1) o_203_10 rfl ?_
    refine e_is (ls' := [.ref 69, .int x1, .int (-1), .null]) o_203_11 (Nat.le_of_ble_eq_true rfl) rfl ?_
    refine e_c 0 o_203_12 rfl ?_
    refine e_is (ls' := [.ref 69, .int x1, .int (-1), .int 0]) o_203_13 (Nat.le_of_ble_eq_true rfl) rfl ?_
    exact Ev.less (ls := [.ref 69, .int x1, .int (-1), .int 0]) ⟨Or.inr rfl, Or.inr rfl, Or.inr rfl, Or.inr rfl, trivial⟩ k
set_option maxHeartbeats 4000000 in
set_option maxRecDepth 100000 in
theorem B_203_14 {x1 : Int32} {x2 : Int32} {x3 : Int32} {h : XH} {Q : Value → XH → Prop} (hs : Sh h) (k : (((xI h 69 20) ≤ x3) → ((0 ≤ x2) → InB x1 400 ∧ (((0 ≤ x2) → InB (xI h 94 (tn x1)) 840 ∧ (Ev 203 2 [.ref 69, .int (x1 + 1), .null, .null] [] (xsI h 104 (tn (xI h 94 (tn x1))) x2) Q)) ∧ (¬ (0 ≤ x2) → InB (xI h 94 (tn x1)) 840 ∧ (Ev 203 2 [.ref 69, .int (x1 + 1), .null, .null] [] (xsI h 104 (tn (xI h 94 (tn x1))) 0) Q)))) ∧ (¬ (0 ≤ x2) → InB x1 400 ∧ (ClV 192 [.ref 69, .int 8, .int (xI h 95 (tn x1))] h (fun h1 => Sh h1 ∧ (InB x1 400 ∧ (((0 ≤ x2) → InB (xI h1 94 (tn x1)) 840 ∧ (Ev 203 2 [.ref 69, .int (x1 + 1), .null, .null] [] (xsI h1 104 (tn (xI h1 94 (tn x1))) x2) Q)) ∧ (¬ (0 ≤ x2) → InB (xI h1 94 (tn x1)) 840 ∧ (Ev 203 2 [.ref 69, .int (x1 + 1), .null, .null] [] (xsI h1 104 (tn (xI h1 94 (tn x1))) 0) Q)))))))) ∧ (¬ ((xI h 69 20) ≤ x3) → InB x3 14 ∧ (InB x1 400 ∧ (InB (xI h 95 (tn x1)) 403 ∧ (((¬ (lg_cmp (xL h 77 (tn x3)) (xL h 75 (tn (xI h 95 (tn x1))))) = 0) → Ev 203 14 [.ref 69, .int x1, .int x2, .int (x3 + 1)] [] h Q) ∧ (¬ (¬ (lg_cmp (xL h 77 (tn x3)) (xL h 75 (tn (xI h 95 (tn x1))))) = 0) → InB x3 14 ∧ (Ev 203 14 [.ref 69, .int x1, .int (xI h 78 (tn x3)), .int (x3 + 1)] [] h Q))))))) : Ev 203 14 [.ref 69, .int x1, .int x2, .int x3] [] h Q := by
  refine e_il o_203_14 rfl ?_
  refine e_al o_203_15 rfl ?_
  refine e_gI o_203_16 (sk_69 (h := h) hs) ?_
  refine e_if_3 o_203_19 (fun z => ?_) (fun z => ?_)
  · have k := k.1 z
    refine e_il o_203_56 rfl ?_
    refine e_i0_3 o_203_57 (fun z => ?_) (fun z => ?_)
    · have k := k.1 z
      refine e_al o_203_72 rfl ?_
      refine e_gR (r := 104) o_203_73 (sk_69 (h := h) hs) (sr_69_53 (h := h) hs) (by decide) ?_
      refine e_al o_203_76 rfl ?_
      refine e_gR (r := 94) o_203_77 (sk_69 (h := h) hs) (sr_69_40 (h := h) hs) (by decide) ?_
      refine e_il o_203_80 rfl ?_
      obtain ⟨q, k⟩ := k
      refine e_ia (n := 400) o_203_81 (sk_94 (h := h) hs) (sn_94 (h := h) hs) q ?_
      refine e_il o_203_82 rfl ?_
      refine e_i0_3 o_203_83 (fun z => ?_) (fun z => ?_)
      · have k := k.1 z
        refine e_il o_203_90 rfl ?_
        obtain ⟨q, k⟩ := k
        refine e_ias (n := 840) o_203_91 (sk_104 (h := h) hs) (by decide) (sn_104 (h := h) hs) q ?_
        refine e_inc (ls' := [.ref 69, .int (x1 + 1), .int x2, .int x3]) o_203_92 rfl rfl rfl ?_
        refine e_go o_203_95 ?_
        exact Ev.less (ls := [.ref 69, .int (x1 + 1), .null, .null]) ⟨Or.inr rfl, Or.inr rfl, Or.inl rfl, Or.inl rfl, trivial⟩ k
      · have k := k.2 z
        refine e_c 0 o_203_86 rfl ?_
        refine e_go o_203_87 ?_
        obtain ⟨q, k⟩ := k
        refine e_ias (n := 840) o_203_91 (sk_104 (h := h) hs) (by decide) (sn_104 (h := h) hs) q ?_
        refine e_inc (ls' := [.ref 69, .int (x1 + 1), .int x2, .int x3]) o_203_92 rfl rfl rfl ?_
        refine e_go o_203_95 ?_
        exact Ev.less (ls := [.ref 69, .int (x1 + 1), .null, .null]) ⟨Or.inr rfl, Or.inr rfl, Or.inl rfl, Or.inl rfl, trivial⟩ k
    · have k := k.2 z
      refine e_al o_203_60 rfl ?_
      refine e_c 8 o_203_61 rfl ?_
      refine e_al o_203_63 rfl ?_
      refine e_gR (r := 95) o_203_64 (sk_69 (h := h) hs) (sr_69_41 (h := h) hs) (by decide) ?_
      refine e_il o_203_67 rfl ?_
      obtain ⟨q, k⟩ := k
      refine e_ia (n := 400) o_203_68 (sk_95 (h := h) hs) (sn_95 (h := h) hs) q ?_
      refine e_clV (as := [.ref 69, .int 8, .int (xI h 95 (tn x1))]) (rest := []) o_203_69 rfl rfl (x_okd cl_203_192 ml_192 (Nat.le_of_ble_eq_true rfl) (Nat.le_of_ble_eq_true rfl)) (x_rc0 (ci := 9) (sk_69 (h := h) hs) mo_192) k ?_
      rintro h1 ⟨sh1, k⟩
      refine e_al o_203_72 rfl ?_
      refine e_gR (r := 104) o_203_73 (sk_69 (h := h1) sh1) (sr_69_53 (h := h1) sh1) (by decide) ?_
      refine e_al o_203_76 rfl ?_
      refine e_gR (r := 94) o_203_77 (sk_69 (h := h1) sh1) (sr_69_40 (h := h1) sh1) (by decide) ?_
      refine e_il o_203_80 rfl ?_
      obtain ⟨q, k⟩ := k
      refine e_ia (n := 400) o_203_81 (sk_94 (h := h1) sh1) (sn_94 (h := h1) sh1) q ?_
      refine e_il o_203_82 rfl ?_
      refine e_i0_3 o_203_83 (fun z => ?_) (fun z => ?_)
      · have k := k.1 z
        refine e_il o_203_90 rfl ?_
        obtain ⟨q, k⟩ := k
        refine e_ias (n := 840) o_203_91 (sk_104 (h := h1) sh1) (by decide) (sn_104 (h := h1) sh1) q ?_
        refine e_inc (ls' := [.ref 69, .int (x1 + 1), .int x2, .int x3]) o_203_92 rfl rfl rfl ?_
        refine e_go o_203_95 ?_
        exact Ev.less (ls := [.ref 69, .int (x1 + 1), .null, .null]) ⟨Or.inr rfl, Or.inr rfl, Or.inl rfl, Or.inl rfl, trivial⟩ k
      · have k := k.2 z
        refine e_c 0 o_203_86 rfl ?_
        refine e_go o_203_87 ?_
        obtain ⟨q, k⟩ := k
        refine e_ias (n := 840) o_203_91 (sk_104 (h := h1) sh1) (by decide) (sn_104 (h := h1) sh1) q ?_
        refine e_inc (ls' := [.ref 69, .int (x1 + 1), .int x2, .int x3]) o_203_92 rfl rfl rfl ?_
        refine e_go o_203_95 ?_
        exact Ev.less (ls := [.ref 69, .int (x1 + 1), .null, .null]) ⟨Or.inr rfl, Or.inr rfl, Or.inl rfl, Or.inl rfl, trivial⟩ k
  · have k := k.2 z
    refine e_al o_203_22 rfl ?_
    refine e_gR (r := 77) o_203_23 (sk_69 (h := h) hs) (sr_69_21 (h := h) hs) (by decide) ?_
    refine e_il o_203_26 rfl ?_
    obtain ⟨q, k⟩ := k
    refine e_la (n := 14) o_203_27 (sk_77 (h := h) hs) (sn_77 (h := h) hs) q ?_
    refine e_al o_203_28 rfl ?_
    refine e_gR (r := 75) o_203_29 (sk_69 (h := h) hs) (sr_69_8 (h := h) hs) (by decide) ?_
    refine e_al o_203_32 rfl ?_
    refine e_gR (r := 95) o_203_33 (sk_69 (h := h) hs) (sr_69_41 (h := h) hs) (by decide) ?_
    refine e_il o_203_36 rfl ?_
    obtain ⟨q, k⟩ := k
    refine e_ia (n := 400) o_203_37 (sk_95 (h := h) hs) (sn_95 (h := h) hs) q ?_
    obtain ⟨q, k⟩ := k
    refine e_la (n := 403) o_203_38 (sk_75 (h := h) hs) (sn_75 (h := h) hs) q ?_
    refine e_lcmp o_203_39 ?_
    refine e_i0_1 o_203_40 (fun z => ?_) (fun z => ?_)
    · have k := k.1 z
      refine e_inc (ls' := [.ref 69, .int x1, .int x2, .int (x3 + 1)]) o_203_50 rfl rfl rfl ?_
      refine e_go o_203_53 ?_
      exact Ev.less (ls := [.ref 69, .int x1, .int x2, .int (x3 + 1)]) ⟨Or.inr rfl, Or.inr rfl, Or.inr rfl, Or.inr rfl, trivial⟩ k
    · have k := k.2 z
      refine e_al o_203_43 rfl ?_
      refine e_gR (r := 78) o_203_44 (sk_69 (h := h) hs) (sr_69_22 (h := h) hs) (by decide) ?_
      refine e_il o_203_47 rfl ?_
      obtain ⟨q, k⟩ := k
      refine e_ia (n := 14) o_203_48 (sk_78 (h := h) hs) (sn_78 (h := h) hs) q ?_
      refine e_is (ls' := [.ref 69, .int x1, .int (xI h 78 (tn x3)), .int x3]) o_203_49 (Nat.le_of_ble_eq_true rfl) rfl ?_
      refine e_inc (ls' := [.ref 69, .int x1, .int (xI h 78 (tn x3)), .int (x3 + 1)]) o_203_50 rfl rfl rfl ?_
      refine e_go o_203_53 ?_
      exact Ev.less (ls := [.ref 69, .int x1, .int (xI h 78 (tn x3)), .int (x3 + 1)]) ⟨Or.inr rfl, Or.inr rfl, Or.inr rfl, Or.inr rfl, trivial⟩ k
