set_option maxHeartbeats 4000000 in
set_option maxRecDepth 100000 in
theorem B_204_0  {h : XH} {Q : Value → XH → Prop} (hs : Sh h) (k : Q (.int (xI h 69 17)) h) : Ev 204 0 (x_ini 204 [.ref 69]) [] h Q := by
  rw [show x_ini 204 [.ref 69] = [.ref 69] from x_inid ml_204 rfl]
  refine e_al o_204_0 rfl ?_
  refine e_gI o_204_1 (sk_69 (h := h) hs) ?_
  exact e_retI o_204_4 k
set_option maxHeartbeats 4000000 in
set_option maxRecDepth 100000 in
theorem B_205_0 {x1 : Int32} {h : XH} {Q : Value → XH → Prop} (hs : Sh h) (k : ClI 206 [.ref 69, .int x1] h (fun v2 h1 => Sh h1 ∧ (((v2 = 0) → Q (.int (-1)) h1) ∧ (¬ (v2 = 0) → InB x1 20 ∧ (Q (.int (xI h1 108 (tn x1))) h1))))) : Ev 205 0 (x_ini 205 [.ref 69, .int x1]) [] h Q := by
  rw [show x_ini 205 [.ref 69, .int x1] = [.ref 69, .int x1] from x_inid ml_205 rfl]
  refine e_al o_205_0 rfl ?_
  refine e_il o_205_1 rfl ?_
  refine e_clI (as := [.ref 69, .int x1]) (rest := []) o_205_2 rfl rfl (x_okd cl_205_206 ml_206 (Nat.le_of_ble_eq_true rfl) (Nat.le_of_ble_eq_true rfl)) (x_rc0 (ci := 9) (sk_69 (h := h) hs) mo_206) k ?_
  rintro v2 h1 ⟨sh1, k⟩
  refine e_i0_0 o_205_5 (fun z => ?_) (fun z => ?_)
  · have k := k.1 z
    refine e_c (-1) o_205_17 rfl ?_
    exact e_retI o_205_18 k
  · have k := k.2 z
    refine e_al o_205_8 rfl ?_
    refine e_gR (r := 108) o_205_9 (sk_69 (h := h1) sh1) (sr_69_59 (h := h1) sh1) (by decide) ?_
    refine e_il o_205_12 rfl ?_
    obtain ⟨q, k⟩ := k
    refine e_ia (n := 20) o_205_13 (sk_108 (h := h1) sh1) (sn_108 (h := h1) sh1) q ?_
    refine e_go o_205_14 ?_
    exact e_retI o_205_18 k
set_option maxHeartbeats 4000000 in
set_option maxRecDepth 100000 in
theorem B_206_0 {x1 : Int32} {h : XH} {Q : Value → XH → Prop} (hs : Sh h) (k : InB (xI h 69 18) 2 ∧ (ClI 207 [.int x1, .int 0, .int ((xI h 79 (tn (xI h 69 18))) - 1)] h (fun v2 h1 => Sh h1 ∧ ((v2 = 0 ∨ v2 = 1) ∧ Q (.int v2) h1)))) : Ev 206 0 (x_ini 206 [.ref 69, .int x1]) [] h Q := by
  rw [show x_ini 206 [.ref 69, .int x1] = [.ref 69, .int x1] from x_inid ml_206 rfl]
  refine e_il o_206_0 rfl ?_
  refine e_c 0 o_206_1 rfl ?_
  refine e_al o_206_2 rfl ?_
  refine e_gR (r := 79) o_206_3 (sk_69 (h := h) hs) (sr_69_23 (h := h) hs) (by decide) ?_
  refine e_al o_206_6 rfl ?_
  refine e_gI o_206_7 (sk_69 (h := h) hs) ?_
  obtain ⟨q, k⟩ := k
  refine e_ia (n := 2) o_206_10 (sk_79 (h := h) hs) (sn_79 (h := h) hs) q ?_
  refine e_c 1 o_206_11 rfl ?_
  refine e_bin o_206_12 rfl ?_
  refine e_clI (as := [.int x1, .int 0, .int ((xI h 79 (tn (xI h 69 18))) - 1)]) (rest := []) o_206_13 rfl rfl (x_okd cl_206_207 ml_207 (Nat.le_of_ble_eq_true rfl) (Nat.le_of_ble_eq_true rfl)) (rfl) k ?_
  rintro v2 h1 ⟨sh1, k⟩
  exact e_retZ o_206_16 k.1 k.2
set_option maxHeartbeats 4000000 in
set_option maxRecDepth 100000 in
theorem B_207_0 {x0 : Int32} {x1 : Int32} {x2 : Int32} {h : XH} {Q : Value → XH → Prop} (hs : Sh h) (k : ((x0 < x1) → Q (.int 0) h) ∧ (¬ (x0 < x1) → ((x2 < x0) → Q (.int 0) h) ∧ (¬ (x2 < x0) → Q (.int 1) h))) : Ev 207 0 (x_ini 207 [.int x0, .int x1, .int x2]) [] h Q := by
  rw [show x_ini 207 [.int x0, .int x1, .int x2] = [.int x0, .int x1, .int x2] from x_inid ml_207 rfl]
  refine e_il o_207_0 rfl ?_
  refine e_il o_207_1 rfl ?_
  refine e_if_2 o_207_2 (fun z => ?_) (fun z => ?_)
  · have k := k.1 z
    refine e_c 0 o_207_14 rfl ?_
    exact e_retZ o_207_15 (by decide) k
  · have k := k.2 z
    refine e_il o_207_5 rfl ?_
    refine e_il o_207_6 rfl ?_
    refine e_if_4 o_207_7 (fun z => ?_) (fun z => ?_)
    · have k := k.1 z
      refine e_c 0 o_207_14 rfl ?_
      exact e_retZ o_207_15 (by decide) k
    · have k := k.2 z
      refine e_c 1 o_207_10 rfl ?_
      refine e_go o_207_11 ?_
      exact e_retZ o_207_15 (by decide) k
set_option maxHeartbeats 4000000 in
set_option maxRecDepth 100000 in
theorem B_208_0 {x1 : Int32} {x2 : Int32} {h : XH} {Q : Value → XH → Prop} (hs : Sh h) (k : ClI 209 [.ref 69, .int x1] h (fun v2 h1 => Sh h1 ∧ (((v2 = 0) → Q (.int (-1)) h1) ∧ (¬ (v2 = 0) → ClI 207 [.int x2, .int 0, .int 6] h1 (fun v4 h3 => Sh h3 ∧ (((¬ v4 = 0) → ((¬ x2 = 0) → ((¬ x2 = 1) → ((¬ x2 = 6) → ClV 210 [.ref 69] h3 (fun h5 => Sh h5 ∧ (ClV 167 [.ref 69] h5 (fun h7 => Sh h7 ∧ (((¬ x2 = 2) → ((¬ x2 = 3) → InB ((6 * (xI h7 69 18)) + x1) 12 ∧ (Ev 208 125 [.ref 69, .int x1, .int x2, .int ((6 * (xI h7 69 18)) + x1), .int (xI h7 86 (tn ((6 * (xI h7 69 18)) + x1)))] [] h7 Q)) ∧ (¬ (¬ x2 = 3) → InB ((6 * (xI h7 69 18)) + x1) 12 ∧ (InB ((6 * (xI h7 69 18)) + x1) 12 ∧ (Q (.int ((xI h7 87 (tn ((6 * (xI h7 69 18)) + x1))) - (xI h7 86 (tn ((6 * (xI h7 69 18)) + x1))))) h7)))) ∧ (¬ (¬ x2 = 2) → ClI 169 [.ref 69, .int x1] h7 (fun v10 h9 => Sh h9 ∧ (Q (.int v10) h9)))))))) ∧ (¬ (¬ x2 = 6) → InB 14 20 ∧ (Q (.int (((xI h3 108 (tn 14)) >>> (x1 &&& 31)) &&& 1)) h3))) ∧ (¬ (¬ x2 = 1) → InB 16 20 ∧ (Q (.int (((xI h3 108 (tn 16)) >>> (x1 &&& 31)) &&& 1)) h3))) ∧ (¬ (¬ x2 = 0) → InB (8 + x1) 20 ∧ (Q (.int (xI h3 108 (tn (8 + x1)))) h3))) ∧ (¬ (¬ v4 = 0) → Q (.int (-1)) h3))))))) : Ev 208 0 (x_ini 208 [.ref 69, .int x1, .int x2]) [] h Q := by
  rw [show x_ini 208 [.ref 69, .int x1, .int x2] = [.ref 69, .int x1, .int x2, .null, .null] from x_inid ml_208 rfl]
  refine e_al o_208_0 rfl ?_
  refine e_il o_208_1 rfl ?_
  refine e_clI (as := [.ref 69, .int x1]) (rest := []) o_208_2 rfl rfl (x_okd cl_208_209 ml_209 (Nat.le_of_ble_eq_true rfl) (Nat.le_of_ble_eq_true rfl)) (x_rc0 (ci := 9) (sk_69 (h := h) hs) mo_209) k ?_
  rintro v2 h1 ⟨sh1, k⟩
  refine e_i0_0 o_208_5 (fun z => ?_) (fun z => ?_)
  · have k := k.1 z
    refine e_c (-1) o_208_18 rfl ?_
    exact e_retI o_208_19 k
  · have k := k.2 z
    refine e_il o_208_8 rfl ?_
    refine e_c 0 o_208_9 rfl ?_
    refine e_c 6 o_208_10 rfl ?_
    refine e_clI (as := [.int x2, .int 0, .int 6]) (rest := []) o_208_12 rfl rfl (x_okd cl_208_207 ml_207 (Nat.le_of_ble_eq_true rfl) (Nat.le_of_ble_eq_true rfl)) (rfl) k ?_
    rintro v4 h3 ⟨sh3, k⟩
    refine e_i0_1 o_208_15 (fun z => ?_) (fun z => ?_)
    · have k := k.1 z
      refine e_il o_208_20 rfl ?_
      refine e_i0_1 o_208_21 (fun z => ?_) (fun z => ?_)
      · have k := k.1 z
        refine e_il o_208_34 rfl ?_
        refine e_c 1 o_208_35 rfl ?_
        refine e_if_1 o_208_36 (fun z => ?_) (fun z => ?_)
        · have k := k.1 z
          refine e_il o_208_51 rfl ?_
          refine e_c 6 o_208_52 rfl ?_
          refine e_if_1 o_208_54 (fun z => ?_) (fun z => ?_)
          · have k := k.1 z
            refine e_al o_208_69 rfl ?_
            refine e_clV (as := [.ref 69]) (rest := []) o_208_70 rfl rfl (x_okd cl_208_210 ml_210 (Nat.le_of_ble_eq_true rfl) (Nat.le_of_ble_eq_true rfl)) (x_rc0 (ci := 9) (sk_69 (h := h3) sh3) mo_210) k ?_
            rintro h5 ⟨sh5, k⟩
            refine e_al o_208_73 rfl ?_
            refine e_clV (as := [.ref 69]) (rest := []) o_208_74 rfl rfl (x_okd cl_208_167 ml_167 (Nat.le_of_ble_eq_true rfl) (Nat.le_of_ble_eq_true rfl)) (x_rc0 (ci := 9) (sk_69 (h := h5) sh5) mo_167) k ?_
            rintro h7 ⟨sh7, k⟩
            refine e_c 6 o_208_77 rfl ?_
            refine e_al o_208_79 rfl ?_
            refine e_gI o_208_80 (sk_69 (h := h7) sh7) ?_
            refine e_bin o_208_83 rfl ?_
            refine e_il o_208_84 rfl ?_
            refine e_bin o_208_85 rfl ?_
            refine e_is (ls' := [.ref 69, .int x1, .int x2, .int ((6 * (xI h7 69 18)) + x1), .null]) o_208_86 (Nat.le_of_ble_eq_true rfl) rfl ?_
            refine e_il o_208_87 rfl ?_
            refine e_c 2 o_208_88 rfl ?_
            refine e_if_1 o_208_89 (fun z => ?_) (fun z => ?_)
            · have k := k.1 z
              refine e_il o_208_98 rfl ?_
              refine e_c 3 o_208_99 rfl ?_
              refine e_if_1 o_208_100 (fun z => ?_) (fun z => ?_)
              · have k := k.1 z
                refine e_al o_208_117 rfl ?_
                refine e_gR (r := 86) o_208_118 (sk_69 (h := h7) sh7) (sr_69_30 (h := h7) sh7) (by decide) ?_
                refine e_il o_208_121 rfl ?_
                obtain ⟨q, k⟩ := k
                refine e_ia (n := 12) o_208_122 (sk_86 (h := h7) sh7) (sn_86 (h := h7) sh7) q ?_
                refine e_is (ls' := [.ref 69, .int x1, .int x2, .int ((6 * (xI h7 69 18)) + x1), .int (xI h7 86 (tn ((6 * (xI h7 69 18)) + x1)))]) o_208_123 (Nat.le_of_ble_eq_true rfl) rfl ?_
                exact Ev.less (ls := [.ref 69, .int x1, .int x2, .int ((6 * (xI h7 69 18)) + x1), .int (xI h7 86 (tn ((6 * (xI h7 69 18)) + x1)))]) ⟨Or.inr rfl, Or.inr rfl, Or.inr rfl, Or.inr rfl, Or.inr rfl, trivial⟩ k
              · have k := k.2 z
                refine e_al o_208_103 rfl ?_
                refine e_gR (r := 87) o_208_104 (sk_69 (h := h7) sh7) (sr_69_31 (h := h7) sh7) (by decide) ?_
                refine e_il o_208_107 rfl ?_
                obtain ⟨q, k⟩ := k
                refine e_ia (n := 12) o_208_108 (sk_87 (h := h7) sh7) (sn_87 (h := h7) sh7) q ?_
                refine e_al o_208_109 rfl ?_
                refine e_gR (r := 86) o_208_110 (sk_69 (h := h7) sh7) (sr_69_30 (h := h7) sh7) (by decide) ?_
                refine e_il o_208_113 rfl ?_
                obtain ⟨q, k⟩ := k
                refine e_ia (n := 12) o_208_114 (sk_86 (h := h7) sh7) (sn_86 (h := h7) sh7) q ?_
                refine e_bin o_208_115 rfl ?_
                exact e_retI o_208_116 k
            · have k := k.2 z
              refine e_al o_208_92 rfl ?_
              refine e_il o_208_93 rfl ?_
              refine e_clI (as := [.ref 69, .int x1]) (rest := []) o_208_94 rfl rfl (x_okd cl_208_169 ml_169 (Nat.le_of_ble_eq_true rfl) (Nat.le_of_ble_eq_true rfl)) (x_rc0 (ci := 9) (sk_69 (h := h7) sh7) mo_169) k ?_
              rintro v10 h9 ⟨sh9, k⟩
              exact e_retI o_208_97 k
          · have k := k.2 z
            refine e_al o_208_57 rfl ?_
            refine e_gR (r := 108) o_208_58 (sk_69 (h := h3) sh3) (sr_69_59 (h := h3) sh3) (by decide) ?_
            refine e_c 14 o_208_61 rfl ?_
            obtain ⟨q, k⟩ := k
            refine e_ia (n := 20) o_208_63 (sk_108 (h := h3) sh3) (sn_108 (h := h3) sh3) q ?_
            refine e_il o_208_64 rfl ?_
            refine e_bin o_208_65 rfl ?_
            refine e_c 1 o_208_66 rfl ?_
            refine e_bin o_208_67 rfl ?_
            exact e_retI o_208_68 k
        · have k := k.2 z
          refine e_al o_208_39 rfl ?_
          refine e_gR (r := 108) o_208_40 (sk_69 (h := h3) sh3) (sr_69_59 (h := h3) sh3) (by decide) ?_
          refine e_c 16 o_208_43 rfl ?_
          obtain ⟨q, k⟩ := k
          refine e_ia (n := 20) o_208_45 (sk_108 (h := h3) sh3) (sn_108 (h := h3) sh3) q ?_
          refine e_il o_208_46 rfl ?_
          refine e_bin o_208_47 rfl ?_
          refine e_c 1 o_208_48 rfl ?_
          refine e_bin o_208_49 rfl ?_
          exact e_retI o_208_50 k
      · have k := k.2 z
        refine e_al o_208_24 rfl ?_
        refine e_gR (r := 108) o_208_25 (sk_69 (h := h3) sh3) (sr_69_59 (h := h3) sh3) (by decide) ?_
        refine e_c 8 o_208_28 rfl ?_
        refine e_il o_208_30 rfl ?_
        refine e_bin o_208_31 rfl ?_
        obtain ⟨q, k⟩ := k
        refine e_ia (n := 20) o_208_32 (sk_108 (h := h3) sh3) (sn_108 (h := h3) sh3) q ?_
        exact e_retI o_208_33 k
    · have k := k.2 z
      refine e_c (-1) o_208_18 rfl ?_
      exact e_retI o_208_19 k
set_option maxHeartbeats 4000000 in
set_option maxRecDepth 100000 in
theorem B_208_125 {x1 : Int32} {x2 : Int32} {x3 : Int32} {x4 : Int32} {h : XH} {Q : Value → XH → Prop} (hs : Sh h) (k : InB x3 12 ∧ ((((xI h 87 (tn x3)) ≤ x4) → Q (.int (-2)) h) ∧ (¬ ((xI h 87 (tn x3)) ≤ x4) → ((¬ x2 = 4) → ClI 170 [.ref 69, .int x1, .int x4] h (fun v2 h1 => Sh h1 ∧ (((¬ v2 = 2) → Ev 208 125 [.ref 69, .int x1, .int x2, .int x3, .int (x4 + 1)] [] h1 Q) ∧ (¬ (¬ v2 = 2) → InB x3 12 ∧ (Q (.int (x4 - (xI h1 86 (tn x3)))) h1))))) ∧ (¬ (¬ x2 = 4) → ClI 170 [.ref 69, .int x1, .int x4] h (fun v4 h3 => Sh h3 ∧ (((v4 = 1) → Ev 208 125 [.ref 69, .int x1, .int x2, .int x3, .int (x4 + 1)] [] h3 Q) ∧ (¬ (v4 = 1) → InB x3 12 ∧ (Q (.int (x4 - (xI h3 86 (tn x3)))) h3)))))))) : Ev 208 125 [.ref 69, .int x1, .int x2, .int x3, .int x4] [] h Q := by
  refine e_il o_208_125 rfl ?_
  refine e_al o_208_127 rfl ?_
  refine e_gR (r := 87) o_208_128 (sk_69 (h := h) hs) (sr_69_31 (h := h) hs) (by decide) ?_
  refine e_il o_208_131 rfl ?_
  obtain ⟨q, k⟩ := k
  refine e_ia (n := 12) o_208_132 (sk_87 (h := h) hs) (sn_87 (h := h) hs) q ?_
  refine e_if_3 o_208_133 (fun z => ?_) (fun z => ?_)
  · have k := k.1 z
    refine e_c (-2) o_208_182 rfl ?_
    exact e_retI o_208_184 k
  · have k := k.2 z
    refine e_il o_208_136 rfl ?_
    refine e_c 4 o_208_137 rfl ?_
    refine e_if_1 o_208_138 (fun z => ?_) (fun z => ?_)
    · have k := k.1 z
      refine e_al o_208_155 rfl ?_
      refine e_il o_208_156 rfl ?_
      refine e_il o_208_157 rfl ?_
      refine e_clI (as := [.ref 69, .int x1, .int x4]) (rest := []) o_208_159 rfl rfl (x_okd cl_208_170 ml_170 (Nat.le_of_ble_eq_true rfl) (Nat.le_of_ble_eq_true rfl)) (x_rc0 (ci := 9) (sk_69 (h := h) hs) mo_170) k ?_
      rintro v2 h1 ⟨sh1, k⟩
      refine e_c 2 o_208_162 rfl ?_
      refine e_if_1 o_208_163 (fun z => ?_) (fun z => ?_)
      · have k := k.1 z
        refine e_inc (ls' := [.ref 69, .int x1, .int x2, .int x3, .int (x4 + 1)]) o_208_176 rfl rfl rfl ?_
        refine e_go o_208_179 ?_
        exact Ev.less (ls := [.ref 69, .int x1, .int x2, .int x3, .int (x4 + 1)]) ⟨Or.inr rfl, Or.inr rfl, Or.inr rfl, Or.inr rfl, Or.inr rfl, trivial⟩ k
      · have k := k.2 z
        refine e_il o_208_166 rfl ?_
        refine e_al o_208_168 rfl ?_
        refine e_gR (r := 86) o_208_169 (sk_69 (h := h1) sh1) (sr_69_30 (h := h1) sh1) (by decide) ?_
        refine e_il o_208_172 rfl ?_
        obtain ⟨q, k⟩ := k
        refine e_ia (n := 12) o_208_173 (sk_86 (h := h1) sh1) (sn_86 (h := h1) sh1) q ?_
        refine e_bin o_208_174 rfl ?_
        exact e_retI o_208_175 k
    · have k := k.2 z
      refine e_al o_208_141 rfl ?_
      refine e_il o_208_142 rfl ?_
      refine e_il o_208_143 rfl ?_
      refine e_clI (as := [.ref 69, .int x1, .int x4]) (rest := []) o_208_145 rfl rfl (x_okd cl_208_170 ml_170 (Nat.le_of_ble_eq_true rfl) (Nat.le_of_ble_eq_true rfl)) (x_rc0 (ci := 9) (sk_69 (h := h) hs) mo_170) k ?_
      rintro v4 h3 ⟨sh3, k⟩
      refine e_c 1 o_208_148 rfl ?_
      refine e_if_0 o_208_149 (fun z => ?_) (fun z => ?_)
      · have k := k.1 z
        refine e_inc (ls' := [.ref 69, .int x1, .int x2, .int x3, .int (x4 + 1)]) o_208_176 rfl rfl rfl ?_
        refine e_go o_208_179 ?_
        exact Ev.less (ls := [.ref 69, .int x1, .int x2, .int x3, .int (x4 + 1)]) ⟨Or.inr rfl, Or.inr rfl, Or.inr rfl, Or.inr rfl, Or.inr rfl, trivial⟩ k
      · have k := k.2 z
        refine e_go o_208_152 ?_
        refine e_il o_208_166 rfl ?_
        refine e_al o_208_168 rfl ?_
        refine e_gR (r := 86) o_208_169 (sk_69 (h := h3) sh3) (sr_69_30 (h := h3) sh3) (by decide) ?_
        refine e_il o_208_172 rfl ?_
        obtain ⟨q, k⟩ := k
        refine e_ia (n := 12) o_208_173 (sk_86 (h := h3) sh3) (sn_86 (h := h3) sh3) q ?_
        refine e_bin o_208_174 rfl ?_
        exact e_retI o_208_175 k
set_option maxHeartbeats 4000000 in
set_option maxRecDepth 100000 in
theorem B_209_0 {x1 : Int32} {h : XH} {Q : Value → XH → Prop} (hs : Sh h) (k : InB (xI h 69 18) 2 ∧ (ClI 207 [.int x1, .int 0, .int ((xI h 84 (tn (xI h 69 18))) - 1)] h (fun v2 h1 => Sh h1 ∧ ((v2 = 0 ∨ v2 = 1) ∧ Q (.int v2) h1)))) : Ev 209 0 (x_ini 209 [.ref 69, .int x1]) [] h Q := by
  rw [show x_ini 209 [.ref 69, .int x1] = [.ref 69, .int x1] from x_inid ml_209 rfl]
  refine e_il o_209_0 rfl ?_
  refine e_c 0 o_209_1 rfl ?_
  refine e_al o_209_2 rfl ?_
  refine e_gR (r := 84) o_209_3 (sk_69 (h := h) hs) (sr_69_28 (h := h) hs) (by decide) ?_
  refine e_al o_209_6 rfl ?_
  refine e_gI o_209_7 (sk_69 (h := h) hs) ?_
  obtain ⟨q, k⟩ := k
  refine e_ia (n := 2) o_209_10 (sk_84 (h := h) hs) (sn_84 (h := h) hs) q ?_
  refine e_c 1 o_209_11 rfl ?_
  refine e_bin o_209_12 rfl ?_
  refine e_clI (as := [.int x1, .int 0, .int ((xI h 84 (tn (xI h 69 18))) - 1)]) (rest := []) o_209_13 rfl rfl (x_okd cl_209_207 ml_207 (Nat.le_of_ble_eq_true rfl) (Nat.le_of_ble_eq_true rfl)) (rfl) k ?_
  rintro v2 h1 ⟨sh1, k⟩
  exact e_retZ o_209_16 k.1 k.2
set_option maxHeartbeats 4000000 in
set_option maxRecDepth 100000 in
theorem B_210_0  {h : XH} {Q : Value → XH → Prop} (hs : Sh h) (k : Ev 210 2 [.ref 69, .int 0] [] h Q) : Ev 210 0 (x_ini 210 [.ref 69]) [] h Q := by
  rw [show x_ini 210 [.ref 69] = [.ref 69, .null] from x_inid ml_210 rfl]
  refine e_c 0 o_210_0 rfl ?_
  refine e_is (ls' := [.ref 69, .int 0]) o_210_1 (Nat.le_of_ble_eq_true rfl) rfl ?_
  exact Ev.less (ls := [.ref 69, .int 0]) ⟨Or.inr rfl, Or.inr rfl, trivial⟩ k
set_option maxHeartbeats 4000000 in
set_option maxRecDepth 100000 in
theorem B_210_2 {x1 : Int32} {h : XH} {Q : Value → XH → Prop} (hs : Sh h) (k : ((20 ≤ x1) → InB (xI h 69 18) 2 ∧ (Q .null (xsI h 69 61 (xI h 93 (tn (xI h 69 18)))))) ∧ (¬ (20 ≤ x1) → InB x1 20 ∧ (InB x1 20 ∧ (Ev 210 2 [.ref 69, .int (x1 + 1)] [] (xsI h 109 (tn x1) (xI h 108 (tn x1))) Q)))) : Ev 210 2 [.ref 69, .int x1] [] h Q := by
  refine e_il o_210_2 rfl ?_
  refine e_c 20 o_210_3 rfl ?_
  refine e_if_3 o_210_5 (fun z => ?_) (fun z => ?_)
  · have k := k.1 z
    refine e_al o_210_26 rfl ?_
    refine e_al o_210_27 rfl ?_
    refine e_gR (r := 93) o_210_28 (sk_69 (h := h) hs) (sr_69_38 (h := h) hs) (by decide) ?_
    refine e_al o_210_31 rfl ?_
    refine e_gI o_210_32 (sk_69 (h := h) hs) ?_
    obtain ⟨q, k⟩ := k
    refine e_ia (n := 2) o_210_35 (sk_93 (h := h) hs) (sn_93 (h := h) hs) q ?_
    refine e_pI o_210_36 (sk_69 (h := h) hs) ?_
    exact e_ret0 o_210_39 k
  · have k := k.2 z
    refine e_al o_210_8 rfl ?_
    refine e_gR (r := 109) o_210_9 (sk_69 (h := h) hs) (sr_69_60 (h := h) hs) (by decide) ?_
    refine e_il o_210_12 rfl ?_
    refine e_al o_210_13 rfl ?_
    refine e_gR (r := 108) o_210_14 (sk_69 (h := h) hs) (sr_69_59 (h := h) hs) (by decide) ?_
    refine e_il o_210_17 rfl ?_
    obtain ⟨q, k⟩ := k
    refine e_ia (n := 20) o_210_18 (sk_108 (h := h) hs) (sn_108 (h := h) hs) q ?_
    obtain ⟨q, k⟩ := k
    refine e_ias (n := 20) o_210_19 (sk_109 (h := h) hs) (by decide) (sn_109 (h := h) hs) q ?_
    refine e_inc (ls' := [.ref 69, .int (x1 + 1)]) o_210_20 rfl rfl rfl ?_
    refine e_go o_210_23 ?_
    exact Ev.less (ls := [.ref 69, .int (x1 + 1)]) ⟨Or.inr rfl, Or.inr rfl, trivial⟩ k
set_option maxHeartbeats 4000000 in
set_option maxRecDepth 100000 in
theorem B_211_0 {x1 : Int32} {h : XH} {Q : Value → XH → Prop} (hs : Sh h) (k : ClI 207 [.int x1, .int 0, .int 2] h (fun v2 h1 => Sh h1 ∧ (((v2 = 0) → Q (.int (-1)) h1) ∧ (¬ (v2 = 0) → InB (17 + x1) 20 ∧ (Q (.int (xI h1 108 (tn (17 + x1)))) h1))))) : Ev 211 0 (x_ini 211 [.ref 69, .int x1]) [] h Q := by
  rw [show x_ini 211 [.ref 69, .int x1] = [.ref 69, .int x1] from x_inid ml_211 rfl]
  refine e_il o_211_0 rfl ?_
  refine e_c 0 o_211_1 rfl ?_
  refine e_c 2 o_211_2 rfl ?_
  refine e_clI (as := [.int x1, .int 0, .int 2]) (rest := []) o_211_3 rfl rfl (x_okd cl_211_207 ml_207 (Nat.le_of_ble_eq_true rfl) (Nat.le_of_ble_eq_true rfl)) (rfl) k ?_
  rintro v2 h1 ⟨sh1, k⟩
  refine e_i0_0 o_211_6 (fun z => ?_) (fun z => ?_)
  · have k := k.1 z
    refine e_c (-1) o_211_21 rfl ?_
    exact e_retI o_211_22 k
  · have k := k.2 z
    refine e_al o_211_9 rfl ?_
    refine e_gR (r := 108) o_211_10 (sk_69 (h := h1) sh1) (sr_69_59 (h := h1) sh1) (by decide) ?_
    refine e_c 17 o_211_13 rfl ?_
    refine e_il o_211_15 rfl ?_
    refine e_bin o_211_16 rfl ?_
    obtain ⟨q, k⟩ := k
    refine e_ia (n := 20) o_211_17 (sk_108 (h := h1) sh1) (sn_108 (h := h1) sh1) q ?_
    refine e_go o_211_18 ?_
    exact e_retI o_211_22 k
set_option maxHeartbeats 4000000 in
set_option maxRecDepth 100000 in
theorem B_212_0 {x1 : Int32} {h : XH} {Q : Value → XH → Prop} (hs : Sh h) (k : ClI 207 [.int x1, .int 0, .int 100] h (fun v2 h1 => Sh h1 ∧ (((¬ v2 = 0) → ((¬ x1 = 0) → ClV 210 [.ref 69] h1 (fun h3 => Sh h3 ∧ (ClV 213 [.ref 69, .int x1] h3 (fun h5 => Sh h5 ∧ (ClV 218 [.ref 69] h5 (fun h7 => Sh h7 ∧ (InB 15 20 ∧ (Q (.int (xI h7 108 (tn 15))) h7)))))))) ∧ (¬ (¬ x1 = 0) → InB 15 20 ∧ (Q (.int (xI h1 108 (tn 15))) h1))) ∧ (¬ (¬ v2 = 0) → Q (.int (-1)) h1)))) : Ev 212 0 (x_ini 212 [.ref 69, .int x1]) [] h Q := by
  rw [show x_ini 212 [.ref 69, .int x1] = [.ref 69, .int x1] from x_inid ml_212 rfl]
  refine e_il o_212_0 rfl ?_
  refine e_c 0 o_212_1 rfl ?_
  refine e_c 100 o_212_2 rfl ?_
  refine e_clI (as := [.int x1, .int 0, .int 100]) (rest := []) o_212_4 rfl rfl (x_okd cl_212_207 ml_207 (Nat.le_of_ble_eq_true rfl) (Nat.le_of_ble_eq_true rfl)) (rfl) k ?_
  rintro v2 h1 ⟨sh1, k⟩
  refine e_i0_1 o_212_7 (fun z => ?_) (fun z => ?_)
  · have k := k.1 z
    refine e_il o_212_12 rfl ?_
    refine e_i0_1 o_212_13 (fun z => ?_) (fun z => ?_)
    · have k := k.1 z
      refine e_al o_212_24 rfl ?_
      refine e_clV (as := [.ref 69]) (rest := []) o_212_25 rfl rfl (x_okd cl_212_210 ml_210 (Nat.le_of_ble_eq_true rfl) (Nat.le_of_ble_eq_true rfl)) (x_rc0 (ci := 9) (sk_69 (h := h1) sh1) mo_210) k ?_
      rintro h3 ⟨sh3, k⟩
      refine e_al o_212_28 rfl ?_
      refine e_il o_212_29 rfl ?_
      refine e_clV (as := [.ref 69, .int x1]) (rest := []) o_212_30 rfl rfl (x_okd cl_212_213 ml_213 (Nat.le_of_ble_eq_true rfl) (Nat.le_of_ble_eq_true rfl)) (x_rc0 (ci := 9) (sk_69 (h := h3) sh3) mo_213) k ?_
      rintro h5 ⟨sh5, k⟩
      refine e_al o_212_33 rfl ?_
      refine e_clV (as := [.ref 69]) (rest := []) o_212_34 rfl rfl (x_okd cl_212_218 ml_218 (Nat.le_of_ble_eq_true rfl) (Nat.le_of_ble_eq_true rfl)) (x_rc0 (ci := 9) (sk_69 (h := h5) sh5) mo_218) k ?_
      rintro h7 ⟨sh7, k⟩
      refine e_al o_212_37 rfl ?_
      refine e_gR (r := 108) o_212_38 (sk_69 (h := h7) sh7) (sr_69_59 (h := h7) sh7) (by decide) ?_
      refine e_c 15 o_212_41 rfl ?_
      obtain ⟨q, k⟩ := k
      refine e_ia (n := 20) o_212_43 (sk_108 (h := h7) sh7) (sn_108 (h := h7) sh7) q ?_
      exact e_retI o_212_44 k
    · have k := k.2 z
      refine e_al o_212_16 rfl ?_
      refine e_gR (r := 108) o_212_17 (sk_69 (h := h1) sh1) (sr_69_59 (h := h1) sh1) (by decide) ?_
      refine e_c 15 o_212_20 rfl ?_
      obtain ⟨q, k⟩ := k
      refine e_ia (n := 20) o_212_22 (sk_108 (h := h1) sh1) (sn_108 (h := h1) sh1) q ?_
      exact e_retI o_212_23 k
  · have k := k.2 z
    refine e_c (-1) o_212_10 rfl ?_
    exact e_retI o_212_11 k
set_option maxHeartbeats 4000000 in
set_option maxRecDepth 100000 in
theorem B_213_0 {x1 : Int32} {h : XH} {Q : Value → XH → Prop} (hs : Sh h) (k : Ev 213 2 [.ref 69, .int x1, .int 0] [] h Q) : Ev 213 0 (x_ini 213 [.ref 69, .int x1]) [] h Q := by
  rw [show x_ini 213 [.ref 69, .int x1] = [.ref 69, .int x1, .null] from x_inid ml_213 rfl]
  refine e_c 0 o_213_0 rfl ?_
  refine e_is (ls' := [.ref 69, .int x1, .int 0]) o_213_1 (Nat.le_of_ble_eq_true rfl) rfl ?_
  exact Ev.less (ls := [.ref 69, .int x1, .int 0]) ⟨Or.inr rfl, Or.inr rfl, Or.inr rfl, trivial⟩ k
set_option maxHeartbeats 4000000 in
set_option maxRecDepth 100000 in
theorem B_213_2 {x1 : Int32} {x2 : Int32} {h : XH} {Q : Value → XH → Prop} (hs : Sh h) (k : ((x1 ≤ x2) → Q .null h) ∧ (¬ (x1 ≤ x2) → ClV 214 [.ref 69] h (fun h1 => Sh h1 ∧ (Ev 213 2 [.ref 69, .int x1, .int (x2 + 1)] [] h1 Q)))) : Ev 213 2 [.ref 69, .int x1, .int x2] [] h Q := by
  refine e_il o_213_2 rfl ?_
  refine e_il o_213_3 rfl ?_
  refine e_if_3 o_213_4 (fun z => ?_) (fun z => ?_)
  · have k := k.1 z
    exact e_ret0 o_213_17 k
  · have k := k.2 z
    refine e_al o_213_7 rfl ?_
    refine e_clV (as := [.ref 69]) (rest := []) o_213_8 rfl rfl (x_okd cl_213_214 ml_214 (Nat.le_of_ble_eq_true rfl) (Nat.le_of_ble_eq_true rfl)) (x_rc0 (ci := 9) (sk_69 (h := h) hs) mo_214) k ?_
    rintro h1 ⟨sh1, k⟩
    refine e_inc (ls' := [.ref 69, .int x1, .int (x2 + 1)]) o_213_11 rfl rfl rfl ?_
    refine e_go o_213_14 ?_
    exact Ev.less (ls := [.ref 69, .int x1, .int (x2 + 1)]) ⟨Or.inr rfl, Or.inr rfl, Or.inr rfl, trivial⟩ k
set_option maxHeartbeats 4000000 in
set_option maxRecDepth 100000 in
theorem B_214_0  {h : XH} {Q : Value → XH → Prop} (hs : Sh h) (k : ClV 167 [.ref 69] h (fun h1 => Sh h1 ∧ (Ev 214 6 [.ref 69, .int 0] [] h1 Q))) : Ev 214 0 (x_ini 214 [.ref 69]) [] h Q := by
  rw [show x_ini 214 [.ref 69] = [.ref 69, .null] from x_inid ml_214 rfl]
  refine e_al o_214_0 rfl ?_
  refine e_clV (as := [.ref 69]) (rest := []) o_214_1 rfl rfl (x_okd cl_214_167 ml_167 (Nat.le_of_ble_eq_true rfl) (Nat.le_of_ble_eq_true rfl)) (x_rc0 (ci := 9) (sk_69 (h := h) hs) mo_167) k ?_
  rintro h1 ⟨sh1, k⟩
  refine e_c 0 o_214_4 rfl ?_
  refine e_is (ls' := [.ref 69, .int 0]) o_214_5 (Nat.le_of_ble_eq_true rfl) rfl ?_
  exact Ev.less (ls := [.ref 69, .int 0]) ⟨Or.inr rfl, Or.inr rfl, trivial⟩ k
set_option maxHeartbeats 4000000 in
set_option maxRecDepth 100000 in
theorem B_214_6 {x1 : Int32} {h : XH} {Q : Value → XH → Prop} (hs : Sh h) (k : InB (xI h 69 18) 2 ∧ ((((xI h 79 (tn (xI h 69 18))) ≤ x1) → Ev 214 38 [.ref 69, .int 0] [] h Q) ∧ (¬ ((xI h 79 (tn (xI h 69 18))) ≤ x1) → ClI 215 [.ref 69, .int x1] h (fun v2 h1 => Sh h1 ∧ (InB x1 8 ∧ (Ev 214 6 [.ref 69, .int (x1 + 1)] [] (xsI h1 112 (tn x1) v2) Q)))))) : Ev 214 6 [.ref 69, .int x1] [] h Q := by
  refine e_il o_214_6 rfl ?_
  refine e_al o_214_7 rfl ?_
  refine e_gR (r := 79) o_214_8 (sk_69 (h := h) hs) (sr_69_23 (h := h) hs) (by decide) ?_
  refine e_al o_214_11 rfl ?_
  refine e_gI o_214_12 (sk_69 (h := h) hs) ?_
  obtain ⟨q, k⟩ := k
  refine e_ia (n := 2) o_214_15 (sk_79 (h := h) hs) (sn_79 (h := h) hs) q ?_
  refine e_if_3 o_214_16 (fun z => ?_) (fun z => ?_)
  · have k := k.1 z
    refine e_c 0 o_214_36 rfl ?_
    refine e_is (ls' := [.ref 69, .int 0]) o_214_37 (Nat.le_of_ble_eq_true rfl) rfl ?_
    exact Ev.less (ls := [.ref 69, .int 0]) ⟨Or.inr rfl, Or.inr rfl, trivial⟩ k
  · have k := k.2 z
    refine e_al o_214_19 rfl ?_
    refine e_gR (r := 112) o_214_20 (sk_69 (h := h) hs) (sr_69_64 (h := h) hs) (by decide) ?_
    refine e_il o_214_23 rfl ?_
    refine e_al o_214_24 rfl ?_
    refine e_il o_214_25 rfl ?_
    refine e_clI (as := [.ref 69, .int x1]) (rest := [.int x1, .ref 112]) o_214_26 rfl rfl (x_okd cl_214_215 ml_215 (Nat.le_of_ble_eq_true rfl) (Nat.le_of_ble_eq_true rfl)) (x_rc0 (ci := 9) (sk_69 (h := h) hs) mo_215) k ?_
    rintro v2 h1 ⟨sh1, k⟩
    obtain ⟨q, k⟩ := k
    refine e_ias (n := 8) o_214_29 (sk_112 (h := h1) sh1) (by decide) (sn_112 (h := h1) sh1) q ?_
    refine e_inc (ls' := [.ref 69, .int (x1 + 1)]) o_214_30 rfl rfl rfl ?_
    refine e_go o_214_33 ?_
    exact Ev.less (ls := [.ref 69, .int (x1 + 1)]) ⟨Or.inr rfl, Or.inr rfl, trivial⟩ k
set_option maxHeartbeats 4000000 in
set_option maxRecDepth 100000 in
theorem B_214_38 {x1 : Int32} {h : XH} {Q : Value → XH → Prop} (hs : Sh h) (k : InB (xI h 69 18) 2 ∧ ((((xI h 79 (tn (xI h 69 18))) ≤ x1) → InB 15 20 ∧ (InB 15 20 ∧ (ClV 164 [.ref 69] (xsI h 109 (tn 15) ((xI h 109 (tn 15)) + 1)) (fun h1 => Sh h1 ∧ (Q .null h1))))) ∧ (¬ ((xI h 79 (tn (xI h 69 18))) ≤ x1) → InB x1 8 ∧ (InB x1 20 ∧ (ClI 216 [.ref 69, .int x1] (xsI h 109 (tn x1) (xI h 112 (tn x1))) (fun v4 h3 => Sh h3 ∧ (InB (xI h3 69 18) 2 ∧ ((((xI h3 92 (tn (xI h3 69 18))) ≤ v4) → Ev 214 38 [.ref 69, .int (x1 + 1)] [] h3 Q) ∧ (¬ ((xI h3 92 (tn (xI h3 69 18))) ≤ v4) → InB x1 20 ∧ (InB ((8 * (xI h3 69 18)) + x1) 16 ∧ (((¬ (xI h3 109 (tn x1)) = (xI h3 80 (tn ((8 * (xI h3 69 18)) + x1)))) → InB x1 20 ∧ (InB x1 20 ∧ (Ev 214 38 [.ref 69, .int (x1 + 1)] [] (xsI h3 109 (tn x1) ((xI h3 109 (tn x1)) + 1)) Q))) ∧ (¬ (¬ (xI h3 109 (tn x1)) = (xI h3 80 (tn ((8 * (xI h3 69 18)) + x1)))) → InB x1 20 ∧ (Ev 214 38 [.ref 69, .int (x1 + 1)] [] (xsI h3 109 (tn x1) 0) Q))))))))))))) : Ev 214 38 [.ref 69, .int x1] [] h Q := by
  refine e_il o_214_38 rfl ?_
  refine e_al o_214_39 rfl ?_
  refine e_gR (r := 79) o_214_40 (sk_69 (h := h) hs) (sr_69_23 (h := h) hs) (by decide) ?_
  refine e_al o_214_43 rfl ?_
  refine e_gI o_214_44 (sk_69 (h := h) hs) ?_
  obtain ⟨q, k⟩ := k
  refine e_ia (n := 2) o_214_47 (sk_79 (h := h) hs) (sn_79 (h := h) hs) q ?_
  refine e_if_3 o_214_48 (fun z => ?_) (fun z => ?_)
  · have k := k.1 z
    refine e_al o_214_127 rfl ?_
    refine e_gR (r := 109) o_214_128 (sk_69 (h := h) hs) (sr_69_60 (h := h) hs) (by decide) ?_
    refine e_c 15 o_214_131 rfl ?_
    refine e_dup2 o_214_133 ⟨rfl, rfl⟩ ?_
    obtain ⟨q, k⟩ := k
    refine e_ia (n := 20) o_214_134 (sk_109 (h := h) hs) (sn_109 (h := h) hs) q ?_
    refine e_c 1 o_214_135 rfl ?_
    refine e_bin o_214_136 rfl ?_
    obtain ⟨q, k⟩ := k
    refine e_ias (n := 20) o_214_137 (sk_109 (h := h) hs) (by decide) (sn_109 (h := h) hs) q ?_
    refine e_al o_214_138 rfl ?_
    refine e_clV (as := [.ref 69]) (rest := []) o_214_139 rfl rfl (x_okd cl_214_164 ml_164 (Nat.le_of_ble_eq_true rfl) (Nat.le_of_ble_eq_true rfl)) (x_rc0 (ci := 9) (sk_69 (h := h) hs) mo_164) k ?_
    rintro h1 ⟨sh1, k⟩
    exact e_ret0 o_214_142 k
  · have k := k.2 z
    refine e_al o_214_51 rfl ?_
    refine e_gR (r := 109) o_214_52 (sk_69 (h := h) hs) (sr_69_60 (h := h) hs) (by decide) ?_
    refine e_il o_214_55 rfl ?_
    refine e_al o_214_56 rfl ?_
    refine e_gR (r := 112) o_214_57 (sk_69 (h := h) hs) (sr_69_64 (h := h) hs) (by decide) ?_
    refine e_il o_214_60 rfl ?_
    obtain ⟨q, k⟩ := k
    refine e_ia (n := 8) o_214_61 (sk_112 (h := h) hs) (sn_112 (h := h) hs) q ?_
    obtain ⟨q, k⟩ := k
    refine e_ias (n := 20) o_214_62 (sk_109 (h := h) hs) (by decide) (sn_109 (h := h) hs) q ?_
    refine e_al o_214_63 rfl ?_
    refine e_il o_214_64 rfl ?_
    refine e_clI (as := [.ref 69, .int x1]) (rest := []) o_214_65 rfl rfl (x_okd cl_214_216 ml_216 (Nat.le_of_ble_eq_true rfl) (Nat.le_of_ble_eq_true rfl)) (x_rc0 (ci := 9) (sk_69 (h := h) hs) mo_216) k ?_
    rintro v4 h3 ⟨sh3, k⟩
    refine e_al o_214_68 rfl ?_
    refine e_gR (r := 92) o_214_69 (sk_69 (h := h3) sh3) (sr_69_37 (h := h3) sh3) (by decide) ?_
    refine e_al o_214_72 rfl ?_
    refine e_gI o_214_73 (sk_69 (h := h3) sh3) ?_
    obtain ⟨q, k⟩ := k
    refine e_ia (n := 2) o_214_76 (sk_92 (h := h3) sh3) (sn_92 (h := h3) sh3) q ?_
    refine e_if_3 o_214_77 (fun z => ?_) (fun z => ?_)
    · have k := k.1 z
      refine e_inc (ls' := [.ref 69, .int (x1 + 1)]) o_214_121 rfl rfl rfl ?_
      refine e_go o_214_124 ?_
      exact Ev.less (ls := [.ref 69, .int (x1 + 1)]) ⟨Or.inr rfl, Or.inr rfl, trivial⟩ k
    · have k := k.2 z
      refine e_al o_214_80 rfl ?_
      refine e_gR (r := 109) o_214_81 (sk_69 (h := h3) sh3) (sr_69_60 (h := h3) sh3) (by decide) ?_
      refine e_il o_214_84 rfl ?_
      refine e_al o_214_85 rfl ?_
      refine e_gR (r := 109) o_214_86 (sk_69 (h := h3) sh3) (sr_69_60 (h := h3) sh3) (by decide) ?_
      refine e_il o_214_89 rfl ?_
      obtain ⟨q, k⟩ := k
      refine e_ia (n := 20) o_214_90 (sk_109 (h := h3) sh3) (sn_109 (h := h3) sh3) q ?_
      refine e_al o_214_91 rfl ?_
      refine e_gR (r := 80) o_214_92 (sk_69 (h := h3) sh3) (sr_69_24 (h := h3) sh3) (by decide) ?_
      refine e_c 8 o_214_95 rfl ?_
      refine e_al o_214_97 rfl ?_
      refine e_gI o_214_98 (sk_69 (h := h3) sh3) ?_
      refine e_bin o_214_101 rfl ?_
      refine e_il o_214_102 rfl ?_
      refine e_bin o_214_103 rfl ?_
      obtain ⟨q, k⟩ := k
      refine e_ia (n := 16) o_214_104 (sk_80 (h := h3) sh3) (sn_80 (h := h3) sh3) q ?_
      refine e_if_1 o_214_105 (fun z => ?_) (fun z => ?_)
      · have k := k.1 z
        refine e_al o_214_112 rfl ?_
        refine e_gR (r := 109) o_214_113 (sk_69 (h := h3) sh3) (sr_69_60 (h := h3) sh3) (by decide) ?_
        refine e_il o_214_116 rfl ?_
        obtain ⟨q, k⟩ := k
        refine e_ia (n := 20) o_214_117 (sk_109 (h := h3) sh3) (sn_109 (h := h3) sh3) q ?_
        refine e_c 1 o_214_118 rfl ?_
        refine e_bin o_214_119 rfl ?_
        obtain ⟨q, k⟩ := k
        refine e_ias (n := 20) o_214_120 (sk_109 (h := h3) sh3) (by decide) (sn_109 (h := h3) sh3) q ?_
        refine e_inc (ls' := [.ref 69, .int (x1 + 1)]) o_214_121 rfl rfl rfl ?_
        refine e_go o_214_124 ?_
        exact Ev.less (ls := [.ref 69, .int (x1 + 1)]) ⟨Or.inr rfl, Or.inr rfl, trivial⟩ k
      · have k := k.2 z
        refine e_c 0 o_214_108 rfl ?_
        refine e_go o_214_109 ?_
        obtain ⟨q, k⟩ := k
        refine e_ias (n := 20) o_214_120 (sk_109 (h := h3) sh3) (by decide) (sn_109 (h := h3) sh3) q ?_
        refine e_inc (ls' := [.ref 69, .int (x1 + 1)]) o_214_121 rfl rfl rfl ?_
        refine e_go o_214_124 ?_
        exact Ev.less (ls := [.ref 69, .int (x1 + 1)]) ⟨Or.inr rfl, Or.inr rfl, trivial⟩ k
set_option maxHeartbeats 4000000 in
set_option maxRecDepth 100000 in
theorem B_215_0 {x1 : Int32} {h : XH} {Q : Value → XH → Prop} (hs : Sh h) (k : InB ((8 * (xI h 69 18)) + x1) 16 ∧ (Ev 215 22 [.ref 69, .int x1, .int ((8 * (xI h 69 18)) + x1), .int (xI (xsI h 69 58 0) 96 (tn ((8 * (xI h 69 18)) + x1))), .null, .null] [] (xsI h 69 58 0) Q)) : Ev 215 0 (x_ini 215 [.ref 69, .int x1]) [] h Q := by
  rw [show x_ini 215 [.ref 69, .int x1] = [.ref 69, .int x1, .null, .null, .null, .null] from x_inid ml_215 rfl]
  refine e_c 8 o_215_0 rfl ?_
  refine e_al o_215_2 rfl ?_
  refine e_gI o_215_3 (sk_69 (h := h) hs) ?_
  refine e_bin o_215_6 rfl ?_
  refine e_il o_215_7 rfl ?_
  refine e_bin o_215_8 rfl ?_
  refine e_is (ls' := [.ref 69, .int x1, .int ((8 * (xI h 69 18)) + x1), .null, .null, .null]) o_215_9 (Nat.le_of_ble_eq_true rfl) rfl ?_
  refine e_al o_215_10 rfl ?_
  refine e_c 0 o_215_11 rfl ?_
  refine e_pZ o_215_12 (sk_69 (h := h) hs) (by decide) ?_
  refine e_al o_215_15 rfl ?_
  refine e_gR (r := 96) o_215_16 (sk_69 (h := h) hs) (sr_69_43 (h := h) hs) (by decide) ?_
  refine e_il o_215_19 rfl ?_
  obtain ⟨q, k⟩ := k
  refine e_ia (n := 16) o_215_20 (sk_96 (h := h) hs) (sn_96 (h := h) hs) q ?_
  refine e_is (ls' := [.ref 69, .int x1, .int ((8 * (xI h 69 18)) + x1), .int (xI (xsI h 69 58 0) 96 (tn ((8 * (xI h 69 18)) + x1))), .null, .null]) o_215_21 (Nat.le_of_ble_eq_true rfl) rfl ?_
  exact Ev.less (ls := [.ref 69, .int x1, .int ((8 * (xI h 69 18)) + x1), .int (xI (xsI h 69 58 0) 96 (tn ((8 * (xI h 69 18)) + x1))), .null, .null]) ⟨Or.inr rfl, Or.inr rfl, Or.inr rfl, Or.inr rfl, Or.inl rfl, Or.inl rfl, trivial⟩ k
set_option maxHeartbeats 4000000 in
set_option maxRecDepth 100000 in
theorem B_215_22 {x1 : Int32} {x2 : Int32} {x3 : Int32} {h : XH} {Q : Value → XH → Prop} (hs : Sh h) (k : InB x2 16 ∧ ((((xI h 97 (tn x2)) ≤ x3) → InB x1 20 ∧ (Q (.int (xI h 109 (tn x1))) h)) ∧ (¬ ((xI h 97 (tn x2)) ≤ x3) → InB x3 260 ∧ ((((xI h 98 (tn x3)) = 0) → Ev 215 101 [.ref 69, .int x1, .int x2, .int x3, .null, .null] [] h Q) ∧ (¬ ((xI h 98 (tn x3)) = 0) → InB x3 260 ∧ (InB x3 260 ∧ (ClI 171 [.ref 69, .int (xI h 99 (tn x3)), .int (xI h 100 (tn x3))] h (fun v2 h1 => Sh h1 ∧ (InB x3 260 ∧ (InB x3 260 ∧ (ClI 171 [.ref 69, .int (xI h1 100 (tn x3)), .int (xI h1 101 (tn x3))] h1 (fun v4 h3 => Sh h3 ∧ ((((xI h3 69 58) = 0) → ((v2 < v4) → Ev 215 101 [.ref 69, .int x1, .int x2, .int x3, .null, .null] [] h3 Q) ∧ (¬ (v2 < v4) → Ev 215 22 [.ref 69, .int x1, .int x2, .int (x3 + 1), .null, .null] [] h3 Q)) ∧ (¬ ((xI h3 69 58) = 0) → InB x1 20 ∧ (Q (.int (xI h3 109 (tn x1))) h3))))))))))))))) : Ev 215 22 [.ref 69, .int x1, .int x2, .int x3, .null, .null] [] h Q := by
  refine e_il o_215_22 rfl ?_
  refine e_al o_215_23 rfl ?_
  refine e_gR (r := 97) o_215_24 (sk_69 (h := h) hs) (sr_69_44 (h := h) hs) (by decide) ?_
  refine e_il o_215_27 rfl ?_
  obtain ⟨q, k⟩ := k
  refine e_ia (n := 16) o_215_28 (sk_97 (h := h) hs) (sn_97 (h := h) hs) q ?_
  refine e_if_3 o_215_29 (fun z => ?_) (fun z => ?_)
  · have k := k.1 z
    refine e_al o_215_173 rfl ?_
    refine e_gR (r := 109) o_215_174 (sk_69 (h := h) hs) (sr_69_60 (h := h) hs) (by decide) ?_
    refine e_il o_215_177 rfl ?_
    obtain ⟨q, k⟩ := k
    refine e_ia (n := 20) o_215_178 (sk_109 (h := h) hs) (sn_109 (h := h) hs) q ?_
    exact e_retI o_215_179 k
  · have k := k.2 z
    refine e_al o_215_32 rfl ?_
    refine e_gR (r := 98) o_215_33 (sk_69 (h := h) hs) (sr_69_46 (h := h) hs) (by decide) ?_
    refine e_il o_215_36 rfl ?_
    obtain ⟨q, k⟩ := k
    refine e_ba (n := 260) o_215_37 (Or.inr (sk_98 (h := h) hs)) (sn_98 (h := h) hs) q ?_
    refine e_i0_0 o_215_38 (fun z => ?_) (fun z => ?_)
    · have k := k.1 z
      exact Ev.less (ls := [.ref 69, .int x1, .int x2, .int x3, .null, .null]) ⟨Or.inr rfl, Or.inr rfl, Or.inr rfl, Or.inr rfl, Or.inl rfl, Or.inl rfl, trivial⟩ k
    · have k := k.2 z
      refine e_al o_215_41 rfl ?_
      refine e_al o_215_42 rfl ?_
      refine e_gR (r := 99) o_215_43 (sk_69 (h := h) hs) (sr_69_47 (h := h) hs) (by decide) ?_
      refine e_il o_215_46 rfl ?_
      obtain ⟨q, k⟩ := k
      refine e_ia (n := 260) o_215_47 (sk_99 (h := h) hs) (sn_99 (h := h) hs) q ?_
      refine e_al o_215_48 rfl ?_
      refine e_gR (r := 100) o_215_49 (sk_69 (h := h) hs) (sr_69_48 (h := h) hs) (by decide) ?_
      refine e_il o_215_52 rfl ?_
      obtain ⟨q, k⟩ := k
      refine e_ia (n := 260) o_215_53 (sk_100 (h := h) hs) (sn_100 (h := h) hs) q ?_
      refine e_clI (as := [.ref 69, .int (xI h 99 (tn x3)), .int (xI h 100 (tn x3))]) (rest := []) o_215_54 rfl rfl (x_okd cl_215_171 ml_171 (Nat.le_of_ble_eq_true rfl) (Nat.le_of_ble_eq_true rfl)) (x_rc0 (ci := 9) (sk_69 (h := h) hs) mo_171) k ?_
      rintro v2 h1 ⟨sh1, k⟩
      refine e_is (ls' := [.ref 69, .int x1, .int x2, .int x3, .int v2, .null]) o_215_57 (Nat.le_of_ble_eq_true rfl) rfl ?_
      refine e_al o_215_59 rfl ?_
      refine e_al o_215_60 rfl ?_
      refine e_gR (r := 100) o_215_61 (sk_69 (h := h1) sh1) (sr_69_48 (h := h1) sh1) (by decide) ?_
      refine e_il o_215_64 rfl ?_
      obtain ⟨q, k⟩ := k
      refine e_ia (n := 260) o_215_65 (sk_100 (h := h1) sh1) (sn_100 (h := h1) sh1) q ?_
      refine e_al o_215_66 rfl ?_
      refine e_gR (r := 101) o_215_67 (sk_69 (h := h1) sh1) (sr_69_49 (h := h1) sh1) (by decide) ?_
      refine e_il o_215_70 rfl ?_
      obtain ⟨q, k⟩ := k
      refine e_ia (n := 260) o_215_71 (sk_101 (h := h1) sh1) (sn_101 (h := h1) sh1) q ?_
      refine e_clI (as := [.ref 69, .int (xI h1 100 (tn x3)), .int (xI h1 101 (tn x3))]) (rest := []) o_215_72 rfl rfl (x_okd cl_215_171 ml_171 (Nat.le_of_ble_eq_true rfl) (Nat.le_of_ble_eq_true rfl)) (x_rc0 (ci := 9) (sk_69 (h := h1) sh1) mo_171) k ?_
      rintro v4 h3 ⟨sh3, k⟩
      refine e_is (ls' := [.ref 69, .int x1, .int x2, .int x3, .int v2, .int v4]) o_215_75 (Nat.le_of_ble_eq_true rfl) rfl ?_
      refine e_al o_215_77 rfl ?_
      refine e_gI o_215_78 (sk_69 (h := h3) sh3) ?_
      refine e_i0_0 o_215_81 (fun z => ?_) (fun z => ?_)
      · have k := k.1 z
        refine e_il o_215_91 rfl ?_
        refine e_il o_215_93 rfl ?_
        refine e_if_2 o_215_95 (fun z => ?_) (fun z => ?_)
        · have k := k.1 z
          exact Ev.less (ls := [.ref 69, .int x1, .int x2, .int x3, .null, .null]) ⟨Or.inr rfl, Or.inr rfl, Or.inr rfl, Or.inr rfl, Or.inl rfl, Or.inl rfl, trivial⟩ k
        · have k := k.2 z
          refine e_go o_215_98 ?_
          refine e_inc (ls' := [.ref 69, .int x1, .int x2, .int (x3 + 1), .int v2, .int v4]) o_215_167 rfl rfl rfl ?_
          refine e_go o_215_170 ?_
          exact Ev.less (ls := [.ref 69, .int x1, .int x2, .int (x3 + 1), .null, .null]) ⟨Or.inr rfl, Or.inr rfl, Or.inr rfl, Or.inr rfl, Or.inl rfl, Or.inl rfl, trivial⟩ k
      · have k := k.2 z
        refine e_al o_215_84 rfl ?_
        refine e_gR (r := 109) o_215_85 (sk_69 (h := h3) sh3) (sr_69_60 (h := h3) sh3) (by decide) ?_
        refine e_il o_215_88 rfl ?_
        obtain ⟨q, k⟩ := k
        refine e_ia (n := 20) o_215_89 (sk_109 (h := h3) sh3) (sn_109 (h := h3) sh3) q ?_
        exact e_retI o_215_90 k
set_option maxHeartbeats 4000000 in
set_option maxRecDepth 100000 in
theorem B_215_101 {x1 : Int32} {x2 : Int32} {x3 : Int32} {h : XH} {Q : Value → XH → Prop} (hs : Sh h) (k : InB x3 260 ∧ (InB x3 260 ∧ (ClI 171 [.ref 69, .int (xI h 101 (tn x3)), .int (xI h 102 (tn x3))] h (fun v2 h1 => Sh h1 ∧ ((((xI h1 69 58) = 0) → ((0 ≤ v2) → InB x2 16 ∧ (((v2 ≤ (xI h1 80 (tn x2))) → Q (.int v2) h1) ∧ (¬ (v2 ≤ (xI h1 80 (tn x2))) → InB x2 16 ∧ (Q (.int (xI h1 80 (tn x2))) h1)))) ∧ (¬ (0 ≤ v2) → Q (.int 0) h1)) ∧ (¬ ((xI h1 69 58) = 0) → InB x1 20 ∧ (Q (.int (xI h1 109 (tn x1))) h1))))))) : Ev 215 101 [.ref 69, .int x1, .int x2, .int x3, .null, .null] [] h Q := by
  refine e_al o_215_101 rfl ?_
  refine e_al o_215_102 rfl ?_
  refine e_gR (r := 101) o_215_103 (sk_69 (h := h) hs) (sr_69_49 (h := h) hs) (by decide) ?_
  refine e_il o_215_106 rfl ?_
  obtain ⟨q, k⟩ := k
  refine e_ia (n := 260) o_215_107 (sk_101 (h := h) hs) (sn_101 (h := h) hs) q ?_
  refine e_al o_215_108 rfl ?_
  refine e_gR (r := 102) o_215_109 (sk_69 (h := h) hs) (sr_69_50 (h := h) hs) (by decide) ?_
  refine e_il o_215_112 rfl ?_
  obtain ⟨q, k⟩ := k
  refine e_ia (n := 260) o_215_113 (sk_102 (h := h) hs) (sn_102 (h := h) hs) q ?_
  refine e_clI (as := [.ref 69, .int (xI h 101 (tn x3)), .int (xI h 102 (tn x3))]) (rest := []) o_215_114 rfl rfl (x_okd cl_215_171 ml_171 (Nat.le_of_ble_eq_true rfl) (Nat.le_of_ble_eq_true rfl)) (x_rc0 (ci := 9) (sk_69 (h := h) hs) mo_171) k ?_
  rintro v2 h1 ⟨sh1, k⟩
  refine e_is (ls' := [.ref 69, .int x1, .int x2, .int x3, .int v2, .null]) o_215_117 (Nat.le_of_ble_eq_true rfl) rfl ?_
  refine e_al o_215_119 rfl ?_
  refine e_gI o_215_120 (sk_69 (h := h1) sh1) ?_
  refine e_i0_0 o_215_123 (fun z => ?_) (fun z => ?_)
  · have k := k.1 z
    refine e_il o_215_135 rfl ?_
    refine e_i0_3 o_215_137 (fun z => ?_) (fun z => ?_)
    · have k := k.1 z
      refine e_il o_215_144 rfl ?_
      refine e_al o_215_146 rfl ?_
      refine e_gR (r := 80) o_215_147 (sk_69 (h := h1) sh1) (sr_69_24 (h := h1) sh1) (by decide) ?_
      refine e_il o_215_150 rfl ?_
      obtain ⟨q, k⟩ := k
      refine e_ia (n := 16) o_215_151 (sk_80 (h := h1) sh1) (sn_80 (h := h1) sh1) q ?_
      refine e_if_5 o_215_152 (fun z => ?_) (fun z => ?_)
      · have k := k.1 z
        refine e_il o_215_164 rfl ?_
        exact e_retI o_215_166 k
      · have k := k.2 z
        refine e_al o_215_155 rfl ?_
        refine e_gR (r := 80) o_215_156 (sk_69 (h := h1) sh1) (sr_69_24 (h := h1) sh1) (by decide) ?_
        refine e_il o_215_159 rfl ?_
        obtain ⟨q, k⟩ := k
        refine e_ia (n := 16) o_215_160 (sk_80 (h := h1) sh1) (sn_80 (h := h1) sh1) q ?_
        refine e_go o_215_161 ?_
        exact e_retI o_215_166 k
    · have k := k.2 z
      refine e_c 0 o_215_140 rfl ?_
      refine e_go o_215_141 ?_
      exact e_retI o_215_166 k
  · have k := k.2 z
    refine e_al o_215_126 rfl ?_
    refine e_gR (r := 109) o_215_127 (sk_69 (h := h1) sh1) (sr_69_60 (h := h1) sh1) (by decide) ?_
    refine e_il o_215_130 rfl ?_
    obtain ⟨q, k⟩ := k
    refine e_ia (n := 20) o_215_131 (sk_109 (h := h1) sh1) (sn_109 (h := h1) sh1) q ?_
    refine e_go o_215_132 ?_
    exact e_retI o_215_166 k
set_option maxHeartbeats 4000000 in
set_option maxRecDepth 100000 in
theorem B_216_0 {x1 : Int32} {h : XH} {Q : Value → XH → Prop} (hs : Sh h) (k : ClI 217 [.int (xI h 69 61), .int 41] h (fun v2 h1 => Sh h1 ∧ (InB 15 20 ∧ (ClI 217 [.int v2, .int ((8 * (xI h1 109 (tn 15))) + x1)] h1 (fun v4 h3 => Sh h3 ∧ (Q (.int (((v4 : Int32).toUInt32 >>> ((1 : Int32).toUInt32 &&& Int32.toUInt32 31)).toInt32 - ((v4 : Int32).toUInt32 >>> ((1 : Int32).toUInt32 &&& Int32.toUInt32 31)).toInt32 / 100 * 100)) h3)))))) : Ev 216 0 (x_ini 216 [.ref 69, .int x1]) [] h Q := by
  rw [show x_ini 216 [.ref 69, .int x1] = [.ref 69, .int x1] from x_inid ml_216 rfl]
  refine e_al o_216_0 rfl ?_
  refine e_gI o_216_1 (sk_69 (h := h) hs) ?_
  refine e_c 41 o_216_4 rfl ?_
  refine e_clI (as := [.int (xI h 69 61), .int 41]) (rest := []) o_216_6 rfl rfl (x_okd cl_216_217 ml_217 (Nat.le_of_ble_eq_true rfl) (Nat.le_of_ble_eq_true rfl)) (rfl) k ?_
  rintro v2 h1 ⟨sh1, k⟩
  refine e_c 8 o_216_9 rfl ?_
  refine e_al o_216_11 rfl ?_
  refine e_gR (r := 109) o_216_12 (sk_69 (h := h1) sh1) (sr_69_60 (h := h1) sh1) (by decide) ?_
  refine e_c 15 o_216_15 rfl ?_
  obtain ⟨q, k⟩ := k
  refine e_ia (n := 20) o_216_17 (sk_109 (h := h1) sh1) (sn_109 (h := h1) sh1) q ?_
  refine e_bin o_216_18 rfl ?_
  refine e_il o_216_19 rfl ?_
  refine e_bin o_216_20 rfl ?_
  refine e_clI (as := [.int v2, .int ((8 * (xI h1 109 (tn 15))) + x1)]) (rest := []) o_216_21 rfl rfl (x_okd cl_216_217 ml_217 (Nat.le_of_ble_eq_true rfl) (Nat.le_of_ble_eq_true rfl)) (rfl) k ?_
  rintro v4 h3 ⟨sh3, k⟩
  refine e_c 1 o_216_24 rfl ?_
  refine e_bin o_216_25 rfl ?_
  refine e_c 100 o_216_26 rfl ?_
  refine e_rem o_216_28 (by decide) ?_
  exact e_retI o_216_29 k
set_option maxHeartbeats 4000000 in
set_option maxRecDepth 100000 in
theorem B_217_0 {x0 : Int32} {x1 : Int32} {h : XH} {Q : Value → XH → Prop} (hs : Sh h) (k : Q (.int ((((x0 ^^^ x1) * 1103515245) + 12345) ^^^ (((((x0 ^^^ x1) * 1103515245) + 12345) : Int32).toUInt32 >>> ((15 : Int32).toUInt32 &&& Int32.toUInt32 31)).toInt32)) h) : Ev 217 0 (x_ini 217 [.int x0, .int x1]) [] h Q := by
  rw [show x_ini 217 [.int x0, .int x1] = [.int x0, .int x1, .null] from x_inid ml_217 rfl]
  refine e_il o_217_0 rfl ?_
  refine e_il o_217_1 rfl ?_
  refine e_bin o_217_2 rfl ?_
  refine e_c 1103515245 o_217_3 rfl ?_
  refine e_bin o_217_6 rfl ?_
  refine e_c 12345 o_217_7 rfl ?_
  refine e_bin o_217_10 rfl ?_
  refine e_is (ls' := [.int x0, .int x1, .int (((x0 ^^^ x1) * 1103515245) + 12345)]) o_217_11 (Nat.le_of_ble_eq_true rfl) rfl ?_
  refine e_il o_217_12 rfl ?_
  refine e_il o_217_13 rfl ?_
  refine e_c 15 o_217_14 rfl ?_
  refine e_bin o_217_16 rfl ?_
  refine e_bin o_217_17 rfl ?_
  exact e_retI o_217_18 k
set_option maxHeartbeats 4000000 in
set_option maxRecDepth 100000 in
theorem B_218_0  {h : XH} {Q : Value → XH → Prop} (hs : Sh h) (k : ((¬ (xI h 69 65) = 50) → Ev 218 51 [.ref 69, .int 0] [] h Q) ∧ (¬ (¬ (xI h 69 65) = 50) → Ev 218 11 [.ref 69, .int 0] [] h Q)) : Ev 218 0 (x_ini 218 [.ref 69]) [] h Q := by
  rw [show x_ini 218 [.ref 69] = [.ref 69, .null] from x_inid ml_218 rfl]
  refine e_al o_218_0 rfl ?_
  refine e_gI o_218_1 (sk_69 (h := h) hs) ?_
  refine e_c 50 o_218_4 rfl ?_
  refine e_if_1 o_218_6 (fun z => ?_) (fun z => ?_)
  · have k := k.1 z
    refine e_c 0 o_218_49 rfl ?_
    refine e_is (ls' := [.ref 69, .int 0]) o_218_50 (Nat.le_of_ble_eq_true rfl) rfl ?_
    exact Ev.less (ls := [.ref 69, .int 0]) ⟨Or.inr rfl, Or.inr rfl, trivial⟩ k
  · have k := k.2 z
    refine e_c 0 o_218_9 rfl ?_
    refine e_is (ls' := [.ref 69, .int 0]) o_218_10 (Nat.le_of_ble_eq_true rfl) rfl ?_
    exact Ev.less (ls := [.ref 69, .int 0]) ⟨Or.inr rfl, Or.inr rfl, trivial⟩ k
set_option maxHeartbeats 4000000 in
set_option maxRecDepth 100000 in
theorem B_218_11 {x1 : Int32} {h : XH} {Q : Value → XH → Prop} (hs : Sh h) (k : ((980 ≤ x1) → Ev 218 51 [.ref 69, .int 0] [] (xsI h 69 65 ((xI h 69 65) - 1)) Q) ∧ (¬ (980 ≤ x1) → InB (x1 + 20) 1000 ∧ (InB x1 1000 ∧ (Ev 218 11 [.ref 69, .int (x1 + 1)] [] (xsI h 113 (tn x1) (xI h 113 (tn (x1 + 20)))) Q)))) : Ev 218 11 [.ref 69, .int x1] [] h Q := by
  refine e_il o_218_11 rfl ?_
  refine e_c 980 o_218_12 rfl ?_
  refine e_if_3 o_218_15 (fun z => ?_) (fun z => ?_)
  · have k := k.1 z
    refine e_al o_218_39 rfl ?_
    refine e_dup o_218_40 rfl ?_
    refine e_gI o_218_41 (sk_69 (h := h) hs) ?_
    refine e_c 1 o_218_44 rfl ?_
    refine e_bin o_218_45 rfl ?_
    refine e_pI o_218_46 (sk_69 (h := h) hs) ?_
    refine e_c 0 o_218_49 rfl ?_
    refine e_is (ls' := [.ref 69, .int 0]) o_218_50 (Nat.le_of_ble_eq_true rfl) rfl ?_
    exact Ev.less (ls := [.ref 69, .int 0]) ⟨Or.inr rfl, Or.inr rfl, trivial⟩ k
  · have k := k.2 z
    refine e_al o_218_18 rfl ?_
    refine e_gR (r := 113) o_218_19 (sk_69 (h := h) hs) (sr_69_66 (h := h) hs) (by decide) ?_
    refine e_il o_218_22 rfl ?_
    refine e_al o_218_23 rfl ?_
    refine e_gR (r := 113) o_218_24 (sk_69 (h := h) hs) (sr_69_66 (h := h) hs) (by decide) ?_
    refine e_il o_218_27 rfl ?_
    refine e_c 20 o_218_28 rfl ?_
    refine e_bin o_218_30 rfl ?_
    obtain ⟨q, k⟩ := k
    refine e_ia (n := 1000) o_218_31 (sk_113 (h := h) hs) (sn_113 (h := h) hs) q ?_
    obtain ⟨q, k⟩ := k
    refine e_ias (n := 1000) o_218_32 (sk_113 (h := h) hs) (by decide) (sn_113 (h := h) hs) q ?_
    refine e_inc (ls' := [.ref 69, .int (x1 + 1)]) o_218_33 rfl rfl rfl ?_
    refine e_go o_218_36 ?_
    exact Ev.less (ls := [.ref 69, .int (x1 + 1)]) ⟨Or.inr rfl, Or.inr rfl, trivial⟩ k
set_option maxHeartbeats 4000000 in
set_option maxRecDepth 100000 in
theorem B_218_51 {x1 : Int32} {h : XH} {Q : Value → XH → Prop} (hs : Sh h) (k : ((20 ≤ x1) → ClV 174 [.ref 69] (xsI h 69 65 ((xI h 69 65) + 1)) (fun h1 => Sh h1 ∧ (Q .null h1))) ∧ (¬ (20 ≤ x1) → InB x1 20 ∧ (InB ((20 * (xI h 69 65)) + x1) 1000 ∧ (Ev 218 51 [.ref 69, .int (x1 + 1)] [] (xsI h 113 (tn ((20 * (xI h 69 65)) + x1)) (xI h 108 (tn x1))) Q)))) : Ev 218 51 [.ref 69, .int x1] [] h Q := by
  refine e_il o_218_51 rfl ?_
  refine e_c 20 o_218_52 rfl ?_
  refine e_if_3 o_218_54 (fun z => ?_) (fun z => ?_)
  · have k := k.1 z
    refine e_al o_218_83 rfl ?_
    refine e_dup o_218_84 rfl ?_
    refine e_gI o_218_85 (sk_69 (h := h) hs) ?_
    refine e_c 1 o_218_88 rfl ?_
    refine e_bin o_218_89 rfl ?_
    refine e_pI o_218_90 (sk_69 (h := h) hs) ?_
    refine e_al o_218_93 rfl ?_
    refine e_clV (as := [.ref 69]) (rest := []) o_218_94 rfl rfl (x_okd cl_218_174 ml_174 (Nat.le_of_ble_eq_true rfl) (Nat.le_of_ble_eq_true rfl)) (x_rc0 (ci := 9) (sk_69 (h := h) hs) mo_174) k ?_
    rintro h1 ⟨sh1, k⟩
    exact e_ret0 o_218_97 k
  · have k := k.2 z
    refine e_al o_218_57 rfl ?_
    refine e_gR (r := 113) o_218_58 (sk_69 (h := h) hs) (sr_69_66 (h := h) hs) (by decide) ?_
    refine e_c 20 o_218_61 rfl ?_
    refine e_al o_218_63 rfl ?_
    refine e_gI o_218_64 (sk_69 (h := h) hs) ?_
    refine e_bin o_218_67 rfl ?_
    refine e_il o_218_68 rfl ?_
    refine e_bin o_218_69 rfl ?_
    refine e_al o_218_70 rfl ?_
    refine e_gR (r := 108) o_218_71 (sk_69 (h := h) hs) (sr_69_59 (h := h) hs) (by decide) ?_
    refine e_il o_218_74 rfl ?_
    obtain ⟨q, k⟩ := k
    refine e_ia (n := 20) o_218_75 (sk_108 (h := h) hs) (sn_108 (h := h) hs) q ?_
    obtain ⟨q, k⟩ := k
    refine e_ias (n := 1000) o_218_76 (sk_113 (h := h) hs) (by decide) (sn_113 (h := h) hs) q ?_
    refine e_inc (ls' := [.ref 69, .int (x1 + 1)]) o_218_77 rfl rfl rfl ?_
    refine e_go o_218_80 ?_
    exact Ev.less (ls := [.ref 69, .int (x1 + 1)]) ⟨Or.inr rfl, Or.inr rfl, trivial⟩ k
set_option maxHeartbeats 4000000 in
set_option maxRecDepth 100000 in
theorem B_219_0 {x1 : Int32} {x2 : Int32} {h : XH} {Q : Value → XH → Prop} (hs : Sh h) (k : ClI 206 [.ref 69, .int x1] h (fun v2 h1 => Sh h1 ∧ (((v2 = 0) → Q (.int 0) h1) ∧ (¬ (v2 = 0) → InB ((8 * (xI h1 69 18)) + x1) 16 ∧ (ClI 207 [.int x2, .int 0, .int (xI h1 80 (tn ((8 * (xI h1 69 18)) + x1)))] h1 (fun v4 h3 => Sh h3 ∧ (((v4 = 0) → Q (.int 0) h3) ∧ (¬ (v4 = 0) → InB x1 20 ∧ (((¬ (xI h3 108 (tn x1)) = x2) → ClV 210 [.ref 69] h3 (fun h5 => Sh h5 ∧ (InB x1 20 ∧ (ClV 164 [.ref 69] (xsI h5 109 (tn x1) x2) (fun h7 => Sh h7 ∧ (ClV 218 [.ref 69] h7 (fun h9 => Sh h9 ∧ (Q (.int 1) h9)))))))) ∧ (¬ (¬ (xI h3 108 (tn x1)) = x2) → Q (.int 0) h3)))))))))) : Ev 219 0 (x_ini 219 [.ref 69, .int x1, .int x2]) [] h Q := by
  rw [show x_ini 219 [.ref 69, .int x1, .int x2] = [.ref 69, .int x1, .int x2] from x_inid ml_219 rfl]
  refine e_al o_219_0 rfl ?_
  refine e_il o_219_1 rfl ?_
  refine e_clI (as := [.ref 69, .int x1]) (rest := []) o_219_2 rfl rfl (x_okd cl_219_206 ml_206 (Nat.le_of_ble_eq_true rfl) (Nat.le_of_ble_eq_true rfl)) (x_rc0 (ci := 9) (sk_69 (h := h) hs) mo_206) k ?_
  rintro v2 h1 ⟨sh1, k⟩
  refine e_i0_0 o_219_5 (fun z => ?_) (fun z => ?_)
  · have k := k.1 z
    refine e_c 0 o_219_40 rfl ?_
    exact e_retZ o_219_41 (by decide) k
  · have k := k.2 z
    refine e_il o_219_8 rfl ?_
    refine e_c 0 o_219_9 rfl ?_
    refine e_al o_219_10 rfl ?_
    refine e_gR (r := 80) o_219_11 (sk_69 (h := h1) sh1) (sr_69_24 (h := h1) sh1) (by decide) ?_
    refine e_c 8 o_219_14 rfl ?_
    refine e_al o_219_16 rfl ?_
    refine e_gI o_219_17 (sk_69 (h := h1) sh1) ?_
    refine e_bin o_219_20 rfl ?_
    refine e_il o_219_21 rfl ?_
    refine e_bin o_219_22 rfl ?_
    obtain ⟨q, k⟩ := k
    refine e_ia (n := 16) o_219_23 (sk_80 (h := h1) sh1) (sn_80 (h := h1) sh1) q ?_
    refine e_clI (as := [.int x2, .int 0, .int (xI h1 80 (tn ((8 * (xI h1 69 18)) + x1)))]) (rest := []) o_219_24 rfl rfl (x_okd cl_219_207 ml_207 (Nat.le_of_ble_eq_true rfl) (Nat.le_of_ble_eq_true rfl)) (rfl) k ?_
    rintro v4 h3 ⟨sh3, k⟩
    refine e_i0_0 o_219_27 (fun z => ?_) (fun z => ?_)
    · have k := k.1 z
      refine e_c 0 o_219_40 rfl ?_
      exact e_retZ o_219_41 (by decide) k
    · have k := k.2 z
      refine e_al o_219_30 rfl ?_
      refine e_gR (r := 108) o_219_31 (sk_69 (h := h3) sh3) (sr_69_59 (h := h3) sh3) (by decide) ?_
      refine e_il o_219_34 rfl ?_
      obtain ⟨q, k⟩ := k
      refine e_ia (n := 20) o_219_35 (sk_108 (h := h3) sh3) (sn_108 (h := h3) sh3) q ?_
      refine e_il o_219_36 rfl ?_
      refine e_if_1 o_219_37 (fun z => ?_) (fun z => ?_)
      · have k := k.1 z
        refine e_al o_219_42 rfl ?_
        refine e_clV (as := [.ref 69]) (rest := []) o_219_43 rfl rfl (x_okd cl_219_210 ml_210 (Nat.le_of_ble_eq_true rfl) (Nat.le_of_ble_eq_true rfl)) (x_rc0 (ci := 9) (sk_69 (h := h3) sh3) mo_210) k ?_
        rintro h5 ⟨sh5, k⟩
        refine e_al o_219_46 rfl ?_
        refine e_gR (r := 109) o_219_47 (sk_69 (h := h5) sh5) (sr_69_60 (h := h5) sh5) (by decide) ?_
        refine e_il o_219_50 rfl ?_
        refine e_il o_219_51 rfl ?_
        obtain ⟨q, k⟩ := k
        refine e_ias (n := 20) o_219_52 (sk_109 (h := h5) sh5) (by decide) (sn_109 (h := h5) sh5) q ?_
        refine e_al o_219_53 rfl ?_
        refine e_clV (as := [.ref 69]) (rest := []) o_219_54 rfl rfl (x_okd cl_219_164 ml_164 (Nat.le_of_ble_eq_true rfl) (Nat.le_of_ble_eq_true rfl)) (x_rc0 (ci := 9) (sk_69 (h := h5) sh5) mo_164) k ?_
        rintro h7 ⟨sh7, k⟩
        refine e_al o_219_57 rfl ?_
        refine e_clV (as := [.ref 69]) (rest := []) o_219_58 rfl rfl (x_okd cl_219_218 ml_218 (Nat.le_of_ble_eq_true rfl) (Nat.le_of_ble_eq_true rfl)) (x_rc0 (ci := 9) (sk_69 (h := h7) sh7) mo_218) k ?_
        rintro h9 ⟨sh9, k⟩
        refine e_c 1 o_219_61 rfl ?_
        exact e_retZ o_219_62 (by decide) k
      · have k := k.2 z
        refine e_c 0 o_219_40 rfl ?_
        exact e_retZ o_219_41 (by decide) k
set_option maxHeartbeats 4000000 in
set_option maxRecDepth 100000 in
theorem B_220_0 {x1 : Int32} {x2 : Int32} {h : XH} {Q : Value → XH → Prop} (hs : Sh h) (k : ClI 209 [.ref 69, .int x1] h (fun v2 h1 => Sh h1 ∧ (((v2 = 0) → Q (.int 0) h1) ∧ (¬ (v2 = 0) → InB 14 20 ∧ (((¬ (((xI h1 108 (tn 14)) >>> (x1 &&& 31)) &&& 1) = (1 : Int32)) → ((¬ (0 : Int32) = x2) → ClV 210 [.ref 69] h1 (fun h3 => Sh h3 ∧ (InB 14 20 ∧ (InB 14 20 ∧ (ClV 164 [.ref 69] (xsI h3 109 (tn 14) ((xI h3 109 (tn 14)) ^^^ (1 <<< (x1 &&& 31)))) (fun h5 => Sh h5 ∧ (ClV 218 [.ref 69] h5 (fun h7 => Sh h7 ∧ (Q (.int 1) h7))))))))) ∧ (¬ (¬ (0 : Int32) = x2) → Q (.int 0) h1)) ∧ (¬ (¬ (((xI h1 108 (tn 14)) >>> (x1 &&& 31)) &&& 1) = (1 : Int32)) → ((¬ (1 : Int32) = x2) → ClV 210 [.ref 69] h1 (fun h9 => Sh h9 ∧ (InB 14 20 ∧ (InB 14 20 ∧ (ClV 164 [.ref 69] (xsI h9 109 (tn 14) ((xI h9 109 (tn 14)) ^^^ (1 <<< (x1 &&& 31)))) (fun h11 => Sh h11 ∧ (ClV 218 [.ref 69] h11 (fun h13 => Sh h13 ∧ (Q (.int 1) h13))))))))) ∧ (¬ (¬ (1 : Int32) = x2) → Q (.int 0) h1))))))) : Ev 220 0 (x_ini 220 [.ref 69, .int x1, .int x2]) [] h Q := by
  rw [show x_ini 220 [.ref 69, .int x1, .int x2] = [.ref 69, .int x1, .int x2] from x_inid ml_220 rfl]
  refine e_al o_220_0 rfl ?_
  refine e_il o_220_1 rfl ?_
  refine e_clI (as := [.ref 69, .int x1]) (rest := []) o_220_2 rfl rfl (x_okd cl_220_209 ml_209 (Nat.le_of_ble_eq_true rfl) (Nat.le_of_ble_eq_true rfl)) (x_rc0 (ci := 9) (sk_69 (h := h) hs) mo_209) k ?_
  rintro v2 h1 ⟨sh1, k⟩
  refine e_i0_0 o_220_5 (fun z => ?_) (fun z => ?_)
  · have k := k.1 z
    refine e_c 0 o_220_32 rfl ?_
    exact e_retZ o_220_33 (by decide) k
  · have k := k.2 z
    refine e_al o_220_8 rfl ?_
    refine e_gR (r := 108) o_220_9 (sk_69 (h := h1) sh1) (sr_69_59 (h := h1) sh1) (by decide) ?_
    refine e_c 14 o_220_12 rfl ?_
    obtain ⟨q, k⟩ := k
    refine e_ia (n := 20) o_220_14 (sk_108 (h := h1) sh1) (sn_108 (h := h1) sh1) q ?_
    refine e_il o_220_15 rfl ?_
    refine e_bin o_220_16 rfl ?_
    refine e_c 1 o_220_17 rfl ?_
    refine e_bin o_220_18 rfl ?_
    refine e_c 1 o_220_19 rfl ?_
    refine e_if_1 o_220_20 (fun z => ?_) (fun z => ?_)
    · have k := k.1 z
      refine e_c 0 o_220_27 rfl ?_
      refine e_il o_220_28 rfl ?_
      refine e_if_1 o_220_29 (fun z => ?_) (fun z => ?_)
      · have k := k.1 z
        refine e_al o_220_34 rfl ?_
        refine e_clV (as := [.ref 69]) (rest := []) o_220_35 rfl rfl (x_okd cl_220_210 ml_210 (Nat.le_of_ble_eq_true rfl) (Nat.le_of_ble_eq_true rfl)) (x_rc0 (ci := 9) (sk_69 (h := h1) sh1) mo_210) k ?_
        rintro h3 ⟨sh3, k⟩
        refine e_al o_220_38 rfl ?_
        refine e_gR (r := 109) o_220_39 (sk_69 (h := h3) sh3) (sr_69_60 (h := h3) sh3) (by decide) ?_
        refine e_c 14 o_220_42 rfl ?_
        refine e_dup2 o_220_44 ⟨rfl, rfl⟩ ?_
        obtain ⟨q, k⟩ := k
        refine e_ia (n := 20) o_220_45 (sk_109 (h := h3) sh3) (sn_109 (h := h3) sh3) q ?_
        refine e_c 1 o_220_46 rfl ?_
        refine e_il o_220_47 rfl ?_
        refine e_bin o_220_48 rfl ?_
        refine e_bin o_220_49 rfl ?_
        obtain ⟨q, k⟩ := k
        refine e_ias (n := 20) o_220_50 (sk_109 (h := h3) sh3) (by decide) (sn_109 (h := h3) sh3) q ?_
        refine e_al o_220_51 rfl ?_
        refine e_clV (as := [.ref 69]) (rest := []) o_220_52 rfl rfl (x_okd cl_220_164 ml_164 (Nat.le_of_ble_eq_true rfl) (Nat.le_of_ble_eq_true rfl)) (x_rc0 (ci := 9) (sk_69 (h := h3) sh3) mo_164) k ?_
        rintro h5 ⟨sh5, k⟩
        refine e_al o_220_55 rfl ?_
        refine e_clV (as := [.ref 69]) (rest := []) o_220_56 rfl rfl (x_okd cl_220_218 ml_218 (Nat.le_of_ble_eq_true rfl) (Nat.le_of_ble_eq_true rfl)) (x_rc0 (ci := 9) (sk_69 (h := h5) sh5) mo_218) k ?_
        rintro h7 ⟨sh7, k⟩
        refine e_c 1 o_220_59 rfl ?_
        exact e_retZ o_220_60 (by decide) k
      · have k := k.2 z
        refine e_c 0 o_220_32 rfl ?_
        exact e_retZ o_220_33 (by decide) k
    · have k := k.2 z
      refine e_c 1 o_220_23 rfl ?_
      refine e_go o_220_24 ?_
      refine e_il o_220_28 rfl ?_
      refine e_if_1 o_220_29 (fun z => ?_) (fun z => ?_)
      · have k := k.1 z
        refine e_al o_220_34 rfl ?_
        refine e_clV (as := [.ref 69]) (rest := []) o_220_35 rfl rfl (x_okd cl_220_210 ml_210 (Nat.le_of_ble_eq_true rfl) (Nat.le_of_ble_eq_true rfl)) (x_rc0 (ci := 9) (sk_69 (h := h1) sh1) mo_210) k ?_
        rintro h9 ⟨sh9, k⟩
        refine e_al o_220_38 rfl ?_
        refine e_gR (r := 109) o_220_39 (sk_69 (h := h9) sh9) (sr_69_60 (h := h9) sh9) (by decide) ?_
        refine e_c 14 o_220_42 rfl ?_
        refine e_dup2 o_220_44 ⟨rfl, rfl⟩ ?_
        obtain ⟨q, k⟩ := k
        refine e_ia (n := 20) o_220_45 (sk_109 (h := h9) sh9) (sn_109 (h := h9) sh9) q ?_
        refine e_c 1 o_220_46 rfl ?_
        refine e_il o_220_47 rfl ?_
        refine e_bin o_220_48 rfl ?_
        refine e_bin o_220_49 rfl ?_
        obtain ⟨q, k⟩ := k
        refine e_ias (n := 20) o_220_50 (sk_109 (h := h9) sh9) (by decide) (sn_109 (h := h9) sh9) q ?_
        refine e_al o_220_51 rfl ?_
        refine e_clV (as := [.ref 69]) (rest := []) o_220_52 rfl rfl (x_okd cl_220_164 ml_164 (Nat.le_of_ble_eq_true rfl) (Nat.le_of_ble_eq_true rfl)) (x_rc0 (ci := 9) (sk_69 (h := h9) sh9) mo_164) k ?_
        rintro h11 ⟨sh11, k⟩
        refine e_al o_220_55 rfl ?_
        refine e_clV (as := [.ref 69]) (rest := []) o_220_56 rfl rfl (x_okd cl_220_218 ml_218 (Nat.le_of_ble_eq_true rfl) (Nat.le_of_ble_eq_true rfl)) (x_rc0 (ci := 9) (sk_69 (h := h11) sh11) mo_218) k ?_
        rintro h13 ⟨sh13, k⟩
        refine e_c 1 o_220_59 rfl ?_
        exact e_retZ o_220_60 (by decide) k
      · have k := k.2 z
        refine e_c 0 o_220_32 rfl ?_
        exact e_retZ o_220_33 (by decide) k
set_option maxHeartbeats 4000000 in
set_option maxRecDepth 100000 in
theorem B_221_0  {h : XH} {Q : Value → XH → Prop} (hs : Sh h) (k : ((¬ (xI h 69 65) = 0) → Ev 221 21 [.ref 69, .int 0] [] (xsI h 69 65 ((xI h 69 65) - 1)) Q) ∧ (¬ (¬ (xI h 69 65) = 0) → Q (.int 0) h)) : Ev 221 0 (x_ini 221 [.ref 69]) [] h Q := by
  rw [show x_ini 221 [.ref 69] = [.ref 69, .null] from x_inid ml_221 rfl]
  refine e_al o_221_0 rfl ?_
  refine e_gI o_221_1 (sk_69 (h := h) hs) ?_
  refine e_i0_1 o_221_4 (fun z => ?_) (fun z => ?_)
  · have k := k.1 z
    refine e_al o_221_9 rfl ?_
    refine e_dup o_221_10 rfl ?_
    refine e_gI o_221_11 (sk_69 (h := h) hs) ?_
    refine e_c 1 o_221_14 rfl ?_
    refine e_bin o_221_15 rfl ?_
    refine e_pI o_221_16 (sk_69 (h := h) hs) ?_
    refine e_c 0 o_221_19 rfl ?_
    refine e_is (ls' := [.ref 69, .int 0]) o_221_20 (Nat.le_of_ble_eq_true rfl) rfl ?_
    exact Ev.less (ls := [.ref 69, .int 0]) ⟨Or.inr rfl, Or.inr rfl, trivial⟩ k
  · have k := k.2 z
    refine e_c 0 o_221_7 rfl ?_
    exact e_retZ o_221_8 (by decide) k
set_option maxHeartbeats 4000000 in
set_option maxRecDepth 100000 in
theorem B_221_21 {x1 : Int32} {h : XH} {Q : Value → XH → Prop} (hs : Sh h) (k : ((20 ≤ x1) → Q (.int 1) h) ∧ (¬ (20 ≤ x1) → InB ((20 * (xI h 69 65)) + x1) 1000 ∧ (InB x1 20 ∧ (Ev 221 21 [.ref 69, .int (x1 + 1)] [] (xsI h 108 (tn x1) (xI h 113 (tn ((20 * (xI h 69 65)) + x1)))) Q)))) : Ev 221 21 [.ref 69, .int x1] [] h Q := by
  refine e_il o_221_21 rfl ?_
  refine e_c 20 o_221_22 rfl ?_
  refine e_if_3 o_221_24 (fun z => ?_) (fun z => ?_)
  · have k := k.1 z
    refine e_c 1 o_221_53 rfl ?_
    exact e_retZ o_221_54 (by decide) k
  · have k := k.2 z
    refine e_al o_221_27 rfl ?_
    refine e_gR (r := 108) o_221_28 (sk_69 (h := h) hs) (sr_69_59 (h := h) hs) (by decide) ?_
    refine e_il o_221_31 rfl ?_
    refine e_al o_221_32 rfl ?_
    refine e_gR (r := 113) o_221_33 (sk_69 (h := h) hs) (sr_69_66 (h := h) hs) (by decide) ?_
    refine e_c 20 o_221_36 rfl ?_
    refine e_al o_221_38 rfl ?_
    refine e_gI o_221_39 (sk_69 (h := h) hs) ?_
    refine e_bin o_221_42 rfl ?_
    refine e_il o_221_43 rfl ?_
    refine e_bin o_221_44 rfl ?_
    obtain ⟨q, k⟩ := k
    refine e_ia (n := 1000) o_221_45 (sk_113 (h := h) hs) (sn_113 (h := h) hs) q ?_
    obtain ⟨q, k⟩ := k
    refine e_ias (n := 20) o_221_46 (sk_108 (h := h) hs) (by decide) (sn_108 (h := h) hs) q ?_
    refine e_inc (ls' := [.ref 69, .int (x1 + 1)]) o_221_47 rfl rfl rfl ?_
    refine e_go o_221_50 ?_
    exact Ev.less (ls := [.ref 69, .int (x1 + 1)]) ⟨Or.inr rfl, Or.inr rfl, trivial⟩ k
set_option maxHeartbeats 4000000 in
set_option maxRecDepth 100000 in
theorem B_222_0 {x1 : Int32} {h : XH} {Q : Value → XH → Prop} (hs : Sh h) (k : ClI 207 [.int x1, .int 0, .int 1] h (fun v2 h1 => Sh h1 ∧ (((¬ v2 = 0) → ClV 210 [.ref 69] h1 (fun h3 => Sh h3 ∧ (((¬ x1 = 0) → InB (xI h3 69 18) 2 ∧ (Q (.int (xI h3 83 (tn (xI h3 69 18)))) h3)) ∧ (¬ (¬ x1 = 0) → ClI 223 [.ref 69] h3 (fun v6 h5 => Sh h5 ∧ (Q (.int v6) h5)))))) ∧ (¬ (¬ v2 = 0) → Q (.int (-1)) h1)))) : Ev 222 0 (x_ini 222 [.ref 69, .int x1]) [] h Q := by
  rw [show x_ini 222 [.ref 69, .int x1] = [.ref 69, .int x1] from x_inid ml_222 rfl]
  refine e_il o_222_0 rfl ?_
  refine e_c 0 o_222_1 rfl ?_
  refine e_c 1 o_222_2 rfl ?_
  refine e_clI (as := [.int x1, .int 0, .int 1]) (rest := []) o_222_3 rfl rfl (x_okd cl_222_207 ml_207 (Nat.le_of_ble_eq_true rfl) (Nat.le_of_ble_eq_true rfl)) (rfl) k ?_
  rintro v2 h1 ⟨sh1, k⟩
  refine e_i0_1 o_222_6 (fun z => ?_) (fun z => ?_)
  · have k := k.1 z
    refine e_al o_222_11 rfl ?_
    refine e_clV (as := [.ref 69]) (rest := []) o_222_12 rfl rfl (x_okd cl_222_210 ml_210 (Nat.le_of_ble_eq_true rfl) (Nat.le_of_ble_eq_true rfl)) (x_rc0 (ci := 9) (sk_69 (h := h1) sh1) mo_210) k ?_
    rintro h3 ⟨sh3, k⟩
    refine e_il o_222_15 rfl ?_
    refine e_i0_1 o_222_16 (fun z => ?_) (fun z => ?_)
    · have k := k.1 z
      refine e_al o_222_26 rfl ?_
      refine e_gR (r := 83) o_222_27 (sk_69 (h := h3) sh3) (sr_69_27 (h := h3) sh3) (by decide) ?_
      refine e_al o_222_30 rfl ?_
      refine e_gI o_222_31 (sk_69 (h := h3) sh3) ?_
      obtain ⟨q, k⟩ := k
      refine e_ia (n := 2) o_222_34 (sk_83 (h := h3) sh3) (sn_83 (h := h3) sh3) q ?_
      exact e_retI o_222_35 k
    · have k := k.2 z
      refine e_al o_222_19 rfl ?_
      refine e_clI (as := [.ref 69]) (rest := []) o_222_20 rfl rfl (x_okd cl_222_223 ml_223 (Nat.le_of_ble_eq_true rfl) (Nat.le_of_ble_eq_true rfl)) (x_rc0 (ci := 9) (sk_69 (h := h3) sh3) mo_223) k ?_
      rintro v6 h5 ⟨sh5, k⟩
      refine e_go o_222_23 ?_
      exact e_retI o_222_35 k
  · have k := k.2 z
    refine e_c (-1) o_222_9 rfl ?_
    exact e_retI o_222_10 k
set_option maxHeartbeats 4000000 in
set_option maxRecDepth 100000 in
theorem B_223_0  {h : XH} {Q : Value → XH → Prop} (hs : Sh h) (k : InB (xI h 69 18) 2 ∧ (Ev 223 14 [.ref 69, .int 0, .int ((xI h 79 (tn (xI h 69 18))) - 1)] [] h Q)) : Ev 223 0 (x_ini 223 [.ref 69]) [] h Q := by
  rw [show x_ini 223 [.ref 69] = [.ref 69, .null, .null] from x_inid ml_223 rfl]
  refine e_c 0 o_223_0 rfl ?_
  refine e_is (ls' := [.ref 69, .int 0, .null]) o_223_1 (Nat.le_of_ble_eq_true rfl) rfl ?_
  refine e_al o_223_2 rfl ?_
  refine e_gR (r := 79) o_223_3 (sk_69 (h := h) hs) (sr_69_23 (h := h) hs) (by decide) ?_
  refine e_al o_223_6 rfl ?_
  refine e_gI o_223_7 (sk_69 (h := h) hs) ?_
  obtain ⟨q, k⟩ := k
  refine e_ia (n := 2) o_223_10 (sk_79 (h := h) hs) (sn_79 (h := h) hs) q ?_
  refine e_c 1 o_223_11 rfl ?_
  refine e_bin o_223_12 rfl ?_
  refine e_is (ls' := [.ref 69, .int 0, .int ((xI h 79 (tn (xI h 69 18))) - 1)]) o_223_13 (Nat.le_of_ble_eq_true rfl) rfl ?_
  exact Ev.less (ls := [.ref 69, .int 0, .int ((xI h 79 (tn (xI h 69 18))) - 1)]) ⟨Or.inr rfl, Or.inr rfl, Or.inr rfl, trivial⟩ k
set_option maxHeartbeats 4000000 in
set_option maxRecDepth 100000 in
theorem B_223_14 {x1 : Int32} {x2 : Int32} {h : XH} {Q : Value → XH → Prop} (hs : Sh h) (k : ((x2 < 0) → Q (.int x1) h) ∧ (¬ (x2 < 0) → InB ((8 * (xI h 69 18)) + x2) 16 ∧ (InB x2 20 ∧ (Ev 223 14 [.ref 69, .int ((x1 * ((xI h 80 (tn ((8 * (xI h 69 18)) + x2))) + 1)) + (xI h 109 (tn x2))), .int (x2 + (-1))] [] h Q)))) : Ev 223 14 [.ref 69, .int x1, .int x2] [] h Q := by
  refine e_il o_223_14 rfl ?_
  refine e_i0_2 o_223_15 (fun z => ?_) (fun z => ?_)
  · have k := k.1 z
    refine e_il o_223_50 rfl ?_
    exact e_retI o_223_51 k
  · have k := k.2 z
    refine e_il o_223_18 rfl ?_
    refine e_al o_223_19 rfl ?_
    refine e_gR (r := 80) o_223_20 (sk_69 (h := h) hs) (sr_69_24 (h := h) hs) (by decide) ?_
    refine e_c 8 o_223_23 rfl ?_
    refine e_al o_223_25 rfl ?_
    refine e_gI o_223_26 (sk_69 (h := h) hs) ?_
    refine e_bin o_223_29 rfl ?_
    refine e_il o_223_30 rfl ?_
    refine e_bin o_223_31 rfl ?_
    obtain ⟨q, k⟩ := k
    refine e_ia (n := 16) o_223_32 (sk_80 (h := h) hs) (sn_80 (h := h) hs) q ?_
    refine e_c 1 o_223_33 rfl ?_
    refine e_bin o_223_34 rfl ?_
    refine e_bin o_223_35 rfl ?_
    refine e_al o_223_36 rfl ?_
    refine e_gR (r := 109) o_223_37 (sk_69 (h := h) hs) (sr_69_60 (h := h) hs) (by decide) ?_
    refine e_il o_223_40 rfl ?_
    obtain ⟨q, k⟩ := k
    refine e_ia (n := 20) o_223_41 (sk_109 (h := h) hs) (sn_109 (h := h) hs) q ?_
    refine e_bin o_223_42 rfl ?_
    refine e_is (ls' := [.ref 69, .int ((x1 * ((xI h 80 (tn ((8 * (xI h 69 18)) + x2))) + 1)) + (xI h 109 (tn x2))), .int x2]) o_223_43 (Nat.le_of_ble_eq_true rfl) rfl ?_
    refine e_inc (ls' := [.ref 69, .int ((x1 * ((xI h 80 (tn ((8 * (xI h 69 18)) + x2))) + 1)) + (xI h 109 (tn x2))), .int (x2 + (-1))]) o_223_44 rfl rfl rfl ?_
    refine e_go o_223_47 ?_
    exact Ev.less (ls := [.ref 69, .int ((x1 * ((xI h 80 (tn ((8 * (xI h 69 18)) + x2))) + 1)) + (xI h 109 (tn x2))), .int (x2 + (-1))]) ⟨Or.inr rfl, Or.inr rfl, Or.inr rfl, trivial⟩ k
set_option maxHeartbeats 4000000 in
set_option maxRecDepth 100000 in
theorem B_224_0 {x1 : Int32} {h : XH} {Q : Value → XH → Prop} (hs : Sh h) (k : (((-1) ≤ x1) → ClV 210 [.ref 69] h (fun h1 => Sh h1 ∧ (Ev 224 15 [.ref 69, .int x1, .int 1, .int 0, .null, .null] [] h1 Q))) ∧ (¬ ((-1) ≤ x1) → Q (.int (-1)) h)) : Ev 224 0 (x_ini 224 [.ref 69, .int x1]) [] h Q := by
  rw [show x_ini 224 [.ref 69, .int x1] = [.ref 69, .int x1, .null, .null, .null, .null] from x_inid ml_224 rfl]
  refine e_il o_224_0 rfl ?_
  refine e_c (-1) o_224_1 rfl ?_
  refine e_if_3 o_224_2 (fun z => ?_) (fun z => ?_)
  · have k := k.1 z
    refine e_al o_224_7 rfl ?_
    refine e_clV (as := [.ref 69]) (rest := []) o_224_8 rfl rfl (x_okd cl_224_210 ml_210 (Nat.le_of_ble_eq_true rfl) (Nat.le_of_ble_eq_true rfl)) (x_rc0 (ci := 9) (sk_69 (h := h) hs) mo_210) k ?_
    rintro h1 ⟨sh1, k⟩
    refine e_c 1 o_224_11 rfl ?_
    refine e_is (ls' := [.ref 69, .int x1, .int 1, .null, .null, .null]) o_224_12 (Nat.le_of_ble_eq_true rfl) rfl ?_
    refine e_c 0 o_224_13 rfl ?_
    refine e_is (ls' := [.ref 69, .int x1, .int 1, .int 0, .null, .null]) o_224_14 (Nat.le_of_ble_eq_true rfl) rfl ?_
    exact Ev.less (ls := [.ref 69, .int x1, .int 1, .int 0, .null, .null]) ⟨Or.inr rfl, Or.inr rfl, Or.inr rfl, Or.inr rfl, Or.inl rfl, Or.inl rfl, trivial⟩ k
  · have k := k.2 z
    refine e_c (-1) o_224_5 rfl ?_
    exact e_retI o_224_6 k
set_option maxHeartbeats 4000000 in
set_option maxRecDepth 100000 in
theorem B_224_15 {x1 : Int32} {x2 : Int32} {x3 : Int32} {h : XH} {Q : Value → XH → Prop} (hs : Sh h) (k : InB (xI h 69 18) 2 ∧ ((((xI h 84 (tn (xI h 69 18))) ≤ x3) → Ev 224 43 [.ref 69, .int x1, .int x2, .int 0, .int 0, .null] [] h Q) ∧ (¬ ((xI h 84 (tn (xI h 69 18))) ≤ x3) → Ev 224 15 [.ref 69, .int x1, .int (x2 * 5), .int (x3 + 1), .null, .null] [] h Q))) : Ev 224 15 [.ref 69, .int x1, .int x2, .int x3, .null, .null] [] h Q := by
  refine e_il o_224_15 rfl ?_
  refine e_al o_224_16 rfl ?_
  refine e_gR (r := 84) o_224_17 (sk_69 (h := h) hs) (sr_69_28 (h := h) hs) (by decide) ?_
  refine e_al o_224_20 rfl ?_
  refine e_gI o_224_21 (sk_69 (h := h) hs) ?_
  obtain ⟨q, k⟩ := k
  refine e_ia (n := 2) o_224_24 (sk_84 (h := h) hs) (sn_84 (h := h) hs) q ?_
  refine e_if_3 o_224_25 (fun z => ?_) (fun z => ?_)
  · have k := k.1 z
    refine e_c 0 o_224_38 rfl ?_
    refine e_is (ls' := [.ref 69, .int x1, .int x2, .int 0, .null, .null]) o_224_39 (Nat.le_of_ble_eq_true rfl) rfl ?_
    refine e_c 0 o_224_40 rfl ?_
    refine e_is (ls' := [.ref 69, .int x1, .int x2, .int 0, .int 0, .null]) o_224_41 (Nat.le_of_ble_eq_true rfl) rfl ?_
    exact Ev.less (ls := [.ref 69, .int x1, .int x2, .int 0, .int 0, .null]) ⟨Or.inr rfl, Or.inr rfl, Or.inr rfl, Or.inr rfl, Or.inr rfl, Or.inl rfl, trivial⟩ k
  · have k := k.2 z
    refine e_il o_224_28 rfl ?_
    refine e_c 5 o_224_29 rfl ?_
    refine e_bin o_224_30 rfl ?_
    refine e_is (ls' := [.ref 69, .int x1, .int (x2 * 5), .int x3, .null, .null]) o_224_31 (Nat.le_of_ble_eq_true rfl) rfl ?_
    refine e_inc (ls' := [.ref 69, .int x1, .int (x2 * 5), .int (x3 + 1), .null, .null]) o_224_32 rfl rfl rfl ?_
    refine e_go o_224_35 ?_
    exact Ev.less (ls := [.ref 69, .int x1, .int (x2 * 5), .int (x3 + 1), .null, .null]) ⟨Or.inr rfl, Or.inr rfl, Or.inr rfl, Or.inr rfl, Or.inl rfl, Or.inl rfl, trivial⟩ k
set_option maxHeartbeats 4000000 in
set_option maxRecDepth 100000 in
theorem B_224_43 {x1 : Int32} {x2 : Int32} {x3 : Int32} {x4 : Int32} {h : XH} {Q : Value → XH → Prop} (hs : Sh h) (k : ((x2 ≤ x4) → ((¬ x1 = (-1)) → Q (.int (-1)) h) ∧ (¬ (¬ x1 = (-1)) → Q (.int x3) h)) ∧ (¬ (x2 ≤ x4) → Ev 224 52 [.ref 69, .int x1, .int x2, .int x3, .int x4, .int 0] [] h Q)) : Ev 224 43 [.ref 69, .int x1, .int x2, .int x3, .int x4, .null] [] h Q := by
  refine e_il o_224_43 rfl ?_
  refine e_il o_224_45 rfl ?_
  refine e_if_3 o_224_46 (fun z => ?_) (fun z => ?_)
  · have k := k.1 z
    refine e_il o_224_116 rfl ?_
    refine e_c (-1) o_224_117 rfl ?_
    refine e_if_1 o_224_118 (fun z => ?_) (fun z => ?_)
    · have k := k.1 z
      refine e_c (-1) o_224_125 rfl ?_
      exact e_retI o_224_126 k
    · have k := k.2 z
      refine e_il o_224_121 rfl ?_
      refine e_go o_224_122 ?_
      exact e_retI o_224_126 k
  · have k := k.2 z
    refine e_c 0 o_224_49 rfl ?_
    refine e_is (ls' := [.ref 69, .int x1, .int x2, .int x3, .int x4, .int 0]) o_224_50 (Nat.le_of_ble_eq_true rfl) rfl ?_
    exact Ev.less (ls := [.ref 69, .int x1, .int x2, .int x3, .int x4, .int 0]) ⟨Or.inr rfl, Or.inr rfl, Or.inr rfl, Or.inr rfl, Or.inr rfl, Or.inr rfl, trivial⟩ k
set_option maxHeartbeats 4000000 in
set_option maxRecDepth 100000 in
theorem B_224_52 {x1 : Int32} {x2 : Int32} {x3 : Int32} {x4 : Int32} {x5 : Int32} {h : XH} {Q : Value → XH → Prop} (hs : Sh h) (k : InB (xI h 69 18) 2 ∧ ((((xI h 84 (tn (xI h 69 18))) ≤ x5) → ClI 166 [.ref 69] h (fun v2 h1 => Sh h1 ∧ (((v2 = 0) → ((¬ x3 = x1) → Ev 224 43 [.ref 69, .int x1, .int x2, .int (x3 + 1), .int (x4 + 1), .null] [] h1 Q) ∧ (¬ (¬ x3 = x1) → Q (.int x4) h1)) ∧ (¬ (v2 = 0) → Ev 224 43 [.ref 69, .int x1, .int x2, .int x3, .int (x4 + 1), .null] [] h1 Q)))) ∧ (¬ ((xI h 84 (tn (xI h 69 18))) ≤ x5) → ClI 173 [.int x4, .int x5] h (fun v4 h3 => Sh h3 ∧ (InB (8 + x5) 20 ∧ (Ev 224 52 [.ref 69, .int x1, .int x2, .int x3, .int x4, .int (x5 + 1)] [] (xsI h3 109 (tn (8 + x5)) v4) Q)))))) : Ev 224 52 [.ref 69, .int x1, .int x2, .int x3, .int x4, .int x5] [] h Q := by
  refine e_il o_224_52 rfl ?_
  refine e_al o_224_54 rfl ?_
  refine e_gR (r := 84) o_224_55 (sk_69 (h := h) hs) (sr_69_28 (h := h) hs) (by decide) ?_
  refine e_al o_224_58 rfl ?_
  refine e_gI o_224_59 (sk_69 (h := h) hs) ?_
  obtain ⟨q, k⟩ := k
  refine e_ia (n := 2) o_224_62 (sk_84 (h := h) hs) (sn_84 (h := h) hs) q ?_
  refine e_if_3 o_224_63 (fun z => ?_) (fun z => ?_)
  · have k := k.1 z
    refine e_al o_224_89 rfl ?_
    refine e_clI (as := [.ref 69]) (rest := []) o_224_90 rfl rfl (x_okd cl_224_166 ml_166 (Nat.le_of_ble_eq_true rfl) (Nat.le_of_ble_eq_true rfl)) (x_rc0 (ci := 9) (sk_69 (h := h) hs) mo_166) k ?_
    rintro v2 h1 ⟨sh1, k⟩
    refine e_i0_0 o_224_93 (fun z => ?_) (fun z => ?_)
    · have k := k.1 z
      refine e_il o_224_99 rfl ?_
      refine e_il o_224_100 rfl ?_
      refine e_if_1 o_224_101 (fun z => ?_) (fun z => ?_)
      · have k := k.1 z
        refine e_inc (ls' := [.ref 69, .int x1, .int x2, .int (x3 + 1), .int x4, .int x5]) o_224_107 rfl rfl rfl ?_
        refine e_inc (ls' := [.ref 69, .int x1, .int x2, .int (x3 + 1), .int (x4 + 1), .int x5]) o_224_110 rfl rfl rfl ?_
        refine e_go o_224_113 ?_
        exact Ev.less (ls := [.ref 69, .int x1, .int x2, .int (x3 + 1), .int (x4 + 1), .null]) ⟨Or.inr rfl, Or.inr rfl, Or.inr rfl, Or.inr rfl, Or.inr rfl, Or.inl rfl, trivial⟩ k
      · have k := k.2 z
        refine e_il o_224_104 rfl ?_
        exact e_retI o_224_106 k
    · have k := k.2 z
      refine e_go o_224_96 ?_
      refine e_inc (ls' := [.ref 69, .int x1, .int x2, .int x3, .int (x4 + 1), .int x5]) o_224_110 rfl rfl rfl ?_
      refine e_go o_224_113 ?_
      exact Ev.less (ls := [.ref 69, .int x1, .int x2, .int x3, .int (x4 + 1), .null]) ⟨Or.inr rfl, Or.inr rfl, Or.inr rfl, Or.inr rfl, Or.inr rfl, Or.inl rfl, trivial⟩ k
  · have k := k.2 z
    refine e_al o_224_66 rfl ?_
    refine e_gR (r := 109) o_224_67 (sk_69 (h := h) hs) (sr_69_60 (h := h) hs) (by decide) ?_
    refine e_c 8 o_224_70 rfl ?_
    refine e_il o_224_72 rfl ?_
    refine e_bin o_224_74 rfl ?_
    refine e_il o_224_75 rfl ?_
    refine e_il o_224_77 rfl ?_
    refine e_clI (as := [.int x4, .int x5]) (rest := [.int (8 + x5), .ref 109]) o_224_79 rfl rfl (x_okd cl_224_173 ml_173 (Nat.le_of_ble_eq_true rfl) (Nat.le_of_ble_eq_true rfl)) (rfl) k ?_
    rintro v4 h3 ⟨sh3, k⟩
    obtain ⟨q, k⟩ := k
    refine e_ias (n := 20) o_224_82 (sk_109 (h := h3) sh3) (by decide) (sn_109 (h := h3) sh3) q ?_
    refine e_inc (ls' := [.ref 69, .int x1, .int x2, .int x3, .int x4, .int (x5 + 1)]) o_224_83 rfl rfl rfl ?_
    refine e_go o_224_86 ?_
    exact Ev.less (ls := [.ref 69, .int x1, .int x2, .int x3, .int x4, .int (x5 + 1)]) ⟨Or.inr rfl, Or.inr rfl, Or.inr rfl, Or.inr rfl, Or.inr rfl, Or.inr rfl, trivial⟩ k
set_option maxHeartbeats 4000000 in
set_option maxRecDepth 100000 in
theorem B_225_0 {x1 : Int32} {h : XH} {Q : Value → XH → Prop} (hs : Sh h) (k : ClI 209 [.ref 69, .int x1] h (fun v2 h1 => Sh h1 ∧ (((¬ v2 = 0) → ClV 210 [.ref 69] h1 (fun h3 => Sh h3 ∧ (Ev 225 16 [.ref 69, .int x1, .int 0] [] h3 Q))) ∧ (¬ (¬ v2 = 0) → Q (.int (-1)) h1)))) : Ev 225 0 (x_ini 225 [.ref 69, .int x1]) [] h Q := by
  rw [show x_ini 225 [.ref 69, .int x1] = [.ref 69, .int x1, .null] from x_inid ml_225 rfl]
  refine e_al o_225_0 rfl ?_
  refine e_il o_225_1 rfl ?_
  refine e_clI (as := [.ref 69, .int x1]) (rest := []) o_225_2 rfl rfl (x_okd cl_225_209 ml_209 (Nat.le_of_ble_eq_true rfl) (Nat.le_of_ble_eq_true rfl)) (x_rc0 (ci := 9) (sk_69 (h := h) hs) mo_209) k ?_
  rintro v2 h1 ⟨sh1, k⟩
  refine e_i0_1 o_225_5 (fun z => ?_) (fun z => ?_)
  · have k := k.1 z
    refine e_al o_225_10 rfl ?_
    refine e_clV (as := [.ref 69]) (rest := []) o_225_11 rfl rfl (x_okd cl_225_210 ml_210 (Nat.le_of_ble_eq_true rfl) (Nat.le_of_ble_eq_true rfl)) (x_rc0 (ci := 9) (sk_69 (h := h1) sh1) mo_210) k ?_
    rintro h3 ⟨sh3, k⟩
    refine e_c 0 o_225_14 rfl ?_
    refine e_is (ls' := [.ref 69, .int x1, .int 0]) o_225_15 (Nat.le_of_ble_eq_true rfl) rfl ?_
    exact Ev.less (ls := [.ref 69, .int x1, .int 0]) ⟨Or.inr rfl, Or.inr rfl, Or.inr rfl, trivial⟩ k
  · have k := k.2 z
    refine e_c (-1) o_225_8 rfl ?_
    exact e_retI o_225_9 k
set_option maxHeartbeats 4000000 in
set_option maxRecDepth 100000 in
theorem B_225_16 {x1 : Int32} {x2 : Int32} {h : XH} {Q : Value → XH → Prop} (hs : Sh h) (k : ((300 < x2) → Q (.int (-2)) h) ∧ (¬ (300 < x2) → ClI 226 [.ref 69, .int x1] h (fun v2 h1 => Sh h1 ∧ (((v2 = 0) → ClV 214 [.ref 69] h1 (fun h3 => Sh h3 ∧ (Ev 225 16 [.ref 69, .int x1, .int (x2 + 1)] [] h3 Q))) ∧ (¬ (v2 = 0) → Q (.int x2) h1))))) : Ev 225 16 [.ref 69, .int x1, .int x2] [] h Q := by
  refine e_il o_225_16 rfl ?_
  refine e_c 300 o_225_17 rfl ?_
  refine e_if_4 o_225_20 (fun z => ?_) (fun z => ?_)
  · have k := k.1 z
    refine e_c (-2) o_225_43 rfl ?_
    exact e_retI o_225_45 k
  · have k := k.2 z
    refine e_al o_225_23 rfl ?_
    refine e_il o_225_24 rfl ?_
    refine e_clI (as := [.ref 69, .int x1]) (rest := []) o_225_25 rfl rfl (x_okd cl_225_226 ml_226 (Nat.le_of_ble_eq_true rfl) (Nat.le_of_ble_eq_true rfl)) (x_rc0 (ci := 9) (sk_69 (h := h) hs) mo_226) k ?_
    rintro v2 h1 ⟨sh1, k⟩
    refine e_i0_0 o_225_28 (fun z => ?_) (fun z => ?_)
    · have k := k.1 z
      refine e_al o_225_33 rfl ?_
      refine e_clV (as := [.ref 69]) (rest := []) o_225_34 rfl rfl (x_okd cl_225_214 ml_214 (Nat.le_of_ble_eq_true rfl) (Nat.le_of_ble_eq_true rfl)) (x_rc0 (ci := 9) (sk_69 (h := h1) sh1) mo_214) k ?_
      rintro h3 ⟨sh3, k⟩
      refine e_inc (ls' := [.ref 69, .int x1, .int (x2 + 1)]) o_225_37 rfl rfl rfl ?_
      refine e_go o_225_40 ?_
      exact Ev.less (ls := [.ref 69, .int x1, .int (x2 + 1)]) ⟨Or.inr rfl, Or.inr rfl, Or.inr rfl, trivial⟩ k
    · have k := k.2 z
      refine e_il o_225_31 rfl ?_
      exact e_retI o_225_32 k
set_option maxHeartbeats 4000000 in
set_option maxRecDepth 100000 in
theorem B_226_0 {x1 : Int32} {h : XH} {Q : Value → XH → Prop} (hs : Sh h) (k : InB (8 + x1) 20 ∧ (((¬ (xI h 109 (tn (8 + x1))) = 4) → Q (.int 0) h) ∧ (¬ (¬ (xI h 109 (tn (8 + x1))) = 4) → Q (.int 1) h))) : Ev 226 0 (x_ini 226 [.ref 69, .int x1]) [] h Q := by
  rw [show x_ini 226 [.ref 69, .int x1] = [.ref 69, .int x1] from x_inid ml_226 rfl]
  refine e_al o_226_0 rfl ?_
  refine e_gR (r := 109) o_226_1 (sk_69 (h := h) hs) (sr_69_60 (h := h) hs) (by decide) ?_
  refine e_c 8 o_226_4 rfl ?_
  refine e_il o_226_6 rfl ?_
  refine e_bin o_226_7 rfl ?_
  obtain ⟨q, k⟩ := k
  refine e_ia (n := 20) o_226_8 (sk_109 (h := h) hs) (sn_109 (h := h) hs) q ?_
  refine e_c 4 o_226_9 rfl ?_
  refine e_if_1 o_226_10 (fun z => ?_) (fun z => ?_)
  · have k := k.1 z
    refine e_c 0 o_226_17 rfl ?_
    exact e_retZ o_226_18 (by decide) k
  · have k := k.2 z
    refine e_c 1 o_226_13 rfl ?_
    refine e_go o_226_14 ?_
    exact e_retZ o_226_18 (by decide) k
set_option maxHeartbeats 4000000 in
set_option maxRecDepth 100000 in
theorem B_227_0 {x1 : Int32} {h : XH} {Q : Value → XH → Prop} (hs : Sh h) (k : ClI 209 [.ref 69, .int x1] h (fun v2 h1 => Sh h1 ∧ (((¬ v2 = 0) → ClV 210 [.ref 69] h1 (fun h3 => Sh h3 ∧ (Ev 227 16 [.ref 69, .int x1, .int 0] [] h3 Q))) ∧ (¬ (¬ v2 = 0) → Q (.int (-1)) h1)))) : Ev 227 0 (x_ini 227 [.ref 69, .int x1]) [] h Q := by
  rw [show x_ini 227 [.ref 69, .int x1] = [.ref 69, .int x1, .null] from x_inid ml_227 rfl]
  refine e_al o_227_0 rfl ?_
  refine e_il o_227_1 rfl ?_
  refine e_clI (as := [.ref 69, .int x1]) (rest := []) o_227_2 rfl rfl (x_okd cl_227_209 ml_209 (Nat.le_of_ble_eq_true rfl) (Nat.le_of_ble_eq_true rfl)) (x_rc0 (ci := 9) (sk_69 (h := h) hs) mo_209) k ?_
  rintro v2 h1 ⟨sh1, k⟩
  refine e_i0_1 o_227_5 (fun z => ?_) (fun z => ?_)
  · have k := k.1 z
    refine e_al o_227_10 rfl ?_
    refine e_clV (as := [.ref 69]) (rest := []) o_227_11 rfl rfl (x_okd cl_227_210 ml_210 (Nat.le_of_ble_eq_true rfl) (Nat.le_of_ble_eq_true rfl)) (x_rc0 (ci := 9) (sk_69 (h := h1) sh1) mo_210) k ?_
    rintro h3 ⟨sh3, k⟩
    refine e_c 0 o_227_14 rfl ?_
    refine e_is (ls' := [.ref 69, .int x1, .int 0]) o_227_15 (Nat.le_of_ble_eq_true rfl) rfl ?_
    exact Ev.less (ls := [.ref 69, .int x1, .int 0]) ⟨Or.inr rfl, Or.inr rfl, Or.inr rfl, trivial⟩ k
  · have k := k.2 z
    refine e_c (-1) o_227_8 rfl ?_
    exact e_retI o_227_9 k
set_option maxHeartbeats 4000000 in
set_option maxRecDepth 100000 in
theorem B_227_16 {x1 : Int32} {x2 : Int32} {h : XH} {Q : Value → XH → Prop} (hs : Sh h) (k : ((300 ≤ x2) → Q (.int x2) h) ∧ (¬ (300 ≤ x2) → ClI 226 [.ref 69, .int x1] h (fun v2 h1 => Sh h1 ∧ (((v2 = 0) → Q (.int x2) h1) ∧ (¬ (v2 = 0) → ClV 214 [.ref 69] h1 (fun h3 => Sh h3 ∧ (Ev 227 16 [.ref 69, .int x1, .int (x2 + 1)] [] h3 Q))))))) : Ev 227 16 [.ref 69, .int x1, .int x2] [] h Q := by
  refine e_il o_227_16 rfl ?_
  refine e_c 300 o_227_17 rfl ?_
  refine e_if_3 o_227_20 (fun z => ?_) (fun z => ?_)
  · have k := k.1 z
    refine e_il o_227_41 rfl ?_
    exact e_retI o_227_42 k
  · have k := k.2 z
    refine e_al o_227_23 rfl ?_
    refine e_il o_227_24 rfl ?_
    refine e_clI (as := [.ref 69, .int x1]) (rest := []) o_227_25 rfl rfl (x_okd cl_227_226 ml_226 (Nat.le_of_ble_eq_true rfl) (Nat.le_of_ble_eq_true rfl)) (x_rc0 (ci := 9) (sk_69 (h := h) hs) mo_226) k ?_
    rintro v2 h1 ⟨sh1, k⟩
    refine e_i0_0 o_227_28 (fun z => ?_) (fun z => ?_)
    · have k := k.1 z
      refine e_il o_227_41 rfl ?_
      exact e_retI o_227_42 k
    · have k := k.2 z
      refine e_inc (ls' := [.ref 69, .int x1, .int (x2 + 1)]) o_227_31 rfl rfl rfl ?_
      refine e_al o_227_34 rfl ?_
      refine e_clV (as := [.ref 69]) (rest := []) o_227_35 rfl rfl (x_okd cl_227_214 ml_214 (Nat.le_of_ble_eq_true rfl) (Nat.le_of_ble_eq_true rfl)) (x_rc0 (ci := 9) (sk_69 (h := h1) sh1) mo_214) k ?_
      rintro h3 ⟨sh3, k⟩
      refine e_go o_227_38 ?_
      exact Ev.less (ls := [.ref 69, .int x1, .int (x2 + 1)]) ⟨Or.inr rfl, Or.inr rfl, Or.inr rfl, trivial⟩ k
set_option maxHeartbeats 4000000 in
set_option maxRecDepth 100000 in
theorem B_228_0 {x1 : Int32} {x2 : Int32} {h : XH} {Q : Value → XH → Prop} (hs : Sh h) (k : ClI 209 [.ref 69, .int x1] h (fun v2 h1 => Sh h1 ∧ (((v2 = 0) → Q (.int (-1)) h1) ∧ (¬ (v2 = 0) → ClI 229 [.int x2] h1 (fun v4 h3 => Sh h3 ∧ (((¬ v4 = 0) → ClV 210 [.ref 69] h3 (fun h5 => Sh h5 ∧ (Ev 228 29 [.ref 69, .int x1, .int x2, .int 0, .int 0, .int 0] [] h5 Q))) ∧ (¬ (¬ v4 = 0) → Q (.int (-1)) h3))))))) : Ev 228 0 (x_ini 228 [.ref 69, .int x1, .int x2]) [] h Q := by
  rw [show x_ini 228 [.ref 69, .int x1, .int x2] = [.ref 69, .int x1, .int x2, .null, .null, .null] from x_inid ml_228 rfl]
  refine e_al o_228_0 rfl ?_
  refine e_il o_228_1 rfl ?_
  refine e_clI (as := [.ref 69, .int x1]) (rest := []) o_228_2 rfl rfl (x_okd cl_228_209 ml_209 (Nat.le_of_ble_eq_true rfl) (Nat.le_of_ble_eq_true rfl)) (x_rc0 (ci := 9) (sk_69 (h := h) hs) mo_209) k ?_
  rintro v2 h1 ⟨sh1, k⟩
  refine e_i0_0 o_228_5 (fun z => ?_) (fun z => ?_)
  · have k := k.1 z
    refine e_c (-1) o_228_15 rfl ?_
    exact e_retI o_228_16 k
  · have k := k.2 z
    refine e_il o_228_8 rfl ?_
    refine e_clI (as := [.int x2]) (rest := []) o_228_9 rfl rfl (x_okd cl_228_229 ml_229 (Nat.le_of_ble_eq_true rfl) (Nat.le_of_ble_eq_true rfl)) (rfl) k ?_
    rintro v4 h3 ⟨sh3, k⟩
    refine e_i0_1 o_228_12 (fun z => ?_) (fun z => ?_)
    · have k := k.1 z
      refine e_al o_228_17 rfl ?_
      refine e_clV (as := [.ref 69]) (rest := []) o_228_18 rfl rfl (x_okd cl_228_210 ml_210 (Nat.le_of_ble_eq_true rfl) (Nat.le_of_ble_eq_true rfl)) (x_rc0 (ci := 9) (sk_69 (h := h3) sh3) mo_210) k ?_
      rintro h5 ⟨sh5, k⟩
      refine e_c 0 o_228_21 rfl ?_
      refine e_is (ls' := [.ref 69, .int x1, .int x2, .int 0, .null, .null]) o_228_22 (Nat.le_of_ble_eq_true rfl) rfl ?_
      refine e_c 0 o_228_23 rfl ?_
      refine e_is (ls' := [.ref 69, .int x1, .int x2, .int 0, .int 0, .null]) o_228_24 (Nat.le_of_ble_eq_true rfl) rfl ?_
      refine e_c 0 o_228_26 rfl ?_
      refine e_is (ls' := [.ref 69, .int x1, .int x2, .int 0, .int 0, .int 0]) o_228_27 (Nat.le_of_ble_eq_true rfl) rfl ?_
      exact Ev.less (ls := [.ref 69, .int x1, .int x2, .int 0, .int 0, .int 0]) ⟨Or.inr rfl, Or.inr rfl, Or.inr rfl, Or.inr rfl, Or.inr rfl, Or.inr rfl, trivial⟩ k
    · have k := k.2 z
      refine e_c (-1) o_228_15 rfl ?_
      exact e_retI o_228_16 k
set_option maxHeartbeats 4000000 in
set_option maxRecDepth 100000 in
theorem B_228_29 {x1 : Int32} {x2 : Int32} {x3 : Int32} {x4 : Int32} {x5 : Int32} {h : XH} {Q : Value → XH → Prop} (hs : Sh h) (k : ((x2 < x5) → Q (.int x3) h) ∧ (¬ (x2 < x5) → ClI 226 [.ref 69, .int x1] h (fun v2 h1 => Sh h1 ∧ (((v2 = 0) → (((0 : Int32) ≤ x3) → ClV 214 [.ref 69] h1 (fun h3 => Sh h3 ∧ (Ev 228 29 [.ref 69, .int x1, .int x2, .int x3, .int 0, .int (x5 + 1)] [] h3 Q))) ∧ (¬ ((0 : Int32) ≤ x3) → ClV 214 [.ref 69] h1 (fun h5 => Sh h5 ∧ (Ev 228 29 [.ref 69, .int x1, .int x2, .int 0, .int 0, .int (x5 + 1)] [] h5 Q)))) ∧ (¬ (v2 = 0) → (((x4 + 1) ≤ x3) → ClV 214 [.ref 69] h1 (fun h7 => Sh h7 ∧ (Ev 228 29 [.ref 69, .int x1, .int x2, .int x3, .int (x4 + 1), .int (x5 + 1)] [] h7 Q))) ∧ (¬ ((x4 + 1) ≤ x3) → ClV 214 [.ref 69] h1 (fun h9 => Sh h9 ∧ (Ev 228 29 [.ref 69, .int x1, .int x2, .int (x4 + 1), .int (x4 + 1), .int (x5 + 1)] [] h9 Q)))))))) : Ev 228 29 [.ref 69, .int x1, .int x2, .int x3, .int x4, .int x5] [] h Q := by
  refine e_il o_228_29 rfl ?_
  refine e_il o_228_31 rfl ?_
  refine e_if_4 o_228_32 (fun z => ?_) (fun z => ?_)
  · have k := k.1 z
    refine e_il o_228_72 rfl ?_
    exact e_retI o_228_73 k
  · have k := k.2 z
    refine e_al o_228_35 rfl ?_
    refine e_il o_228_36 rfl ?_
    refine e_clI (as := [.ref 69, .int x1]) (rest := []) o_228_37 rfl rfl (x_okd cl_228_226 ml_226 (Nat.le_of_ble_eq_true rfl) (Nat.le_of_ble_eq_true rfl)) (x_rc0 (ci := 9) (sk_69 (h := h) hs) mo_226) k ?_
    rintro v2 h1 ⟨sh1, k⟩
    refine e_i0_0 o_228_40 (fun z => ?_) (fun z => ?_)
    · have k := k.1 z
      refine e_c 0 o_228_50 rfl ?_
      refine e_is (ls' := [.ref 69, .int x1, .int x2, .int x3, .int 0, .int x5]) o_228_51 (Nat.le_of_ble_eq_true rfl) rfl ?_
      refine e_il o_228_53 rfl ?_
      refine e_il o_228_55 rfl ?_
      refine e_if_5 o_228_56 (fun z => ?_) (fun z => ?_)
      · have k := k.1 z
        refine e_al o_228_62 rfl ?_
        refine e_clV (as := [.ref 69]) (rest := []) o_228_63 rfl rfl (x_okd cl_228_214 ml_214 (Nat.le_of_ble_eq_true rfl) (Nat.le_of_ble_eq_true rfl)) (x_rc0 (ci := 9) (sk_69 (h := h1) sh1) mo_214) k ?_
        rintro h3 ⟨sh3, k⟩
        refine e_inc (ls' := [.ref 69, .int x1, .int x2, .int x3, .int 0, .int (x5 + 1)]) o_228_66 rfl rfl rfl ?_
        refine e_go o_228_69 ?_
        exact Ev.less (ls := [.ref 69, .int x1, .int x2, .int x3, .int 0, .int (x5 + 1)]) ⟨Or.inr rfl, Or.inr rfl, Or.inr rfl, Or.inr rfl, Or.inr rfl, Or.inr rfl, trivial⟩ k
      · have k := k.2 z
        refine e_il o_228_59 rfl ?_
        refine e_is (ls' := [.ref 69, .int x1, .int x2, .int 0, .int 0, .int x5]) o_228_61 (Nat.le_of_ble_eq_true rfl) rfl ?_
        refine e_al o_228_62 rfl ?_
        refine e_clV (as := [.ref 69]) (rest := []) o_228_63 rfl rfl (x_okd cl_228_214 ml_214 (Nat.le_of_ble_eq_true rfl) (Nat.le_of_ble_eq_true rfl)) (x_rc0 (ci := 9) (sk_69 (h := h1) sh1) mo_214) k ?_
        rintro h5 ⟨sh5, k⟩
        refine e_inc (ls' := [.ref 69, .int x1, .int x2, .int 0, .int 0, .int (x5 + 1)]) o_228_66 rfl rfl rfl ?_
        refine e_go o_228_69 ?_
        exact Ev.less (ls := [.ref 69, .int x1, .int x2, .int 0, .int 0, .int (x5 + 1)]) ⟨Or.inr rfl, Or.inr rfl, Or.inr rfl, Or.inr rfl, Or.inr rfl, Or.inr rfl, trivial⟩ k
    · have k := k.2 z
      refine e_il o_228_43 rfl ?_
      refine e_c 1 o_228_45 rfl ?_
      refine e_bin o_228_46 rfl ?_
      refine e_go o_228_47 ?_
      refine e_is (ls' := [.ref 69, .int x1, .int x2, .int x3, .int (x4 + 1), .int x5]) o_228_51 (Nat.le_of_ble_eq_true rfl) rfl ?_
      refine e_il o_228_53 rfl ?_
      refine e_il o_228_55 rfl ?_
      refine e_if_5 o_228_56 (fun z => ?_) (fun z => ?_)
      · have k := k.1 z
        refine e_al o_228_62 rfl ?_
        refine e_clV (as := [.ref 69]) (rest := []) o_228_63 rfl rfl (x_okd cl_228_214 ml_214 (Nat.le_of_ble_eq_true rfl) (Nat.le_of_ble_eq_true rfl)) (x_rc0 (ci := 9) (sk_69 (h := h1) sh1) mo_214) k ?_
        rintro h7 ⟨sh7, k⟩
        refine e_inc (ls' := [.ref 69, .int x1, .int x2, .int x3, .int (x4 + 1), .int (x5 + 1)]) o_228_66 rfl rfl rfl ?_
        refine e_go o_228_69 ?_
        exact Ev.less (ls := [.ref 69, .int x1, .int x2, .int x3, .int (x4 + 1), .int (x5 + 1)]) ⟨Or.inr rfl, Or.inr rfl, Or.inr rfl, Or.inr rfl, Or.inr rfl, Or.inr rfl, trivial⟩ k
      · have k := k.2 z
        refine e_il o_228_59 rfl ?_
        refine e_is (ls' := [.ref 69, .int x1, .int x2, .int (x4 + 1), .int (x4 + 1), .int x5]) o_228_61 (Nat.le_of_ble_eq_true rfl) rfl ?_
        refine e_al o_228_62 rfl ?_
        refine e_clV (as := [.ref 69]) (rest := []) o_228_63 rfl rfl (x_okd cl_228_214 ml_214 (Nat.le_of_ble_eq_true rfl) (Nat.le_of_ble_eq_true rfl)) (x_rc0 (ci := 9) (sk_69 (h := h1) sh1) mo_214) k ?_
        rintro h9 ⟨sh9, k⟩
        refine e_inc (ls' := [.ref 69, .int x1, .int x2, .int (x4 + 1), .int (x4 + 1), .int (x5 + 1)]) o_228_66 rfl rfl rfl ?_
        refine e_go o_228_69 ?_
        exact Ev.less (ls := [.ref 69, .int x1, .int x2, .int (x4 + 1), .int (x4 + 1), .int (x5 + 1)]) ⟨Or.inr rfl, Or.inr rfl, Or.inr rfl, Or.inr rfl, Or.inr rfl, Or.inr rfl, trivial⟩ k
set_option maxHeartbeats 4000000 in
set_option maxRecDepth 100000 in
theorem B_229_0 {x0 : Int32} {h : XH} {Q : Value → XH → Prop} (hs : Sh h) (k : ClI 207 [.int x0, .int 0, .int 300] h (fun v2 h1 => Sh h1 ∧ ((v2 = 0 ∨ v2 = 1) ∧ Q (.int v2) h1))) : Ev 229 0 (x_ini 229 [.int x0]) [] h Q := by
  rw [show x_ini 229 [.int x0] = [.int x0] from x_inid ml_229 rfl]
  refine e_il o_229_0 rfl ?_
  refine e_c 0 o_229_1 rfl ?_
  refine e_c 300 o_229_2 rfl ?_
  refine e_clI (as := [.int x0, .int 0, .int 300]) (rest := []) o_229_5 rfl rfl (x_okd cl_229_207 ml_207 (Nat.le_of_ble_eq_true rfl) (Nat.le_of_ble_eq_true rfl)) (rfl) k ?_
  rintro v2 h1 ⟨sh1, k⟩
  exact e_retZ o_229_8 k.1 k.2
set_option maxHeartbeats 4000000 in
set_option maxRecDepth 100000 in
theorem B_230_0 {x1 : Int32} {h : XH} {Q : Value → XH → Prop} (hs : Sh h) (k : ClI 229 [.int x1] h (fun v2 h1 => Sh h1 ∧ (((¬ v2 = 0) → ClV 210 [.ref 69] h1 (fun h3 => Sh h3 ∧ (ClV 213 [.ref 69, .int x1] h3 (fun h5 => Sh h5 ∧ (Ev 230 22 [.ref 69, .null, .int 0, .int 0] [] h5 Q))))) ∧ (¬ (¬ v2 = 0) → Q (.int (-1)) h1)))) : Ev 230 0 (x_ini 230 [.ref 69, .int x1]) [] h Q := by
  rw [show x_ini 230 [.ref 69, .int x1] = [.ref 69, .int x1, .null, .null] from x_inid ml_230 rfl]
  refine e_il o_230_0 rfl ?_
  refine e_clI (as := [.int x1]) (rest := []) o_230_1 rfl rfl (x_okd cl_230_229 ml_229 (Nat.le_of_ble_eq_true rfl) (Nat.le_of_ble_eq_true rfl)) (rfl) k ?_
  rintro v2 h1 ⟨sh1, k⟩
  refine e_i0_1 o_230_4 (fun z => ?_) (fun z => ?_)
  · have k := k.1 z
    refine e_al o_230_9 rfl ?_
    refine e_clV (as := [.ref 69]) (rest := []) o_230_10 rfl rfl (x_okd cl_230_210 ml_210 (Nat.le_of_ble_eq_true rfl) (Nat.le_of_ble_eq_true rfl)) (x_rc0 (ci := 9) (sk_69 (h := h1) sh1) mo_210) k ?_
    rintro h3 ⟨sh3, k⟩
    refine e_al o_230_13 rfl ?_
    refine e_il o_230_14 rfl ?_
    refine e_clV (as := [.ref 69, .int x1]) (rest := []) o_230_15 rfl rfl (x_okd cl_230_213 ml_213 (Nat.le_of_ble_eq_true rfl) (Nat.le_of_ble_eq_true rfl)) (x_rc0 (ci := 9) (sk_69 (h := h3) sh3) mo_213) k ?_
    rintro h5 ⟨sh5, k⟩
    refine e_c 0 o_230_18 rfl ?_
    refine e_is (ls' := [.ref 69, .int x1, .int 0, .null]) o_230_19 (Nat.le_of_ble_eq_true rfl) rfl ?_
    refine e_c 0 o_230_20 rfl ?_
    refine e_is (ls' := [.ref 69, .int x1, .int 0, .int 0]) o_230_21 (Nat.le_of_ble_eq_true rfl) rfl ?_
    exact Ev.less (ls := [.ref 69, .null, .int 0, .int 0]) ⟨Or.inr rfl, Or.inl rfl, Or.inr rfl, Or.inr rfl, trivial⟩ k
  · have k := k.2 z
    refine e_c (-1) o_230_7 rfl ?_
    exact e_retI o_230_8 k
set_option maxHeartbeats 4000000 in
set_option maxRecDepth 100000 in
theorem B_230_22 {x2 : Int32} {x3 : Int32} {h : XH} {Q : Value → XH → Prop} (hs : Sh h) (k : InB (xI h 69 18) 2 ∧ ((((xI h 84 (tn (xI h 69 18))) ≤ x3) → Q (.int x2) h) ∧ (¬ ((xI h 84 (tn (xI h 69 18))) ≤ x3) → InB (8 + x3) 20 ∧ (InB (8 + x3) 20 ∧ ((((xI h 109 (tn (8 + x3))) = (xI h 108 (tn (8 + x3)))) → Ev 230 22 [.ref 69, .null, .int x2, .int (x3 + 1)] [] h Q) ∧ (¬ ((xI h 109 (tn (8 + x3))) = (xI h 108 (tn (8 + x3)))) → Ev 230 22 [.ref 69, .null, .int (x2 ||| (1 <<< (x3 &&& 31))), .int (x3 + 1)] [] h Q)))))) : Ev 230 22 [.ref 69, .null, .int x2, .int x3] [] h Q := by
  refine e_il o_230_22 rfl ?_
  refine e_al o_230_23 rfl ?_
  refine e_gR (r := 84) o_230_24 (sk_69 (h := h) hs) (sr_69_28 (h := h) hs) (by decide) ?_
  refine e_al o_230_27 rfl ?_
  refine e_gI o_230_28 (sk_69 (h := h) hs) ?_
  obtain ⟨q, k⟩ := k
  refine e_ia (n := 2) o_230_31 (sk_84 (h := h) hs) (sn_84 (h := h) hs) q ?_
  refine e_if_3 o_230_32 (fun z => ?_) (fun z => ?_)
  · have k := k.1 z
    refine e_il o_230_68 rfl ?_
    exact e_retI o_230_69 k
  · have k := k.2 z
    refine e_al o_230_35 rfl ?_
    refine e_gR (r := 109) o_230_36 (sk_69 (h := h) hs) (sr_69_60 (h := h) hs) (by decide) ?_
    refine e_c 8 o_230_39 rfl ?_
    refine e_il o_230_41 rfl ?_
    refine e_bin o_230_42 rfl ?_
    obtain ⟨q, k⟩ := k
    refine e_ia (n := 20) o_230_43 (sk_109 (h := h) hs) (sn_109 (h := h) hs) q ?_
    refine e_al o_230_44 rfl ?_
    refine e_gR (r := 108) o_230_45 (sk_69 (h := h) hs) (sr_69_59 (h := h) hs) (by decide) ?_
    refine e_c 8 o_230_48 rfl ?_
    refine e_il o_230_50 rfl ?_
    refine e_bin o_230_51 rfl ?_
    obtain ⟨q, k⟩ := k
    refine e_ia (n := 20) o_230_52 (sk_108 (h := h) hs) (sn_108 (h := h) hs) q ?_
    refine e_if_0 o_230_53 (fun z => ?_) (fun z => ?_)
    · have k := k.1 z
      refine e_inc (ls' := [.ref 69, .null, .int x2, .int (x3 + 1)]) o_230_62 rfl rfl rfl ?_
      refine e_go o_230_65 ?_
      exact Ev.less (ls := [.ref 69, .null, .int x2, .int (x3 + 1)]) ⟨Or.inr rfl, Or.inl rfl, Or.inr rfl, Or.inr rfl, trivial⟩ k
    · have k := k.2 z
      refine e_il o_230_56 rfl ?_
      refine e_c 1 o_230_57 rfl ?_
      refine e_il o_230_58 rfl ?_
      refine e_bin o_230_59 rfl ?_
      refine e_bin o_230_60 rfl ?_
      refine e_is (ls' := [.ref 69, .null, .int (x2 ||| (1 <<< (x3 &&& 31))), .int x3]) o_230_61 (Nat.le_of_ble_eq_true rfl) rfl ?_
      refine e_inc (ls' := [.ref 69, .null, .int (x2 ||| (1 <<< (x3 &&& 31))), .int (x3 + 1)]) o_230_62 rfl rfl rfl ?_
      refine e_go o_230_65 ?_
      exact Ev.less (ls := [.ref 69, .null, .int (x2 ||| (1 <<< (x3 &&& 31))), .int (x3 + 1)]) ⟨Or.inr rfl, Or.inl rfl, Or.inr rfl, Or.inr rfl, trivial⟩ k
set_option maxHeartbeats 4000000 in
set_option maxRecDepth 100000 in
theorem B_231_0 {x1 : Int32} {x2 : Int32} {h : XH} {Q : Value → XH → Prop} (hs : Sh h) (k : ClI 209 [.ref 69, .int x1] h (fun v2 h1 => Sh h1 ∧ (((v2 = 0) → Q (.int (-1)) h1) ∧ (¬ (v2 = 0) → ClI 229 [.int x2] h1 (fun v4 h3 => Sh h3 ∧ (((¬ v4 = 0) → ClV 210 [.ref 69] h3 (fun h5 => Sh h5 ∧ (ClV 213 [.ref 69, .int x2] h5 (fun h7 => Sh h7 ∧ (InB (8 + x1) 20 ∧ (Q (.int (xI h7 109 (tn (8 + x1)))) h7)))))) ∧ (¬ (¬ v4 = 0) → Q (.int (-1)) h3))))))) : Ev 231 0 (x_ini 231 [.ref 69, .int x1, .int x2]) [] h Q := by
  rw [show x_ini 231 [.ref 69, .int x1, .int x2] = [.ref 69, .int x1, .int x2] from x_inid ml_231 rfl]
  refine e_al o_231_0 rfl ?_
  refine e_il o_231_1 rfl ?_
  refine e_clI (as := [.ref 69, .int x1]) (rest := []) o_231_2 rfl rfl (x_okd cl_231_209 ml_209 (Nat.le_of_ble_eq_true rfl) (Nat.le_of_ble_eq_true rfl)) (x_rc0 (ci := 9) (sk_69 (h := h) hs) mo_209) k ?_
  rintro v2 h1 ⟨sh1, k⟩
  refine e_i0_0 o_231_5 (fun z => ?_) (fun z => ?_)
  · have k := k.1 z
    refine e_c (-1) o_231_15 rfl ?_
    exact e_retI o_231_16 k
  · have k := k.2 z
    refine e_il o_231_8 rfl ?_
    refine e_clI (as := [.int x2]) (rest := []) o_231_9 rfl rfl (x_okd cl_231_229 ml_229 (Nat.le_of_ble_eq_true rfl) (Nat.le_of_ble_eq_true rfl)) (rfl) k ?_
    rintro v4 h3 ⟨sh3, k⟩
    refine e_i0_1 o_231_12 (fun z => ?_) (fun z => ?_)
    · have k := k.1 z
      refine e_al o_231_17 rfl ?_
      refine e_clV (as := [.ref 69]) (rest := []) o_231_18 rfl rfl (x_okd cl_231_210 ml_210 (Nat.le_of_ble_eq_true rfl) (Nat.le_of_ble_eq_true rfl)) (x_rc0 (ci := 9) (sk_69 (h := h3) sh3) mo_210) k ?_
      rintro h5 ⟨sh5, k⟩
      refine e_al o_231_21 rfl ?_
      refine e_il o_231_22 rfl ?_
      refine e_clV (as := [.ref 69, .int x2]) (rest := []) o_231_23 rfl rfl (x_okd cl_231_213 ml_213 (Nat.le_of_ble_eq_true rfl) (Nat.le_of_ble_eq_true rfl)) (x_rc0 (ci := 9) (sk_69 (h := h5) sh5) mo_213) k ?_
      rintro h7 ⟨sh7, k⟩
      refine e_al o_231_26 rfl ?_
      refine e_gR (r := 109) o_231_27 (sk_69 (h := h7) sh7) (sr_69_60 (h := h7) sh7) (by decide) ?_
      refine e_c 8 o_231_30 rfl ?_
      refine e_il o_231_32 rfl ?_
      refine e_bin o_231_33 rfl ?_
      obtain ⟨q, k⟩ := k
      refine e_ia (n := 20) o_231_34 (sk_109 (h := h7) sh7) (sn_109 (h := h7) sh7) q ?_
      exact e_retI o_231_35 k
    · have k := k.2 z
      refine e_c (-1) o_231_15 rfl ?_
      exact e_retI o_231_16 k
set_option maxHeartbeats 4000000 in
set_option maxRecDepth 100000 in
theorem B_232_0 {x1 : Int32} {h : XH} {Q : Value → XH → Prop} (hs : Sh h) (k : ClI 207 [.int x1, .int 0, .int 1] h (fun v2 h1 => Sh h1 ∧ (((¬ v2 = 0) → ClV 210 [.ref 69] h1 (fun h3 => Sh h3 ∧ (Ev 232 17 [.ref 69, .int x1, .int 0, .null] [] h3 Q))) ∧ (¬ (¬ v2 = 0) → Q (.int (-1)) h1)))) : Ev 232 0 (x_ini 232 [.ref 69, .int x1]) [] h Q := by
  rw [show x_ini 232 [.ref 69, .int x1] = [.ref 69, .int x1, .null, .null] from x_inid ml_232 rfl]
  refine e_il o_232_0 rfl ?_
  refine e_c 0 o_232_1 rfl ?_
  refine e_c 1 o_232_2 rfl ?_
  refine e_clI (as := [.int x1, .int 0, .int 1]) (rest := []) o_232_3 rfl rfl (x_okd cl_232_207 ml_207 (Nat.le_of_ble_eq_true rfl) (Nat.le_of_ble_eq_true rfl)) (rfl) k ?_
  rintro v2 h1 ⟨sh1, k⟩
  refine e_i0_1 o_232_6 (fun z => ?_) (fun z => ?_)
  · have k := k.1 z
    refine e_al o_232_11 rfl ?_
    refine e_clV (as := [.ref 69]) (rest := []) o_232_12 rfl rfl (x_okd cl_232_210 ml_210 (Nat.le_of_ble_eq_true rfl) (Nat.le_of_ble_eq_true rfl)) (x_rc0 (ci := 9) (sk_69 (h := h1) sh1) mo_210) k ?_
    rintro h3 ⟨sh3, k⟩
    refine e_c 0 o_232_15 rfl ?_
    refine e_is (ls' := [.ref 69, .int x1, .int 0, .null]) o_232_16 (Nat.le_of_ble_eq_true rfl) rfl ?_
    exact Ev.less (ls := [.ref 69, .int x1, .int 0, .null]) ⟨Or.inr rfl, Or.inr rfl, Or.inr rfl, Or.inl rfl, trivial⟩ k
  · have k := k.2 z
    refine e_c (-1) o_232_9 rfl ?_
    exact e_retI o_232_10 k
set_option maxHeartbeats 4000000 in
set_option maxRecDepth 100000 in
theorem B_232_17 {x1 : Int32} {x2 : Int32} {h : XH} {Q : Value → XH → Prop} (hs : Sh h) (k : ((300 < x2) → Q (.int (-2)) h) ∧ (¬ (300 < x2) → ClI 223 [.ref 69] h (fun v2 h1 => Sh h1 ∧ (ClI 165 [.ref 69] h1 (fun v4 h3 => Sh h3 ∧ (InB x2 301 ∧ (Ev 232 45 [.ref 69, .int x1, .int x2, .int 0] [] (xsI h3 114 (tn x2) ((15625 * v2) + v4)) Q))))))) : Ev 232 17 [.ref 69, .int x1, .int x2, .null] [] h Q := by
  refine e_il o_232_17 rfl ?_
  refine e_c 300 o_232_18 rfl ?_
  refine e_if_4 o_232_21 (fun z => ?_) (fun z => ?_)
  · have k := k.1 z
    refine e_c (-2) o_232_91 rfl ?_
    exact e_retI o_232_93 k
  · have k := k.2 z
    refine e_al o_232_24 rfl ?_
    refine e_gR (r := 114) o_232_25 (sk_69 (h := h) hs) (sr_69_67 (h := h) hs) (by decide) ?_
    refine e_il o_232_28 rfl ?_
    refine e_c 15625 o_232_29 rfl ?_
    refine e_al o_232_32 rfl ?_
    refine e_clI (as := [.ref 69]) (rest := [.int 15625, .int x2, .ref 114]) o_232_33 rfl rfl (x_okd cl_232_223 ml_223 (Nat.le_of_ble_eq_true rfl) (Nat.le_of_ble_eq_true rfl)) (x_rc0 (ci := 9) (sk_69 (h := h) hs) mo_223) k ?_
    rintro v2 h1 ⟨sh1, k⟩
    refine e_bin o_232_36 rfl ?_
    refine e_al o_232_37 rfl ?_
    refine e_clI (as := [.ref 69]) (rest := [.int (15625 * v2), .int x2, .ref 114]) o_232_38 rfl rfl (x_okd cl_232_165 ml_165 (Nat.le_of_ble_eq_true rfl) (Nat.le_of_ble_eq_true rfl)) (x_rc0 (ci := 9) (sk_69 (h := h1) sh1) mo_165) k ?_
    rintro v4 h3 ⟨sh3, k⟩
    refine e_bin o_232_41 rfl ?_
    obtain ⟨q, k⟩ := k
    refine e_ias (n := 301) o_232_42 (sk_114 (h := h3) sh3) (by decide) (sn_114 (h := h3) sh3) q ?_
    refine e_c 0 o_232_43 rfl ?_
    refine e_is (ls' := [.ref 69, .int x1, .int x2, .int 0]) o_232_44 (Nat.le_of_ble_eq_true rfl) rfl ?_
    exact Ev.less (ls := [.ref 69, .int x1, .int x2, .int 0]) ⟨Or.inr rfl, Or.inr rfl, Or.inr rfl, Or.inr rfl, trivial⟩ k
set_option maxHeartbeats 4000000 in
set_option maxRecDepth 100000 in
theorem B_232_45 {x1 : Int32} {x2 : Int32} {x3 : Int32} {h : XH} {Q : Value → XH → Prop} (hs : Sh h) (k : ((x2 ≤ x3) → ClV 214 [.ref 69] h (fun h1 => Sh h1 ∧ (Ev 232 17 [.ref 69, .int x1, .int (x2 + 1), .null] [] h1 Q))) ∧ (¬ (x2 ≤ x3) → InB x3 301 ∧ (InB x2 301 ∧ (((¬ (xI h 114 (tn x3)) = (xI h 114 (tn x2))) → Ev 232 45 [.ref 69, .int x1, .int x2, .int (x3 + 1)] [] h Q) ∧ (¬ (¬ (xI h 114 (tn x3)) = (xI h 114 (tn x2))) → ((¬ x1 = 0) → Q (.int x3) h) ∧ (¬ (¬ x1 = 0) → Q (.int x2) h)))))) : Ev 232 45 [.ref 69, .int x1, .int x2, .int x3] [] h Q := by
  refine e_il o_232_45 rfl ?_
  refine e_il o_232_46 rfl ?_
  refine e_if_3 o_232_47 (fun z => ?_) (fun z => ?_)
  · have k := k.1 z
    refine e_al o_232_81 rfl ?_
    refine e_clV (as := [.ref 69]) (rest := []) o_232_82 rfl rfl (x_okd cl_232_214 ml_214 (Nat.le_of_ble_eq_true rfl) (Nat.le_of_ble_eq_true rfl)) (x_rc0 (ci := 9) (sk_69 (h := h) hs) mo_214) k ?_
    rintro h1 ⟨sh1, k⟩
    refine e_inc (ls' := [.ref 69, .int x1, .int (x2 + 1), .int x3]) o_232_85 rfl rfl rfl ?_
    refine e_go o_232_88 ?_
    exact Ev.less (ls := [.ref 69, .int x1, .int (x2 + 1), .null]) ⟨Or.inr rfl, Or.inr rfl, Or.inr rfl, Or.inl rfl, trivial⟩ k
  · have k := k.2 z
    refine e_al o_232_50 rfl ?_
    refine e_gR (r := 114) o_232_51 (sk_69 (h := h) hs) (sr_69_67 (h := h) hs) (by decide) ?_
    refine e_il o_232_54 rfl ?_
    obtain ⟨q, k⟩ := k
    refine e_ia (n := 301) o_232_55 (sk_114 (h := h) hs) (sn_114 (h := h) hs) q ?_
    refine e_al o_232_56 rfl ?_
    refine e_gR (r := 114) o_232_57 (sk_69 (h := h) hs) (sr_69_67 (h := h) hs) (by decide) ?_
    refine e_il o_232_60 rfl ?_
    obtain ⟨q, k⟩ := k
    refine e_ia (n := 301) o_232_61 (sk_114 (h := h) hs) (sn_114 (h := h) hs) q ?_
    refine e_if_1 o_232_62 (fun z => ?_) (fun z => ?_)
    · have k := k.1 z
      refine e_inc (ls' := [.ref 69, .int x1, .int x2, .int (x3 + 1)]) o_232_75 rfl rfl rfl ?_
      refine e_go o_232_78 ?_
      exact Ev.less (ls := [.ref 69, .int x1, .int x2, .int (x3 + 1)]) ⟨Or.inr rfl, Or.inr rfl, Or.inr rfl, Or.inr rfl, trivial⟩ k
    · have k := k.2 z
      refine e_il o_232_65 rfl ?_
      refine e_i0_1 o_232_66 (fun z => ?_) (fun z => ?_)
      · have k := k.1 z
        refine e_il o_232_73 rfl ?_
        exact e_retI o_232_74 k
      · have k := k.2 z
        refine e_il o_232_69 rfl ?_
        refine e_go o_232_70 ?_
        exact e_retI o_232_74 k
set_option maxHeartbeats 4000000 in
set_option maxRecDepth 100000 in
theorem B_233_0 {x1 : Int32} {x2 : Int32} {x3 : Int32} {h : XH} {Q : Value → XH → Prop} (hs : Sh h) (k : ClI 209 [.ref 69, .int x1] h (fun v2 h1 => Sh h1 ∧ (((v2 = 0) → Q (.int (-1)) h1) ∧ (¬ (v2 = 0) → ClI 207 [.int x2, .int 0, .int 100] h1 (fun v4 h3 => Sh h3 ∧ (((v4 = 0) → Q (.int (-1)) h3) ∧ (¬ (v4 = 0) → ClI 207 [.int x3, .int 1, .int 20] h3 (fun v6 h5 => Sh h5 ∧ (((¬ v6 = 0) → Ev 233 36 [.ref 69, .int x1, .int x2, .int x3, .int 0, .int 0] [] h5 Q) ∧ (¬ (¬ v6 = 0) → Q (.int (-1)) h5)))))))))) : Ev 233 0 (x_ini 233 [.ref 69, .int x1, .int x2, .int x3]) [] h Q := by
  rw [show x_ini 233 [.ref 69, .int x1, .int x2, .int x3] = [.ref 69, .int x1, .int x2, .int x3, .null, .null] from x_inid ml_233 rfl]
  refine e_al o_233_0 rfl ?_
  refine e_il o_233_1 rfl ?_
  refine e_clI (as := [.ref 69, .int x1]) (rest := []) o_233_2 rfl rfl (x_okd cl_233_209 ml_209 (Nat.le_of_ble_eq_true rfl) (Nat.le_of_ble_eq_true rfl)) (x_rc0 (ci := 9) (sk_69 (h := h) hs) mo_209) k ?_
  rintro v2 h1 ⟨sh1, k⟩
  refine e_i0_0 o_233_5 (fun z => ?_) (fun z => ?_)
  · have k := k.1 z
    refine e_c (-1) o_233_28 rfl ?_
    exact e_retI o_233_29 k
  · have k := k.2 z
    refine e_il o_233_8 rfl ?_
    refine e_c 0 o_233_9 rfl ?_
    refine e_c 100 o_233_10 rfl ?_
    refine e_clI (as := [.int x2, .int 0, .int 100]) (rest := []) o_233_12 rfl rfl (x_okd cl_233_207 ml_207 (Nat.le_of_ble_eq_true rfl) (Nat.le_of_ble_eq_true rfl)) (rfl) k ?_
    rintro v4 h3 ⟨sh3, k⟩
    refine e_i0_0 o_233_15 (fun z => ?_) (fun z => ?_)
    · have k := k.1 z
      refine e_c (-1) o_233_28 rfl ?_
      exact e_retI o_233_29 k
    · have k := k.2 z
      refine e_il o_233_18 rfl ?_
      refine e_c 1 o_233_19 rfl ?_
      refine e_c 20 o_233_20 rfl ?_
      refine e_clI (as := [.int x3, .int 1, .int 20]) (rest := []) o_233_22 rfl rfl (x_okd cl_233_207 ml_207 (Nat.le_of_ble_eq_true rfl) (Nat.le_of_ble_eq_true rfl)) (rfl) k ?_
      rintro v6 h5 ⟨sh5, k⟩
      refine e_i0_1 o_233_25 (fun z => ?_) (fun z => ?_)
      · have k := k.1 z
        refine e_c 0 o_233_30 rfl ?_
        refine e_is (ls' := [.ref 69, .int x1, .int x2, .int x3, .int 0, .null]) o_233_31 (Nat.le_of_ble_eq_true rfl) rfl ?_
        refine e_c 0 o_233_33 rfl ?_
        refine e_is (ls' := [.ref 69, .int x1, .int x2, .int x3, .int 0, .int 0]) o_233_34 (Nat.le_of_ble_eq_true rfl) rfl ?_
        exact Ev.less (ls := [.ref 69, .int x1, .int x2, .int x3, .int 0, .int 0]) ⟨Or.inr rfl, Or.inr rfl, Or.inr rfl, Or.inr rfl, Or.inr rfl, Or.inr rfl, trivial⟩ k
      · have k := k.2 z
        refine e_c (-1) o_233_28 rfl ?_
        exact e_retI o_233_29 k
set_option maxHeartbeats 4000000 in
set_option maxRecDepth 100000 in
theorem B_233_36 {x1 : Int32} {x2 : Int32} {x3 : Int32} {x4 : Int32} {x5 : Int32} {h : XH} {Q : Value → XH → Prop} (hs : Sh h) (k : ((x3 ≤ x5) → Q (.int x4) h) ∧ (¬ (x3 ≤ x5) → ClV 210 [.ref 69] h (fun h1 => Sh h1 ∧ (ClV 213 [.ref 69, .int x2] (xsI h1 69 61 ((xI h1 69 61) + x5)) (fun h3 => Sh h3 ∧ (ClI 226 [.ref 69, .int x1] h3 (fun v6 h5 => Sh h5 ∧ (((v6 = 0) → Ev 233 36 [.ref 69, .int x1, .int x2, .int x3, .int x4, .int (x5 + 1)] [] h5 Q) ∧ (¬ (v6 = 0) → Ev 233 36 [.ref 69, .int x1, .int x2, .int x3, .int (x4 + 1), .int (x5 + 1)] [] h5 Q))))))))) : Ev 233 36 [.ref 69, .int x1, .int x2, .int x3, .int x4, .int x5] [] h Q := by
  refine e_il o_233_36 rfl ?_
  refine e_il o_233_38 rfl ?_
  refine e_if_3 o_233_39 (fun z => ?_) (fun z => ?_)
  · have k := k.1 z
    refine e_il o_233_79 rfl ?_
    exact e_retI o_233_81 k
  · have k := k.2 z
    refine e_al o_233_42 rfl ?_
    refine e_clV (as := [.ref 69]) (rest := []) o_233_43 rfl rfl (x_okd cl_233_210 ml_210 (Nat.le_of_ble_eq_true rfl) (Nat.le_of_ble_eq_true rfl)) (x_rc0 (ci := 9) (sk_69 (h := h) hs) mo_210) k ?_
    rintro h1 ⟨sh1, k⟩
    refine e_al o_233_46 rfl ?_
    refine e_dup o_233_47 rfl ?_
    refine e_gI o_233_48 (sk_69 (h := h1) sh1) ?_
    refine e_il o_233_51 rfl ?_
    refine e_bin o_233_53 rfl ?_
    refine e_pI o_233_54 (sk_69 (h := h1) sh1) ?_
    refine e_al o_233_57 rfl ?_
    refine e_il o_233_58 rfl ?_
    refine e_clV (as := [.ref 69, .int x2]) (rest := []) o_233_59 rfl rfl (x_okd cl_233_213 ml_213 (Nat.le_of_ble_eq_true rfl) (Nat.le_of_ble_eq_true rfl)) (x_rc0 (ci := 9) (sk_69 (h := h1) sh1) mo_213) k ?_
    rintro h3 ⟨sh3, k⟩
    refine e_al o_233_62 rfl ?_
    refine e_il o_233_63 rfl ?_
    refine e_clI (as := [.ref 69, .int x1]) (rest := []) o_233_64 rfl rfl (x_okd cl_233_226 ml_226 (Nat.le_of_ble_eq_true rfl) (Nat.le_of_ble_eq_true rfl)) (x_rc0 (ci := 9) (sk_69 (h := h3) sh3) mo_226) k ?_
    rintro v6 h5 ⟨sh5, k⟩
    refine e_i0_0 o_233_67 (fun z => ?_) (fun z => ?_)
    · have k := k.1 z
      refine e_inc (ls' := [.ref 69, .int x1, .int x2, .int x3, .int x4, .int (x5 + 1)]) o_233_73 rfl rfl rfl ?_
      refine e_go o_233_76 ?_
      exact Ev.less (ls := [.ref 69, .int x1, .int x2, .int x3, .int x4, .int (x5 + 1)]) ⟨Or.inr rfl, Or.inr rfl, Or.inr rfl, Or.inr rfl, Or.inr rfl, Or.inr rfl, trivial⟩ k
    · have k := k.2 z
      refine e_inc (ls' := [.ref 69, .int x1, .int x2, .int x3, .int (x4 + 1), .int x5]) o_233_70 rfl rfl rfl ?_
      refine e_inc (ls' := [.ref 69, .int x1, .int x2, .int x3, .int (x4 + 1), .int (x5 + 1)]) o_233_73 rfl rfl rfl ?_
      refine e_go o_233_76 ?_
      exact Ev.less (ls := [.ref 69, .int x1, .int x2, .int x3, .int (x4 + 1), .int (x5 + 1)]) ⟨Or.inr rfl, Or.inr rfl, Or.inr rfl, Or.inr rfl, Or.inr rfl, Or.inr rfl, trivial⟩ k
set_option maxHeartbeats 4000000 in
set_option maxRecDepth 100000 in
theorem B_234_0 {x1 : Int32} {x2 : Int32} {h : XH} {Q : Value → XH → Prop} (hs : Sh h) (k : ClI 209 [.ref 69, .int x1] h (fun v2 h1 => Sh h1 ∧ (((v2 = 0) → Q (.int (-1)) h1) ∧ (¬ (v2 = 0) → ClI 207 [.int x2, .int 0, .int 1] h1 (fun v4 h3 => Sh h3 ∧ (((¬ v4 = 0) → ClV 210 [.ref 69] h3 (fun h5 => Sh h5 ∧ (ClI 223 [.ref 69] h5 (fun v8 h7 => Sh h7 ∧ (ClI 226 [.ref 69, .int x1] h7 (fun v10 h9 => Sh h9 ∧ (((v10 = 0) → Ev 234 57 [.ref 69, .int x1, .int x2, .null, .int (-2), .int (-2), .int 0, .null] [] h9 Q) ∧ (¬ (v10 = 0) → ((¬ x2 = 0) → Q (.int v8) h9) ∧ (¬ (¬ x2 = 0) → Q (.int 0) h9))))))))) ∧ (¬ (¬ v4 = 0) → Q (.int (-1)) h3))))))) : Ev 234 0 (x_ini 234 [.ref 69, .int x1, .int x2]) [] h Q := by
  rw [show x_ini 234 [.ref 69, .int x1, .int x2] = [.ref 69, .int x1, .int x2, .null, .null, .null, .null, .null] from x_inid ml_234 rfl]
  refine e_al o_234_0 rfl ?_
  refine e_il o_234_1 rfl ?_
  refine e_clI (as := [.ref 69, .int x1]) (rest := []) o_234_2 rfl rfl (x_okd cl_234_209 ml_209 (Nat.le_of_ble_eq_true rfl) (Nat.le_of_ble_eq_true rfl)) (x_rc0 (ci := 9) (sk_69 (h := h) hs) mo_209) k ?_
  rintro v2 h1 ⟨sh1, k⟩
  refine e_i0_0 o_234_5 (fun z => ?_) (fun z => ?_)
  · have k := k.1 z
    refine e_c (-1) o_234_17 rfl ?_
    exact e_retI o_234_18 k
  · have k := k.2 z
    refine e_il o_234_8 rfl ?_
    refine e_c 0 o_234_9 rfl ?_
    refine e_c 1 o_234_10 rfl ?_
    refine e_clI (as := [.int x2, .int 0, .int 1]) (rest := []) o_234_11 rfl rfl (x_okd cl_234_207 ml_207 (Nat.le_of_ble_eq_true rfl) (Nat.le_of_ble_eq_true rfl)) (rfl) k ?_
    rintro v4 h3 ⟨sh3, k⟩
    refine e_i0_1 o_234_14 (fun z => ?_) (fun z => ?_)
    · have k := k.1 z
      refine e_al o_234_19 rfl ?_
      refine e_clV (as := [.ref 69]) (rest := []) o_234_20 rfl rfl (x_okd cl_234_210 ml_210 (Nat.le_of_ble_eq_true rfl) (Nat.le_of_ble_eq_true rfl)) (x_rc0 (ci := 9) (sk_69 (h := h3) sh3) mo_210) k ?_
      rintro h5 ⟨sh5, k⟩
      refine e_al o_234_23 rfl ?_
      refine e_clI (as := [.ref 69]) (rest := []) o_234_24 rfl rfl (x_okd cl_234_223 ml_223 (Nat.le_of_ble_eq_true rfl) (Nat.le_of_ble_eq_true rfl)) (x_rc0 (ci := 9) (sk_69 (h := h5) sh5) mo_223) k ?_
      rintro v8 h7 ⟨sh7, k⟩
      refine e_is (ls' := [.ref 69, .int x1, .int x2, .int v8, .null, .null, .null, .null]) o_234_27 (Nat.le_of_ble_eq_true rfl) rfl ?_
      refine e_al o_234_28 rfl ?_
      refine e_il o_234_29 rfl ?_
      refine e_clI (as := [.ref 69, .int x1]) (rest := []) o_234_30 rfl rfl (x_okd cl_234_226 ml_226 (Nat.le_of_ble_eq_true rfl) (Nat.le_of_ble_eq_true rfl)) (x_rc0 (ci := 9) (sk_69 (h := h7) sh7) mo_226) k ?_
      rintro v10 h9 ⟨sh9, k⟩
      refine e_i0_0 o_234_33 (fun z => ?_) (fun z => ?_)
      · have k := k.1 z
        refine e_c (-2) o_234_46 rfl ?_
        refine e_is (ls' := [.ref 69, .int x1, .int x2, .int v8, .int (-2), .null, .null, .null]) o_234_48 (Nat.le_of_ble_eq_true rfl) rfl ?_
        refine e_c (-2) o_234_50 rfl ?_
        refine e_is (ls' := [.ref 69, .int x1, .int x2, .int v8, .int (-2), .int (-2), .null, .null]) o_234_52 (Nat.le_of_ble_eq_true rfl) rfl ?_
        refine e_c 0 o_234_54 rfl ?_
        refine e_is (ls' := [.ref 69, .int x1, .int x2, .int v8, .int (-2), .int (-2), .int 0, .null]) o_234_55 (Nat.le_of_ble_eq_true rfl) rfl ?_
        exact Ev.less (ls := [.ref 69, .int x1, .int x2, .null, .int (-2), .int (-2), .int 0, .null]) ⟨Or.inr rfl, Or.inr rfl, Or.inr rfl, Or.inl rfl, Or.inr rfl, Or.inr rfl, Or.inr rfl, Or.inl rfl, trivial⟩ k
      · have k := k.2 z
        refine e_il o_234_36 rfl ?_
        refine e_i0_1 o_234_37 (fun z => ?_) (fun z => ?_)
        · have k := k.1 z
          refine e_il o_234_44 rfl ?_
          exact e_retI o_234_45 k
        · have k := k.2 z
          refine e_c 0 o_234_40 rfl ?_
          refine e_go o_234_41 ?_
          exact e_retI o_234_45 k
    · have k := k.2 z
      refine e_c (-1) o_234_17 rfl ?_
      exact e_retI o_234_18 k
set_option maxHeartbeats 4000000 in
set_option maxRecDepth 100000 in
theorem B_234_57 {x1 : Int32} {x2 : Int32} {x4 : Int32} {x5 : Int32} {x6 : Int32} {h : XH} {Q : Value → XH → Prop} (hs : Sh h) (k : InB (xI h 69 18) 2 ∧ ((((xI h 83 (tn (xI h 69 18))) ≤ x6) → ((¬ x2 = 0) → Q (.int x4) h) ∧ (¬ (¬ x2 = 0) → Q (.int x5) h)) ∧ (¬ ((xI h 83 (tn (xI h 69 18))) ≤ x6) → ClI 235 [.ref 69, .int x6] h (fun v2 h1 => Sh h1 ∧ (((v2 = 0) → Ev 234 57 [.ref 69, .int x1, .int x2, .null, .int x4, .int x5, .int (x6 + 1), .null] [] h1 Q) ∧ (¬ (v2 = 0) → ((x4 < 0) → ClV 237 [.ref 69, .int x6] h1 (fun h3 => Sh h3 ∧ (ClI 226 [.ref 69, .int x1] h3 (fun v6 h5 => Sh h5 ∧ (((¬ v6 = 0) → Ev 234 57 [.ref 69, .int x1, .int x2, .null, .int x6, .int v2, .int (x6 + 1), .null] [] h5 Q) ∧ (¬ (¬ v6 = 0) → Ev 234 57 [.ref 69, .int x1, .int x2, .null, .int x4, .int x5, .int (x6 + 1), .null] [] h5 Q)))))) ∧ (¬ (x4 < 0) → ((v2 < x5) → ClV 237 [.ref 69, .int x6] h1 (fun h7 => Sh h7 ∧ (ClI 226 [.ref 69, .int x1] h7 (fun v10 h9 => Sh h9 ∧ (((¬ v10 = 0) → Ev 234 57 [.ref 69, .int x1, .int x2, .null, .int x6, .int v2, .int (x6 + 1), .null] [] h9 Q) ∧ (¬ (¬ v10 = 0) → Ev 234 57 [.ref 69, .int x1, .int x2, .null, .int x4, .int x5, .int (x6 + 1), .null] [] h9 Q)))))) ∧ (¬ (v2 < x5) → Ev 234 57 [.ref 69, .int x1, .int x2, .null, .int x4, .int x5, .int (x6 + 1), .null] [] h1 Q)))))))) : Ev 234 57 [.ref 69, .int x1, .int x2, .null, .int x4, .int x5, .int x6, .null] [] h Q := by
  refine e_il o_234_57 rfl ?_
  refine e_al o_234_59 rfl ?_
  refine e_gR (r := 83) o_234_60 (sk_69 (h := h) hs) (sr_69_27 (h := h) hs) (by decide) ?_
  refine e_al o_234_63 rfl ?_
  refine e_gI o_234_64 (sk_69 (h := h) hs) ?_
  obtain ⟨q, k⟩ := k
  refine e_ia (n := 2) o_234_67 (sk_83 (h := h) hs) (sn_83 (h := h) hs) q ?_
  refine e_if_3 o_234_68 (fun z => ?_) (fun z => ?_)
  · have k := k.1 z
    refine e_il o_234_130 rfl ?_
    refine e_i0_1 o_234_131 (fun z => ?_) (fun z => ?_)
    · have k := k.1 z
      refine e_il o_234_139 rfl ?_
      exact e_retI o_234_141 k
    · have k := k.2 z
      refine e_il o_234_134 rfl ?_
      refine e_go o_234_136 ?_
      exact e_retI o_234_141 k
  · have k := k.2 z
    refine e_al o_234_71 rfl ?_
    refine e_il o_234_72 rfl ?_
    refine e_clI (as := [.ref 69, .int x6]) (rest := []) o_234_74 rfl rfl (x_okd cl_234_235 ml_235 (Nat.le_of_ble_eq_true rfl) (Nat.le_of_ble_eq_true rfl)) (x_rc0 (ci := 9) (sk_69 (h := h) hs) mo_235) k ?_
    rintro v2 h1 ⟨sh1, k⟩
    refine e_is (ls' := [.ref 69, .int x1, .int x2, .null, .int x4, .int x5, .int x6, .int v2]) o_234_77 (Nat.le_of_ble_eq_true rfl) rfl ?_
    refine e_il o_234_79 rfl ?_
    refine e_i0_0 o_234_81 (fun z => ?_) (fun z => ?_)
    · have k := k.1 z
      refine e_inc (ls' := [.ref 69, .int x1, .int x2, .null, .int x4, .int x5, .int (x6 + 1), .int v2]) o_234_124 rfl rfl rfl ?_
      refine e_go o_234_127 ?_
      exact Ev.less (ls := [.ref 69, .int x1, .int x2, .null, .int x4, .int x5, .int (x6 + 1), .null]) ⟨Or.inr rfl, Or.inr rfl, Or.inr rfl, Or.inl rfl, Or.inr rfl, Or.inr rfl, Or.inr rfl, Or.inl rfl, trivial⟩ k
    · have k := k.2 z
      refine e_il o_234_84 rfl ?_
      refine e_i0_2 o_234_86 (fun z => ?_) (fun z => ?_)
      · have k := k.1 z
        refine e_al o_234_99 rfl ?_
        refine e_il o_234_100 rfl ?_
        refine e_clV (as := [.ref 69, .int x6]) (rest := []) o_234_102 rfl rfl (x_okd cl_234_237 ml_237 (Nat.le_of_ble_eq_true rfl) (Nat.le_of_ble_eq_true rfl)) (x_rc0 (ci := 9) (sk_69 (h := h1) sh1) mo_237) k ?_
        rintro h3 ⟨sh3, k⟩
        refine e_al o_234_105 rfl ?_
        refine e_il o_234_106 rfl ?_
        refine e_clI (as := [.ref 69, .int x1]) (rest := []) o_234_107 rfl rfl (x_okd cl_234_226 ml_226 (Nat.le_of_ble_eq_true rfl) (Nat.le_of_ble_eq_true rfl)) (x_rc0 (ci := 9) (sk_69 (h := h3) sh3) mo_226) k ?_
        rintro v6 h5 ⟨sh5, k⟩
        refine e_i0_1 o_234_110 (fun z => ?_) (fun z => ?_)
        · have k := k.1 z
          refine e_il o_234_116 rfl ?_
          refine e_is (ls' := [.ref 69, .int x1, .int x2, .null, .int x6, .int x5, .int x6, .int v2]) o_234_118 (Nat.le_of_ble_eq_true rfl) rfl ?_
          refine e_il o_234_120 rfl ?_
          refine e_is (ls' := [.ref 69, .int x1, .int x2, .null, .int x6, .int v2, .int x6, .int v2]) o_234_122 (Nat.le_of_ble_eq_true rfl) rfl ?_
          refine e_inc (ls' := [.ref 69, .int x1, .int x2, .null, .int x6, .int v2, .int (x6 + 1), .int v2]) o_234_124 rfl rfl rfl ?_
          refine e_go o_234_127 ?_
          exact Ev.less (ls := [.ref 69, .int x1, .int x2, .null, .int x6, .int v2, .int (x6 + 1), .null]) ⟨Or.inr rfl, Or.inr rfl, Or.inr rfl, Or.inl rfl, Or.inr rfl, Or.inr rfl, Or.inr rfl, Or.inl rfl, trivial⟩ k
        · have k := k.2 z
          refine e_go o_234_113 ?_
          refine e_inc (ls' := [.ref 69, .int x1, .int x2, .null, .int x4, .int x5, .int (x6 + 1), .int v2]) o_234_124 rfl rfl rfl ?_
          refine e_go o_234_127 ?_
          exact Ev.less (ls := [.ref 69, .int x1, .int x2, .null, .int x4, .int x5, .int (x6 + 1), .null]) ⟨Or.inr rfl, Or.inr rfl, Or.inr rfl, Or.inl rfl, Or.inr rfl, Or.inr rfl, Or.inr rfl, Or.inl rfl, trivial⟩ k
      · have k := k.2 z
        refine e_il o_234_89 rfl ?_
        refine e_il o_234_91 rfl ?_
        refine e_if_2 o_234_93 (fun z => ?_) (fun z => ?_)
        · have k := k.1 z
          refine e_al o_234_99 rfl ?_
          refine e_il o_234_100 rfl ?_
          refine e_clV (as := [.ref 69, .int x6]) (rest := []) o_234_102 rfl rfl (x_okd cl_234_237 ml_237 (Nat.le_of_ble_eq_true rfl) (Nat.le_of_ble_eq_true rfl)) (x_rc0 (ci := 9) (sk_69 (h := h1) sh1) mo_237) k ?_
          rintro h7 ⟨sh7, k⟩
          refine e_al o_234_105 rfl ?_
          refine e_il o_234_106 rfl ?_
          refine e_clI (as := [.ref 69, .int x1]) (rest := []) o_234_107 rfl rfl (x_okd cl_234_226 ml_226 (Nat.le_of_ble_eq_true rfl) (Nat.le_of_ble_eq_true rfl)) (x_rc0 (ci := 9) (sk_69 (h := h7) sh7) mo_226) k ?_
          rintro v10 h9 ⟨sh9, k⟩
          refine e_i0_1 o_234_110 (fun z => ?_) (fun z => ?_)
          · have k := k.1 z
            refine e_il o_234_116 rfl ?_
            refine e_is (ls' := [.ref 69, .int x1, .int x2, .null, .int x6, .int x5, .int x6, .int v2]) o_234_118 (Nat.le_of_ble_eq_true rfl) rfl ?_
            refine e_il o_234_120 rfl ?_
            refine e_is (ls' := [.ref 69, .int x1, .int x2, .null, .int x6, .int v2, .int x6, .int v2]) o_234_122 (Nat.le_of_ble_eq_true rfl) rfl ?_
            refine e_inc (ls' := [.ref 69, .int x1, .int x2, .null, .int x6, .int v2, .int (x6 + 1), .int v2]) o_234_124 rfl rfl rfl ?_
            refine e_go o_234_127 ?_
            exact Ev.less (ls := [.ref 69, .int x1, .int x2, .null, .int x6, .int v2, .int (x6 + 1), .null]) ⟨Or.inr rfl, Or.inr rfl, Or.inr rfl, Or.inl rfl, Or.inr rfl, Or.inr rfl, Or.inr rfl, Or.inl rfl, trivial⟩ k
          · have k := k.2 z
            refine e_go o_234_113 ?_
            refine e_inc (ls' := [.ref 69, .int x1, .int x2, .null, .int x4, .int x5, .int (x6 + 1), .int v2]) o_234_124 rfl rfl rfl ?_
            refine e_go o_234_127 ?_
            exact Ev.less (ls := [.ref 69, .int x1, .int x2, .null, .int x4, .int x5, .int (x6 + 1), .null]) ⟨Or.inr rfl, Or.inr rfl, Or.inr rfl, Or.inl rfl, Or.inr rfl, Or.inr rfl, Or.inr rfl, Or.inl rfl, trivial⟩ k
        · have k := k.2 z
          refine e_go o_234_96 ?_
          refine e_inc (ls' := [.ref 69, .int x1, .int x2, .null, .int x4, .int x5, .int (x6 + 1), .int v2]) o_234_124 rfl rfl rfl ?_
          refine e_go o_234_127 ?_
          exact Ev.less (ls := [.ref 69, .int x1, .int x2, .null, .int x4, .int x5, .int (x6 + 1), .null]) ⟨Or.inr rfl, Or.inr rfl, Or.inr rfl, Or.inl rfl, Or.inr rfl, Or.inr rfl, Or.inr rfl, Or.inl rfl, trivial⟩ k
set_option maxHeartbeats 4000000 in
set_option maxRecDepth 100000 in
theorem B_235_0 {x1 : Int32} {h : XH} {Q : Value → XH → Prop} (hs : Sh h) (k : Ev 235 4 [.ref 69, .int x1, .int 0, .int 0] [] h Q) : Ev 235 0 (x_ini 235 [.ref 69, .int x1]) [] h Q := by
  rw [show x_ini 235 [.ref 69, .int x1] = [.ref 69, .int x1, .null, .null] from x_inid ml_235 rfl]
  refine e_c 0 o_235_0 rfl ?_
  refine e_is (ls' := [.ref 69, .int x1, .int 0, .null]) o_235_1 (Nat.le_of_ble_eq_true rfl) rfl ?_
  refine e_c 0 o_235_2 rfl ?_
  refine e_is (ls' := [.ref 69, .int x1, .int 0, .int 0]) o_235_3 (Nat.le_of_ble_eq_true rfl) rfl ?_
  exact Ev.less (ls := [.ref 69, .int x1, .int 0, .int 0]) ⟨Or.inr rfl, Or.inr rfl, Or.inr rfl, Or.inr rfl, trivial⟩ k
set_option maxHeartbeats 4000000 in
set_option maxRecDepth 100000 in
theorem B_235_4 {x1 : Int32} {x2 : Int32} {x3 : Int32} {h : XH} {Q : Value → XH → Prop} (hs : Sh h) (k : InB (xI h 69 18) 2 ∧ ((((xI h 79 (tn (xI h 69 18))) ≤ x3) → Q (.int x2) h) ∧ (¬ ((xI h 79 (tn (xI h 69 18))) ≤ x3) → ClI 236 [.ref 69, .int x1, .int x3] h (fun v2 h1 => Sh h1 ∧ (InB x3 20 ∧ (((v2 = (xI h1 108 (tn x3))) → Ev 235 4 [.ref 69, .int x1, .int x2, .int (x3 + 1)] [] h1 Q) ∧ (¬ (v2 = (xI h1 108 (tn x3))) → Ev 235 4 [.ref 69, .int x1, .int (x2 + 1), .int (x3 + 1)] [] h1 Q))))))) : Ev 235 4 [.ref 69, .int x1, .int x2, .int x3] [] h Q := by
  refine e_il o_235_4 rfl ?_
  refine e_al o_235_5 rfl ?_
  refine e_gR (r := 79) o_235_6 (sk_69 (h := h) hs) (sr_69_23 (h := h) hs) (by decide) ?_
  refine e_al o_235_9 rfl ?_
  refine e_gI o_235_10 (sk_69 (h := h) hs) ?_
  obtain ⟨q, k⟩ := k
  refine e_ia (n := 2) o_235_13 (sk_79 (h := h) hs) (sn_79 (h := h) hs) q ?_
  refine e_if_3 o_235_14 (fun z => ?_) (fun z => ?_)
  · have k := k.1 z
    refine e_il o_235_41 rfl ?_
    exact e_retI o_235_42 k
  · have k := k.2 z
    refine e_al o_235_17 rfl ?_
    refine e_il o_235_18 rfl ?_
    refine e_il o_235_19 rfl ?_
    refine e_clI (as := [.ref 69, .int x1, .int x3]) (rest := []) o_235_20 rfl rfl (x_okd cl_235_236 ml_236 (Nat.le_of_ble_eq_true rfl) (Nat.le_of_ble_eq_true rfl)) (x_rc0 (ci := 9) (sk_69 (h := h) hs) mo_236) k ?_
    rintro v2 h1 ⟨sh1, k⟩
    refine e_al o_235_23 rfl ?_
    refine e_gR (r := 108) o_235_24 (sk_69 (h := h1) sh1) (sr_69_59 (h := h1) sh1) (by decide) ?_
    refine e_il o_235_27 rfl ?_
    obtain ⟨q, k⟩ := k
    refine e_ia (n := 20) o_235_28 (sk_108 (h := h1) sh1) (sn_108 (h := h1) sh1) q ?_
    refine e_if_0 o_235_29 (fun z => ?_) (fun z => ?_)
    · have k := k.1 z
      refine e_inc (ls' := [.ref 69, .int x1, .int x2, .int (x3 + 1)]) o_235_35 rfl rfl rfl ?_
      refine e_go o_235_38 ?_
      exact Ev.less (ls := [.ref 69, .int x1, .int x2, .int (x3 + 1)]) ⟨Or.inr rfl, Or.inr rfl, Or.inr rfl, Or.inr rfl, trivial⟩ k
    · have k := k.2 z
      refine e_inc (ls' := [.ref 69, .int x1, .int (x2 + 1), .int x3]) o_235_32 rfl rfl rfl ?_
      refine e_inc (ls' := [.ref 69, .int x1, .int (x2 + 1), .int (x3 + 1)]) o_235_35 rfl rfl rfl ?_
      refine e_go o_235_38 ?_
      exact Ev.less (ls := [.ref 69, .int x1, .int (x2 + 1), .int (x3 + 1)]) ⟨Or.inr rfl, Or.inr rfl, Or.inr rfl, Or.inr rfl, trivial⟩ k
set_option maxHeartbeats 4000000 in
set_option maxRecDepth 100000 in
theorem B_236_0 {x1 : Int32} {x2 : Int32} {h : XH} {Q : Value → XH → Prop} (hs : Sh h) (k : Ev 236 5 [.ref 69, .null, .int x2, .int x1, .int 0] [] h Q) : Ev 236 0 (x_ini 236 [.ref 69, .int x1, .int x2]) [] h Q := by
  rw [show x_ini 236 [.ref 69, .int x1, .int x2] = [.ref 69, .int x1, .int x2, .null, .null] from x_inid ml_236 rfl]
  refine e_il o_236_0 rfl ?_
  refine e_is (ls' := [.ref 69, .int x1, .int x2, .int x1, .null]) o_236_1 (Nat.le_of_ble_eq_true rfl) rfl ?_
  refine e_c 0 o_236_2 rfl ?_
  refine e_is (ls' := [.ref 69, .int x1, .int x2, .int x1, .int 0]) o_236_3 (Nat.le_of_ble_eq_true rfl) rfl ?_
  exact Ev.less (ls := [.ref 69, .null, .int x2, .int x1, .int 0]) ⟨Or.inr rfl, Or.inl rfl, Or.inr rfl, Or.inr rfl, Or.inr rfl, trivial⟩ k
set_option maxHeartbeats 4000000 in
set_option maxRecDepth 100000 in
theorem B_236_5 {x2 : Int32} {x3 : Int32} {x4 : Int32} {h : XH} {Q : Value → XH → Prop} (hs : Sh h) (k : ((x2 ≤ x4) → InB ((8 * (xI h 69 18)) + x2) 16 ∧ (¬ ((xI h 80 (tn ((8 * (xI h 69 18)) + x2))) + 1) = 0 ∧ (Q (.int (x3 - x3 / ((xI h 80 (tn ((8 * (xI h 69 18)) + x2))) + 1) * ((xI h 80 (tn ((8 * (xI h 69 18)) + x2))) + 1))) h))) ∧ (¬ (x2 ≤ x4) → InB ((8 * (xI h 69 18)) + x4) 16 ∧ (¬ ((xI h 80 (tn ((8 * (xI h 69 18)) + x4))) + 1) = 0 ∧ (Ev 236 5 [.ref 69, .null, .int x2, .int (x3 / ((xI h 80 (tn ((8 * (xI h 69 18)) + x4))) + 1)), .int (x4 + 1)] [] h Q)))) : Ev 236 5 [.ref 69, .null, .int x2, .int x3, .int x4] [] h Q := by
  refine e_il o_236_5 rfl ?_
  refine e_il o_236_7 rfl ?_
  refine e_if_3 o_236_8 (fun z => ?_) (fun z => ?_)
  · have k := k.1 z
    refine e_il o_236_37 rfl ?_
    refine e_al o_236_38 rfl ?_
    refine e_gR (r := 80) o_236_39 (sk_69 (h := h) hs) (sr_69_24 (h := h) hs) (by decide) ?_
    refine e_c 8 o_236_42 rfl ?_
    refine e_al o_236_44 rfl ?_
    refine e_gI o_236_45 (sk_69 (h := h) hs) ?_
    refine e_bin o_236_48 rfl ?_
    refine e_il o_236_49 rfl ?_
    refine e_bin o_236_50 rfl ?_
    obtain ⟨q, k⟩ := k
    refine e_ia (n := 16) o_236_51 (sk_80 (h := h) hs) (sn_80 (h := h) hs) q ?_
    refine e_c 1 o_236_52 rfl ?_
    refine e_bin o_236_53 rfl ?_
    obtain ⟨q, k⟩ := k
    refine e_rem o_236_54 q ?_
    exact e_retI o_236_55 k
  · have k := k.2 z
    refine e_il o_236_11 rfl ?_
    refine e_al o_236_12 rfl ?_
    refine e_gR (r := 80) o_236_13 (sk_69 (h := h) hs) (sr_69_24 (h := h) hs) (by decide) ?_
    refine e_c 8 o_236_16 rfl ?_
    refine e_al o_236_18 rfl ?_
    refine e_gI o_236_19 (sk_69 (h := h) hs) ?_
    refine e_bin o_236_22 rfl ?_
    refine e_il o_236_23 rfl ?_
    refine e_bin o_236_25 rfl ?_
    obtain ⟨q, k⟩ := k
    refine e_ia (n := 16) o_236_26 (sk_80 (h := h) hs) (sn_80 (h := h) hs) q ?_
    refine e_c 1 o_236_27 rfl ?_
    refine e_bin o_236_28 rfl ?_
    obtain ⟨q, k⟩ := k
    refine e_div o_236_29 q ?_
    refine e_is (ls' := [.ref 69, .null, .int x2, .int (x3 / ((xI h 80 (tn ((8 * (xI h 69 18)) + x4))) + 1)), .int x4]) o_236_30 (Nat.le_of_ble_eq_true rfl) rfl ?_
    refine e_inc (ls' := [.ref 69, .null, .int x2, .int (x3 / ((xI h 80 (tn ((8 * (xI h 69 18)) + x4))) + 1)), .int (x4 + 1)]) o_236_31 rfl rfl rfl ?_
    refine e_go o_236_34 ?_
    exact Ev.less (ls := [.ref 69, .null, .int x2, .int (x3 / ((xI h 80 (tn ((8 * (xI h 69 18)) + x4))) + 1)), .int (x4 + 1)]) ⟨Or.inr rfl, Or.inl rfl, Or.inr rfl, Or.inr rfl, Or.inr rfl, trivial⟩ k
set_option maxHeartbeats 4000000 in
set_option maxRecDepth 100000 in
theorem B_237_0 {x1 : Int32} {h : XH} {Q : Value → XH → Prop} (hs : Sh h) (k : ClV 210 [.ref 69] h (fun h1 => Sh h1 ∧ (ClV 163 [.ref 69, .int x1] h1 (fun h3 => Sh h3 ∧ (ClV 164 [.ref 69] h3 (fun h5 => Sh h5 ∧ (Q .null h5))))))) : Ev 237 0 (x_ini 237 [.ref 69, .int x1]) [] h Q := by
  rw [show x_ini 237 [.ref 69, .int x1] = [.ref 69, .int x1] from x_inid ml_237 rfl]
  refine e_al o_237_0 rfl ?_
  refine e_clV (as := [.ref 69]) (rest := []) o_237_1 rfl rfl (x_okd cl_237_210 ml_210 (Nat.le_of_ble_eq_true rfl) (Nat.le_of_ble_eq_true rfl)) (x_rc0 (ci := 9) (sk_69 (h := h) hs) mo_210) k ?_
  rintro h1 ⟨sh1, k⟩
  refine e_al o_237_4 rfl ?_
  refine e_il o_237_5 rfl ?_
  refine e_clV (as := [.ref 69, .int x1]) (rest := []) o_237_6 rfl rfl (x_okd cl_237_163 ml_163 (Nat.le_of_ble_eq_true rfl) (Nat.le_of_ble_eq_true rfl)) (x_rc0 (ci := 9) (sk_69 (h := h1) sh1) mo_163) k ?_
  rintro h3 ⟨sh3, k⟩
  refine e_al o_237_9 rfl ?_
  refine e_clV (as := [.ref 69]) (rest := []) o_237_10 rfl rfl (x_okd cl_237_164 ml_164 (Nat.le_of_ble_eq_true rfl) (Nat.le_of_ble_eq_true rfl)) (x_rc0 (ci := 9) (sk_69 (h := h3) sh3) mo_164) k ?_
  rintro h5 ⟨sh5, k⟩
  exact e_ret0 o_237_13 k
set_option maxHeartbeats 4000000 in
set_option maxRecDepth 100000 in
theorem B_238_0 {x1 : Int32} {h : XH} {Q : Value → XH → Prop} (hs : Sh h) (k : ClI 209 [.ref 69, .int x1] h (fun v2 h1 => Sh h1 ∧ (((¬ v2 = 0) → ClV 239 [.ref 69] h1 (fun h3 => Sh h3 ∧ (Ev 238 18 [.ref 69, .int x1, .int 0, .int 0] [] h3 Q))) ∧ (¬ (¬ v2 = 0) → Q (.int (-1)) h1)))) : Ev 238 0 (x_ini 238 [.ref 69, .int x1]) [] h Q := by
  rw [show x_ini 238 [.ref 69, .int x1] = [.ref 69, .int x1, .null, .null] from x_inid ml_238 rfl]
  refine e_al o_238_0 rfl ?_
  refine e_il o_238_1 rfl ?_
  refine e_clI (as := [.ref 69, .int x1]) (rest := []) o_238_2 rfl rfl (x_okd cl_238_209 ml_209 (Nat.le_of_ble_eq_true rfl) (Nat.le_of_ble_eq_true rfl)) (x_rc0 (ci := 9) (sk_69 (h := h) hs) mo_209) k ?_
  rintro v2 h1 ⟨sh1, k⟩
  refine e_i0_1 o_238_5 (fun z => ?_) (fun z => ?_)
  · have k := k.1 z
    refine e_al o_238_10 rfl ?_
    refine e_clV (as := [.ref 69]) (rest := []) o_238_11 rfl rfl (x_okd cl_238_239 ml_239 (Nat.le_of_ble_eq_true rfl) (Nat.le_of_ble_eq_true rfl)) (x_rc0 (ci := 9) (sk_69 (h := h1) sh1) mo_239) k ?_
    rintro h3 ⟨sh3, k⟩
    refine e_c 0 o_238_14 rfl ?_
    refine e_is (ls' := [.ref 69, .int x1, .int 0, .null]) o_238_15 (Nat.le_of_ble_eq_true rfl) rfl ?_
    refine e_c 0 o_238_16 rfl ?_
    refine e_is (ls' := [.ref 69, .int x1, .int 0, .int 0]) o_238_17 (Nat.le_of_ble_eq_true rfl) rfl ?_
    exact Ev.less (ls := [.ref 69, .int x1, .int 0, .int 0]) ⟨Or.inr rfl, Or.inr rfl, Or.inr rfl, Or.inr rfl, trivial⟩ k
  · have k := k.2 z
    refine e_c (-1) o_238_8 rfl ?_
    exact e_retI o_238_9 k
set_option maxHeartbeats 4000000 in
set_option maxRecDepth 100000 in
theorem B_238_18 {x1 : Int32} {x2 : Int32} {x3 : Int32} {h : XH} {Q : Value → XH → Prop} (hs : Sh h) (k : InB (xI h 69 18) 2 ∧ ((((xI h 83 (tn (xI h 69 18))) ≤ x3) → Q (.int x2) h) ∧ (¬ ((xI h 83 (tn (xI h 69 18))) ≤ x3) → InB x3 2000 ∧ (ClI 173 [.int (xI h 115 (tn x3)), .int x1] h (fun v2 h1 => Sh h1 ∧ (((¬ v2 = 4) → Ev 238 18 [.ref 69, .int x1, .int x2, .int (x3 + 1)] [] h1 Q) ∧ (¬ (¬ v2 = 4) → Ev 238 18 [.ref 69, .int x1, .int (x2 + 1), .int (x3 + 1)] [] h1 Q))))))) : Ev 238 18 [.ref 69, .int x1, .int x2, .int x3] [] h Q := by
  refine e_il o_238_18 rfl ?_
  refine e_al o_238_19 rfl ?_
  refine e_gR (r := 83) o_238_20 (sk_69 (h := h) hs) (sr_69_27 (h := h) hs) (by decide) ?_
  refine e_al o_238_23 rfl ?_
  refine e_gI o_238_24 (sk_69 (h := h) hs) ?_
  obtain ⟨q, k⟩ := k
  refine e_ia (n := 2) o_238_27 (sk_83 (h := h) hs) (sn_83 (h := h) hs) q ?_
  refine e_if_3 o_238_28 (fun z => ?_) (fun z => ?_)
  · have k := k.1 z
    refine e_il o_238_54 rfl ?_
    exact e_retI o_238_55 k
  · have k := k.2 z
    refine e_al o_238_31 rfl ?_
    refine e_gR (r := 115) o_238_32 (sk_69 (h := h) hs) (sr_69_68 (h := h) hs) (by decide) ?_
    refine e_il o_238_35 rfl ?_
    obtain ⟨q, k⟩ := k
    refine e_ia (n := 2000) o_238_36 (sk_115 (h := h) hs) (sn_115 (h := h) hs) q ?_
    refine e_il o_238_37 rfl ?_
    refine e_clI (as := [.int (xI h 115 (tn x3)), .int x1]) (rest := []) o_238_38 rfl rfl (x_okd cl_238_173 ml_173 (Nat.le_of_ble_eq_true rfl) (Nat.le_of_ble_eq_true rfl)) (rfl) k ?_
    rintro v2 h1 ⟨sh1, k⟩
    refine e_c 4 o_238_41 rfl ?_
    refine e_if_1 o_238_42 (fun z => ?_) (fun z => ?_)
    · have k := k.1 z
      refine e_inc (ls' := [.ref 69, .int x1, .int x2, .int (x3 + 1)]) o_238_48 rfl rfl rfl ?_
      refine e_go o_238_51 ?_
      exact Ev.less (ls := [.ref 69, .int x1, .int x2, .int (x3 + 1)]) ⟨Or.inr rfl, Or.inr rfl, Or.inr rfl, Or.inr rfl, trivial⟩ k
    · have k := k.2 z
      refine e_inc (ls' := [.ref 69, .int x1, .int (x2 + 1), .int x3]) o_238_45 rfl rfl rfl ?_
      refine e_inc (ls' := [.ref 69, .int x1, .int (x2 + 1), .int (x3 + 1)]) o_238_48 rfl rfl rfl ?_
      refine e_go o_238_51 ?_
      exact Ev.less (ls := [.ref 69, .int x1, .int (x2 + 1), .int (x3 + 1)]) ⟨Or.inr rfl, Or.inr rfl, Or.inr rfl, Or.inr rfl, trivial⟩ k
set_option maxHeartbeats 4000000 in
set_option maxRecDepth 100000 in
theorem B_239_0  {h : XH} {Q : Value → XH → Prop} (hs : Sh h) (k : Ev 239 2 [.ref 69, .int 0] [] h Q) : Ev 239 0 (x_ini 239 [.ref 69]) [] h Q := by
  rw [show x_ini 239 [.ref 69] = [.ref 69, .null] from x_inid ml_239 rfl]
  refine e_c 0 o_239_0 rfl ?_
  refine e_is (ls' := [.ref 69, .int 0]) o_239_1 (Nat.le_of_ble_eq_true rfl) rfl ?_
  exact Ev.less (ls := [.ref 69, .int 0]) ⟨Or.inr rfl, Or.inr rfl, trivial⟩ k
set_option maxHeartbeats 4000000 in
set_option maxRecDepth 100000 in
theorem B_239_2 {x1 : Int32} {h : XH} {Q : Value → XH → Prop} (hs : Sh h) (k : InB (xI h 69 18) 2 ∧ ((((xI h 83 (tn (xI h 69 18))) ≤ x1) → Q .null h) ∧ (¬ ((xI h 83 (tn (xI h 69 18))) ≤ x1) → ClV 237 [.ref 69, .int x1] h (fun h1 => Sh h1 ∧ (ClI 165 [.ref 69] h1 (fun v4 h3 => Sh h3 ∧ (InB x1 2000 ∧ (Ev 239 2 [.ref 69, .int (x1 + 1)] [] (xsI h3 115 (tn x1) v4) Q)))))))) : Ev 239 2 [.ref 69, .int x1] [] h Q := by
  refine e_il o_239_2 rfl ?_
  refine e_al o_239_3 rfl ?_
  refine e_gR (r := 83) o_239_4 (sk_69 (h := h) hs) (sr_69_27 (h := h) hs) (by decide) ?_
  refine e_al o_239_7 rfl ?_
  refine e_gI o_239_8 (sk_69 (h := h) hs) ?_
  obtain ⟨q, k⟩ := k
  refine e_ia (n := 2) o_239_11 (sk_83 (h := h) hs) (sn_83 (h := h) hs) q ?_
  refine e_if_3 o_239_12 (fun z => ?_) (fun z => ?_)
  · have k := k.1 z
    exact e_ret0 o_239_36 k
  · have k := k.2 z
    refine e_al o_239_15 rfl ?_
    refine e_il o_239_16 rfl ?_
    refine e_clV (as := [.ref 69, .int x1]) (rest := []) o_239_17 rfl rfl (x_okd cl_239_237 ml_237 (Nat.le_of_ble_eq_true rfl) (Nat.le_of_ble_eq_true rfl)) (x_rc0 (ci := 9) (sk_69 (h := h) hs) mo_237) k ?_
    rintro h1 ⟨sh1, k⟩
    refine e_al o_239_20 rfl ?_
    refine e_gR (r := 115) o_239_21 (sk_69 (h := h1) sh1) (sr_69_68 (h := h1) sh1) (by decide) ?_
    refine e_il o_239_24 rfl ?_
    refine e_al o_239_25 rfl ?_
    refine e_clI (as := [.ref 69]) (rest := [.int x1, .ref 115]) o_239_26 rfl rfl (x_okd cl_239_165 ml_165 (Nat.le_of_ble_eq_true rfl) (Nat.le_of_ble_eq_true rfl)) (x_rc0 (ci := 9) (sk_69 (h := h1) sh1) mo_165) k ?_
    rintro v4 h3 ⟨sh3, k⟩
    obtain ⟨q, k⟩ := k
    refine e_ias (n := 2000) o_239_29 (sk_115 (h := h3) sh3) (by decide) (sn_115 (h := h3) sh3) q ?_
    refine e_inc (ls' := [.ref 69, .int (x1 + 1)]) o_239_30 rfl rfl rfl ?_
    refine e_go o_239_33 ?_
    exact Ev.less (ls := [.ref 69, .int (x1 + 1)]) ⟨Or.inr rfl, Or.inr rfl, trivial⟩ k
set_option maxHeartbeats 4000000 in
set_option maxRecDepth 100000 in
theorem B_240_0 {x1 : Int32} {x2 : Int32} {h : XH} {Q : Value → XH → Prop} (hs : Sh h) (k : ClI 209 [.ref 69, .int x1] h (fun v2 h1 => Sh h1 ∧ (((¬ v2 = 0) → ClV 239 [.ref 69] h1 (fun h3 => Sh h3 ∧ (Ev 240 19 [.ref 69, .int x1, .int x2, .int 0, .int 0, .null] [] h3 Q))) ∧ (¬ (¬ v2 = 0) → Q (.int (-1)) h1)))) : Ev 240 0 (x_ini 240 [.ref 69, .int x1, .int x2]) [] h Q := by
  rw [show x_ini 240 [.ref 69, .int x1, .int x2] = [.ref 69, .int x1, .int x2, .null, .null, .null] from x_inid ml_240 rfl]
  refine e_al o_240_0 rfl ?_
  refine e_il o_240_1 rfl ?_
  refine e_clI (as := [.ref 69, .int x1]) (rest := []) o_240_2 rfl rfl (x_okd cl_240_209 ml_209 (Nat.le_of_ble_eq_true rfl) (Nat.le_of_ble_eq_true rfl)) (x_rc0 (ci := 9) (sk_69 (h := h) hs) mo_209) k ?_
  rintro v2 h1 ⟨sh1, k⟩
  refine e_i0_1 o_240_5 (fun z => ?_) (fun z => ?_)
  · have k := k.1 z
    refine e_al o_240_10 rfl ?_
    refine e_clV (as := [.ref 69]) (rest := []) o_240_11 rfl rfl (x_okd cl_240_239 ml_239 (Nat.le_of_ble_eq_true rfl) (Nat.le_of_ble_eq_true rfl)) (x_rc0 (ci := 9) (sk_69 (h := h1) sh1) mo_239) k ?_
    rintro h3 ⟨sh3, k⟩
    refine e_c 0 o_240_14 rfl ?_
    refine e_is (ls' := [.ref 69, .int x1, .int x2, .int 0, .null, .null]) o_240_15 (Nat.le_of_ble_eq_true rfl) rfl ?_
    refine e_c 0 o_240_16 rfl ?_
    refine e_is (ls' := [.ref 69, .int x1, .int x2, .int 0, .int 0, .null]) o_240_17 (Nat.le_of_ble_eq_true rfl) rfl ?_
    exact Ev.less (ls := [.ref 69, .int x1, .int x2, .int 0, .int 0, .null]) ⟨Or.inr rfl, Or.inr rfl, Or.inr rfl, Or.inr rfl, Or.inr rfl, Or.inl rfl, trivial⟩ k
  · have k := k.2 z
    refine e_c (-1) o_240_8 rfl ?_
    exact e_retI o_240_9 k
set_option maxHeartbeats 4000000 in
set_option maxRecDepth 100000 in
theorem B_240_19 {x1 : Int32} {x2 : Int32} {x3 : Int32} {x4 : Int32} {h : XH} {Q : Value → XH → Prop} (hs : Sh h) (k : InB (xI h 69 18) 2 ∧ ((((xI h 83 (tn (xI h 69 18))) ≤ x4) → InB (xI h 69 18) 2 ∧ (ClI 241 [.int x3, .int (4 * (xI h 83 (tn (xI h 69 18))))] h (fun v2 h1 => Sh h1 ∧ (((x2 = 0) → ¬ v2 = 0 ∧ (Q (.int (x3 / v2)) h1)) ∧ (¬ (x2 = 0) → ¬ v2 = 0 ∧ (Q (.int ((4 * (xI h 83 (tn (xI h 69 18)))) / v2)) h1)))))) ∧ (¬ ((xI h 83 (tn (xI h 69 18))) ≤ x4) → InB x4 2000 ∧ (ClI 173 [.int (xI h 115 (tn x4)), .int x1] h (fun v4 h3 => Sh h3 ∧ (Ev 240 19 [.ref 69, .int x1, .int x2, .int (x3 + v4), .int (x4 + 1), .null] [] h3 Q)))))) : Ev 240 19 [.ref 69, .int x1, .int x2, .int x3, .int x4, .null] [] h Q := by
  refine e_il o_240_19 rfl ?_
  refine e_al o_240_21 rfl ?_
  refine e_gR (r := 83) o_240_22 (sk_69 (h := h) hs) (sr_69_27 (h := h) hs) (by decide) ?_
  refine e_al o_240_25 rfl ?_
  refine e_gI o_240_26 (sk_69 (h := h) hs) ?_
  obtain ⟨q, k⟩ := k
  refine e_ia (n := 2) o_240_29 (sk_83 (h := h) hs) (sn_83 (h := h) hs) q ?_
  refine e_if_3 o_240_30 (fun z => ?_) (fun z => ?_)
  · have k := k.1 z
    refine e_c 4 o_240_53 rfl ?_
    refine e_al o_240_54 rfl ?_
    refine e_gR (r := 83) o_240_55 (sk_69 (h := h) hs) (sr_69_27 (h := h) hs) (by decide) ?_
    refine e_al o_240_58 rfl ?_
    refine e_gI o_240_59 (sk_69 (h := h) hs) ?_
    obtain ⟨q, k⟩ := k
    refine e_ia (n := 2) o_240_62 (sk_83 (h := h) hs) (sn_83 (h := h) hs) q ?_
    refine e_bin o_240_63 rfl ?_
    refine e_is (ls' := [.ref 69, .int x1, .int x2, .int x3, .int (4 * (xI h 83 (tn (xI h 69 18)))), .null]) o_240_64 (Nat.le_of_ble_eq_true rfl) rfl ?_
    refine e_il o_240_66 rfl ?_
    refine e_il o_240_67 rfl ?_
    refine e_clI (as := [.int x3, .int (4 * (xI h 83 (tn (xI h 69 18))))]) (rest := []) o_240_69 rfl rfl (x_okd cl_240_241 ml_241 (Nat.le_of_ble_eq_true rfl) (Nat.le_of_ble_eq_true rfl)) (rfl) k ?_
    rintro v2 h1 ⟨sh1, k⟩
    refine e_is (ls' := [.ref 69, .int x1, .int x2, .int x3, .int (4 * (xI h 83 (tn (xI h 69 18)))), .int v2]) o_240_72 (Nat.le_of_ble_eq_true rfl) rfl ?_
    refine e_il o_240_74 rfl ?_
    refine e_i0_0 o_240_75 (fun z => ?_) (fun z => ?_)
    · have k := k.1 z
      refine e_il o_240_83 rfl ?_
      refine e_il o_240_84 rfl ?_
      obtain ⟨q, k⟩ := k
      refine e_div o_240_86 q ?_
      exact e_retI o_240_87 k
    · have k := k.2 z
      refine e_il o_240_78 rfl ?_
      refine e_go o_240_80 ?_
      refine e_il o_240_84 rfl ?_
      obtain ⟨q, k⟩ := k
      refine e_div o_240_86 q ?_
      exact e_retI o_240_87 k
  · have k := k.2 z
    refine e_il o_240_33 rfl ?_
    refine e_al o_240_34 rfl ?_
    refine e_gR (r := 115) o_240_35 (sk_69 (h := h) hs) (sr_69_68 (h := h) hs) (by decide) ?_
    refine e_il o_240_38 rfl ?_
    obtain ⟨q, k⟩ := k
    refine e_ia (n := 2000) o_240_40 (sk_115 (h := h) hs) (sn_115 (h := h) hs) q ?_
    refine e_il o_240_41 rfl ?_
    refine e_clI (as := [.int (xI h 115 (tn x4)), .int x1]) (rest := [.int x3]) o_240_42 rfl rfl (x_okd cl_240_173 ml_173 (Nat.le_of_ble_eq_true rfl) (Nat.le_of_ble_eq_true rfl)) (rfl) k ?_
    rintro v4 h3 ⟨sh3, k⟩
    refine e_bin o_240_45 rfl ?_
    refine e_is (ls' := [.ref 69, .int x1, .int x2, .int (x3 + v4), .int x4, .null]) o_240_46 (Nat.le_of_ble_eq_true rfl) rfl ?_
    refine e_inc (ls' := [.ref 69, .int x1, .int x2, .int (x3 + v4), .int (x4 + 1), .null]) o_240_47 rfl rfl rfl ?_
    refine e_go o_240_50 ?_
    exact Ev.less (ls := [.ref 69, .int x1, .int x2, .int (x3 + v4), .int (x4 + 1), .null]) ⟨Or.inr rfl, Or.inr rfl, Or.inr rfl, Or.inr rfl, Or.inr rfl, Or.inl rfl, trivial⟩ k
set_option maxHeartbeats 4000000 in
set_option maxRecDepth 100000 in
theorem B_241_0 {x0 : Int32} {x1 : Int32} {h : XH} {Q : Value → XH → Prop} (hs : Sh h) (k : Ev 241 4 [.null, .null, .int x0, .int x1, .null] [] h Q) : Ev 241 0 (x_ini 241 [.int x0, .int x1]) [] h Q := by
  rw [show x_ini 241 [.int x0, .int x1] = [.int x0, .int x1, .null, .null, .null] from x_inid ml_241 rfl]
  refine e_il o_241_0 rfl ?_
  refine e_is (ls' := [.int x0, .int x1, .int x0, .null, .null]) o_241_1 (Nat.le_of_ble_eq_true rfl) rfl ?_
  refine e_il o_241_2 rfl ?_
  refine e_is (ls' := [.int x0, .int x1, .int x0, .int x1, .null]) o_241_3 (Nat.le_of_ble_eq_true rfl) rfl ?_
  exact Ev.less (ls := [.null, .null, .int x0, .int x1, .null]) ⟨Or.inl rfl, Or.inl rfl, Or.inr rfl, Or.inr rfl, Or.inl rfl, trivial⟩ k
set_option maxHeartbeats 4000000 in
set_option maxRecDepth 100000 in
theorem B_241_4 {x2 : Int32} {x3 : Int32} {h : XH} {Q : Value → XH → Prop} (hs : Sh h) (k : ((x3 = 0) → Q (.int x2) h) ∧ (¬ (x3 = 0) → ¬ x3 = 0 ∧ (Ev 241 4 [.null, .null, .int x3, .int (x2 - x2 / x3 * x3), .null] [] h Q))) : Ev 241 4 [.null, .null, .int x2, .int x3, .null] [] h Q := by
  refine e_il o_241_4 rfl ?_
  refine e_i0_0 o_241_5 (fun z => ?_) (fun z => ?_)
  · have k := k.1 z
    refine e_il o_241_21 rfl ?_
    exact e_retI o_241_22 k
  · have k := k.2 z
    refine e_il o_241_8 rfl ?_
    refine e_il o_241_9 rfl ?_
    obtain ⟨q, k⟩ := k
    refine e_rem o_241_10 q ?_
    refine e_is (ls' := [.null, .null, .int x2, .int x3, .int (x2 - x2 / x3 * x3)]) o_241_11 (Nat.le_of_ble_eq_true rfl) rfl ?_
    refine e_il o_241_13 rfl ?_
    refine e_is (ls' := [.null, .null, .int x3, .int x3, .int (x2 - x2 / x3 * x3)]) o_241_14 (Nat.le_of_ble_eq_true rfl) rfl ?_
    refine e_il o_241_15 rfl ?_
    refine e_is (ls' := [.null, .null, .int x3, .int (x2 - x2 / x3 * x3), .int (x2 - x2 / x3 * x3)]) o_241_17 (Nat.le_of_ble_eq_true rfl) rfl ?_
    refine e_go o_241_18 ?_
    exact Ev.less (ls := [.null, .null, .int x3, .int (x2 - x2 / x3 * x3), .null]) ⟨Or.inl rfl, Or.inl rfl, Or.inr rfl, Or.inr rfl, Or.inl rfl, trivial⟩ k
set_option maxHeartbeats 4000000 in
set_option maxRecDepth 100000 in
theorem B_242_0 {x1 : Int32} {x2 : Int32} {h : XH} {Q : Value → XH → Prop} (hs : Sh h) (k : ClI 209 [.ref 69, .int x1] h (fun v2 h1 => Sh h1 ∧ (((v2 = 0) → Q (.int (-1)) h1) ∧ (¬ (v2 = 0) → ClI 206 [.ref 69, .int x2] h1 (fun v4 h3 => Sh h3 ∧ (((¬ v4 = 0) → ClV 239 [.ref 69] h3 (fun h5 => Sh h5 ∧ (Ev 242 27 [.ref 69, .int x1, .int x2, .int 0, .int 0, .null, .null] [] h5 Q))) ∧ (¬ (¬ v4 = 0) → Q (.int (-1)) h3))))))) : Ev 242 0 (x_ini 242 [.ref 69, .int x1, .int x2]) [] h Q := by
  rw [show x_ini 242 [.ref 69, .int x1, .int x2] = [.ref 69, .int x1, .int x2, .null, .null, .null, .null] from x_inid ml_242 rfl]
  refine e_al o_242_0 rfl ?_
  refine e_il o_242_1 rfl ?_
  refine e_clI (as := [.ref 69, .int x1]) (rest := []) o_242_2 rfl rfl (x_okd cl_242_209 ml_209 (Nat.le_of_ble_eq_true rfl) (Nat.le_of_ble_eq_true rfl)) (x_rc0 (ci := 9) (sk_69 (h := h) hs) mo_209) k ?_
  rintro v2 h1 ⟨sh1, k⟩
  refine e_i0_0 o_242_5 (fun z => ?_) (fun z => ?_)
  · have k := k.1 z
    refine e_c (-1) o_242_16 rfl ?_
    exact e_retI o_242_17 k
  · have k := k.2 z
    refine e_al o_242_8 rfl ?_
    refine e_il o_242_9 rfl ?_
    refine e_clI (as := [.ref 69, .int x2]) (rest := []) o_242_10 rfl rfl (x_okd cl_242_206 ml_206 (Nat.le_of_ble_eq_true rfl) (Nat.le_of_ble_eq_true rfl)) (x_rc0 (ci := 9) (sk_69 (h := h1) sh1) mo_206) k ?_
    rintro v4 h3 ⟨sh3, k⟩
    refine e_i0_1 o_242_13 (fun z => ?_) (fun z => ?_)
    · have k := k.1 z
      refine e_al o_242_18 rfl ?_
      refine e_clV (as := [.ref 69]) (rest := []) o_242_19 rfl rfl (x_okd cl_242_239 ml_239 (Nat.le_of_ble_eq_true rfl) (Nat.le_of_ble_eq_true rfl)) (x_rc0 (ci := 9) (sk_69 (h := h3) sh3) mo_239) k ?_
      rintro h5 ⟨sh5, k⟩
      refine e_c 0 o_242_22 rfl ?_
      refine e_is (ls' := [.ref 69, .int x1, .int x2, .int 0, .null, .null, .null]) o_242_23 (Nat.le_of_ble_eq_true rfl) rfl ?_
      refine e_c 0 o_242_24 rfl ?_
      refine e_is (ls' := [.ref 69, .int x1, .int x2, .int 0, .int 0, .null, .null]) o_242_25 (Nat.le_of_ble_eq_true rfl) rfl ?_
      exact Ev.less (ls := [.ref 69, .int x1, .int x2, .int 0, .int 0, .null, .null]) ⟨Or.inr rfl, Or.inr rfl, Or.inr rfl, Or.inr rfl, Or.inr rfl, Or.inl rfl, Or.inl rfl, trivial⟩ k
    · have k := k.2 z
      refine e_c (-1) o_242_16 rfl ?_
      exact e_retI o_242_17 k
set_option maxHeartbeats 4000000 in
set_option maxRecDepth 100000 in
theorem B_242_27 {x1 : Int32} {x2 : Int32} {x3 : Int32} {x4 : Int32} {h : XH} {Q : Value → XH → Prop} (hs : Sh h) (k : InB (xI h 69 18) 2 ∧ ((((xI h 83 (tn (xI h 69 18))) ≤ x4) → Q (.int x3) h) ∧ (¬ ((xI h 83 (tn (xI h 69 18))) ≤ x4) → InB ((8 * (xI h 69 18)) + x2) 16 ∧ (ClI 236 [.ref 69, .int x4, .int x2] h (fun v2 h1 => Sh h1 ∧ (((¬ v2 = (xI h 80 (tn ((8 * (xI h 69 18)) + x2)))) → ClI 243 [.ref 69, .int x2] h1 (fun v4 h3 => Sh h3 ∧ (InB x4 2000 ∧ (ClI 173 [.int (xI h3 115 (tn x4)), .int x1] h3 (fun v6 h5 => Sh h5 ∧ (InB (x4 + v4) 2000 ∧ (ClI 173 [.int (xI h5 115 (tn (x4 + v4))), .int x1] h5 (fun v8 h7 => Sh h7 ∧ (((v6 = v8) → Ev 242 27 [.ref 69, .int x1, .int x2, .int x3, .int (x4 + 1), .null, .null] [] h7 Q) ∧ (¬ (v6 = v8) → Ev 242 27 [.ref 69, .int x1, .int x2, .int (x3 + 1), .int (x4 + 1), .null, .null] [] h7 Q)))))))))) ∧ (¬ (¬ v2 = (xI h 80 (tn ((8 * (xI h 69 18)) + x2)))) → ClI 243 [.ref 69, .int x2] h1 (fun v10 h9 => Sh h9 ∧ (InB x4 2000 ∧ (ClI 173 [.int (xI h9 115 (tn x4)), .int x1] h9 (fun v12 h11 => Sh h11 ∧ (InB (x4 - ((xI h 80 (tn ((8 * (xI h 69 18)) + x2))) * v10)) 2000 ∧ (ClI 173 [.int (xI h11 115 (tn (x4 - ((xI h 80 (tn ((8 * (xI h 69 18)) + x2))) * v10)))), .int x1] h11 (fun v14 h13 => Sh h13 ∧ (((v12 = v14) → Ev 242 27 [.ref 69, .int x1, .int x2, .int x3, .int (x4 + 1), .null, .null] [] h13 Q) ∧ (¬ (v12 = v14) → Ev 242 27 [.ref 69, .int x1, .int x2, .int (x3 + 1), .int (x4 + 1), .null, .null] [] h13 Q)))))))))))))))) : Ev 242 27 [.ref 69, .int x1, .int x2, .int x3, .int x4, .null, .null] [] h Q := by
  refine e_il o_242_27 rfl ?_
  refine e_al o_242_29 rfl ?_
  refine e_gR (r := 83) o_242_30 (sk_69 (h := h) hs) (sr_69_27 (h := h) hs) (by decide) ?_
  refine e_al o_242_33 rfl ?_
  refine e_gI o_242_34 (sk_69 (h := h) hs) ?_
  obtain ⟨q, k⟩ := k
  refine e_ia (n := 2) o_242_37 (sk_83 (h := h) hs) (sn_83 (h := h) hs) q ?_
  refine e_if_3 o_242_38 (fun z => ?_) (fun z => ?_)
  · have k := k.1 z
    refine e_il o_242_127 rfl ?_
    exact e_retI o_242_128 k
  · have k := k.2 z
    refine e_al o_242_41 rfl ?_
    refine e_gR (r := 80) o_242_42 (sk_69 (h := h) hs) (sr_69_24 (h := h) hs) (by decide) ?_
    refine e_c 8 o_242_45 rfl ?_
    refine e_al o_242_47 rfl ?_
    refine e_gI o_242_48 (sk_69 (h := h) hs) ?_
    refine e_bin o_242_51 rfl ?_
    refine e_il o_242_52 rfl ?_
    refine e_bin o_242_53 rfl ?_
    obtain ⟨q, k⟩ := k
    refine e_ia (n := 16) o_242_54 (sk_80 (h := h) hs) (sn_80 (h := h) hs) q ?_
    refine e_is (ls' := [.ref 69, .int x1, .int x2, .int x3, .int x4, .int (xI h 80 (tn ((8 * (xI h 69 18)) + x2))), .null]) o_242_55 (Nat.le_of_ble_eq_true rfl) rfl ?_
    refine e_al o_242_57 rfl ?_
    refine e_il o_242_58 rfl ?_
    refine e_il o_242_60 rfl ?_
    refine e_clI (as := [.ref 69, .int x4, .int x2]) (rest := []) o_242_61 rfl rfl (x_okd cl_242_236 ml_236 (Nat.le_of_ble_eq_true rfl) (Nat.le_of_ble_eq_true rfl)) (x_rc0 (ci := 9) (sk_69 (h := h) hs) mo_236) k ?_
    rintro v2 h1 ⟨sh1, k⟩
    refine e_il o_242_64 rfl ?_
    refine e_if_1 o_242_66 (fun z => ?_) (fun z => ?_)
    · have k := k.1 z
      refine e_il o_242_83 rfl ?_
      refine e_al o_242_85 rfl ?_
      refine e_il o_242_86 rfl ?_
      refine e_clI (as := [.ref 69, .int x2]) (rest := [.int x4]) o_242_87 rfl rfl (x_okd cl_242_243 ml_243 (Nat.le_of_ble_eq_true rfl) (Nat.le_of_ble_eq_true rfl)) (x_rc0 (ci := 9) (sk_69 (h := h1) sh1) mo_243) k ?_
      rintro v4 h3 ⟨sh3, k⟩
      refine e_bin o_242_90 rfl ?_
      refine e_is (ls' := [.ref 69, .int x1, .int x2, .int x3, .int x4, .int (xI h 80 (tn ((8 * (xI h 69 18)) + x2))), .int (x4 + v4)]) o_242_91 (Nat.le_of_ble_eq_true rfl) rfl ?_
      refine e_al o_242_93 rfl ?_
      refine e_gR (r := 115) o_242_94 (sk_69 (h := h3) sh3) (sr_69_68 (h := h3) sh3) (by decide) ?_
      refine e_il o_242_97 rfl ?_
      obtain ⟨q, k⟩ := k
      refine e_ia (n := 2000) o_242_99 (sk_115 (h := h3) sh3) (sn_115 (h := h3) sh3) q ?_
      refine e_il o_242_100 rfl ?_
      refine e_clI (as := [.int (xI h3 115 (tn x4)), .int x1]) (rest := []) o_242_101 rfl rfl (x_okd cl_242_173 ml_173 (Nat.le_of_ble_eq_true rfl) (Nat.le_of_ble_eq_true rfl)) (rfl) k ?_
      rintro v6 h5 ⟨sh5, k⟩
      refine e_al o_242_104 rfl ?_
      refine e_gR (r := 115) o_242_105 (sk_69 (h := h5) sh5) (sr_69_68 (h := h5) sh5) (by decide) ?_
      refine e_il o_242_108 rfl ?_
      obtain ⟨q, k⟩ := k
      refine e_ia (n := 2000) o_242_110 (sk_115 (h := h5) sh5) (sn_115 (h := h5) sh5) q ?_
      refine e_il o_242_111 rfl ?_
      refine e_clI (as := [.int (xI h5 115 (tn (x4 + v4))), .int x1]) (rest := [.int v6]) o_242_112 rfl rfl (x_okd cl_242_173 ml_173 (Nat.le_of_ble_eq_true rfl) (Nat.le_of_ble_eq_true rfl)) (rfl) k ?_
      rintro v8 h7 ⟨sh7, k⟩
      refine e_if_0 o_242_115 (fun z => ?_) (fun z => ?_)
      · have k := k.1 z
        refine e_inc (ls' := [.ref 69, .int x1, .int x2, .int x3, .int (x4 + 1), .int (xI h 80 (tn ((8 * (xI h 69 18)) + x2))), .int (x4 + v4)]) o_242_121 rfl rfl rfl ?_
        refine e_go o_242_124 ?_
        exact Ev.less (ls := [.ref 69, .int x1, .int x2, .int x3, .int (x4 + 1), .null, .null]) ⟨Or.inr rfl, Or.inr rfl, Or.inr rfl, Or.inr rfl, Or.inr rfl, Or.inl rfl, Or.inl rfl, trivial⟩ k
      · have k := k.2 z
        refine e_inc (ls' := [.ref 69, .int x1, .int x2, .int (x3 + 1), .int x4, .int (xI h 80 (tn ((8 * (xI h 69 18)) + x2))), .int (x4 + v4)]) o_242_118 rfl rfl rfl ?_
        refine e_inc (ls' := [.ref 69, .int x1, .int x2, .int (x3 + 1), .int (x4 + 1), .int (xI h 80 (tn ((8 * (xI h 69 18)) + x2))), .int (x4 + v4)]) o_242_121 rfl rfl rfl ?_
        refine e_go o_242_124 ?_
        exact Ev.less (ls := [.ref 69, .int x1, .int x2, .int (x3 + 1), .int (x4 + 1), .null, .null]) ⟨Or.inr rfl, Or.inr rfl, Or.inr rfl, Or.inr rfl, Or.inr rfl, Or.inl rfl, Or.inl rfl, trivial⟩ k
    · have k := k.2 z
      refine e_il o_242_69 rfl ?_
      refine e_il o_242_71 rfl ?_
      refine e_al o_242_73 rfl ?_
      refine e_il o_242_74 rfl ?_
      refine e_clI (as := [.ref 69, .int x2]) (rest := [.int (xI h 80 (tn ((8 * (xI h 69 18)) + x2))), .int x4]) o_242_75 rfl rfl (x_okd cl_242_243 ml_243 (Nat.le_of_ble_eq_true rfl) (Nat.le_of_ble_eq_true rfl)) (x_rc0 (ci := 9) (sk_69 (h := h1) sh1) mo_243) k ?_
      rintro v10 h9 ⟨sh9, k⟩
      refine e_bin o_242_78 rfl ?_
      refine e_bin o_242_79 rfl ?_
      refine e_go o_242_80 ?_
      refine e_is (ls' := [.ref 69, .int x1, .int x2, .int x3, .int x4, .int (xI h 80 (tn ((8 * (xI h 69 18)) + x2))), .int (x4 - ((xI h 80 (tn ((8 * (xI h 69 18)) + x2))) * v10))]) o_242_91 (Nat.le_of_ble_eq_true rfl) rfl ?_
      refine e_al o_242_93 rfl ?_
      refine e_gR (r := 115) o_242_94 (sk_69 (h := h9) sh9) (sr_69_68 (h := h9) sh9) (by decide) ?_
      refine e_il o_242_97 rfl ?_
      obtain ⟨q, k⟩ := k
      refine e_ia (n := 2000) o_242_99 (sk_115 (h := h9) sh9) (sn_115 (h := h9) sh9) q ?_
      refine e_il o_242_100 rfl ?_
      refine e_clI (as := [.int (xI h9 115 (tn x4)), .int x1]) (rest := []) o_242_101 rfl rfl (x_okd cl_242_173 ml_173 (Nat.le_of_ble_eq_true rfl) (Nat.le_of_ble_eq_true rfl)) (rfl) k ?_
      rintro v12 h11 ⟨sh11, k⟩
      refine e_al o_242_104 rfl ?_
      refine e_gR (r := 115) o_242_105 (sk_69 (h := h11) sh11) (sr_69_68 (h := h11) sh11) (by decide) ?_
      refine e_il o_242_108 rfl ?_
      obtain ⟨q, k⟩ := k
      refine e_ia (n := 2000) o_242_110 (sk_115 (h := h11) sh11) (sn_115 (h := h11) sh11) q ?_
      refine e_il o_242_111 rfl ?_
      refine e_clI (as := [.int (xI h11 115 (tn (x4 - ((xI h 80 (tn ((8 * (xI h 69 18)) + x2))) * v10)))), .int x1]) (rest := [.int v12]) o_242_112 rfl rfl (x_okd cl_242_173 ml_173 (Nat.le_of_ble_eq_true rfl) (Nat.le_of_ble_eq_true rfl)) (rfl) k ?_
      rintro v14 h13 ⟨sh13, k⟩
      refine e_if_0 o_242_115 (fun z => ?_) (fun z => ?_)
      · have k := k.1 z
        refine e_inc (ls' := [.ref 69, .int x1, .int x2, .int x3, .int (x4 + 1), .int (xI h 80 (tn ((8 * (xI h 69 18)) + x2))), .int (x4 - ((xI h 80 (tn ((8 * (xI h 69 18)) + x2))) * v10))]) o_242_121 rfl rfl rfl ?_
        refine e_go o_242_124 ?_
        exact Ev.less (ls := [.ref 69, .int x1, .int x2, .int x3, .int (x4 + 1), .null, .null]) ⟨Or.inr rfl, Or.inr rfl, Or.inr rfl, Or.inr rfl, Or.inr rfl, Or.inl rfl, Or.inl rfl, trivial⟩ k
      · have k := k.2 z
        refine e_inc (ls' := [.ref 69, .int x1, .int x2, .int (x3 + 1), .int x4, .int (xI h 80 (tn ((8 * (xI h 69 18)) + x2))), .int (x4 - ((xI h 80 (tn ((8 * (xI h 69 18)) + x2))) * v10))]) o_242_118 rfl rfl rfl ?_
        refine e_inc (ls' := [.ref 69, .int x1, .int x2, .int (x3 + 1), .int (x4 + 1), .int (xI h 80 (tn ((8 * (xI h 69 18)) + x2))), .int (x4 - ((xI h 80 (tn ((8 * (xI h 69 18)) + x2))) * v10))]) o_242_121 rfl rfl rfl ?_
        refine e_go o_242_124 ?_
        exact Ev.less (ls := [.ref 69, .int x1, .int x2, .int (x3 + 1), .int (x4 + 1), .null, .null]) ⟨Or.inr rfl, Or.inr rfl, Or.inr rfl, Or.inr rfl, Or.inr rfl, Or.inl rfl, Or.inl rfl, trivial⟩ k
