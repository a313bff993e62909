set_option maxHeartbeats 4000000 in
set_option maxRecDepth 100000 in
theorem B_66_0  {h : XH} {Q : Value → XH → Prop} (hs : Sh h) (k : Q .null (xsI (xsI h 58 0 0) 58 7 (-1))) : Ev 66 0 (x_ini 66 [.ref 58]) [] h Q := by
  rw [show x_ini 66 [.ref 58] = [.ref 58] from x_inid ml_66 rfl]
  refine e_al o_66_0 rfl ?_
  refine e_c 0 o_66_1 rfl ?_
  refine e_pI o_66_2 (sk_58 (h := h) hs) ?_
  refine e_al o_66_5 rfl ?_
  refine e_c (-1) o_66_6 rfl ?_
  refine e_pI o_66_7 (sk_58 (h := h) hs) ?_
  exact e_ret0 o_66_10 k
set_option maxHeartbeats 4000000 in
set_option maxRecDepth 100000 in
theorem B_88_0  {h : XH} {Q : Value → XH → Prop} (hs : Sh h) (k : (((xI h 49 0) = 0) → InB (xI h (xR h 34 0) 1) 7 ∧ ((((((xI h 1 (tn (xI h (xR h 34 0) 1))) + 63) / 64) ≤ (Int32.ofNat (xN h (xR h 49 5)))) → Ev 88 53 [.ref 49, .ref 39, .int (xI h (xR h 34 0) 1), .int (xI h 1 (tn (xI h (xR h 34 0) 1))), .null, .null] [] h Q) ∧ (¬ ((((xI h 1 (tn (xI h (xR h 34 0) 1))) + 63) / 64) ≤ (Int32.ofNat (xN h (xR h 49 5)))) → ¬ ((245 : Int32) < 0 ∨ 60000000 < ((245 : Int32)).toNatClampNeg) ∧ (Ev 88 53 [.ref 49, .ref 39, .int (xI h (xR h 34 0) 1), .int (xI h 1 (tn (xI h (xR h 34 0) 1))), .null, .null] [] (xsR (xnew h 4 (tn (245 : Int32))) 49 5 (xT h)) Q)))) ∧ (¬ ((xI h 49 0) = 0) → Q .null h)) : Ev 88 0 (x_ini 88 [.ref 49, .ref 39]) [] h Q := by
  rw [show x_ini 88 [.ref 49, .ref 39] = [.ref 49, .ref 39, .null, .null, .null, .null] from x_inid ml_88 rfl]
  refine e_al o_88_0 rfl ?_
  refine e_gI o_88_1 (sk_49 (h := h) hs) ?_
  refine e_i0_0 o_88_4 (fun z => ?_) (fun z => ?_)
  · have k := k.1 z
    refine e_al o_88_8 rfl ?_
    refine e_gR (r := 34) o_88_9 (sk_49 (h := h) hs) (sr_49_2 (h := h) hs) (by decide) ?_
    refine e_gR (r := (xR h 34 0)) o_88_12 (sk_34 (h := h) hs) (rfl) (by rcases (ss_p hs) with q | q <;> omega) ?_
    refine e_gI o_88_15 (sc_k (h := h) hs (ss_p hs)) ?_
    refine e_is (ls' := [.ref 49, .ref 39, .int (xI h (xR h 34 0) 1), .null, .null, .null]) o_88_18 (Nat.le_of_ble_eq_true rfl) rfl ?_
    refine e_cst o_88_19 ?_
    refine e_il o_88_22 rfl ?_
    obtain ⟨q, k⟩ := k
    refine e_ia (n := 7) o_88_23 ((hs).2.2.2.2.2.2.2.1.1) ((hs).2.2.2.2.2.2.2.1.2.1) q ?_
    refine e_is (ls' := [.ref 49, .ref 39, .int (xI h (xR h 34 0) 1), .int (xI h 1 (tn (xI h (xR h 34 0) 1))), .null, .null]) o_88_24 (Nat.le_of_ble_eq_true rfl) rfl ?_
    refine e_il o_88_25 rfl ?_
    refine e_c 63 o_88_26 rfl ?_
    refine e_bin o_88_28 rfl ?_
    refine e_c 64 o_88_29 rfl ?_
    refine e_div o_88_31 (by decide) ?_
    refine e_is (ls' := [.ref 49, .ref 39, .int (xI h (xR h 34 0) 1), .int (xI h 1 (tn (xI h (xR h 34 0) 1))), .int (((xI h 1 (tn (xI h (xR h 34 0) 1))) + 63) / 64), .null]) o_88_32 (Nat.le_of_ble_eq_true rfl) rfl ?_
    refine e_al o_88_34 rfl ?_
    refine e_gR (r := (xR h 49 5)) o_88_35 (sk_49 (h := h) hs) (rfl) (by have := Nat.le_trans (by decide : 4 ≤ 46) (sg4_49_5 (h := h) hs); omega) ?_
    refine e_len (n := (xN h (xR h 49 5))) o_88_38 (by rw [show _ = _ from sgk_49_5 (h := h) hs]; decide) (rfl) ?_
    refine e_il o_88_39 rfl ?_
    refine e_if_3 o_88_41 (fun z => ?_) (fun z => ?_)
    · have k := k.1 z
      exact Ev.less (ls := [.ref 49, .ref 39, .int (xI h (xR h 34 0) 1), .int (xI h 1 (tn (xI h (xR h 34 0) 1))), .null, .null]) ⟨Or.inr rfl, Or.inr rfl, Or.inr rfl, Or.inr rfl, Or.inl rfl, Or.inl rfl, trivial⟩ k
    · have k := k.2 z
      refine e_al o_88_44 rfl ?_
      refine e_c 245 o_88_45 rfl ?_
      obtain ⟨q, k⟩ := k
      refine e_na o_88_48 q ?_
      refine e_pR o_88_50 (sk_49 (h := (xnew h 4 (tn (245 : Int32)))) (sh_new hs)) (by have := (hs).2.2.2.2.2.2.1; omega) ?_
      exact Ev.less (ls := [.ref 49, .ref 39, .int (xI h (xR h 34 0) 1), .int (xI h 1 (tn (xI h (xR h 34 0) 1))), .null, .null]) ⟨Or.inr rfl, Or.inr rfl, Or.inr rfl, Or.inr rfl, Or.inl rfl, Or.inl rfl, trivial⟩ k
  · have k := k.2 z
    exact e_ret0 o_88_7 k
set_option maxHeartbeats 4000000 in
set_option maxRecDepth 100000 in
theorem B_88_53 {x2 : Int32} {x3 : Int32} {h : XH} {Q : Value → XH → Prop} (hs : Sh h) (k : ClV 89 [.ref (xR h 49 5), .long 0] h (fun h1 => Sh h1 ∧ ((39 ≠ 50 ∧ ¬ (0 : Int32) < 0 ∧ ¬ (0 : Int32) < 0 ∧ ¬ (20 : Int32) < 0 ∧ tn (0 : Int32) + tn (20 : Int32) ≤ 20 ∧ tn (0 : Int32) + tn (20 : Int32) ≤ 20) ∧ (ClV 56 [.ref 34, .ref 50] (xsA h1 50 (va_cpy (xI h1 39) (xI h1 50) (tn (0 : Int32)) (tn (0 : Int32)) (tn (20 : Int32)))) (fun h3 => Sh h3 ∧ (Ev 88 87 [.ref 49, .null, .int x2, .int x3, .null, .int 0] [] h3 Q)))))) : Ev 88 53 [.ref 49, .ref 39, .int x2, .int x3, .null, .null] [] h Q := by
  refine e_al o_88_53 rfl ?_
  refine e_gR (r := (xR h 49 5)) o_88_54 (sk_49 (h := h) hs) (rfl) (by have := Nat.le_trans (by decide : 4 ≤ 46) (sg4_49_5 (h := h) hs); omega) ?_
  refine e_lc 0 o_88_57 rfl ?_
  refine e_clV (as := [.ref (xR h 49 5), .long 0]) (rest := []) o_88_58 rfl rfl (x_okd cl_88_89 ml_89 (Nat.le_of_ble_eq_true rfl) (Nat.le_of_ble_eq_true rfl)) (rfl) k ?_
  rintro h1 ⟨sh1, k⟩
  refine e_al o_88_61 rfl ?_
  refine e_c 0 o_88_62 rfl ?_
  refine e_al o_88_63 rfl ?_
  refine e_gR (r := 50) o_88_64 (sk_49 (h := h1) sh1) (sr_49_3 (h := h1) sh1) (by decide) ?_
  refine e_c 0 o_88_67 rfl ?_
  refine e_c 20 o_88_68 rfl ?_
  obtain ⟨q, k⟩ := k
  refine e_cp (ns := 20) (nd := 20) o_88_70 ⟨sk_39 (h := h1) sh1, sk_50 (h := h1) sh1, by decide, by decide, q.1⟩ (sn_39 (h := h1) sh1) (sn_50 (h := h1) sh1) q.2 (Nat.le_of_ble_eq_true rfl) ?_
  refine e_al o_88_73 rfl ?_
  refine e_gR (r := 34) o_88_74 (sk_49 (h := h1) sh1) (sr_49_2 (h := h1) sh1) (by decide) ?_
  refine e_al o_88_77 rfl ?_
  refine e_gR (r := 50) o_88_78 (sk_49 (h := h1) sh1) (sr_49_3 (h := h1) sh1) (by decide) ?_
  refine e_clV (as := [.ref 34, .ref 50]) (rest := []) o_88_81 rfl rfl (x_okd cl_88_56 ml_56 (Nat.le_of_ble_eq_true rfl) (Nat.le_of_ble_eq_true rfl)) (x_rc0 (ci := 3) (sk_34 (h := h1) sh1) mo_56) k ?_
  rintro h3 ⟨sh3, k⟩
  refine e_c 0 o_88_84 rfl ?_
  refine e_is (ls' := [.ref 49, .ref 39, .int x2, .int x3, .null, .int 0]) o_88_85 (Nat.le_of_ble_eq_true rfl) rfl ?_
  exact Ev.less (ls := [.ref 49, .null, .int x2, .int x3, .null, .int 0]) ⟨Or.inr rfl, Or.inl rfl, Or.inr rfl, Or.inr rfl, Or.inl rfl, Or.inr rfl, trivial⟩ k
set_option maxHeartbeats 4000000 in
set_option maxRecDepth 100000 in
theorem B_88_87 {x2 : Int32} {x3 : Int32} {x5 : Int32} {h : XH} {Q : Value → XH → Prop} (hs : Sh h) (k : ((x2 ≤ x5) → Ev 88 127 [.ref 49, .null, .int x2, .int x3, .null, .int 0] [] (xsI h 49 1 0) Q) ∧ (¬ (x2 ≤ x5) → ClI 90 [.ref 34, .int x5, .ref 50] h (fun v2 h1 => Sh h1 ∧ (InB x5 6 ∧ (Ev 88 87 [.ref 49, .null, .int x2, .int x3, .null, .int (x5 + 1)] [] (xsI h1 51 (tn x5) v2) Q))))) : Ev 88 87 [.ref 49, .null, .int x2, .int x3, .null, .int x5] [] h Q := by
  refine e_il o_88_87 rfl ?_
  refine e_il o_88_89 rfl ?_
  refine e_if_3 o_88_90 (fun z => ?_) (fun z => ?_)
  · have k := k.1 z
    refine e_al o_88_119 rfl ?_
    refine e_c 0 o_88_120 rfl ?_
    refine e_pI o_88_121 (sk_49 (h := h) hs) ?_
    refine e_c 0 o_88_124 rfl ?_
    refine e_is (ls' := [.ref 49, .null, .int x2, .int x3, .null, .int 0]) o_88_125 (Nat.le_of_ble_eq_true rfl) rfl ?_
    exact Ev.less (ls := [.ref 49, .null, .int x2, .int x3, .null, .int 0]) ⟨Or.inr rfl, Or.inl rfl, Or.inr rfl, Or.inr rfl, Or.inl rfl, Or.inr rfl, trivial⟩ k
  · have k := k.2 z
    refine e_al o_88_93 rfl ?_
    refine e_gR (r := 51) o_88_94 (sk_49 (h := h) hs) (sr_49_4 (h := h) hs) (by decide) ?_
    refine e_il o_88_97 rfl ?_
    refine e_al o_88_99 rfl ?_
    refine e_gR (r := 34) o_88_100 (sk_49 (h := h) hs) (sr_49_2 (h := h) hs) (by decide) ?_
    refine e_il o_88_103 rfl ?_
    refine e_al o_88_105 rfl ?_
    refine e_gR (r := 50) o_88_106 (sk_49 (h := h) hs) (sr_49_3 (h := h) hs) (by decide) ?_
    refine e_clI (as := [.ref 34, .int x5, .ref 50]) (rest := [.int x5, .ref 51]) o_88_109 rfl rfl (x_okd cl_88_90 ml_90 (Nat.le_of_ble_eq_true rfl) (Nat.le_of_ble_eq_true rfl)) (x_rc0 (ci := 3) (sk_34 (h := h) hs) mo_90) k ?_
    rintro v2 h1 ⟨sh1, k⟩
    obtain ⟨q, k⟩ := k
    refine e_ias (n := 6) o_88_112 (sk_51 (h := h1) sh1) (by decide) (sn_51 (h := h1) sh1) q ?_
    refine e_inc (ls' := [.ref 49, .null, .int x2, .int x3, .null, .int (x5 + 1)]) o_88_113 rfl rfl rfl ?_
    refine e_go o_88_116 ?_
    exact Ev.less (ls := [.ref 49, .null, .int x2, .int x3, .null, .int (x5 + 1)]) ⟨Or.inr rfl, Or.inl rfl, Or.inr rfl, Or.inr rfl, Or.inl rfl, Or.inr rfl, trivial⟩ k
set_option maxHeartbeats 4000000 in
set_option maxRecDepth 100000 in
theorem B_88_127 {x2 : Int32} {x3 : Int32} {x5 : Int32} {h : XH} {Q : Value → XH → Prop} (hs : Sh h) (k : ((x3 ≤ x5) → Q .null (xsI h 49 0 1)) ∧ (¬ (x3 ≤ x5) → ClI 92 [.ref 49, .int x5, .int x2] h (fun v2 h1 => Sh h1 ∧ (((v2 = 0) → Ev 88 181 [.ref 49, .null, .int x2, .int x3, .null, .int x5] [] h1 Q) ∧ (¬ (v2 = 0) → ClI 93 [.ref 49, .int x2] h1 (fun v4 h3 => Sh h3 ∧ (((v4 = 0) → Ev 88 181 [.ref 49, .null, .int x2, .int x3, .null, .int x5] [] h3 Q) ∧ (¬ (v4 = 0) → InB (x5 / 64) (xN h3 (xR h3 49 5)) ∧ (InB (x5 / 64) (xN h3 (xR h3 49 5)) ∧ (∀ h5 : XH, h5 = (xsL h3 (xR h3 49 5) (tn (x5 / 64)) ((xL h3 (xR h3 49 5) (tn (x5 / 64))) ||| ((1 : Int64) <<< (((x5 - x5 / 64 * 64) : Int32).toInt64 &&& 63)))) → (Ev 88 181 [.ref 49, .null, .int x2, .int x3, .null, .int x5] [] (xsI h5 49 1 ((xI h5 49 1) + 1)) Q))))))))))) : Ev 88 127 [.ref 49, .null, .int x2, .int x3, .null, .int x5] [] h Q := by
  refine e_il o_88_127 rfl ?_
  refine e_il o_88_129 rfl ?_
  refine e_if_3 o_88_130 (fun z => ?_) (fun z => ?_)
  · have k := k.1 z
    refine e_al o_88_187 rfl ?_
    refine e_c 1 o_88_188 rfl ?_
    refine e_pZ o_88_189 (sk_49 (h := h) hs) (by decide) ?_
    exact e_ret0 o_88_192 k
  · have k := k.2 z
    refine e_al o_88_133 rfl ?_
    refine e_il o_88_134 rfl ?_
    refine e_il o_88_136 rfl ?_
    refine e_clI (as := [.ref 49, .int x5, .int x2]) (rest := []) o_88_137 rfl rfl (x_okd cl_88_92 ml_92 (Nat.le_of_ble_eq_true rfl) (Nat.le_of_ble_eq_true rfl)) (x_rc0 (ci := 6) (sk_49 (h := h) hs) mo_92) k ?_
    rintro v2 h1 ⟨sh1, k⟩
    refine e_i0_0 o_88_140 (fun z => ?_) (fun z => ?_)
    · have k := k.1 z
      exact Ev.less (ls := [.ref 49, .null, .int x2, .int x3, .null, .int x5]) ⟨Or.inr rfl, Or.inl rfl, Or.inr rfl, Or.inr rfl, Or.inl rfl, Or.inr rfl, trivial⟩ k
    · have k := k.2 z
      refine e_al o_88_143 rfl ?_
      refine e_il o_88_144 rfl ?_
      refine e_clI (as := [.ref 49, .int x2]) (rest := []) o_88_145 rfl rfl (x_okd cl_88_93 ml_93 (Nat.le_of_ble_eq_true rfl) (Nat.le_of_ble_eq_true rfl)) (x_rc0 (ci := 6) (sk_49 (h := h1) sh1) mo_93) k ?_
      rintro v4 h3 ⟨sh3, k⟩
      refine e_i0_0 o_88_148 (fun z => ?_) (fun z => ?_)
      · have k := k.1 z
        exact Ev.less (ls := [.ref 49, .null, .int x2, .int x3, .null, .int x5]) ⟨Or.inr rfl, Or.inl rfl, Or.inr rfl, Or.inr rfl, Or.inl rfl, Or.inr rfl, trivial⟩ k
      · have k := k.2 z
        refine e_al o_88_151 rfl ?_
        refine e_gR (r := (xR h3 49 5)) o_88_152 (sk_49 (h := h3) sh3) (rfl) (by have := Nat.le_trans (by decide : 4 ≤ 46) (sg4_49_5 (h := h3) sh3); omega) ?_
        refine e_il o_88_155 rfl ?_
        refine e_c 64 o_88_157 rfl ?_
        refine e_div o_88_159 (by decide) ?_
        refine e_dup2 o_88_160 ⟨rfl, rfl⟩ ?_
        obtain ⟨q, k⟩ := k
        refine e_la (n := (xN h3 (xR h3 49 5))) o_88_161 (sgk_49_5 (h := h3) sh3) (rfl) q ?_
        refine e_lc 1 o_88_162 rfl ?_
        refine e_il o_88_163 rfl ?_
        refine e_c 64 o_88_165 rfl ?_
        refine e_rem o_88_167 (by decide) ?_
        refine e_lshl o_88_168 ?_
        refine e_lbin o_88_169 rfl ?_
        obtain ⟨q, k⟩ := k
        refine e_las (n := (xN h3 (xR h3 49 5))) o_88_170 (sgk_49_5 (h := h3) sh3) (rfl) q ?_
        obtain ⟨h5, eh5⟩ : ∃ z : XH, z = (xsL h3 (xR h3 49 5) (tn (x5 / 64)) ((xL h3 (xR h3 49 5) (tn (x5 / 64))) ||| ((1 : Int64) <<< (((x5 - x5 / 64 * 64) : Int32).toInt64 &&& 63)))) := ⟨_, rfl⟩
        show Ev 88 171 [.ref 49, .null, .int x2, .int x3, .null, .int x5] [] (xsL h3 (xR h3 49 5) (tn (x5 / 64)) ((xL h3 (xR h3 49 5) (tn (x5 / 64))) ||| ((1 : Int64) <<< (((x5 - x5 / 64 * 64) : Int32).toInt64 &&& 63)))) Q
        rw [← eh5]
        have sh5 : Sh h5 := by rw [eh5]; exact (sh_L sh3)
        have k := k h5 eh5
        refine e_al o_88_171 rfl ?_
        refine e_dup o_88_172 rfl ?_
        refine e_gI o_88_173 (sk_49 (h := h5) sh5) ?_
        refine e_c 1 o_88_176 rfl ?_
        refine e_bin o_88_177 rfl ?_
        refine e_pI o_88_178 (sk_49 (h := h5) sh5) ?_
        exact Ev.less (ls := [.ref 49, .null, .int x2, .int x3, .null, .int x5]) ⟨Or.inr rfl, Or.inl rfl, Or.inr rfl, Or.inr rfl, Or.inl rfl, Or.inr rfl, trivial⟩ k
set_option maxHeartbeats 4000000 in
set_option maxRecDepth 100000 in
theorem B_88_181 {x2 : Int32} {x3 : Int32} {x5 : Int32} {h : XH} {Q : Value → XH → Prop} (hs : Sh h) (k : Ev 88 127 [.ref 49, .null, .int x2, .int x3, .null, .int (x5 + 1)] [] h Q) : Ev 88 181 [.ref 49, .null, .int x2, .int x3, .null, .int x5] [] h Q := by
  refine e_inc (ls' := [.ref 49, .null, .int x2, .int x3, .null, .int (x5 + 1)]) o_88_181 rfl rfl rfl ?_
  refine e_go o_88_184 ?_
  exact Ev.less (ls := [.ref 49, .null, .int x2, .int x3, .null, .int (x5 + 1)]) ⟨Or.inr rfl, Or.inl rfl, Or.inr rfl, Or.inr rfl, Or.inl rfl, Or.inr rfl, trivial⟩ k
set_option maxHeartbeats 4000000 in
set_option maxRecDepth 100000 in
theorem B_92_0 {x1 : Int32} {x2 : Int32} {h : XH} {Q : Value → XH → Prop} (hs : Sh h) (k : Ev 92 5 [.ref 49, .null, .int x2, .int x1, .int 0, .null] [] h Q) : Ev 92 0 (x_ini 92 [.ref 49, .int x1, .int x2]) [] h Q := by
  rw [show x_ini 92 [.ref 49, .int x1, .int x2] = [.ref 49, .int x1, .int x2, .null, .null, .null] from x_inid ml_92 rfl]
  refine e_il o_92_0 rfl ?_
  refine e_is (ls' := [.ref 49, .int x1, .int x2, .int x1, .null, .null]) o_92_1 (Nat.le_of_ble_eq_true rfl) rfl ?_
  refine e_c 0 o_92_2 rfl ?_
  refine e_is (ls' := [.ref 49, .int x1, .int x2, .int x1, .int 0, .null]) o_92_3 (Nat.le_of_ble_eq_true rfl) rfl ?_
  exact Ev.less (ls := [.ref 49, .null, .int x2, .int x1, .int 0, .null]) ⟨Or.inr rfl, Or.inl rfl, Or.inr rfl, Or.inr rfl, Or.inr rfl, Or.inl rfl, trivial⟩ k
set_option maxHeartbeats 4000000 in
set_option maxRecDepth 100000 in
theorem B_92_5 {x2 : Int32} {x3 : Int32} {x4 : Int32} {h : XH} {Q : Value → XH → Prop} (hs : Sh h) (k : ((x2 ≤ x4) → Q (.int 1) h) ∧ (¬ (x2 ≤ x4) → InB x4 6 ∧ (((¬ (((xI h 51 (tn x4)) >>> ((x3 - x3 / 5 * 5) &&& 31)) &&& 1) = (0 : Int32)) → InB (8 + x4) 20 ∧ (Ev 92 5 [.ref 49, .null, .int x2, .int (x3 / 5), .int (x4 + 1), .null] [] (xsI h 50 (tn (8 + x4)) (x3 - x3 / 5 * 5)) Q)) ∧ (¬ (¬ (((xI h 51 (tn x4)) >>> ((x3 - x3 / 5 * 5) &&& 31)) &&& 1) = (0 : Int32)) → Q (.int 0) h)))) : Ev 92 5 [.ref 49, .null, .int x2, .int x3, .int x4, .null] [] h Q := by
  refine e_il o_92_5 rfl ?_
  refine e_il o_92_7 rfl ?_
  refine e_if_3 o_92_8 (fun z => ?_) (fun z => ?_)
  · have k := k.1 z
    refine e_c 1 o_92_55 rfl ?_
    exact e_retZ o_92_56 (by decide) k
  · have k := k.2 z
    refine e_il o_92_11 rfl ?_
    refine e_c 5 o_92_12 rfl ?_
    refine e_rem o_92_13 (by decide) ?_
    refine e_is (ls' := [.ref 49, .null, .int x2, .int x3, .int x4, .int (x3 - x3 / 5 * 5)]) o_92_14 (Nat.le_of_ble_eq_true rfl) rfl ?_
    refine e_al o_92_16 rfl ?_
    refine e_gR (r := 51) o_92_17 (sk_49 (h := h) hs) (sr_49_4 (h := h) hs) (by decide) ?_
    refine e_il o_92_20 rfl ?_
    obtain ⟨q, k⟩ := k
    refine e_ia (n := 6) o_92_22 (sk_51 (h := h) hs) (sn_51 (h := h) hs) q ?_
    refine e_il o_92_23 rfl ?_
    refine e_bin o_92_25 rfl ?_
    refine e_c 1 o_92_26 rfl ?_
    refine e_bin o_92_27 rfl ?_
    refine e_i0_1 o_92_28 (fun z => ?_) (fun z => ?_)
    · have k := k.1 z
      refine e_al o_92_33 rfl ?_
      refine e_gR (r := 50) o_92_34 (sk_49 (h := h) hs) (sr_49_3 (h := h) hs) (by decide) ?_
      refine e_c 8 o_92_37 rfl ?_
      refine e_il o_92_39 rfl ?_
      refine e_bin o_92_41 rfl ?_
      refine e_il o_92_42 rfl ?_
      obtain ⟨q, k⟩ := k
      refine e_ias (n := 20) o_92_44 (sk_50 (h := h) hs) (by decide) (sn_50 (h := h) hs) q ?_
      refine e_il o_92_45 rfl ?_
      refine e_c 5 o_92_46 rfl ?_
      refine e_div o_92_47 (by decide) ?_
      refine e_is (ls' := [.ref 49, .null, .int x2, .int (x3 / 5), .int x4, .int (x3 - x3 / 5 * 5)]) o_92_48 (Nat.le_of_ble_eq_true rfl) rfl ?_
      refine e_inc (ls' := [.ref 49, .null, .int x2, .int (x3 / 5), .int (x4 + 1), .int (x3 - x3 / 5 * 5)]) o_92_49 rfl rfl rfl ?_
      refine e_go o_92_52 ?_
      exact Ev.less (ls := [.ref 49, .null, .int x2, .int (x3 / 5), .int (x4 + 1), .null]) ⟨Or.inr rfl, Or.inl rfl, Or.inr rfl, Or.inr rfl, Or.inr rfl, Or.inl rfl, trivial⟩ k
    · have k := k.2 z
      refine e_c 0 o_92_31 rfl ?_
      exact e_retZ o_92_32 (by decide) k
set_option maxHeartbeats 4000000 in
set_option maxRecDepth 100000 in
theorem B_93_0 {x1 : Int32} {h : XH} {Q : Value → XH → Prop} (hs : Sh h) (k : Ev 93 2 [.ref 49, .int x1, .int 0] [] h Q) : Ev 93 0 (x_ini 93 [.ref 49, .int x1]) [] h Q := by
  rw [show x_ini 93 [.ref 49, .int x1] = [.ref 49, .int x1, .null] from x_inid ml_93 rfl]
  refine e_c 0 o_93_0 rfl ?_
  refine e_is (ls' := [.ref 49, .int x1, .int 0]) o_93_1 (Nat.le_of_ble_eq_true rfl) rfl ?_
  exact Ev.less (ls := [.ref 49, .int x1, .int 0]) ⟨Or.inr rfl, Or.inr rfl, Or.inr rfl, trivial⟩ k
set_option maxHeartbeats 4000000 in
set_option maxRecDepth 100000 in
theorem B_93_2 {x1 : Int32} {x2 : Int32} {h : XH} {Q : Value → XH → Prop} (hs : Sh h) (k : ((x1 ≤ x2) → Q (.int 1) h) ∧ (¬ (x1 ≤ x2) → ClI 59 [.ref 34, .int x2, .ref 50] h (fun v2 h1 => Sh h1 ∧ (InB (8 + x2) 20 ∧ (((v2 = (xI h1 50 (tn (8 + x2)))) → Ev 93 2 [.ref 49, .int x1, .int (x2 + 1)] [] h1 Q) ∧ (¬ (v2 = (xI h1 50 (tn (8 + x2)))) → Q (.int 0) h1)))))) : Ev 93 2 [.ref 49, .int x1, .int x2] [] h Q := by
  refine e_il o_93_2 rfl ?_
  refine e_il o_93_3 rfl ?_
  refine e_if_3 o_93_4 (fun z => ?_) (fun z => ?_)
  · have k := k.1 z
    refine e_c 1 o_93_39 rfl ?_
    exact e_retZ o_93_40 (by decide) k
  · have k := k.2 z
    refine e_al o_93_7 rfl ?_
    refine e_gR (r := 34) o_93_8 (sk_49 (h := h) hs) (sr_49_2 (h := h) hs) (by decide) ?_
    refine e_il o_93_11 rfl ?_
    refine e_al o_93_12 rfl ?_
    refine e_gR (r := 50) o_93_13 (sk_49 (h := h) hs) (sr_49_3 (h := h) hs) (by decide) ?_
    refine e_clI (as := [.ref 34, .int x2, .ref 50]) (rest := []) o_93_16 rfl rfl (x_okd cl_93_59 ml_59 (Nat.le_of_ble_eq_true rfl) (Nat.le_of_ble_eq_true rfl)) (x_rc0 (ci := 3) (sk_34 (h := h) hs) mo_59) k ?_
    rintro v2 h1 ⟨sh1, k⟩
    refine e_al o_93_19 rfl ?_
    refine e_gR (r := 50) o_93_20 (sk_49 (h := h1) sh1) (sr_49_3 (h := h1) sh1) (by decide) ?_
    refine e_c 8 o_93_23 rfl ?_
    refine e_il o_93_25 rfl ?_
    refine e_bin o_93_26 rfl ?_
    obtain ⟨q, k⟩ := k
    refine e_ia (n := 20) o_93_27 (sk_50 (h := h1) sh1) (sn_50 (h := h1) sh1) q ?_
    refine e_if_0 o_93_28 (fun z => ?_) (fun z => ?_)
    · have k := k.1 z
      refine e_inc (ls' := [.ref 49, .int x1, .int (x2 + 1)]) o_93_33 rfl rfl rfl ?_
      refine e_go o_93_36 ?_
      exact Ev.less (ls := [.ref 49, .int x1, .int (x2 + 1)]) ⟨Or.inr rfl, Or.inr rfl, Or.inr rfl, trivial⟩ k
    · have k := k.2 z
      refine e_c 0 o_93_31 rfl ?_
      exact e_retZ o_93_32 (by decide) k
set_option maxHeartbeats 4000000 in
set_option maxRecDepth 100000 in
theorem B_94_0 {x1 : Int32} {h : XH} {Q : Value → XH → Prop} (hs : Sh h) (k : Ev 94 4 [.ref 49, .int x1, .int 0, .int 0, .null] [] h Q) : Ev 94 0 (x_ini 94 [.ref 49, .int x1]) [] h Q := by
  rw [show x_ini 94 [.ref 49, .int x1] = [.ref 49, .int x1, .null, .null, .null] from x_inid ml_94 rfl]
  refine e_c 0 o_94_0 rfl ?_
  refine e_is (ls' := [.ref 49, .int x1, .int 0, .null, .null]) o_94_1 (Nat.le_of_ble_eq_true rfl) rfl ?_
  refine e_c 0 o_94_2 rfl ?_
  refine e_is (ls' := [.ref 49, .int x1, .int 0, .int 0, .null]) o_94_3 (Nat.le_of_ble_eq_true rfl) rfl ?_
  exact Ev.less (ls := [.ref 49, .int x1, .int 0, .int 0, .null]) ⟨Or.inr rfl, Or.inr rfl, Or.inr rfl, Or.inr rfl, Or.inl rfl, trivial⟩ k
set_option maxHeartbeats 4000000 in
set_option maxRecDepth 100000 in
theorem B_94_4 {x1 : Int32} {x2 : Int32} {x3 : Int32} {h : XH} {Q : Value → XH → Prop} (hs : Sh h) (k : (((Int32.ofNat (xN h (xR h 49 5))) ≤ x3) → Q (.int (-1)) h) ∧ (¬ ((Int32.ofNat (xN h (xR h 49 5))) ≤ x3) → (((xI h 49 1) ≤ x1) → Q (.int (-1)) h) ∧ (¬ ((xI h 49 1) ≤ x1) → InB x3 (xN h (xR h 49 5)) ∧ (ClI 95 [.long (xL h (xR h 49 5) (tn x3))] h (fun v2 h1 => Sh h1 ∧ ((((x2 + v2) ≤ x1) → Ev 94 4 [.ref 49, .int x1, .int (x2 + v2), .int (x3 + 1), .null] [] h1 Q) ∧ (¬ ((x2 + v2) ≤ x1) → InB x3 (xN h1 (xR h1 49 5)) ∧ (ClI 96 [.long (xL h1 (xR h1 49 5) (tn x3)), .int (x1 - x2)] h1 (fun v4 h3 => Sh h3 ∧ (Q (.int ((x3 * 64) + v4)) h3)))))))))) : Ev 94 4 [.ref 49, .int x1, .int x2, .int x3, .null] [] h Q := by
  refine e_il o_94_4 rfl ?_
  refine e_al o_94_5 rfl ?_
  refine e_gR (r := (xR h 49 5)) o_94_6 (sk_49 (h := h) hs) (rfl) (by have := Nat.le_trans (by decide : 4 ≤ 46) (sg4_49_5 (h := h) hs); omega) ?_
  refine e_len (n := (xN h (xR h 49 5))) o_94_9 (by rw [show _ = _ from sgk_49_5 (h := h) hs]; decide) (rfl) ?_
  refine e_if_3 o_94_10 (fun z => ?_) (fun z => ?_)
  · have k := k.1 z
    refine e_c (-1) o_94_69 rfl ?_
    exact e_retI o_94_70 k
  · have k := k.2 z
    refine e_il o_94_13 rfl ?_
    refine e_al o_94_14 rfl ?_
    refine e_gI o_94_15 (sk_49 (h := h) hs) ?_
    refine e_if_3 o_94_18 (fun z => ?_) (fun z => ?_)
    · have k := k.1 z
      refine e_c (-1) o_94_69 rfl ?_
      exact e_retI o_94_70 k
    · have k := k.2 z
      refine e_al o_94_21 rfl ?_
      refine e_gR (r := (xR h 49 5)) o_94_22 (sk_49 (h := h) hs) (rfl) (by have := Nat.le_trans (by decide : 4 ≤ 46) (sg4_49_5 (h := h) hs); omega) ?_
      refine e_il o_94_25 rfl ?_
      obtain ⟨q, k⟩ := k
      refine e_la (n := (xN h (xR h 49 5))) o_94_26 (sgk_49_5 (h := h) hs) (rfl) q ?_
      refine e_clI (as := [.long (xL h (xR h 49 5) (tn x3))]) (rest := []) o_94_27 rfl rfl (x_okd cl_94_95 ml_95 (Nat.le_of_ble_eq_true rfl) (Nat.le_of_ble_eq_true rfl)) (rfl) k ?_
      rintro v2 h1 ⟨sh1, k⟩
      refine e_is (ls' := [.ref 49, .int x1, .int x2, .int x3, .int v2]) o_94_30 (Nat.le_of_ble_eq_true rfl) rfl ?_
      refine e_il o_94_32 rfl ?_
      refine e_il o_94_33 rfl ?_
      refine e_bin o_94_35 rfl ?_
      refine e_il o_94_36 rfl ?_
      refine e_if_5 o_94_37 (fun z => ?_) (fun z => ?_)
      · have k := k.1 z
        refine e_il o_94_58 rfl ?_
        refine e_il o_94_59 rfl ?_
        refine e_bin o_94_61 rfl ?_
        refine e_is (ls' := [.ref 49, .int x1, .int (x2 + v2), .int x3, .int v2]) o_94_62 (Nat.le_of_ble_eq_true rfl) rfl ?_
        refine e_inc (ls' := [.ref 49, .int x1, .int (x2 + v2), .int (x3 + 1), .int v2]) o_94_63 rfl rfl rfl ?_
        refine e_go o_94_66 ?_
        exact Ev.less (ls := [.ref 49, .int x1, .int (x2 + v2), .int (x3 + 1), .null]) ⟨Or.inr rfl, Or.inr rfl, Or.inr rfl, Or.inr rfl, Or.inl rfl, trivial⟩ k
      · have k := k.2 z
        refine e_il o_94_40 rfl ?_
        refine e_c 64 o_94_41 rfl ?_
        refine e_bin o_94_43 rfl ?_
        refine e_al o_94_44 rfl ?_
        refine e_gR (r := (xR h1 49 5)) o_94_45 (sk_49 (h := h1) sh1) (rfl) (by have := Nat.le_trans (by decide : 4 ≤ 46) (sg4_49_5 (h := h1) sh1); omega) ?_
        refine e_il o_94_48 rfl ?_
        obtain ⟨q, k⟩ := k
        refine e_la (n := (xN h1 (xR h1 49 5))) o_94_49 (sgk_49_5 (h := h1) sh1) (rfl) q ?_
        refine e_il o_94_50 rfl ?_
        refine e_il o_94_51 rfl ?_
        refine e_bin o_94_52 rfl ?_
        refine e_clI (as := [.long (xL h1 (xR h1 49 5) (tn x3)), .int (x1 - x2)]) (rest := [.int (x3 * 64)]) o_94_53 rfl rfl (x_okd cl_94_96 ml_96 (Nat.le_of_ble_eq_true rfl) (Nat.le_of_ble_eq_true rfl)) (rfl) k ?_
        rintro v4 h3 ⟨sh3, k⟩
        refine e_bin o_94_56 rfl ?_
        exact e_retI o_94_57 k
set_option maxHeartbeats 4000000 in
set_option maxRecDepth 100000 in
theorem B_96_0 {x0 : Int64} {x2 : Int32} {h : XH} {Q : Value → XH → Prop} (hs : Sh h) (k : Ev 96 5 [.long x0, .null, .null, .int x2, .int 0] [] h Q) : Ev 96 0 (x_ini 96 [.long x0, .int x2]) [] h Q := by
  rw [show x_ini 96 [.long x0, .int x2] = [.long x0, .null, .int x2, .null, .null] from x_inid ml_96 rfl]
  refine e_il o_96_0 rfl ?_
  refine e_is (ls' := [.long x0, .null, .int x2, .int x2, .null]) o_96_1 (Nat.le_of_ble_eq_true rfl) rfl ?_
  refine e_c 0 o_96_2 rfl ?_
  refine e_is (ls' := [.long x0, .null, .int x2, .int x2, .int 0]) o_96_3 (Nat.le_of_ble_eq_true rfl) rfl ?_
  exact Ev.less (ls := [.long x0, .null, .null, .int x2, .int 0]) ⟨Or.inr rfl, Or.inl rfl, Or.inl rfl, Or.inr rfl, Or.inr rfl, trivial⟩ k
set_option maxHeartbeats 4000000 in
set_option maxRecDepth 100000 in
theorem B_96_5 {x0 : Int64} {x3 : Int32} {x4 : Int32} {h : XH} {Q : Value → XH → Prop} (hs : Sh h) (k : ((64 ≤ x4) → Q (.int 0) h) ∧ (¬ (64 ≤ x4) → ((¬ (lg_cmp (((x0 : Int64).toUInt64 >>> ((x4 : Int32).toInt64.toUInt64 &&& Int64.toUInt64 63)).toInt64 &&& 1) 1) = (0 : Int32)) → Ev 96 5 [.long x0, .null, .null, .int x3, .int (x4 + 1)] [] h Q) ∧ (¬ (¬ (lg_cmp (((x0 : Int64).toUInt64 >>> ((x4 : Int32).toInt64.toUInt64 &&& Int64.toUInt64 63)).toInt64 &&& 1) 1) = (0 : Int32)) → ((¬ x3 = 0) → Ev 96 5 [.long x0, .null, .null, .int (x3 + (-1)), .int (x4 + 1)] [] h Q) ∧ (¬ (¬ x3 = 0) → Q (.int x4) h)))) : Ev 96 5 [.long x0, .null, .null, .int x3, .int x4] [] h Q := by
  refine e_il o_96_5 rfl ?_
  refine e_c 64 o_96_7 rfl ?_
  refine e_if_3 o_96_9 (fun z => ?_) (fun z => ?_)
  · have k := k.1 z
    refine e_c 0 o_96_39 rfl ?_
    exact e_retI o_96_40 k
  · have k := k.2 z
    refine e_ll o_96_12 rfl ?_
    refine e_il o_96_13 rfl ?_
    refine e_lushr o_96_15 ?_
    refine e_lc 1 o_96_16 rfl ?_
    refine e_lbin o_96_17 rfl ?_
    refine e_lc 1 o_96_18 rfl ?_
    refine e_lcmp o_96_19 ?_
    refine e_i0_1 o_96_20 (fun z => ?_) (fun z => ?_)
    · have k := k.1 z
      refine e_inc (ls' := [.long x0, .null, .null, .int x3, .int (x4 + 1)]) o_96_33 rfl rfl rfl ?_
      refine e_go o_96_36 ?_
      exact Ev.less (ls := [.long x0, .null, .null, .int x3, .int (x4 + 1)]) ⟨Or.inr rfl, Or.inl rfl, Or.inl rfl, Or.inr rfl, Or.inr rfl, trivial⟩ k
    · have k := k.2 z
      refine e_il o_96_23 rfl ?_
      refine e_i0_1 o_96_24 (fun z => ?_) (fun z => ?_)
      · have k := k.1 z
        refine e_inc (ls' := [.long x0, .null, .null, .int (x3 + (-1)), .int x4]) o_96_30 rfl rfl rfl ?_
        refine e_inc (ls' := [.long x0, .null, .null, .int (x3 + (-1)), .int (x4 + 1)]) o_96_33 rfl rfl rfl ?_
        refine e_go o_96_36 ?_
        exact Ev.less (ls := [.long x0, .null, .null, .int (x3 + (-1)), .int (x4 + 1)]) ⟨Or.inr rfl, Or.inl rfl, Or.inl rfl, Or.inr rfl, Or.inr rfl, trivial⟩ k
      · have k := k.2 z
        refine e_il o_96_27 rfl ?_
        exact e_retI o_96_29 k
set_option maxHeartbeats 4000000 in
set_option maxRecDepth 100000 in
theorem B_99_0 {x1 : Int32} {h : XH} {Q : Value → XH → Prop} (hs : Sh h) (k : InB (8 + x1) 20 ∧ (((¬ (xI h 39 (tn (8 + x1))) = 4) → ClV 100 [.ref 43, .ref 39] h (fun h1 => Sh h1 ∧ (Ev 99 40 [.ref 43, .int x1, .ref 39, .ref (xR h 34 0), .int (-2), .int 9, .int 0, .null] [] h1 Q))) ∧ (¬ (¬ (xI h 39 (tn (8 + x1))) = 4) → ClI 52 [.ref (xR h 34 0), .ref 39] h (fun v4 h3 => Sh h3 ∧ (Q (.int v4) h3))))) : Ev 99 0 (x_ini 99 [.ref 43, .int x1, .ref 39]) [] h Q := by
  rw [show x_ini 99 [.ref 43, .int x1, .ref 39] = [.ref 43, .int x1, .ref 39, .null, .null, .null, .null, .null] from x_inid ml_99 rfl]
  refine e_al o_99_0 rfl ?_
  refine e_gR (r := 34) o_99_1 (sk_43 (h := h) hs) (sr_43_1 (h := h) hs) (by decide) ?_
  refine e_gR (r := (xR h 34 0)) o_99_4 (sk_34 (h := h) hs) (rfl) (by rcases (ss_p hs) with q | q <;> omega) ?_
  refine e_as (ls' := [.ref 43, .int x1, .ref 39, .ref (xR h 34 0), .null, .null, .null, .null]) o_99_7 (Nat.le_of_ble_eq_true rfl) rfl ?_
  refine e_al o_99_8 rfl ?_
  refine e_c 8 o_99_9 rfl ?_
  refine e_il o_99_11 rfl ?_
  refine e_bin o_99_12 rfl ?_
  obtain ⟨q, k⟩ := k
  refine e_ia (n := 20) o_99_13 (sk_39 (h := h) hs) (sn_39 (h := h) hs) q ?_
  refine e_c 4 o_99_14 rfl ?_
  refine e_if_1 o_99_15 (fun z => ?_) (fun z => ?_)
  · have k := k.1 z
    refine e_al o_99_24 rfl ?_
    refine e_al o_99_25 rfl ?_
    refine e_clV (as := [.ref 43, .ref 39]) (rest := []) o_99_26 rfl rfl (x_okd cl_99_100 ml_100 (Nat.le_of_ble_eq_true rfl) (Nat.le_of_ble_eq_true rfl)) (x_rc0 (ci := 7) (sk_43 (h := h) hs) mo_100) k ?_
    rintro h1 ⟨sh1, k⟩
    refine e_c (-2) o_99_29 rfl ?_
    refine e_is (ls' := [.ref 43, .int x1, .ref 39, .ref (xR h 34 0), .int (-2), .null, .null, .null]) o_99_31 (Nat.le_of_ble_eq_true rfl) rfl ?_
    refine e_c 9 o_99_33 rfl ?_
    refine e_is (ls' := [.ref 43, .int x1, .ref 39, .ref (xR h 34 0), .int (-2), .int 9, .null, .null]) o_99_35 (Nat.le_of_ble_eq_true rfl) rfl ?_
    refine e_c 0 o_99_37 rfl ?_
    refine e_is (ls' := [.ref 43, .int x1, .ref 39, .ref (xR h 34 0), .int (-2), .int 9, .int 0, .null]) o_99_38 (Nat.le_of_ble_eq_true rfl) rfl ?_
    exact Ev.less (ls := [.ref 43, .int x1, .ref 39, .ref (xR h 34 0), .int (-2), .int 9, .int 0, .null]) ⟨Or.inr rfl, Or.inr rfl, Or.inr rfl, Or.inr rfl, Or.inr rfl, Or.inr rfl, Or.inr rfl, Or.inl rfl, trivial⟩ k
  · have k := k.2 z
    refine e_al o_99_18 rfl ?_
    refine e_al o_99_19 rfl ?_
    refine e_clI (as := [.ref (xR h 34 0), .ref 39]) (rest := []) o_99_20 rfl rfl (x_okd cl_99_52 ml_52 (Nat.le_of_ble_eq_true rfl) (Nat.le_of_ble_eq_true rfl)) (x_rc0 (ci := 5) (sc_k (h := h) hs (ss_p hs)) mo_52) k ?_
    rintro v4 h3 ⟨sh3, k⟩
    exact e_retI o_99_23 k
set_option maxHeartbeats 4000000 in
set_option maxRecDepth 100000 in
theorem B_99_40 {x1 : Int32} {x3 : Nat} {x4 : Int32} {x5 : Int32} {x6 : Int32} {h : XH} {Q : Value → XH → Prop} (hs : Sh h) (hx3 : x3 = 14 ∨ x3 = 24) (k : (((xI h x3 6) ≤ x6) → Q (.int x4) h) ∧ (¬ ((xI h x3 6) ≤ x6) → InB x6 (xN h (xR h 43 4)) ∧ (ClI 64 [.int (xI h (xR h 43 4) (tn x6)), .int x1] h (fun v2 h1 => Sh h1 ∧ (((¬ v2 = 4) → Ev 99 40 [.ref 43, .int x1, .ref 39, .ref x3, .int x4, .int x5, .int (x6 + 1), .null] [] h1 Q) ∧ (¬ (¬ v2 = 4) → ClI 102 [.ref x3, .int x6, .ref 39] h1 (fun v4 h3 => Sh h3 ∧ (((v4 ≤ 0) → Ev 99 40 [.ref 43, .int x1, .ref 39, .ref x3, .int x4, .int x5, .int (x6 + 1), .null] [] h3 Q) ∧ (¬ (v4 ≤ 0) → ((x5 ≤ v4) → Ev 99 40 [.ref 43, .int x1, .ref 39, .ref x3, .int x4, .int x5, .int (x6 + 1), .null] [] h3 Q) ∧ (¬ (x5 ≤ v4) → Ev 99 40 [.ref 43, .int x1, .ref 39, .ref x3, .int x6, .int v4, .int (x6 + 1), .null] [] h3 Q)))))))))) : Ev 99 40 [.ref 43, .int x1, .ref 39, .ref x3, .int x4, .int x5, .int x6, .null] [] h Q := by
  refine e_il o_99_40 rfl ?_
  refine e_al o_99_42 rfl ?_
  refine e_gI o_99_43 (sc_k (h := h) hs hx3) ?_
  refine e_if_3 o_99_46 (fun z => ?_) (fun z => ?_)
  · have k := k.1 z
    refine e_il o_99_99 rfl ?_
    exact e_retI o_99_101 k
  · have k := k.2 z
    refine e_al o_99_49 rfl ?_
    refine e_gR (r := (xR h 43 4)) o_99_50 (sk_43 (h := h) hs) (rfl) (by have := Nat.le_trans (by decide : 4 ≤ 46) (sg4_43_4 (h := h) hs); omega) ?_
    refine e_il o_99_53 rfl ?_
    obtain ⟨q, k⟩ := k
    refine e_ia (n := (xN h (xR h 43 4))) o_99_55 (sgk_43_4 (h := h) hs) (rfl) q ?_
    refine e_il o_99_56 rfl ?_
    refine e_clI (as := [.int (xI h (xR h 43 4) (tn x6)), .int x1]) (rest := []) o_99_57 rfl rfl (x_okd cl_99_64 ml_64 (Nat.le_of_ble_eq_true rfl) (Nat.le_of_ble_eq_true rfl)) (rfl) k ?_
    rintro v2 h1 ⟨sh1, k⟩
    refine e_c 4 o_99_60 rfl ?_
    refine e_if_1 o_99_61 (fun z => ?_) (fun z => ?_)
    · have k := k.1 z
      refine e_inc (ls' := [.ref 43, .int x1, .ref 39, .ref x3, .int x4, .int x5, .int (x6 + 1), .null]) o_99_93 rfl rfl rfl ?_
      refine e_go o_99_96 ?_
      exact Ev.less (ls := [.ref 43, .int x1, .ref 39, .ref x3, .int x4, .int x5, .int (x6 + 1), .null]) ⟨Or.inr rfl, Or.inr rfl, Or.inr rfl, Or.inr rfl, Or.inr rfl, Or.inr rfl, Or.inr rfl, Or.inl rfl, trivial⟩ k
    · have k := k.2 z
      refine e_al o_99_64 rfl ?_
      refine e_il o_99_65 rfl ?_
      refine e_al o_99_67 rfl ?_
      refine e_clI (as := [.ref x3, .int x6, .ref 39]) (rest := []) o_99_68 rfl rfl (x_okd cl_99_102 ml_102 (Nat.le_of_ble_eq_true rfl) (Nat.le_of_ble_eq_true rfl)) (x_rc0 (ci := 5) (sc_k (h := h1) sh1 hx3) mo_102) k ?_
      rintro v4 h3 ⟨sh3, k⟩
      refine e_is (ls' := [.ref 43, .int x1, .ref 39, .ref x3, .int x4, .int x5, .int x6, .int v4]) o_99_71 (Nat.le_of_ble_eq_true rfl) rfl ?_
      refine e_il o_99_73 rfl ?_
      refine e_i0_5 o_99_75 (fun z => ?_) (fun z => ?_)
      · have k := k.1 z
        refine e_inc (ls' := [.ref 43, .int x1, .ref 39, .ref x3, .int x4, .int x5, .int (x6 + 1), .int v4]) o_99_93 rfl rfl rfl ?_
        refine e_go o_99_96 ?_
        exact Ev.less (ls := [.ref 43, .int x1, .ref 39, .ref x3, .int x4, .int x5, .int (x6 + 1), .null]) ⟨Or.inr rfl, Or.inr rfl, Or.inr rfl, Or.inr rfl, Or.inr rfl, Or.inr rfl, Or.inr rfl, Or.inl rfl, trivial⟩ k
      · have k := k.2 z
        refine e_il o_99_78 rfl ?_
        refine e_il o_99_80 rfl ?_
        refine e_if_3 o_99_82 (fun z => ?_) (fun z => ?_)
        · have k := k.1 z
          refine e_inc (ls' := [.ref 43, .int x1, .ref 39, .ref x3, .int x4, .int x5, .int (x6 + 1), .int v4]) o_99_93 rfl rfl rfl ?_
          refine e_go o_99_96 ?_
          exact Ev.less (ls := [.ref 43, .int x1, .ref 39, .ref x3, .int x4, .int x5, .int (x6 + 1), .null]) ⟨Or.inr rfl, Or.inr rfl, Or.inr rfl, Or.inr rfl, Or.inr rfl, Or.inr rfl, Or.inr rfl, Or.inl rfl, trivial⟩ k
        · have k := k.2 z
          refine e_il o_99_85 rfl ?_
          refine e_is (ls' := [.ref 43, .int x1, .ref 39, .ref x3, .int x6, .int x5, .int x6, .int v4]) o_99_87 (Nat.le_of_ble_eq_true rfl) rfl ?_
          refine e_il o_99_89 rfl ?_
          refine e_is (ls' := [.ref 43, .int x1, .ref 39, .ref x3, .int x6, .int v4, .int x6, .int v4]) o_99_91 (Nat.le_of_ble_eq_true rfl) rfl ?_
          refine e_inc (ls' := [.ref 43, .int x1, .ref 39, .ref x3, .int x6, .int v4, .int (x6 + 1), .int v4]) o_99_93 rfl rfl rfl ?_
          refine e_go o_99_96 ?_
          exact Ev.less (ls := [.ref 43, .int x1, .ref 39, .ref x3, .int x6, .int v4, .int (x6 + 1), .null]) ⟨Or.inr rfl, Or.inr rfl, Or.inr rfl, Or.inr rfl, Or.inr rfl, Or.inr rfl, Or.inr rfl, Or.inl rfl, trivial⟩ k
set_option maxHeartbeats 4000000 in
set_option maxRecDepth 100000 in
theorem B_100_0  {h : XH} {Q : Value → XH → Prop} (hs : Sh h) (k : (((xI h 43 0) = 0) → ClR 101 [.ref (xR h 43 4), .int (xI h (xR h 34 0) 6)] h (fun v2 h1 => Sh h1 ∧ (v2 ≠ 0 ∧ Ev 100 31 [.ref 43, .ref 39, .ref (xR h 34 0), .null] [] (xsR h1 43 4 v2) Q))) ∧ (¬ ((xI h 43 0) = 0) → Q .null h)) : Ev 100 0 (x_ini 100 [.ref 43, .ref 39]) [] h Q := by
  rw [show x_ini 100 [.ref 43, .ref 39] = [.ref 43, .ref 39, .null, .null] from x_inid ml_100 rfl]
  refine e_al o_100_0 rfl ?_
  refine e_gI o_100_1 (sk_43 (h := h) hs) ?_
  refine e_i0_0 o_100_4 (fun z => ?_) (fun z => ?_)
  · have k := k.1 z
    refine e_al o_100_8 rfl ?_
    refine e_gR (r := 34) o_100_9 (sk_43 (h := h) hs) (sr_43_1 (h := h) hs) (by decide) ?_
    refine e_gR (r := (xR h 34 0)) o_100_12 (sk_34 (h := h) hs) (rfl) (by rcases (ss_p hs) with q | q <;> omega) ?_
    refine e_as (ls' := [.ref 43, .ref 39, .ref (xR h 34 0), .null]) o_100_15 (Nat.le_of_ble_eq_true rfl) rfl ?_
    refine e_al o_100_16 rfl ?_
    refine e_al o_100_17 rfl ?_
    refine e_gR (r := (xR h 43 4)) o_100_18 (sk_43 (h := h) hs) (rfl) (by have := Nat.le_trans (by decide : 4 ≤ 46) (sg4_43_4 (h := h) hs); omega) ?_
    refine e_al o_100_21 rfl ?_
    refine e_gI o_100_22 (sc_k (h := h) hs (ss_p hs)) ?_
    refine e_clR (as := [.ref (xR h 43 4), .int (xI h (xR h 34 0) 6)]) (rest := [.ref 43]) o_100_25 rfl rfl (x_okd cl_100_101 ml_101 (Nat.le_of_ble_eq_true rfl) (Nat.le_of_ble_eq_true rfl)) (rfl) k ?_
    rintro v2 h1 ⟨sh1, k⟩
    obtain ⟨nv2, k⟩ := k
    refine e_pR o_100_28 (sk_43 (h := h1) sh1) (nv2) ?_
    exact Ev.less (ls := [.ref 43, .ref 39, .ref (xR h 34 0), .null]) ⟨Or.inr rfl, Or.inr rfl, Or.inr rfl, Or.inl rfl, trivial⟩ k
  · have k := k.2 z
    exact e_ret0 o_100_7 k
set_option maxHeartbeats 4000000 in
set_option maxRecDepth 100000 in
theorem B_100_33 {x2 : Nat} {x3 : Int32} {h : XH} {Q : Value → XH → Prop} (hs : Sh h) (hx2 : x2 = 14 ∨ x2 = 24) (k : (((xI h x2 6) ≤ x3) → Q .null (xsI h 43 0 1)) ∧ (¬ ((xI h x2 6) ≤ x3) → (39 ≠ 44 ∧ ¬ (0 : Int32) < 0 ∧ ¬ (0 : Int32) < 0 ∧ ¬ (20 : Int32) < 0 ∧ tn (0 : Int32) + tn (20 : Int32) ≤ 20 ∧ tn (0 : Int32) + tn (20 : Int32) ≤ 20) ∧ (ClV 54 [.ref x2, .ref 44, .int x3] (xsA h 44 (va_cpy (xI h 39) (xI h 44) (tn (0 : Int32)) (tn (0 : Int32)) (tn (20 : Int32)))) (fun h1 => Sh h1 ∧ (ClV 55 [.ref 34, .ref 44] h1 (fun h3 => Sh h3 ∧ (ClI 58 [.ref 44] h3 (fun v6 h5 => Sh h5 ∧ xR h5 43 4 = xR h3 43 4 ∧ (InB x3 (xN h5 (xR h5 43 4)) ∧ (Ev 100 33 [.ref 43, .ref 39, .ref x2, .int (x3 + 1)] [] (xsI h5 (xR h5 43 4) (tn x3) v6) Q)))))))))) : Ev 100 33 [.ref 43, .ref 39, .ref x2, .int x3] [] h Q := by
  refine e_il o_100_33 rfl ?_
  refine e_al o_100_34 rfl ?_
  refine e_gI o_100_35 (sc_k (h := h) hs hx2) ?_
  refine e_if_3 o_100_38 (fun z => ?_) (fun z => ?_)
  · have k := k.1 z
    refine e_al o_100_92 rfl ?_
    refine e_c 1 o_100_93 rfl ?_
    refine e_pZ o_100_94 (sk_43 (h := h) hs) (by decide) ?_
    exact e_ret0 o_100_97 k
  · have k := k.2 z
    refine e_al o_100_41 rfl ?_
    refine e_c 0 o_100_42 rfl ?_
    refine e_al o_100_43 rfl ?_
    refine e_gR (r := 44) o_100_44 (sk_43 (h := h) hs) (sr_43_2 (h := h) hs) (by decide) ?_
    refine e_c 0 o_100_47 rfl ?_
    refine e_c 20 o_100_48 rfl ?_
    obtain ⟨q, k⟩ := k
    refine e_cp (ns := 20) (nd := 20) o_100_50 ⟨sk_39 (h := h) hs, sk_44 (h := h) hs, by decide, by decide, q.1⟩ (sn_39 (h := h) hs) (sn_44 (h := h) hs) q.2 (Nat.le_of_ble_eq_true rfl) ?_
    refine e_al o_100_53 rfl ?_
    refine e_al o_100_54 rfl ?_
    refine e_gR (r := 44) o_100_55 (sk_43 (h := h) hs) (sr_43_2 (h := h) hs) (by decide) ?_
    refine e_il o_100_58 rfl ?_
    refine e_clV (as := [.ref x2, .ref 44, .int x3]) (rest := []) o_100_59 rfl rfl (x_okd cl_100_54 ml_54 (Nat.le_of_ble_eq_true rfl) (Nat.le_of_ble_eq_true rfl)) (x_rc0 (ci := 5) (sc_k (h := h) hs hx2) mo_54) k ?_
    rintro h1 ⟨sh1, k⟩
    refine e_al o_100_62 rfl ?_
    refine e_gR (r := 34) o_100_63 (sk_43 (h := h1) sh1) (sr_43_1 (h := h1) sh1) (by decide) ?_
    refine e_al o_100_66 rfl ?_
    refine e_gR (r := 44) o_100_67 (sk_43 (h := h1) sh1) (sr_43_2 (h := h1) sh1) (by decide) ?_
    refine e_clV (as := [.ref 34, .ref 44]) (rest := []) o_100_70 rfl rfl (x_okd cl_100_55 ml_55 (Nat.le_of_ble_eq_true rfl) (Nat.le_of_ble_eq_true rfl)) (x_rc0 (ci := 3) (sk_34 (h := h1) sh1) mo_55) k ?_
    rintro h3 ⟨sh3, k⟩
    refine e_al o_100_73 rfl ?_
    refine e_gR (r := (xR h3 43 4)) o_100_74 (sk_43 (h := h3) sh3) (rfl) (by have := Nat.le_trans (by decide : 4 ≤ 46) (sg4_43_4 (h := h3) sh3); omega) ?_
    refine e_il o_100_77 rfl ?_
    refine e_al o_100_78 rfl ?_
    refine e_gR (r := 44) o_100_79 (sk_43 (h := h3) sh3) (sr_43_2 (h := h3) sh3) (by decide) ?_
    refine e_clI (as := [.ref 44]) (rest := [.int x3, .ref (xR h3 43 4)]) o_100_82 rfl rfl (x_okd cl_100_58 ml_58 (Nat.le_of_ble_eq_true rfl) (Nat.le_of_ble_eq_true rfl)) (rfl) k ?_
    rintro v6 h5 ⟨sh5, g43_4_h5, k⟩
    rw [← g43_4_h5]
    obtain ⟨q, k⟩ := k
    refine e_ias (n := (xN h5 (xR h5 43 4))) o_100_85 (sgk_43_4 (h := h5) sh5) (Nat.le_trans (by decide : 4 ≤ 46) (sg4_43_4 (h := h5) sh5)) (rfl) q ?_
    refine e_inc (ls' := [.ref 43, .ref 39, .ref x2, .int (x3 + 1)]) o_100_86 rfl rfl rfl ?_
    refine e_go o_100_89 ?_
    exact Ev.less (ls := [.ref 43, .ref 39, .ref x2, .int (x3 + 1)]) ⟨Or.inr rfl, Or.inr rfl, Or.inr rfl, Or.inr rfl, trivial⟩ k
set_option maxHeartbeats 4000000 in
set_option maxRecDepth 100000 in
theorem B_100_31 {x2 : Nat} {h : XH} {Q : Value → XH → Prop} (hs : Sh h) (hx2 : x2 = 14 ∨ x2 = 24) (k : Ev 100 33 [.ref 43, .ref 39, .ref x2, .int 0] [] h Q) : Ev 100 31 [.ref 43, .ref 39, .ref x2, .null] [] h Q := by
  refine e_c 0 o_100_31 rfl ?_
  refine e_is (ls' := [.ref 43, .ref 39, .ref x2, .int 0]) o_100_32 (Nat.le_of_ble_eq_true rfl) rfl ?_
  exact Ev.less (ls := [.ref 43, .ref 39, .ref x2, .int 0]) ⟨Or.inr rfl, Or.inr rfl, Or.inr rfl, Or.inr rfl, trivial⟩ k
set_option maxHeartbeats 4000000 in
set_option maxRecDepth 100000 in
theorem B_104_0 {x1 : Int32} {h : XH} {Q : Value → XH → Prop} (hs : Sh h) (k : ((0 ≤ (xI h 53 0)) → Ev 104 67 [.ref 53, .int x1, .null, .ref (xR h 34 0), .int ((xI h 53 0) + 1)] [] h Q) ∧ (¬ (0 ≤ (xI h 53 0)) → (39 ≠ 54 ∧ ¬ (0 : Int32) < 0 ∧ ¬ (0 : Int32) < 0 ∧ ¬ (20 : Int32) < 0 ∧ tn (0 : Int32) + tn (20 : Int32) ≤ 20 ∧ tn (0 : Int32) + tn (20 : Int32) ≤ 20) ∧ (ClI 58 [.ref 54] (xsA h 54 (va_cpy (xI h 39) (xI h 54) (tn (0 : Int32)) (tn (0 : Int32)) (tn (20 : Int32)))) (fun v2 h1 => Sh h1 ∧ (InB 0 301 ∧ (ClI 52 [.ref (xR h 34 0), .ref 54] (xsI h1 56 (tn 0) v2) (fun v4 h3 => Sh h3 ∧ (InB 0 301 ∧ (Ev 104 67 [.ref 53, .int x1, .null, .ref (xR h 34 0), .int ((xI (xsI (xsI h3 57 (tn 0) v4) 53 0 0) 53 0) + 1)] [] (xsI (xsI h3 57 (tn 0) v4) 53 0 0) Q))))))))) : Ev 104 0 (x_ini 104 [.ref 53, .int x1, .ref 39]) [] h Q := by
  rw [show x_ini 104 [.ref 53, .int x1, .ref 39] = [.ref 53, .int x1, .ref 39, .null, .null] from x_inid ml_104 rfl]
  refine e_al o_104_0 rfl ?_
  refine e_gR (r := 34) o_104_1 (sk_53 (h := h) hs) (sr_53_1 (h := h) hs) (by decide) ?_
  refine e_gR (r := (xR h 34 0)) o_104_4 (sk_34 (h := h) hs) (rfl) (by rcases (ss_p hs) with q | q <;> omega) ?_
  refine e_as (ls' := [.ref 53, .int x1, .ref 39, .ref (xR h 34 0), .null]) o_104_7 (Nat.le_of_ble_eq_true rfl) rfl ?_
  refine e_al o_104_8 rfl ?_
  refine e_gI o_104_9 (sk_53 (h := h) hs) ?_
  refine e_i0_3 o_104_12 (fun z => ?_) (fun z => ?_)
  · have k := k.1 z
    refine e_al o_104_59 rfl ?_
    refine e_gI o_104_60 (sk_53 (h := h) hs) ?_
    refine e_c 1 o_104_63 rfl ?_
    refine e_bin o_104_64 rfl ?_
    refine e_is (ls' := [.ref 53, .int x1, .ref 39, .ref (xR h 34 0), .int ((xI h 53 0) + 1)]) o_104_65 (Nat.le_of_ble_eq_true rfl) rfl ?_
    exact Ev.less (ls := [.ref 53, .int x1, .null, .ref (xR h 34 0), .int ((xI h 53 0) + 1)]) ⟨Or.inr rfl, Or.inr rfl, Or.inl rfl, Or.inr rfl, Or.inr rfl, trivial⟩ k
  · have k := k.2 z
    refine e_al o_104_15 rfl ?_
    refine e_c 0 o_104_16 rfl ?_
    refine e_al o_104_17 rfl ?_
    refine e_gR (r := 54) o_104_18 (sk_53 (h := h) hs) (sr_53_2 (h := h) hs) (by decide) ?_
    refine e_c 0 o_104_21 rfl ?_
    refine e_c 20 o_104_22 rfl ?_
    obtain ⟨q, k⟩ := k
    refine e_cp (ns := 20) (nd := 20) o_104_24 ⟨sk_39 (h := h) hs, sk_54 (h := h) hs, by decide, by decide, q.1⟩ (sn_39 (h := h) hs) (sn_54 (h := h) hs) q.2 (Nat.le_of_ble_eq_true rfl) ?_
    refine e_al o_104_27 rfl ?_
    refine e_gR (r := 56) o_104_28 (sk_53 (h := h) hs) (sr_53_4 (h := h) hs) (by decide) ?_
    refine e_c 0 o_104_31 rfl ?_
    refine e_al o_104_32 rfl ?_
    refine e_gR (r := 54) o_104_33 (sk_53 (h := h) hs) (sr_53_2 (h := h) hs) (by decide) ?_
    refine e_clI (as := [.ref 54]) (rest := [.int 0, .ref 56]) o_104_36 rfl rfl (x_okd cl_104_58 ml_58 (Nat.le_of_ble_eq_true rfl) (Nat.le_of_ble_eq_true rfl)) (rfl) k ?_
    rintro v2 h1 ⟨sh1, k⟩
    obtain ⟨q, k⟩ := k
    refine e_ias (n := 301) o_104_39 (sk_56 (h := h1) sh1) (by decide) (sn_56 (h := h1) sh1) q ?_
    refine e_al o_104_40 rfl ?_
    refine e_gR (r := 57) o_104_41 (sk_53 (h := h1) sh1) (sr_53_5 (h := h1) sh1) (by decide) ?_
    refine e_c 0 o_104_44 rfl ?_
    refine e_al o_104_45 rfl ?_
    refine e_al o_104_46 rfl ?_
    refine e_gR (r := 54) o_104_47 (sk_53 (h := h1) sh1) (sr_53_2 (h := h1) sh1) (by decide) ?_
    refine e_clI (as := [.ref (xR h 34 0), .ref 54]) (rest := [.int 0, .ref 57]) o_104_50 rfl rfl (x_okd cl_104_52 ml_52 (Nat.le_of_ble_eq_true rfl) (Nat.le_of_ble_eq_true rfl)) (x_rc0 (ci := 5) (sc_k (h := h1) sh1 (ss_p hs)) mo_52) k ?_
    rintro v4 h3 ⟨sh3, k⟩
    obtain ⟨q, k⟩ := k
    refine e_ias (n := 301) o_104_53 (sk_57 (h := h3) sh3) (by decide) (sn_57 (h := h3) sh3) q ?_
    refine e_al o_104_54 rfl ?_
    refine e_c 0 o_104_55 rfl ?_
    refine e_pI o_104_56 (sk_53 (h := h3) sh3) ?_
    refine e_al o_104_59 rfl ?_
    refine e_gI o_104_60 (sk_53 (h := h3) sh3) ?_
    refine e_c 1 o_104_63 rfl ?_
    refine e_bin o_104_64 rfl ?_
    refine e_is (ls' := [.ref 53, .int x1, .ref 39, .ref (xR h 34 0), .int ((xI (xsI (xsI h3 57 (tn 0) v4) 53 0 0) 53 0) + 1)]) o_104_65 (Nat.le_of_ble_eq_true rfl) rfl ?_
    exact Ev.less (ls := [.ref 53, .int x1, .null, .ref (xR h 34 0), .int ((xI (xsI (xsI h3 57 (tn 0) v4) 53 0 0) 53 0) + 1)]) ⟨Or.inr rfl, Or.inr rfl, Or.inl rfl, Or.inr rfl, Or.inr rfl, trivial⟩ k
set_option maxHeartbeats 4000000 in
set_option maxRecDepth 100000 in
theorem B_104_67 {x1 : Int32} {x3 : Nat} {x4 : Int32} {h : XH} {Q : Value → XH → Prop} (hs : Sh h) (hx3 : x3 = 14 ∨ x3 = 24) (k : ((x1 < x4) → ((x1 < 0) → Q (.int 0) h) ∧ (¬ (x1 < 0) → ((300 < x1) → Q (.int 0) h) ∧ (¬ (300 < x1) → InB x1 301 ∧ (Q (.int (xI h 56 (tn x1))) h)))) ∧ (¬ (x1 < x4) → ((300 < x4) → ((x1 < 0) → Q (.int 0) h) ∧ (¬ (x1 < 0) → ((300 < x1) → Q (.int 0) h) ∧ (¬ (300 < x1) → InB x1 301 ∧ (Q (.int (xI h 56 (tn x1))) h)))) ∧ (¬ (300 < x4) → ClV 79 [.ref 34, .ref 54, .int (xI h x3 3)] h (fun h1 => Sh h1 ∧ (ClI 58 [.ref 54] h1 (fun v4 h3 => Sh h3 ∧ (InB x4 301 ∧ (ClI 52 [.ref x3, .ref 54] (xsI h3 56 (tn x4) v4) (fun v6 h5 => Sh h5 ∧ (InB x4 301 ∧ (Ev 104 67 [.ref 53, .int x1, .null, .ref x3, .int (x4 + 1)] [] (xsI (xsI h5 57 (tn x4) v6) 53 0 x4) Q))))))))))) : Ev 104 67 [.ref 53, .int x1, .null, .ref x3, .int x4] [] h Q := by
  refine e_il o_104_67 rfl ?_
  refine e_il o_104_69 rfl ?_
  refine e_if_4 o_104_70 (fun z => ?_) (fun z => ?_)
  · have k := k.1 z
    refine e_il o_104_137 rfl ?_
    refine e_i0_2 o_104_138 (fun z => ?_) (fun z => ?_)
    · have k := k.1 z
      refine e_c 0 o_104_157 rfl ?_
      exact e_retI o_104_158 k
    · have k := k.2 z
      refine e_il o_104_141 rfl ?_
      refine e_c 300 o_104_142 rfl ?_
      refine e_if_4 o_104_145 (fun z => ?_) (fun z => ?_)
      · have k := k.1 z
        refine e_c 0 o_104_157 rfl ?_
        exact e_retI o_104_158 k
      · have k := k.2 z
        refine e_al o_104_148 rfl ?_
        refine e_gR (r := 56) o_104_149 (sk_53 (h := h) hs) (sr_53_4 (h := h) hs) (by decide) ?_
        refine e_il o_104_152 rfl ?_
        obtain ⟨q, k⟩ := k
        refine e_ia (n := 301) o_104_153 (sk_56 (h := h) hs) (sn_56 (h := h) hs) q ?_
        refine e_go o_104_154 ?_
        exact e_retI o_104_158 k
  · have k := k.2 z
    refine e_il o_104_73 rfl ?_
    refine e_c 300 o_104_75 rfl ?_
    refine e_if_4 o_104_78 (fun z => ?_) (fun z => ?_)
    · have k := k.1 z
      refine e_il o_104_137 rfl ?_
      refine e_i0_2 o_104_138 (fun z => ?_) (fun z => ?_)
      · have k := k.1 z
        refine e_c 0 o_104_157 rfl ?_
        exact e_retI o_104_158 k
      · have k := k.2 z
        refine e_il o_104_141 rfl ?_
        refine e_c 300 o_104_142 rfl ?_
        refine e_if_4 o_104_145 (fun z => ?_) (fun z => ?_)
        · have k := k.1 z
          refine e_c 0 o_104_157 rfl ?_
          exact e_retI o_104_158 k
        · have k := k.2 z
          refine e_al o_104_148 rfl ?_
          refine e_gR (r := 56) o_104_149 (sk_53 (h := h) hs) (sr_53_4 (h := h) hs) (by decide) ?_
          refine e_il o_104_152 rfl ?_
          obtain ⟨q, k⟩ := k
          refine e_ia (n := 301) o_104_153 (sk_56 (h := h) hs) (sn_56 (h := h) hs) q ?_
          refine e_go o_104_154 ?_
          exact e_retI o_104_158 k
    · have k := k.2 z
      refine e_al o_104_81 rfl ?_
      refine e_gR (r := 34) o_104_82 (sk_53 (h := h) hs) (sr_53_1 (h := h) hs) (by decide) ?_
      refine e_al o_104_85 rfl ?_
      refine e_gR (r := 54) o_104_86 (sk_53 (h := h) hs) (sr_53_2 (h := h) hs) (by decide) ?_
      refine e_al o_104_89 rfl ?_
      refine e_gI o_104_90 (sc_k (h := h) hs hx3) ?_
      refine e_clV (as := [.ref 34, .ref 54, .int (xI h x3 3)]) (rest := []) o_104_93 rfl rfl (x_okd cl_104_79 ml_79 (Nat.le_of_ble_eq_true rfl) (Nat.le_of_ble_eq_true rfl)) (x_rc0 (ci := 3) (sk_34 (h := h) hs) mo_79) k ?_
      rintro h1 ⟨sh1, k⟩
      refine e_al o_104_96 rfl ?_
      refine e_gR (r := 56) o_104_97 (sk_53 (h := h1) sh1) (sr_53_4 (h := h1) sh1) (by decide) ?_
      refine e_il o_104_100 rfl ?_
      refine e_al o_104_102 rfl ?_
      refine e_gR (r := 54) o_104_103 (sk_53 (h := h1) sh1) (sr_53_2 (h := h1) sh1) (by decide) ?_
      refine e_clI (as := [.ref 54]) (rest := [.int x4, .ref 56]) o_104_106 rfl rfl (x_okd cl_104_58 ml_58 (Nat.le_of_ble_eq_true rfl) (Nat.le_of_ble_eq_true rfl)) (rfl) k ?_
      rintro v4 h3 ⟨sh3, k⟩
      obtain ⟨q, k⟩ := k
      refine e_ias (n := 301) o_104_109 (sk_56 (h := h3) sh3) (by decide) (sn_56 (h := h3) sh3) q ?_
      refine e_al o_104_110 rfl ?_
      refine e_gR (r := 57) o_104_111 (sk_53 (h := h3) sh3) (sr_53_5 (h := h3) sh3) (by decide) ?_
      refine e_il o_104_114 rfl ?_
      refine e_al o_104_116 rfl ?_
      refine e_al o_104_117 rfl ?_
      refine e_gR (r := 54) o_104_118 (sk_53 (h := h3) sh3) (sr_53_2 (h := h3) sh3) (by decide) ?_
      refine e_clI (as := [.ref x3, .ref 54]) (rest := [.int x4, .ref 57]) o_104_121 rfl rfl (x_okd cl_104_52 ml_52 (Nat.le_of_ble_eq_true rfl) (Nat.le_of_ble_eq_true rfl)) (x_rc0 (ci := 5) (sc_k (h := h3) sh3 hx3) mo_52) k ?_
      rintro v6 h5 ⟨sh5, k⟩
      obtain ⟨q, k⟩ := k
      refine e_ias (n := 301) o_104_124 (sk_57 (h := h5) sh5) (by decide) (sn_57 (h := h5) sh5) q ?_
      refine e_al o_104_125 rfl ?_
      refine e_il o_104_126 rfl ?_
      refine e_pI o_104_128 (sk_53 (h := h5) sh5) ?_
      refine e_inc (ls' := [.ref 53, .int x1, .null, .ref x3, .int (x4 + 1)]) o_104_131 rfl rfl rfl ?_
      refine e_go o_104_134 ?_
      exact Ev.less (ls := [.ref 53, .int x1, .null, .ref x3, .int (x4 + 1)]) ⟨Or.inr rfl, Or.inr rfl, Or.inl rfl, Or.inr rfl, Or.inr rfl, trivial⟩ k
set_option maxHeartbeats 4000000 in
set_option maxRecDepth 100000 in
theorem B_111_0 {x1 : Int32} {h : XH} {Q : Value → XH → Prop} (hs : Sh h) (k : ClV 100 [.ref 43, .ref 39] h (fun h1 => Sh h1 ∧ (Ev 111 10 [.ref 43, .int x1, .null, .int 0, .int 0] [] h1 Q))) : Ev 111 0 (x_ini 111 [.ref 43, .int x1, .ref 39]) [] h Q := by
  rw [show x_ini 111 [.ref 43, .int x1, .ref 39] = [.ref 43, .int x1, .ref 39, .null, .null] from x_inid ml_111 rfl]
  refine e_al o_111_0 rfl ?_
  refine e_al o_111_1 rfl ?_
  refine e_clV (as := [.ref 43, .ref 39]) (rest := []) o_111_2 rfl rfl (x_okd cl_111_100 ml_100 (Nat.le_of_ble_eq_true rfl) (Nat.le_of_ble_eq_true rfl)) (x_rc0 (ci := 7) (sk_43 (h := h) hs) mo_100) k ?_
  rintro h1 ⟨sh1, k⟩
  refine e_c 0 o_111_5 rfl ?_
  refine e_is (ls' := [.ref 43, .int x1, .ref 39, .int 0, .null]) o_111_6 (Nat.le_of_ble_eq_true rfl) rfl ?_
  refine e_c 0 o_111_7 rfl ?_
  refine e_is (ls' := [.ref 43, .int x1, .ref 39, .int 0, .int 0]) o_111_8 (Nat.le_of_ble_eq_true rfl) rfl ?_
  exact Ev.less (ls := [.ref 43, .int x1, .null, .int 0, .int 0]) ⟨Or.inr rfl, Or.inr rfl, Or.inl rfl, Or.inr rfl, Or.inr rfl, trivial⟩ k
set_option maxHeartbeats 4000000 in
set_option maxRecDepth 100000 in
theorem B_111_10 {x1 : Int32} {x3 : Int32} {x4 : Int32} {h : XH} {Q : Value → XH → Prop} (hs : Sh h) (k : (((xI h (xR h 34 0) 6) ≤ x4) → Q (.int x3) h) ∧ (¬ ((xI h (xR h 34 0) 6) ≤ x4) → InB x4 (xN h (xR h 43 4)) ∧ (ClI 64 [.int (xI h (xR h 43 4) (tn x4)), .int x1] h (fun v2 h1 => Sh h1 ∧ (((¬ v2 = 4) → Ev 111 10 [.ref 43, .int x1, .null, .int x3, .int (x4 + 1)] [] h1 Q) ∧ (¬ (¬ v2 = 4) → Ev 111 10 [.ref 43, .int x1, .null, .int (x3 + 1), .int (x4 + 1)] [] h1 Q)))))) : Ev 111 10 [.ref 43, .int x1, .null, .int x3, .int x4] [] h Q := by
  refine e_il o_111_10 rfl ?_
  refine e_al o_111_12 rfl ?_
  refine e_gR (r := 34) o_111_13 (sk_43 (h := h) hs) (sr_43_1 (h := h) hs) (by decide) ?_
  refine e_gR (r := (xR h 34 0)) o_111_16 (sk_34 (h := h) hs) (rfl) (by rcases (ss_p hs) with q | q <;> omega) ?_
  refine e_gI o_111_19 (sc_k (h := h) hs (ss_p hs)) ?_
  refine e_if_3 o_111_22 (fun z => ?_) (fun z => ?_)
  · have k := k.1 z
    refine e_il o_111_49 rfl ?_
    exact e_retI o_111_50 k
  · have k := k.2 z
    refine e_al o_111_25 rfl ?_
    refine e_gR (r := (xR h 43 4)) o_111_26 (sk_43 (h := h) hs) (rfl) (by have := Nat.le_trans (by decide : 4 ≤ 46) (sg4_43_4 (h := h) hs); omega) ?_
    refine e_il o_111_29 rfl ?_
    obtain ⟨q, k⟩ := k
    refine e_ia (n := (xN h (xR h 43 4))) o_111_31 (sgk_43_4 (h := h) hs) (rfl) q ?_
    refine e_il o_111_32 rfl ?_
    refine e_clI (as := [.int (xI h (xR h 43 4) (tn x4)), .int x1]) (rest := []) o_111_33 rfl rfl (x_okd cl_111_64 ml_64 (Nat.le_of_ble_eq_true rfl) (Nat.le_of_ble_eq_true rfl)) (rfl) k ?_
    rintro v2 h1 ⟨sh1, k⟩
    refine e_c 4 o_111_36 rfl ?_
    refine e_if_1 o_111_37 (fun z => ?_) (fun z => ?_)
    · have k := k.1 z
      refine e_inc (ls' := [.ref 43, .int x1, .null, .int x3, .int (x4 + 1)]) o_111_43 rfl rfl rfl ?_
      refine e_go o_111_46 ?_
      exact Ev.less (ls := [.ref 43, .int x1, .null, .int x3, .int (x4 + 1)]) ⟨Or.inr rfl, Or.inr rfl, Or.inl rfl, Or.inr rfl, Or.inr rfl, trivial⟩ k
    · have k := k.2 z
      refine e_inc (ls' := [.ref 43, .int x1, .null, .int (x3 + 1), .int x4]) o_111_40 rfl rfl rfl ?_
      refine e_inc (ls' := [.ref 43, .int x1, .null, .int (x3 + 1), .int (x4 + 1)]) o_111_43 rfl rfl rfl ?_
      refine e_go o_111_46 ?_
      exact Ev.less (ls := [.ref 43, .int x1, .null, .int (x3 + 1), .int (x4 + 1)]) ⟨Or.inr rfl, Or.inr rfl, Or.inl rfl, Or.inr rfl, Or.inr rfl, trivial⟩ k
set_option maxHeartbeats 4000000 in
set_option maxRecDepth 100000 in
theorem B_113_0 {x1 : Int32} {h : XH} {Q : Value → XH → Prop} (hs : Sh h) (k : ClV 100 [.ref 43, .ref 39] h (fun h1 => Sh h1 ∧ (Ev 113 10 [.ref 43, .int x1, .null, .int 0, .int 0] [] h1 Q))) : Ev 113 0 (x_ini 113 [.ref 43, .int x1, .ref 39]) [] h Q := by
  rw [show x_ini 113 [.ref 43, .int x1, .ref 39] = [.ref 43, .int x1, .ref 39, .null, .null] from x_inid ml_113 rfl]
  refine e_al o_113_0 rfl ?_
  refine e_al o_113_1 rfl ?_
  refine e_clV (as := [.ref 43, .ref 39]) (rest := []) o_113_2 rfl rfl (x_okd cl_113_100 ml_100 (Nat.le_of_ble_eq_true rfl) (Nat.le_of_ble_eq_true rfl)) (x_rc0 (ci := 7) (sk_43 (h := h) hs) mo_100) k ?_
  rintro h1 ⟨sh1, k⟩
  refine e_c 0 o_113_5 rfl ?_
  refine e_is (ls' := [.ref 43, .int x1, .ref 39, .int 0, .null]) o_113_6 (Nat.le_of_ble_eq_true rfl) rfl ?_
  refine e_c 0 o_113_7 rfl ?_
  refine e_is (ls' := [.ref 43, .int x1, .ref 39, .int 0, .int 0]) o_113_8 (Nat.le_of_ble_eq_true rfl) rfl ?_
  exact Ev.less (ls := [.ref 43, .int x1, .null, .int 0, .int 0]) ⟨Or.inr rfl, Or.inr rfl, Or.inl rfl, Or.inr rfl, Or.inr rfl, trivial⟩ k
set_option maxHeartbeats 4000000 in
set_option maxRecDepth 100000 in
theorem B_113_10 {x1 : Int32} {x3 : Int32} {x4 : Int32} {h : XH} {Q : Value → XH → Prop} (hs : Sh h) (k : (((xI h (xR h 34 0) 6) ≤ x4) → Q (.int x3) h) ∧ (¬ ((xI h (xR h 34 0) 6) ≤ x4) → InB x4 (xN h (xR h 43 4)) ∧ (ClI 64 [.int (xI h (xR h 43 4) (tn x4)), .int x1] h (fun v2 h1 => Sh h1 ∧ (Ev 113 10 [.ref 43, .int x1, .null, .int (x3 + v2), .int (x4 + 1)] [] h1 Q))))) : Ev 113 10 [.ref 43, .int x1, .null, .int x3, .int x4] [] h Q := by
  refine e_il o_113_10 rfl ?_
  refine e_al o_113_12 rfl ?_
  refine e_gR (r := 34) o_113_13 (sk_43 (h := h) hs) (sr_43_1 (h := h) hs) (by decide) ?_
  refine e_gR (r := (xR h 34 0)) o_113_16 (sk_34 (h := h) hs) (rfl) (by rcases (ss_p hs) with q | q <;> omega) ?_
  refine e_gI o_113_19 (sc_k (h := h) hs (ss_p hs)) ?_
  refine e_if_3 o_113_22 (fun z => ?_) (fun z => ?_)
  · have k := k.1 z
    refine e_il o_113_45 rfl ?_
    exact e_retI o_113_46 k
  · have k := k.2 z
    refine e_il o_113_25 rfl ?_
    refine e_al o_113_26 rfl ?_
    refine e_gR (r := (xR h 43 4)) o_113_27 (sk_43 (h := h) hs) (rfl) (by have := Nat.le_trans (by decide : 4 ≤ 46) (sg4_43_4 (h := h) hs); omega) ?_
    refine e_il o_113_30 rfl ?_
    obtain ⟨q, k⟩ := k
    refine e_ia (n := (xN h (xR h 43 4))) o_113_32 (sgk_43_4 (h := h) hs) (rfl) q ?_
    refine e_il o_113_33 rfl ?_
    refine e_clI (as := [.int (xI h (xR h 43 4) (tn x4)), .int x1]) (rest := [.int x3]) o_113_34 rfl rfl (x_okd cl_113_64 ml_64 (Nat.le_of_ble_eq_true rfl) (Nat.le_of_ble_eq_true rfl)) (rfl) k ?_
    rintro v2 h1 ⟨sh1, k⟩
    refine e_bin o_113_37 rfl ?_
    refine e_is (ls' := [.ref 43, .int x1, .null, .int (x3 + v2), .int x4]) o_113_38 (Nat.le_of_ble_eq_true rfl) rfl ?_
    refine e_inc (ls' := [.ref 43, .int x1, .null, .int (x3 + v2), .int (x4 + 1)]) o_113_39 rfl rfl rfl ?_
    refine e_go o_113_42 ?_
    exact Ev.less (ls := [.ref 43, .int x1, .null, .int (x3 + v2), .int (x4 + 1)]) ⟨Or.inr rfl, Or.inr rfl, Or.inl rfl, Or.inr rfl, Or.inr rfl, trivial⟩ k
set_option maxHeartbeats 4000000 in
set_option maxRecDepth 100000 in
theorem B_116_0 {x1 : Int32} {x2 : Int32} {h : XH} {Q : Value → XH → Prop} (hs : Sh h) (k : ClV 100 [.ref 43, .ref 39] h (fun h1 => Sh h1 ∧ (InB x2 8 ∧ (InB x2 8 ∧ (Ev 116 38 [.ref 43, .int x1, .int x2, .null, .ref (xR h1 34 0), .int (xI h1 ((xR h1 34 0) + 1) (tn x2)), .int (xI h1 ((xR h1 34 0) + 3) (tn x2)), .int 0, .int 0, .null] [] h1 Q))))) : Ev 116 0 (x_ini 116 [.ref 43, .int x1, .int x2, .ref 39]) [] h Q := by
  rw [show x_ini 116 [.ref 43, .int x1, .int x2, .ref 39] = [.ref 43, .int x1, .int x2, .ref 39, .null, .null, .null, .null, .null, .null] from x_inid ml_116 rfl]
  refine e_al o_116_0 rfl ?_
  refine e_al o_116_1 rfl ?_
  refine e_clV (as := [.ref 43, .ref 39]) (rest := []) o_116_2 rfl rfl (x_okd cl_116_100 ml_100 (Nat.le_of_ble_eq_true rfl) (Nat.le_of_ble_eq_true rfl)) (x_rc0 (ci := 7) (sk_43 (h := h) hs) mo_100) k ?_
  rintro h1 ⟨sh1, k⟩
  refine e_al o_116_5 rfl ?_
  refine e_gR (r := 34) o_116_6 (sk_43 (h := h1) sh1) (sr_43_1 (h := h1) sh1) (by decide) ?_
  refine e_gR (r := (xR h1 34 0)) o_116_9 (sk_34 (h := h1) sh1) (rfl) (by rcases (ss_p sh1) with q | q <;> omega) ?_
  refine e_as (ls' := [.ref 43, .int x1, .int x2, .ref 39, .ref (xR h1 34 0), .null, .null, .null, .null, .null]) o_116_12 (Nat.le_of_ble_eq_true rfl) rfl ?_
  refine e_al o_116_14 rfl ?_
  refine e_gR (r := ((xR h1 34 0) + 1)) o_116_16 (sc_k (h := h1) sh1 (ss_p sh1)) (sc_r9 (h := h1) sh1 (ss_p sh1)) (by omega) ?_
  refine e_il o_116_19 rfl ?_
  obtain ⟨q, k⟩ := k
  refine e_ia (n := 8) o_116_20 ((sc_a1 (h := h1) sh1 (ss_p sh1)).1) ((sc_a1 (h := h1) sh1 (ss_p sh1)).2.1) q ?_
  refine e_is (ls' := [.ref 43, .int x1, .int x2, .ref 39, .ref (xR h1 34 0), .int (xI h1 ((xR h1 34 0) + 1) (tn x2)), .null, .null, .null, .null]) o_116_21 (Nat.le_of_ble_eq_true rfl) rfl ?_
  refine e_al o_116_23 rfl ?_
  refine e_gR (r := ((xR h1 34 0) + 3)) o_116_25 (sc_k (h := h1) sh1 (ss_p sh1)) (sc_r11 (h := h1) sh1 (ss_p sh1)) (by omega) ?_
  refine e_il o_116_28 rfl ?_
  obtain ⟨q, k⟩ := k
  refine e_ia (n := 8) o_116_29 ((sc_a3 (h := h1) sh1 (ss_p sh1)).1) ((sc_a3 (h := h1) sh1 (ss_p sh1)).2.1) q ?_
  refine e_is (ls' := [.ref 43, .int x1, .int x2, .ref 39, .ref (xR h1 34 0), .int (xI h1 ((xR h1 34 0) + 1) (tn x2)), .int (xI h1 ((xR h1 34 0) + 3) (tn x2)), .null, .null, .null]) o_116_30 (Nat.le_of_ble_eq_true rfl) rfl ?_
  refine e_c 0 o_116_32 rfl ?_
  refine e_is (ls' := [.ref 43, .int x1, .int x2, .ref 39, .ref (xR h1 34 0), .int (xI h1 ((xR h1 34 0) + 1) (tn x2)), .int (xI h1 ((xR h1 34 0) + 3) (tn x2)), .int 0, .null, .null]) o_116_33 (Nat.le_of_ble_eq_true rfl) rfl ?_
  refine e_c 0 o_116_35 rfl ?_
  refine e_is (ls' := [.ref 43, .int x1, .int x2, .ref 39, .ref (xR h1 34 0), .int (xI h1 ((xR h1 34 0) + 1) (tn x2)), .int (xI h1 ((xR h1 34 0) + 3) (tn x2)), .int 0, .int 0, .null]) o_116_36 (Nat.le_of_ble_eq_true rfl) rfl ?_
  exact Ev.less (ls := [.ref 43, .int x1, .int x2, .null, .ref (xR h1 34 0), .int (xI h1 ((xR h1 34 0) + 1) (tn x2)), .int (xI h1 ((xR h1 34 0) + 3) (tn x2)), .int 0, .int 0, .null]) ⟨Or.inr rfl, Or.inr rfl, Or.inr rfl, Or.inl rfl, Or.inr rfl, Or.inr rfl, Or.inr rfl, Or.inr rfl, Or.inr rfl, Or.inl rfl, trivial⟩ k
set_option maxHeartbeats 4000000 in
set_option maxRecDepth 100000 in
theorem B_116_38 {x1 : Int32} {x2 : Int32} {x4 : Nat} {x5 : Int32} {x6 : Int32} {x7 : Int32} {x8 : Int32} {h : XH} {Q : Value → XH → Prop} (hs : Sh h) (hx4 : x4 = 14 ∨ x4 = 24) (k : (((xI h x4 6) ≤ x8) → Q (.int x7) h) ∧ (¬ ((xI h x4 6) ≤ x8) → ClI 117 [.ref x4, .int x8, .int x2] h (fun v2 h1 => Sh h1 ∧ (((x5 ≤ v2) → InB x8 (xN h1 (xR h1 43 4)) ∧ (ClI 64 [.int (xI h1 (xR h1 43 4) (tn x8)), .int x1] h1 (fun v4 h3 => Sh h3 ∧ (InB (x8 - (x5 * x6)) (xN h3 (xR h3 43 4)) ∧ (ClI 64 [.int (xI h3 (xR h3 43 4) (tn (x8 - (x5 * x6)))), .int x1] h3 (fun v6 h5 => Sh h5 ∧ (((v4 = v6) → Ev 116 38 [.ref 43, .int x1, .int x2, .null, .ref x4, .int x5, .int x6, .int x7, .int (x8 + 1), .null] [] h5 Q) ∧ (¬ (v4 = v6) → Ev 116 38 [.ref 43, .int x1, .int x2, .null, .ref x4, .int x5, .int x6, .int (x7 + 1), .int (x8 + 1), .null] [] h5 Q)))))))) ∧ (¬ (x5 ≤ v2) → InB x8 (xN h1 (xR h1 43 4)) ∧ (ClI 64 [.int (xI h1 (xR h1 43 4) (tn x8)), .int x1] h1 (fun v8 h7 => Sh h7 ∧ (InB (x8 + x6) (xN h7 (xR h7 43 4)) ∧ (ClI 64 [.int (xI h7 (xR h7 43 4) (tn (x8 + x6))), .int x1] h7 (fun v10 h9 => Sh h9 ∧ (((v8 = v10) → Ev 116 38 [.ref 43, .int x1, .int x2, .null, .ref x4, .int x5, .int x6, .int x7, .int (x8 + 1), .null] [] h9 Q) ∧ (¬ (v8 = v10) → Ev 116 38 [.ref 43, .int x1, .int x2, .null, .ref x4, .int x5, .int x6, .int (x7 + 1), .int (x8 + 1), .null] [] h9 Q)))))))))))) : Ev 116 38 [.ref 43, .int x1, .int x2, .null, .ref x4, .int x5, .int x6, .int x7, .int x8, .null] [] h Q := by
  refine e_il o_116_38 rfl ?_
  refine e_al o_116_40 rfl ?_
  refine e_gI o_116_42 (sc_k (h := h) hs hx4) ?_
  refine e_if_3 o_116_45 (fun z => ?_) (fun z => ?_)
  · have k := k.1 z
    refine e_il o_116_113 rfl ?_
    exact e_retI o_116_115 k
  · have k := k.2 z
    refine e_al o_116_48 rfl ?_
    refine e_il o_116_50 rfl ?_
    refine e_il o_116_52 rfl ?_
    refine e_clI (as := [.ref x4, .int x8, .int x2]) (rest := []) o_116_53 rfl rfl (x_okd cl_116_117 ml_117 (Nat.le_of_ble_eq_true rfl) (Nat.le_of_ble_eq_true rfl)) (x_rc0 (ci := 5) (sc_k (h := h) hs hx4) mo_117) k ?_
    rintro v2 h1 ⟨sh1, k⟩
    refine e_il o_116_56 rfl ?_
    refine e_if_3 o_116_58 (fun z => ?_) (fun z => ?_)
    · have k := k.1 z
      refine e_il o_116_69 rfl ?_
      refine e_il o_116_71 rfl ?_
      refine e_il o_116_73 rfl ?_
      refine e_bin o_116_75 rfl ?_
      refine e_bin o_116_76 rfl ?_
      refine e_is (ls' := [.ref 43, .int x1, .int x2, .null, .ref x4, .int x5, .int x6, .int x7, .int x8, .int (x8 - (x5 * x6))]) o_116_77 (Nat.le_of_ble_eq_true rfl) rfl ?_
      refine e_al o_116_79 rfl ?_
      refine e_gR (r := (xR h1 43 4)) o_116_80 (sk_43 (h := h1) sh1) (rfl) (by have := Nat.le_trans (by decide : 4 ≤ 46) (sg4_43_4 (h := h1) sh1); omega) ?_
      refine e_il o_116_83 rfl ?_
      obtain ⟨q, k⟩ := k
      refine e_ia (n := (xN h1 (xR h1 43 4))) o_116_85 (sgk_43_4 (h := h1) sh1) (rfl) q ?_
      refine e_il o_116_86 rfl ?_
      refine e_clI (as := [.int (xI h1 (xR h1 43 4) (tn x8)), .int x1]) (rest := []) o_116_87 rfl rfl (x_okd cl_116_64 ml_64 (Nat.le_of_ble_eq_true rfl) (Nat.le_of_ble_eq_true rfl)) (rfl) k ?_
      rintro v4 h3 ⟨sh3, k⟩
      refine e_al o_116_90 rfl ?_
      refine e_gR (r := (xR h3 43 4)) o_116_91 (sk_43 (h := h3) sh3) (rfl) (by have := Nat.le_trans (by decide : 4 ≤ 46) (sg4_43_4 (h := h3) sh3); omega) ?_
      refine e_il o_116_94 rfl ?_
      obtain ⟨q, k⟩ := k
      refine e_ia (n := (xN h3 (xR h3 43 4))) o_116_96 (sgk_43_4 (h := h3) sh3) (rfl) q ?_
      refine e_il o_116_97 rfl ?_
      refine e_clI (as := [.int (xI h3 (xR h3 43 4) (tn (x8 - (x5 * x6)))), .int x1]) (rest := [.int v4]) o_116_98 rfl rfl (x_okd cl_116_64 ml_64 (Nat.le_of_ble_eq_true rfl) (Nat.le_of_ble_eq_true rfl)) (rfl) k ?_
      rintro v6 h5 ⟨sh5, k⟩
      refine e_if_0 o_116_101 (fun z => ?_) (fun z => ?_)
      · have k := k.1 z
        refine e_inc (ls' := [.ref 43, .int x1, .int x2, .null, .ref x4, .int x5, .int x6, .int x7, .int (x8 + 1), .int (x8 - (x5 * x6))]) o_116_107 rfl rfl rfl ?_
        refine e_go o_116_110 ?_
        exact Ev.less (ls := [.ref 43, .int x1, .int x2, .null, .ref x4, .int x5, .int x6, .int x7, .int (x8 + 1), .null]) ⟨Or.inr rfl, Or.inr rfl, Or.inr rfl, Or.inl rfl, Or.inr rfl, Or.inr rfl, Or.inr rfl, Or.inr rfl, Or.inr rfl, Or.inl rfl, trivial⟩ k
      · have k := k.2 z
        refine e_inc (ls' := [.ref 43, .int x1, .int x2, .null, .ref x4, .int x5, .int x6, .int (x7 + 1), .int x8, .int (x8 - (x5 * x6))]) o_116_104 rfl rfl rfl ?_
        refine e_inc (ls' := [.ref 43, .int x1, .int x2, .null, .ref x4, .int x5, .int x6, .int (x7 + 1), .int (x8 + 1), .int (x8 - (x5 * x6))]) o_116_107 rfl rfl rfl ?_
        refine e_go o_116_110 ?_
        exact Ev.less (ls := [.ref 43, .int x1, .int x2, .null, .ref x4, .int x5, .int x6, .int (x7 + 1), .int (x8 + 1), .null]) ⟨Or.inr rfl, Or.inr rfl, Or.inr rfl, Or.inl rfl, Or.inr rfl, Or.inr rfl, Or.inr rfl, Or.inr rfl, Or.inr rfl, Or.inl rfl, trivial⟩ k
    · have k := k.2 z
      refine e_il o_116_61 rfl ?_
      refine e_il o_116_63 rfl ?_
      refine e_bin o_116_65 rfl ?_
      refine e_go o_116_66 ?_
      refine e_is (ls' := [.ref 43, .int x1, .int x2, .null, .ref x4, .int x5, .int x6, .int x7, .int x8, .int (x8 + x6)]) o_116_77 (Nat.le_of_ble_eq_true rfl) rfl ?_
      refine e_al o_116_79 rfl ?_
      refine e_gR (r := (xR h1 43 4)) o_116_80 (sk_43 (h := h1) sh1) (rfl) (by have := Nat.le_trans (by decide : 4 ≤ 46) (sg4_43_4 (h := h1) sh1); omega) ?_
      refine e_il o_116_83 rfl ?_
      obtain ⟨q, k⟩ := k
      refine e_ia (n := (xN h1 (xR h1 43 4))) o_116_85 (sgk_43_4 (h := h1) sh1) (rfl) q ?_
      refine e_il o_116_86 rfl ?_
      refine e_clI (as := [.int (xI h1 (xR h1 43 4) (tn x8)), .int x1]) (rest := []) o_116_87 rfl rfl (x_okd cl_116_64 ml_64 (Nat.le_of_ble_eq_true rfl) (Nat.le_of_ble_eq_true rfl)) (rfl) k ?_
      rintro v8 h7 ⟨sh7, k⟩
      refine e_al o_116_90 rfl ?_
      refine e_gR (r := (xR h7 43 4)) o_116_91 (sk_43 (h := h7) sh7) (rfl) (by have := Nat.le_trans (by decide : 4 ≤ 46) (sg4_43_4 (h := h7) sh7); omega) ?_
      refine e_il o_116_94 rfl ?_
      obtain ⟨q, k⟩ := k
      refine e_ia (n := (xN h7 (xR h7 43 4))) o_116_96 (sgk_43_4 (h := h7) sh7) (rfl) q ?_
      refine e_il o_116_97 rfl ?_
      refine e_clI (as := [.int (xI h7 (xR h7 43 4) (tn (x8 + x6))), .int x1]) (rest := [.int v8]) o_116_98 rfl rfl (x_okd cl_116_64 ml_64 (Nat.le_of_ble_eq_true rfl) (Nat.le_of_ble_eq_true rfl)) (rfl) k ?_
      rintro v10 h9 ⟨sh9, k⟩
      refine e_if_0 o_116_101 (fun z => ?_) (fun z => ?_)
      · have k := k.1 z
        refine e_inc (ls' := [.ref 43, .int x1, .int x2, .null, .ref x4, .int x5, .int x6, .int x7, .int (x8 + 1), .int (x8 + x6)]) o_116_107 rfl rfl rfl ?_
        refine e_go o_116_110 ?_
        exact Ev.less (ls := [.ref 43, .int x1, .int x2, .null, .ref x4, .int x5, .int x6, .int x7, .int (x8 + 1), .null]) ⟨Or.inr rfl, Or.inr rfl, Or.inr rfl, Or.inl rfl, Or.inr rfl, Or.inr rfl, Or.inr rfl, Or.inr rfl, Or.inr rfl, Or.inl rfl, trivial⟩ k
      · have k := k.2 z
        refine e_inc (ls' := [.ref 43, .int x1, .int x2, .null, .ref x4, .int x5, .int x6, .int (x7 + 1), .int x8, .int (x8 + x6)]) o_116_104 rfl rfl rfl ?_
        refine e_inc (ls' := [.ref 43, .int x1, .int x2, .null, .ref x4, .int x5, .int x6, .int (x7 + 1), .int (x8 + 1), .int (x8 + x6)]) o_116_107 rfl rfl rfl ?_
        refine e_go o_116_110 ?_
        exact Ev.less (ls := [.ref 43, .int x1, .int x2, .null, .ref x4, .int x5, .int x6, .int (x7 + 1), .int (x8 + 1), .null]) ⟨Or.inr rfl, Or.inr rfl, Or.inr rfl, Or.inl rfl, Or.inr rfl, Or.inr rfl, Or.inr rfl, Or.inr rfl, Or.inr rfl, Or.inl rfl, trivial⟩ k
set_option maxHeartbeats 4000000 in
set_option maxRecDepth 100000 in
theorem B_119_0 {x1 : Int32} {x2 : Int32} {h : XH} {Q : Value → XH → Prop} (hs : Sh h) (k : ClV 100 [.ref 43, .ref 39] h (fun h1 => Sh h1 ∧ (InB x1 6 ∧ (ClV 23 [.ref 45, .int 0] h1 (fun h3 => Sh h3 ∧ ((39 ≠ 44 ∧ ¬ (0 : Int32) < 0 ∧ ¬ (0 : Int32) < 0 ∧ ¬ (20 : Int32) < 0 ∧ tn (0 : Int32) + tn (20 : Int32) ≤ 20 ∧ tn (0 : Int32) + tn (20 : Int32) ≤ 20) ∧ (Ev 119 46 [.ref 43, .int x1, .int x2, .null, .ref (xR h1 34 0), .int (xI h1 ((xR h1 34 0) + 6) (tn x1)), .int 0, .null] [] (xsA h3 44 (va_cpy (xI h3 39) (xI h3 44) (tn (0 : Int32)) (tn (0 : Int32)) (tn (20 : Int32)))) Q))))))) : Ev 119 0 (x_ini 119 [.ref 43, .int x1, .int x2, .ref 39]) [] h Q := by
  rw [show x_ini 119 [.ref 43, .int x1, .int x2, .ref 39] = [.ref 43, .int x1, .int x2, .ref 39, .null, .null, .null, .null] from x_inid ml_119 rfl]
  refine e_al o_119_0 rfl ?_
  refine e_al o_119_1 rfl ?_
  refine e_clV (as := [.ref 43, .ref 39]) (rest := []) o_119_2 rfl rfl (x_okd cl_119_100 ml_100 (Nat.le_of_ble_eq_true rfl) (Nat.le_of_ble_eq_true rfl)) (x_rc0 (ci := 7) (sk_43 (h := h) hs) mo_100) k ?_
  rintro h1 ⟨sh1, k⟩
  refine e_al o_119_5 rfl ?_
  refine e_gR (r := 34) o_119_6 (sk_43 (h := h1) sh1) (sr_43_1 (h := h1) sh1) (by decide) ?_
  refine e_gR (r := (xR h1 34 0)) o_119_9 (sk_34 (h := h1) sh1) (rfl) (by rcases (ss_p sh1) with q | q <;> omega) ?_
  refine e_as (ls' := [.ref 43, .int x1, .int x2, .ref 39, .ref (xR h1 34 0), .null, .null, .null]) o_119_12 (Nat.le_of_ble_eq_true rfl) rfl ?_
  refine e_al o_119_14 rfl ?_
  refine e_gR (r := ((xR h1 34 0) + 6)) o_119_16 (sc_k (h := h1) sh1 (ss_p sh1)) (sc_r14 (h := h1) sh1 (ss_p sh1)) (by omega) ?_
  refine e_il o_119_19 rfl ?_
  obtain ⟨q, k⟩ := k
  refine e_ia (n := 6) o_119_20 ((sc_a6 (h := h1) sh1 (ss_p sh1)).1) ((sc_a6 (h := h1) sh1 (ss_p sh1)).2.1) q ?_
  refine e_is (ls' := [.ref 43, .int x1, .int x2, .ref 39, .ref (xR h1 34 0), .int (xI h1 ((xR h1 34 0) + 6) (tn x1)), .null, .null]) o_119_21 (Nat.le_of_ble_eq_true rfl) rfl ?_
  refine e_al o_119_23 rfl ?_
  refine e_gR (r := 45) o_119_24 (sk_43 (h := h1) sh1) (sr_43_3 (h := h1) sh1) (by decide) ?_
  refine e_c 0 o_119_27 rfl ?_
  refine e_clV (as := [.ref 45, .int 0]) (rest := []) o_119_28 rfl rfl (x_okd cl_119_23 ml_23 (Nat.le_of_ble_eq_true rfl) (Nat.le_of_ble_eq_true rfl)) (rfl) k ?_
  rintro h3 ⟨sh3, k⟩
  refine e_al o_119_31 rfl ?_
  refine e_c 0 o_119_32 rfl ?_
  refine e_al o_119_33 rfl ?_
  refine e_gR (r := 44) o_119_34 (sk_43 (h := h3) sh3) (sr_43_2 (h := h3) sh3) (by decide) ?_
  refine e_c 0 o_119_37 rfl ?_
  refine e_c 20 o_119_38 rfl ?_
  obtain ⟨q, k⟩ := k
  refine e_cp (ns := 20) (nd := 20) o_119_40 ⟨sk_39 (h := h3) sh3, sk_44 (h := h3) sh3, by decide, by decide, q.1⟩ (sn_39 (h := h3) sh3) (sn_44 (h := h3) sh3) q.2 (Nat.le_of_ble_eq_true rfl) ?_
  refine e_c 0 o_119_43 rfl ?_
  refine e_is (ls' := [.ref 43, .int x1, .int x2, .ref 39, .ref (xR h1 34 0), .int (xI h1 ((xR h1 34 0) + 6) (tn x1)), .int 0, .null]) o_119_44 (Nat.le_of_ble_eq_true rfl) rfl ?_
  exact Ev.less (ls := [.ref 43, .int x1, .int x2, .null, .ref (xR h1 34 0), .int (xI h1 ((xR h1 34 0) + 6) (tn x1)), .int 0, .null]) ⟨Or.inr rfl, Or.inr rfl, Or.inr rfl, Or.inl rfl, Or.inr rfl, Or.inr rfl, Or.inr rfl, Or.inl rfl, trivial⟩ k
set_option maxHeartbeats 4000000 in
set_option maxRecDepth 100000 in
theorem B_119_46 {x1 : Int32} {x2 : Int32} {x4 : Nat} {x5 : Int32} {x6 : Int32} {h : XH} {Q : Value → XH → Prop} (hs : Sh h) (hx4 : x4 = 14 ∨ x4 = 24) (k : (((xI h x4 6) ≤ x6) → Ev 119 137 [.ref 43, .null, .int x2, .null, .null, .int x5, .int 0, .int 1] [] h Q) ∧ (¬ ((xI h x4 6) ≤ x6) → ClV 54 [.ref x4, .ref 44, .int x6] h (fun h1 => Sh h1 ∧ (InB x6 (xN h1 (xR h1 43 4)) ∧ (ClV 62 [.ref 44, .int (xI h1 (xR h1 43 4) (tn x6))] h1 (fun h3 => Sh h3 ∧ (Ev 119 84 [.ref 43, .int x1, .int x2, .null, .ref x4, .int x5, .int x6, .int 0] [] h3 Q))))))) : Ev 119 46 [.ref 43, .int x1, .int x2, .null, .ref x4, .int x5, .int x6, .null] [] h Q := by
  refine e_il o_119_46 rfl ?_
  refine e_al o_119_48 rfl ?_
  refine e_gI o_119_50 (sc_k (h := h) hs hx4) ?_
  refine e_if_3 o_119_53 (fun z => ?_) (fun z => ?_)
  · have k := k.1 z
    refine e_c 0 o_119_131 rfl ?_
    refine e_is (ls' := [.ref 43, .int x1, .int x2, .null, .ref x4, .int x5, .int 0, .null]) o_119_132 (Nat.le_of_ble_eq_true rfl) rfl ?_
    refine e_c 1 o_119_134 rfl ?_
    refine e_is (ls' := [.ref 43, .int x1, .int x2, .null, .ref x4, .int x5, .int 0, .int 1]) o_119_135 (Nat.le_of_ble_eq_true rfl) rfl ?_
    exact Ev.less (ls := [.ref 43, .null, .int x2, .null, .null, .int x5, .int 0, .int 1]) ⟨Or.inr rfl, Or.inl rfl, Or.inr rfl, Or.inl rfl, Or.inl rfl, Or.inr rfl, Or.inr rfl, Or.inr rfl, trivial⟩ k
  · have k := k.2 z
    refine e_al o_119_56 rfl ?_
    refine e_al o_119_58 rfl ?_
    refine e_gR (r := 44) o_119_59 (sk_43 (h := h) hs) (sr_43_2 (h := h) hs) (by decide) ?_
    refine e_il o_119_62 rfl ?_
    refine e_clV (as := [.ref x4, .ref 44, .int x6]) (rest := []) o_119_64 rfl rfl (x_okd cl_119_54 ml_54 (Nat.le_of_ble_eq_true rfl) (Nat.le_of_ble_eq_true rfl)) (x_rc0 (ci := 5) (sc_k (h := h) hs hx4) mo_54) k ?_
    rintro h1 ⟨sh1, k⟩
    refine e_al o_119_67 rfl ?_
    refine e_gR (r := 44) o_119_68 (sk_43 (h := h1) sh1) (sr_43_2 (h := h1) sh1) (by decide) ?_
    refine e_al o_119_71 rfl ?_
    refine e_gR (r := (xR h1 43 4)) o_119_72 (sk_43 (h := h1) sh1) (rfl) (by have := Nat.le_trans (by decide : 4 ≤ 46) (sg4_43_4 (h := h1) sh1); omega) ?_
    refine e_il o_119_75 rfl ?_
    obtain ⟨q, k⟩ := k
    refine e_ia (n := (xN h1 (xR h1 43 4))) o_119_77 (sgk_43_4 (h := h1) sh1) (rfl) q ?_
    refine e_clV (as := [.ref 44, .int (xI h1 (xR h1 43 4) (tn x6))]) (rest := []) o_119_78 rfl rfl (x_okd cl_119_62 ml_62 (Nat.le_of_ble_eq_true rfl) (Nat.le_of_ble_eq_true rfl)) (rfl) k ?_
    rintro h3 ⟨sh3, k⟩
    refine e_c 0 o_119_81 rfl ?_
    refine e_is (ls' := [.ref 43, .int x1, .int x2, .null, .ref x4, .int x5, .int x6, .int 0]) o_119_82 (Nat.le_of_ble_eq_true rfl) rfl ?_
    exact Ev.less (ls := [.ref 43, .int x1, .int x2, .null, .ref x4, .int x5, .int x6, .int 0]) ⟨Or.inr rfl, Or.inr rfl, Or.inr rfl, Or.inl rfl, Or.inr rfl, Or.inr rfl, Or.inr rfl, Or.inr rfl, trivial⟩ k
set_option maxHeartbeats 4000000 in
set_option maxRecDepth 100000 in
theorem B_119_84 {x1 : Int32} {x2 : Int32} {x4 : Nat} {x5 : Int32} {x6 : Int32} {x7 : Int32} {h : XH} {Q : Value → XH → Prop} (hs : Sh h) (hx4 : x4 = 14 ∨ x4 = 24) (k : ((x5 ≤ x7) → Ev 119 46 [.ref 43, .int x1, .int x2, .null, .ref x4, .int x5, .int (x6 + 1), .null] [] h Q) ∧ (¬ (x5 ≤ x7) → ClI 74 [.ref 34, .int x1, .int x7, .ref 44] h (fun v2 h1 => Sh h1 ∧ (((¬ v2 = 0) → Ev 119 119 [.ref 43, .int x1, .int x2, .null, .ref x4, .int x5, .int x6, .int x7] [] h1 Q) ∧ (¬ (¬ v2 = 0) → InB x7 6 ∧ (InB x7 6 ∧ (Ev 119 119 [.ref 43, .int x1, .int x2, .null, .ref x4, .int x5, .int x6, .int x7] [] (xsI h1 45 (tn x7) ((xI h1 45 (tn x7)) + 1)) Q))))))) : Ev 119 84 [.ref 43, .int x1, .int x2, .null, .ref x4, .int x5, .int x6, .int x7] [] h Q := by
  refine e_il o_119_84 rfl ?_
  refine e_il o_119_86 rfl ?_
  refine e_if_3 o_119_88 (fun z => ?_) (fun z => ?_)
  · have k := k.1 z
    refine e_inc (ls' := [.ref 43, .int x1, .int x2, .null, .ref x4, .int x5, .int (x6 + 1), .int x7]) o_119_125 rfl rfl rfl ?_
    refine e_go o_119_128 ?_
    exact Ev.less (ls := [.ref 43, .int x1, .int x2, .null, .ref x4, .int x5, .int (x6 + 1), .null]) ⟨Or.inr rfl, Or.inr rfl, Or.inr rfl, Or.inl rfl, Or.inr rfl, Or.inr rfl, Or.inr rfl, Or.inl rfl, trivial⟩ k
  · have k := k.2 z
    refine e_al o_119_91 rfl ?_
    refine e_gR (r := 34) o_119_92 (sk_43 (h := h) hs) (sr_43_1 (h := h) hs) (by decide) ?_
    refine e_il o_119_95 rfl ?_
    refine e_il o_119_96 rfl ?_
    refine e_al o_119_98 rfl ?_
    refine e_gR (r := 44) o_119_99 (sk_43 (h := h) hs) (sr_43_2 (h := h) hs) (by decide) ?_
    refine e_clI (as := [.ref 34, .int x1, .int x7, .ref 44]) (rest := []) o_119_102 rfl rfl (x_okd cl_119_74 ml_74 (Nat.le_of_ble_eq_true rfl) (Nat.le_of_ble_eq_true rfl)) (x_rc0 (ci := 3) (sk_34 (h := h) hs) mo_74) k ?_
    rintro v2 h1 ⟨sh1, k⟩
    refine e_i0_1 o_119_105 (fun z => ?_) (fun z => ?_)
    · have k := k.1 z
      exact Ev.less (ls := [.ref 43, .int x1, .int x2, .null, .ref x4, .int x5, .int x6, .int x7]) ⟨Or.inr rfl, Or.inr rfl, Or.inr rfl, Or.inl rfl, Or.inr rfl, Or.inr rfl, Or.inr rfl, Or.inr rfl, trivial⟩ k
    · have k := k.2 z
      refine e_al o_119_108 rfl ?_
      refine e_gR (r := 45) o_119_109 (sk_43 (h := h1) sh1) (sr_43_3 (h := h1) sh1) (by decide) ?_
      refine e_il o_119_112 rfl ?_
      refine e_dup2 o_119_114 ⟨rfl, rfl⟩ ?_
      obtain ⟨q, k⟩ := k
      refine e_ia (n := 6) o_119_115 (sk_45 (h := h1) sh1) (sn_45 (h := h1) sh1) q ?_
      refine e_c 1 o_119_116 rfl ?_
      refine e_bin o_119_117 rfl ?_
      obtain ⟨q, k⟩ := k
      refine e_ias (n := 6) o_119_118 (sk_45 (h := h1) sh1) (by decide) (sn_45 (h := h1) sh1) q ?_
      exact Ev.less (ls := [.ref 43, .int x1, .int x2, .null, .ref x4, .int x5, .int x6, .int x7]) ⟨Or.inr rfl, Or.inr rfl, Or.inr rfl, Or.inl rfl, Or.inr rfl, Or.inr rfl, Or.inr rfl, Or.inr rfl, trivial⟩ k
set_option maxHeartbeats 4000000 in
set_option maxRecDepth 100000 in
theorem B_119_119 {x1 : Int32} {x2 : Int32} {x4 : Nat} {x5 : Int32} {x6 : Int32} {x7 : Int32} {h : XH} {Q : Value → XH → Prop} (hs : Sh h) (hx4 : x4 = 14 ∨ x4 = 24) (k : Ev 119 84 [.ref 43, .int x1, .int x2, .null, .ref x4, .int x5, .int x6, .int (x7 + 1)] [] h Q) : Ev 119 119 [.ref 43, .int x1, .int x2, .null, .ref x4, .int x5, .int x6, .int x7] [] h Q := by
  refine e_inc (ls' := [.ref 43, .int x1, .int x2, .null, .ref x4, .int x5, .int x6, .int (x7 + 1)]) o_119_119 rfl rfl rfl ?_
  refine e_go o_119_122 ?_
  exact Ev.less (ls := [.ref 43, .int x1, .int x2, .null, .ref x4, .int x5, .int x6, .int (x7 + 1)]) ⟨Or.inr rfl, Or.inr rfl, Or.inr rfl, Or.inl rfl, Or.inr rfl, Or.inr rfl, Or.inr rfl, Or.inr rfl, trivial⟩ k
set_option maxHeartbeats 4000000 in
set_option maxRecDepth 100000 in
theorem B_119_137 {x2 : Int32} {x5 : Int32} {x6 : Int32} {x7 : Int32} {h : XH} {Q : Value → XH → Prop} (hs : Sh h) (k : ((x5 ≤ x7) → ((¬ x2 = 0) → InB x6 6 ∧ (Q (.int (xI h 45 (tn x6))) h)) ∧ (¬ (¬ x2 = 0) → Q (.int x6) h)) ∧ (¬ (x5 ≤ x7) → InB x7 6 ∧ (InB x6 6 ∧ ((((xI h 45 (tn x7)) ≤ (xI h 45 (tn x6))) → Ev 119 165 [.ref 43, .null, .int x2, .null, .null, .int x5, .int x6, .int x7] [] h Q) ∧ (¬ ((xI h 45 (tn x7)) ≤ (xI h 45 (tn x6))) → Ev 119 165 [.ref 43, .null, .int x2, .null, .null, .int x5, .int x7, .int x7] [] h Q))))) : Ev 119 137 [.ref 43, .null, .int x2, .null, .null, .int x5, .int x6, .int x7] [] h Q := by
  refine e_il o_119_137 rfl ?_
  refine e_il o_119_139 rfl ?_
  refine e_if_3 o_119_141 (fun z => ?_) (fun z => ?_)
  · have k := k.1 z
    refine e_il o_119_171 rfl ?_
    refine e_i0_1 o_119_172 (fun z => ?_) (fun z => ?_)
    · have k := k.1 z
      refine e_al o_119_180 rfl ?_
      refine e_gR (r := 45) o_119_181 (sk_43 (h := h) hs) (sr_43_3 (h := h) hs) (by decide) ?_
      refine e_il o_119_184 rfl ?_
      obtain ⟨q, k⟩ := k
      refine e_ia (n := 6) o_119_186 (sk_45 (h := h) hs) (sn_45 (h := h) hs) q ?_
      exact e_retI o_119_187 k
    · have k := k.2 z
      refine e_il o_119_175 rfl ?_
      refine e_go o_119_177 ?_
      exact e_retI o_119_187 k
  · have k := k.2 z
    refine e_al o_119_144 rfl ?_
    refine e_gR (r := 45) o_119_145 (sk_43 (h := h) hs) (sr_43_3 (h := h) hs) (by decide) ?_
    refine e_il o_119_148 rfl ?_
    obtain ⟨q, k⟩ := k
    refine e_ia (n := 6) o_119_150 (sk_45 (h := h) hs) (sn_45 (h := h) hs) q ?_
    refine e_al o_119_151 rfl ?_
    refine e_gR (r := 45) o_119_152 (sk_43 (h := h) hs) (sr_43_3 (h := h) hs) (by decide) ?_
    refine e_il o_119_155 rfl ?_
    obtain ⟨q, k⟩ := k
    refine e_ia (n := 6) o_119_157 (sk_45 (h := h) hs) (sn_45 (h := h) hs) q ?_
    refine e_if_5 o_119_158 (fun z => ?_) (fun z => ?_)
    · have k := k.1 z
      exact Ev.less (ls := [.ref 43, .null, .int x2, .null, .null, .int x5, .int x6, .int x7]) ⟨Or.inr rfl, Or.inl rfl, Or.inr rfl, Or.inl rfl, Or.inl rfl, Or.inr rfl, Or.inr rfl, Or.inr rfl, trivial⟩ k
    · have k := k.2 z
      refine e_il o_119_161 rfl ?_
      refine e_is (ls' := [.ref 43, .null, .int x2, .null, .null, .int x5, .int x7, .int x7]) o_119_163 (Nat.le_of_ble_eq_true rfl) rfl ?_
      exact Ev.less (ls := [.ref 43, .null, .int x2, .null, .null, .int x5, .int x7, .int x7]) ⟨Or.inr rfl, Or.inl rfl, Or.inr rfl, Or.inl rfl, Or.inl rfl, Or.inr rfl, Or.inr rfl, Or.inr rfl, trivial⟩ k
set_option maxHeartbeats 4000000 in
set_option maxRecDepth 100000 in
theorem B_119_165 {x2 : Int32} {x5 : Int32} {x6 : Int32} {x7 : Int32} {h : XH} {Q : Value → XH → Prop} (hs : Sh h) (k : Ev 119 137 [.ref 43, .null, .int x2, .null, .null, .int x5, .int x6, .int (x7 + 1)] [] h Q) : Ev 119 165 [.ref 43, .null, .int x2, .null, .null, .int x5, .int x6, .int x7] [] h Q := by
  refine e_inc (ls' := [.ref 43, .null, .int x2, .null, .null, .int x5, .int x6, .int (x7 + 1)]) o_119_165 rfl rfl rfl ?_
  refine e_go o_119_168 ?_
  exact Ev.less (ls := [.ref 43, .null, .int x2, .null, .null, .int x5, .int x6, .int (x7 + 1)]) ⟨Or.inr rfl, Or.inl rfl, Or.inr rfl, Or.inl rfl, Or.inl rfl, Or.inr rfl, Or.inr rfl, Or.inr rfl, trivial⟩ k
set_option maxHeartbeats 4000000 in
set_option maxRecDepth 100000 in
theorem B_121_0  {h : XH} {Q : Value → XH → Prop} (hs : Sh h) (k : ClV 100 [.ref 43, .ref 39] h (fun h1 => Sh h1 ∧ (Ev 121 24 [.ref 43, .ref 39, .ref (xR h1 34 0), .int 0, .int (-1), .int 0, .int 0, .null, .null] [] h1 Q))) : Ev 121 0 (x_ini 121 [.ref 43, .ref 39]) [] h Q := by
  rw [show x_ini 121 [.ref 43, .ref 39] = [.ref 43, .ref 39, .null, .null, .null, .null, .null, .null, .null] from x_inid ml_121 rfl]
  refine e_al o_121_0 rfl ?_
  refine e_al o_121_1 rfl ?_
  refine e_clV (as := [.ref 43, .ref 39]) (rest := []) o_121_2 rfl rfl (x_okd cl_121_100 ml_100 (Nat.le_of_ble_eq_true rfl) (Nat.le_of_ble_eq_true rfl)) (x_rc0 (ci := 7) (sk_43 (h := h) hs) mo_100) k ?_
  rintro h1 ⟨sh1, k⟩
  refine e_al o_121_5 rfl ?_
  refine e_gR (r := 34) o_121_6 (sk_43 (h := h1) sh1) (sr_43_1 (h := h1) sh1) (by decide) ?_
  refine e_gR (r := (xR h1 34 0)) o_121_9 (sk_34 (h := h1) sh1) (rfl) (by rcases (ss_p sh1) with q | q <;> omega) ?_
  refine e_as (ls' := [.ref 43, .ref 39, .ref (xR h1 34 0), .null, .null, .null, .null, .null, .null]) o_121_12 (Nat.le_of_ble_eq_true rfl) rfl ?_
  refine e_c 0 o_121_13 rfl ?_
  refine e_is (ls' := [.ref 43, .ref 39, .ref (xR h1 34 0), .int 0, .null, .null, .null, .null, .null]) o_121_14 (Nat.le_of_ble_eq_true rfl) rfl ?_
  refine e_c (-1) o_121_15 rfl ?_
  refine e_is (ls' := [.ref 43, .ref 39, .ref (xR h1 34 0), .int 0, .int (-1), .null, .null, .null, .null]) o_121_16 (Nat.le_of_ble_eq_true rfl) rfl ?_
  refine e_c 0 o_121_18 rfl ?_
  refine e_is (ls' := [.ref 43, .ref 39, .ref (xR h1 34 0), .int 0, .int (-1), .int 0, .null, .null, .null]) o_121_19 (Nat.le_of_ble_eq_true rfl) rfl ?_
  refine e_c 0 o_121_21 rfl ?_
  refine e_is (ls' := [.ref 43, .ref 39, .ref (xR h1 34 0), .int 0, .int (-1), .int 0, .int 0, .null, .null]) o_121_22 (Nat.le_of_ble_eq_true rfl) rfl ?_
  exact Ev.less (ls := [.ref 43, .ref 39, .ref (xR h1 34 0), .int 0, .int (-1), .int 0, .int 0, .null, .null]) ⟨Or.inr rfl, Or.inr rfl, Or.inr rfl, Or.inr rfl, Or.inr rfl, Or.inr rfl, Or.inr rfl, Or.inl rfl, Or.inl rfl, trivial⟩ k
set_option maxHeartbeats 4000000 in
set_option maxRecDepth 100000 in
theorem B_121_24 {x2 : Nat} {x3 : Int32} {x4 : Int32} {x5 : Int32} {x6 : Int32} {h : XH} {Q : Value → XH → Prop} (hs : Sh h) (hx2 : x2 = 14 ∨ x2 = 24) (k : (((xI h x2 6) ≤ x6) → Q (.int x3) h) ∧ (¬ ((xI h x2 6) ≤ x6) → ClI 122 [.ref 43, .int x6] h (fun v2 h1 => Sh h1 ∧ (((x4 ≤ v2) → ClI 102 [.ref x2, .int x6, .ref 39] h1 (fun v4 h3 => Sh h3 ∧ (((x4 < v2) → Ev 121 24 [.ref 43, .ref 39, .ref x2, .int x6, .int v2, .int v4, .int (x6 + 1), .null, .null] [] h3 Q) ∧ (¬ (x4 < v2) → ((¬ v2 = x4) → Ev 121 24 [.ref 43, .ref 39, .ref x2, .int x3, .int x4, .int x5, .int (x6 + 1), .null, .null] [] h3 Q) ∧ (¬ (¬ v2 = x4) → ((x5 ≤ v4) → Ev 121 24 [.ref 43, .ref 39, .ref x2, .int x3, .int x4, .int x5, .int (x6 + 1), .null, .null] [] h3 Q) ∧ (¬ (x5 ≤ v4) → Ev 121 24 [.ref 43, .ref 39, .ref x2, .int x6, .int v2, .int v4, .int (x6 + 1), .null, .null] [] h3 Q)))))) ∧ (¬ (x4 ≤ v2) → ((x4 < v2) → Ev 121 24 [.ref 43, .ref 39, .ref x2, .int x6, .int v2, .int 0, .int (x6 + 1), .null, .null] [] h1 Q) ∧ (¬ (x4 < v2) → ((¬ v2 = x4) → Ev 121 24 [.ref 43, .ref 39, .ref x2, .int x3, .int x4, .int x5, .int (x6 + 1), .null, .null] [] h1 Q) ∧ (¬ (¬ v2 = x4) → ((x5 ≤ (0 : Int32)) → Ev 121 24 [.ref 43, .ref 39, .ref x2, .int x3, .int x4, .int x5, .int (x6 + 1), .null, .null] [] h1 Q) ∧ (¬ (x5 ≤ (0 : Int32)) → Ev 121 24 [.ref 43, .ref 39, .ref x2, .int x6, .int v2, .int 0, .int (x6 + 1), .null, .null] [] h1 Q)))))))) : Ev 121 24 [.ref 43, .ref 39, .ref x2, .int x3, .int x4, .int x5, .int x6, .null, .null] [] h Q := by
  refine e_il o_121_24 rfl ?_
  refine e_al o_121_26 rfl ?_
  refine e_gI o_121_27 (sc_k (h := h) hs hx2) ?_
  refine e_if_3 o_121_30 (fun z => ?_) (fun z => ?_)
  · have k := k.1 z
    refine e_il o_121_99 rfl ?_
    exact e_retI o_121_100 k
  · have k := k.2 z
    refine e_al o_121_33 rfl ?_
    refine e_il o_121_34 rfl ?_
    refine e_clI (as := [.ref 43, .int x6]) (rest := []) o_121_36 rfl rfl (x_okd cl_121_122 ml_122 (Nat.le_of_ble_eq_true rfl) (Nat.le_of_ble_eq_true rfl)) (x_rc0 (ci := 7) (sk_43 (h := h) hs) mo_122) k ?_
    rintro v2 h1 ⟨sh1, k⟩
    refine e_is (ls' := [.ref 43, .ref 39, .ref x2, .int x3, .int x4, .int x5, .int x6, .int v2, .null]) o_121_39 (Nat.le_of_ble_eq_true rfl) rfl ?_
    refine e_il o_121_41 rfl ?_
    refine e_il o_121_43 rfl ?_
    refine e_if_3 o_121_45 (fun z => ?_) (fun z => ?_)
    · have k := k.1 z
      refine e_al o_121_52 rfl ?_
      refine e_il o_121_53 rfl ?_
      refine e_al o_121_55 rfl ?_
      refine e_clI (as := [.ref x2, .int x6, .ref 39]) (rest := []) o_121_56 rfl rfl (x_okd cl_121_102 ml_102 (Nat.le_of_ble_eq_true rfl) (Nat.le_of_ble_eq_true rfl)) (x_rc0 (ci := 5) (sc_k (h := h1) sh1 hx2) mo_102) k ?_
      rintro v4 h3 ⟨sh3, k⟩
      refine e_is (ls' := [.ref 43, .ref 39, .ref x2, .int x3, .int x4, .int x5, .int x6, .int v2, .int v4]) o_121_59 (Nat.le_of_ble_eq_true rfl) rfl ?_
      refine e_il o_121_61 rfl ?_
      refine e_il o_121_63 rfl ?_
      refine e_if_4 o_121_65 (fun z => ?_) (fun z => ?_)
      · have k := k.1 z
        refine e_il o_121_82 rfl ?_
        refine e_is (ls' := [.ref 43, .ref 39, .ref x2, .int x6, .int x4, .int x5, .int x6, .int v2, .int v4]) o_121_84 (Nat.le_of_ble_eq_true rfl) rfl ?_
        refine e_il o_121_85 rfl ?_
        refine e_is (ls' := [.ref 43, .ref 39, .ref x2, .int x6, .int v2, .int x5, .int x6, .int v2, .int v4]) o_121_87 (Nat.le_of_ble_eq_true rfl) rfl ?_
        refine e_il o_121_89 rfl ?_
        refine e_is (ls' := [.ref 43, .ref 39, .ref x2, .int x6, .int v2, .int v4, .int x6, .int v2, .int v4]) o_121_91 (Nat.le_of_ble_eq_true rfl) rfl ?_
        refine e_inc (ls' := [.ref 43, .ref 39, .ref x2, .int x6, .int v2, .int v4, .int (x6 + 1), .int v2, .int v4]) o_121_93 rfl rfl rfl ?_
        refine e_go o_121_96 ?_
        exact Ev.less (ls := [.ref 43, .ref 39, .ref x2, .int x6, .int v2, .int v4, .int (x6 + 1), .null, .null]) ⟨Or.inr rfl, Or.inr rfl, Or.inr rfl, Or.inr rfl, Or.inr rfl, Or.inr rfl, Or.inr rfl, Or.inl rfl, Or.inl rfl, trivial⟩ k
      · have k := k.2 z
        refine e_il o_121_68 rfl ?_
        refine e_il o_121_70 rfl ?_
        refine e_if_1 o_121_72 (fun z => ?_) (fun z => ?_)
        · have k := k.1 z
          refine e_inc (ls' := [.ref 43, .ref 39, .ref x2, .int x3, .int x4, .int x5, .int (x6 + 1), .int v2, .int v4]) o_121_93 rfl rfl rfl ?_
          refine e_go o_121_96 ?_
          exact Ev.less (ls := [.ref 43, .ref 39, .ref x2, .int x3, .int x4, .int x5, .int (x6 + 1), .null, .null]) ⟨Or.inr rfl, Or.inr rfl, Or.inr rfl, Or.inr rfl, Or.inr rfl, Or.inr rfl, Or.inr rfl, Or.inl rfl, Or.inl rfl, trivial⟩ k
        · have k := k.2 z
          refine e_il o_121_75 rfl ?_
          refine e_il o_121_77 rfl ?_
          refine e_if_3 o_121_79 (fun z => ?_) (fun z => ?_)
          · have k := k.1 z
            refine e_inc (ls' := [.ref 43, .ref 39, .ref x2, .int x3, .int x4, .int x5, .int (x6 + 1), .int v2, .int v4]) o_121_93 rfl rfl rfl ?_
            refine e_go o_121_96 ?_
            exact Ev.less (ls := [.ref 43, .ref 39, .ref x2, .int x3, .int x4, .int x5, .int (x6 + 1), .null, .null]) ⟨Or.inr rfl, Or.inr rfl, Or.inr rfl, Or.inr rfl, Or.inr rfl, Or.inr rfl, Or.inr rfl, Or.inl rfl, Or.inl rfl, trivial⟩ k
          · have k := k.2 z
            refine e_il o_121_82 rfl ?_
            refine e_is (ls' := [.ref 43, .ref 39, .ref x2, .int x6, .int x4, .int x5, .int x6, .int v2, .int v4]) o_121_84 (Nat.le_of_ble_eq_true rfl) rfl ?_
            refine e_il o_121_85 rfl ?_
            refine e_is (ls' := [.ref 43, .ref 39, .ref x2, .int x6, .int v2, .int x5, .int x6, .int v2, .int v4]) o_121_87 (Nat.le_of_ble_eq_true rfl) rfl ?_
            refine e_il o_121_89 rfl ?_
            refine e_is (ls' := [.ref 43, .ref 39, .ref x2, .int x6, .int v2, .int v4, .int x6, .int v2, .int v4]) o_121_91 (Nat.le_of_ble_eq_true rfl) rfl ?_
            refine e_inc (ls' := [.ref 43, .ref 39, .ref x2, .int x6, .int v2, .int v4, .int (x6 + 1), .int v2, .int v4]) o_121_93 rfl rfl rfl ?_
            refine e_go o_121_96 ?_
            exact Ev.less (ls := [.ref 43, .ref 39, .ref x2, .int x6, .int v2, .int v4, .int (x6 + 1), .null, .null]) ⟨Or.inr rfl, Or.inr rfl, Or.inr rfl, Or.inr rfl, Or.inr rfl, Or.inr rfl, Or.inr rfl, Or.inl rfl, Or.inl rfl, trivial⟩ k
    · have k := k.2 z
      refine e_c 0 o_121_48 rfl ?_
      refine e_go o_121_49 ?_
      refine e_is (ls' := [.ref 43, .ref 39, .ref x2, .int x3, .int x4, .int x5, .int x6, .int v2, .int 0]) o_121_59 (Nat.le_of_ble_eq_true rfl) rfl ?_
      refine e_il o_121_61 rfl ?_
      refine e_il o_121_63 rfl ?_
      refine e_if_4 o_121_65 (fun z => ?_) (fun z => ?_)
      · have k := k.1 z
        refine e_il o_121_82 rfl ?_
        refine e_is (ls' := [.ref 43, .ref 39, .ref x2, .int x6, .int x4, .int x5, .int x6, .int v2, .int 0]) o_121_84 (Nat.le_of_ble_eq_true rfl) rfl ?_
        refine e_il o_121_85 rfl ?_
        refine e_is (ls' := [.ref 43, .ref 39, .ref x2, .int x6, .int v2, .int x5, .int x6, .int v2, .int 0]) o_121_87 (Nat.le_of_ble_eq_true rfl) rfl ?_
        refine e_il o_121_89 rfl ?_
        refine e_is (ls' := [.ref 43, .ref 39, .ref x2, .int x6, .int v2, .int 0, .int x6, .int v2, .int 0]) o_121_91 (Nat.le_of_ble_eq_true rfl) rfl ?_
        refine e_inc (ls' := [.ref 43, .ref 39, .ref x2, .int x6, .int v2, .int 0, .int (x6 + 1), .int v2, .int 0]) o_121_93 rfl rfl rfl ?_
        refine e_go o_121_96 ?_
        exact Ev.less (ls := [.ref 43, .ref 39, .ref x2, .int x6, .int v2, .int 0, .int (x6 + 1), .null, .null]) ⟨Or.inr rfl, Or.inr rfl, Or.inr rfl, Or.inr rfl, Or.inr rfl, Or.inr rfl, Or.inr rfl, Or.inl rfl, Or.inl rfl, trivial⟩ k
      · have k := k.2 z
        refine e_il o_121_68 rfl ?_
        refine e_il o_121_70 rfl ?_
        refine e_if_1 o_121_72 (fun z => ?_) (fun z => ?_)
        · have k := k.1 z
          refine e_inc (ls' := [.ref 43, .ref 39, .ref x2, .int x3, .int x4, .int x5, .int (x6 + 1), .int v2, .int 0]) o_121_93 rfl rfl rfl ?_
          refine e_go o_121_96 ?_
          exact Ev.less (ls := [.ref 43, .ref 39, .ref x2, .int x3, .int x4, .int x5, .int (x6 + 1), .null, .null]) ⟨Or.inr rfl, Or.inr rfl, Or.inr rfl, Or.inr rfl, Or.inr rfl, Or.inr rfl, Or.inr rfl, Or.inl rfl, Or.inl rfl, trivial⟩ k
        · have k := k.2 z
          refine e_il o_121_75 rfl ?_
          refine e_il o_121_77 rfl ?_
          refine e_if_3 o_121_79 (fun z => ?_) (fun z => ?_)
          · have k := k.1 z
            refine e_inc (ls' := [.ref 43, .ref 39, .ref x2, .int x3, .int x4, .int x5, .int (x6 + 1), .int v2, .int 0]) o_121_93 rfl rfl rfl ?_
            refine e_go o_121_96 ?_
            exact Ev.less (ls := [.ref 43, .ref 39, .ref x2, .int x3, .int x4, .int x5, .int (x6 + 1), .null, .null]) ⟨Or.inr rfl, Or.inr rfl, Or.inr rfl, Or.inr rfl, Or.inr rfl, Or.inr rfl, Or.inr rfl, Or.inl rfl, Or.inl rfl, trivial⟩ k
          · have k := k.2 z
            refine e_il o_121_82 rfl ?_
            refine e_is (ls' := [.ref 43, .ref 39, .ref x2, .int x6, .int x4, .int x5, .int x6, .int v2, .int 0]) o_121_84 (Nat.le_of_ble_eq_true rfl) rfl ?_
            refine e_il o_121_85 rfl ?_
            refine e_is (ls' := [.ref 43, .ref 39, .ref x2, .int x6, .int v2, .int x5, .int x6, .int v2, .int 0]) o_121_87 (Nat.le_of_ble_eq_true rfl) rfl ?_
            refine e_il o_121_89 rfl ?_
            refine e_is (ls' := [.ref 43, .ref 39, .ref x2, .int x6, .int v2, .int 0, .int x6, .int v2, .int 0]) o_121_91 (Nat.le_of_ble_eq_true rfl) rfl ?_
            refine e_inc (ls' := [.ref 43, .ref 39, .ref x2, .int x6, .int v2, .int 0, .int (x6 + 1), .int v2, .int 0]) o_121_93 rfl rfl rfl ?_
            refine e_go o_121_96 ?_
            exact Ev.less (ls := [.ref 43, .ref 39, .ref x2, .int x6, .int v2, .int 0, .int (x6 + 1), .null, .null]) ⟨Or.inr rfl, Or.inr rfl, Or.inr rfl, Or.inr rfl, Or.inr rfl, Or.inr rfl, Or.inr rfl, Or.inl rfl, Or.inl rfl, trivial⟩ k
set_option maxHeartbeats 4000000 in
set_option maxRecDepth 100000 in
theorem B_122_0 {x1 : Int32} {h : XH} {Q : Value → XH → Prop} (hs : Sh h) (k : (((Int32.ofNat (xN h (xR h 43 4))) ≤ x1) → Ev 122 25 [.null, .null, .int 0, .int 0, .int 0] [] h Q) ∧ (¬ ((Int32.ofNat (xN h (xR h 43 4))) ≤ x1) → InB x1 (xN h (xR h 43 4)) ∧ (Ev 122 25 [.null, .null, .int 0, .int (xI h (xR h 43 4) (tn x1)), .int 0] [] h Q))) : Ev 122 0 (x_ini 122 [.ref 43, .int x1]) [] h Q := by
  rw [show x_ini 122 [.ref 43, .int x1] = [.ref 43, .int x1, .null, .null, .null] from x_inid ml_122 rfl]
  refine e_c 0 o_122_0 rfl ?_
  refine e_is (ls' := [.ref 43, .int x1, .int 0, .null, .null]) o_122_1 (Nat.le_of_ble_eq_true rfl) rfl ?_
  refine e_il o_122_2 rfl ?_
  refine e_al o_122_3 rfl ?_
  refine e_gR (r := (xR h 43 4)) o_122_4 (sk_43 (h := h) hs) (rfl) (by have := Nat.le_trans (by decide : 4 ≤ 46) (sg4_43_4 (h := h) hs); omega) ?_
  refine e_len (n := (xN h (xR h 43 4))) o_122_7 (by rw [show _ = _ from sgk_43_4 (h := h) hs]; decide) (rfl) ?_
  refine e_if_3 o_122_8 (fun z => ?_) (fun z => ?_)
  · have k := k.1 z
    refine e_c 0 o_122_20 rfl ?_
    refine e_is (ls' := [.ref 43, .int x1, .int 0, .int 0, .null]) o_122_21 (Nat.le_of_ble_eq_true rfl) rfl ?_
    refine e_c 0 o_122_22 rfl ?_
    refine e_is (ls' := [.ref 43, .int x1, .int 0, .int 0, .int 0]) o_122_23 (Nat.le_of_ble_eq_true rfl) rfl ?_
    exact Ev.less (ls := [.null, .null, .int 0, .int 0, .int 0]) ⟨Or.inl rfl, Or.inl rfl, Or.inr rfl, Or.inr rfl, Or.inr rfl, trivial⟩ k
  · have k := k.2 z
    refine e_al o_122_11 rfl ?_
    refine e_gR (r := (xR h 43 4)) o_122_12 (sk_43 (h := h) hs) (rfl) (by have := Nat.le_trans (by decide : 4 ≤ 46) (sg4_43_4 (h := h) hs); omega) ?_
    refine e_il o_122_15 rfl ?_
    obtain ⟨q, k⟩ := k
    refine e_ia (n := (xN h (xR h 43 4))) o_122_16 (sgk_43_4 (h := h) hs) (rfl) q ?_
    refine e_go o_122_17 ?_
    refine e_is (ls' := [.ref 43, .int x1, .int 0, .int (xI h (xR h 43 4) (tn x1)), .null]) o_122_21 (Nat.le_of_ble_eq_true rfl) rfl ?_
    refine e_c 0 o_122_22 rfl ?_
    refine e_is (ls' := [.ref 43, .int x1, .int 0, .int (xI h (xR h 43 4) (tn x1)), .int 0]) o_122_23 (Nat.le_of_ble_eq_true rfl) rfl ?_
    exact Ev.less (ls := [.null, .null, .int 0, .int (xI h (xR h 43 4) (tn x1)), .int 0]) ⟨Or.inl rfl, Or.inl rfl, Or.inr rfl, Or.inr rfl, Or.inr rfl, trivial⟩ k
set_option maxHeartbeats 4000000 in
set_option maxRecDepth 100000 in
theorem B_122_25 {x2 : Int32} {x3 : Int32} {x4 : Int32} {h : XH} {Q : Value → XH → Prop} (hs : Sh h) (k : ((6 ≤ x4) → Q (.int x2) h) ∧ (¬ (6 ≤ x4) → ((¬ (x3 - x3 / 5 * 5) = 4) → Ev 122 25 [.null, .null, .int x2, .int (x3 / 5), .int (x4 + 1)] [] h Q) ∧ (¬ (¬ (x3 - x3 / 5 * 5) = 4) → Ev 122 25 [.null, .null, .int (x2 + 1), .int (x3 / 5), .int (x4 + 1)] [] h Q))) : Ev 122 25 [.null, .null, .int x2, .int x3, .int x4] [] h Q := by
  refine e_il o_122_25 rfl ?_
  refine e_c 6 o_122_27 rfl ?_
  refine e_if_3 o_122_29 (fun z => ?_) (fun z => ?_)
  · have k := k.1 z
    refine e_il o_122_52 rfl ?_
    exact e_retI o_122_53 k
  · have k := k.2 z
    refine e_il o_122_32 rfl ?_
    refine e_c 5 o_122_33 rfl ?_
    refine e_rem o_122_34 (by decide) ?_
    refine e_c 4 o_122_35 rfl ?_
    refine e_if_1 o_122_36 (fun z => ?_) (fun z => ?_)
    · have k := k.1 z
      refine e_il o_122_42 rfl ?_
      refine e_c 5 o_122_43 rfl ?_
      refine e_div o_122_44 (by decide) ?_
      refine e_is (ls' := [.null, .null, .int x2, .int (x3 / 5), .int x4]) o_122_45 (Nat.le_of_ble_eq_true rfl) rfl ?_
      refine e_inc (ls' := [.null, .null, .int x2, .int (x3 / 5), .int (x4 + 1)]) o_122_46 rfl rfl rfl ?_
      refine e_go o_122_49 ?_
      exact Ev.less (ls := [.null, .null, .int x2, .int (x3 / 5), .int (x4 + 1)]) ⟨Or.inl rfl, Or.inl rfl, Or.inr rfl, Or.inr rfl, Or.inr rfl, trivial⟩ k
    · have k := k.2 z
      refine e_inc (ls' := [.null, .null, .int (x2 + 1), .int x3, .int x4]) o_122_39 rfl rfl rfl ?_
      refine e_il o_122_42 rfl ?_
      refine e_c 5 o_122_43 rfl ?_
      refine e_div o_122_44 (by decide) ?_
      refine e_is (ls' := [.null, .null, .int (x2 + 1), .int (x3 / 5), .int x4]) o_122_45 (Nat.le_of_ble_eq_true rfl) rfl ?_
      refine e_inc (ls' := [.null, .null, .int (x2 + 1), .int (x3 / 5), .int (x4 + 1)]) o_122_46 rfl rfl rfl ?_
      refine e_go o_122_49 ?_
      exact Ev.less (ls := [.null, .null, .int (x2 + 1), .int (x3 / 5), .int (x4 + 1)]) ⟨Or.inl rfl, Or.inl rfl, Or.inr rfl, Or.inr rfl, Or.inr rfl, trivial⟩ k
set_option maxHeartbeats 4000000 in
set_option maxRecDepth 100000 in
theorem B_124_0 {x1 : Int32} {h : XH} {Q : Value → XH → Prop} (hs : Sh h) (k : Ev 124 2 [.ref 53, .int x1, .int 0] [] h Q) : Ev 124 0 (x_ini 124 [.ref 53, .int x1]) [] h Q := by
  rw [show x_ini 124 [.ref 53, .int x1] = [.ref 53, .int x1, .null] from x_inid ml_124 rfl]
  refine e_c 0 o_124_0 rfl ?_
  refine e_is (ls' := [.ref 53, .int x1, .int 0]) o_124_1 (Nat.le_of_ble_eq_true rfl) rfl ?_
  exact Ev.less (ls := [.ref 53, .int x1, .int 0]) ⟨Or.inr rfl, Or.inr rfl, Or.inr rfl, trivial⟩ k
set_option maxHeartbeats 4000000 in
set_option maxRecDepth 100000 in
theorem B_124_2 {x1 : Int32} {x2 : Int32} {h : XH} {Q : Value → XH → Prop} (hs : Sh h) (k : ((x1 ≤ x2) → Q (.int (-1)) h) ∧ (¬ (x1 ≤ x2) → (((xI h 53 0) < x1) → Q (.int (-1)) h) ∧ (¬ ((xI h 53 0) < x1) → InB x2 301 ∧ (InB x1 301 ∧ (((¬ (xI h 56 (tn x2)) = (xI h 56 (tn x1))) → Ev 124 2 [.ref 53, .int x1, .int (x2 + 1)] [] h Q) ∧ (¬ (¬ (xI h 56 (tn x2)) = (xI h 56 (tn x1))) → InB x2 301 ∧ (InB x1 301 ∧ (((¬ (xI h 57 (tn x2)) = (xI h 57 (tn x1))) → Ev 124 2 [.ref 53, .int x1, .int (x2 + 1)] [] h Q) ∧ (¬ (¬ (xI h 57 (tn x2)) = (xI h 57 (tn x1))) → Q (.int x2) h))))))))) : Ev 124 2 [.ref 53, .int x1, .int x2] [] h Q := by
  refine e_il o_124_2 rfl ?_
  refine e_il o_124_3 rfl ?_
  refine e_if_3 o_124_4 (fun z => ?_) (fun z => ?_)
  · have k := k.1 z
    refine e_c (-1) o_124_53 rfl ?_
    exact e_retI o_124_54 k
  · have k := k.2 z
    refine e_il o_124_7 rfl ?_
    refine e_al o_124_8 rfl ?_
    refine e_gI o_124_9 (sk_53 (h := h) hs) ?_
    refine e_if_4 o_124_12 (fun z => ?_) (fun z => ?_)
    · have k := k.1 z
      refine e_c (-1) o_124_53 rfl ?_
      exact e_retI o_124_54 k
    · have k := k.2 z
      refine e_al o_124_15 rfl ?_
      refine e_gR (r := 56) o_124_16 (sk_53 (h := h) hs) (sr_53_4 (h := h) hs) (by decide) ?_
      refine e_il o_124_19 rfl ?_
      obtain ⟨q, k⟩ := k
      refine e_ia (n := 301) o_124_20 (sk_56 (h := h) hs) (sn_56 (h := h) hs) q ?_
      refine e_al o_124_21 rfl ?_
      refine e_gR (r := 56) o_124_22 (sk_53 (h := h) hs) (sr_53_4 (h := h) hs) (by decide) ?_
      refine e_il o_124_25 rfl ?_
      obtain ⟨q, k⟩ := k
      refine e_ia (n := 301) o_124_26 (sk_56 (h := h) hs) (sn_56 (h := h) hs) q ?_
      refine e_if_1 o_124_27 (fun z => ?_) (fun z => ?_)
      · have k := k.1 z
        refine e_inc (ls' := [.ref 53, .int x1, .int (x2 + 1)]) o_124_47 rfl rfl rfl ?_
        refine e_go o_124_50 ?_
        exact Ev.less (ls := [.ref 53, .int x1, .int (x2 + 1)]) ⟨Or.inr rfl, Or.inr rfl, Or.inr rfl, trivial⟩ k
      · have k := k.2 z
        refine e_al o_124_30 rfl ?_
        refine e_gR (r := 57) o_124_31 (sk_53 (h := h) hs) (sr_53_5 (h := h) hs) (by decide) ?_
        refine e_il o_124_34 rfl ?_
        obtain ⟨q, k⟩ := k
        refine e_ia (n := 301) o_124_35 (sk_57 (h := h) hs) (sn_57 (h := h) hs) q ?_
        refine e_al o_124_36 rfl ?_
        refine e_gR (r := 57) o_124_37 (sk_53 (h := h) hs) (sr_53_5 (h := h) hs) (by decide) ?_
        refine e_il o_124_40 rfl ?_
        obtain ⟨q, k⟩ := k
        refine e_ia (n := 301) o_124_41 (sk_57 (h := h) hs) (sn_57 (h := h) hs) q ?_
        refine e_if_1 o_124_42 (fun z => ?_) (fun z => ?_)
        · have k := k.1 z
          refine e_inc (ls' := [.ref 53, .int x1, .int (x2 + 1)]) o_124_47 rfl rfl rfl ?_
          refine e_go o_124_50 ?_
          exact Ev.less (ls := [.ref 53, .int x1, .int (x2 + 1)]) ⟨Or.inr rfl, Or.inr rfl, Or.inr rfl, trivial⟩ k
        · have k := k.2 z
          refine e_il o_124_45 rfl ?_
          exact e_retI o_124_46 k
set_option maxHeartbeats 4000000 in
set_option maxRecDepth 100000 in
theorem B_127_0 {x1 : Int32} {h : XH} {Q : Value → XH → Prop} (hs : Sh h) (k : ((0 ≤ (xI h 58 7)) → Ev 127 51 [.ref 58, .int x1, .ref (xR h 34 0), .int (xI h (xR h 34 0) 6), .null, .null, .null] [] h Q) ∧ (¬ (0 ≤ (xI h 58 7)) → ((x1 < 0) → Ev 127 51 [.ref 58, .int x1, .ref (xR h 34 0), .int (xI h (xR h 34 0) 6), .null, .null, .null] [] h Q) ∧ (¬ (x1 < 0) → ClR 101 [.ref (xR h 58 8), .int (xI h (xR h 34 0) 6)] h (fun v2 h1 => Sh h1 ∧ (v2 ≠ 0 ∧ Ev 127 36 [.ref 58, .int x1, .ref (xR h 34 0), .int (xI h (xR h 34 0) 6), .null, .null, .null] [] (xsR h1 58 8 v2) Q))))) : Ev 127 0 (x_ini 127 [.ref 58, .int x1]) [] h Q := by
  rw [show x_ini 127 [.ref 58, .int x1] = [.ref 58, .int x1, .null, .null, .null, .null, .null] from x_inid ml_127 rfl]
  refine e_al o_127_0 rfl ?_
  refine e_gR (r := 34) o_127_1 (sk_58 (h := h) hs) (sr_58_1 (h := h) hs) (by decide) ?_
  refine e_gR (r := (xR h 34 0)) o_127_4 (sk_34 (h := h) hs) (rfl) (by rcases (ss_p hs) with q | q <;> omega) ?_
  refine e_as (ls' := [.ref 58, .int x1, .ref (xR h 34 0), .null, .null, .null, .null]) o_127_7 (Nat.le_of_ble_eq_true rfl) rfl ?_
  refine e_al o_127_8 rfl ?_
  refine e_gI o_127_9 (sc_k (h := h) hs (ss_p hs)) ?_
  refine e_is (ls' := [.ref 58, .int x1, .ref (xR h 34 0), .int (xI h (xR h 34 0) 6), .null, .null, .null]) o_127_12 (Nat.le_of_ble_eq_true rfl) rfl ?_
  refine e_al o_127_13 rfl ?_
  refine e_gI o_127_14 (sk_58 (h := h) hs) ?_
  refine e_i0_3 o_127_17 (fun z => ?_) (fun z => ?_)
  · have k := k.1 z
    exact Ev.less (ls := [.ref 58, .int x1, .ref (xR h 34 0), .int (xI h (xR h 34 0) 6), .null, .null, .null]) ⟨Or.inr rfl, Or.inr rfl, Or.inr rfl, Or.inr rfl, Or.inl rfl, Or.inl rfl, Or.inl rfl, trivial⟩ k
  · have k := k.2 z
    refine e_il o_127_20 rfl ?_
    refine e_i0_2 o_127_21 (fun z => ?_) (fun z => ?_)
    · have k := k.1 z
      exact Ev.less (ls := [.ref 58, .int x1, .ref (xR h 34 0), .int (xI h (xR h 34 0) 6), .null, .null, .null]) ⟨Or.inr rfl, Or.inr rfl, Or.inr rfl, Or.inr rfl, Or.inl rfl, Or.inl rfl, Or.inl rfl, trivial⟩ k
    · have k := k.2 z
      refine e_al o_127_24 rfl ?_
      refine e_al o_127_25 rfl ?_
      refine e_gR (r := (xR h 58 8)) o_127_26 (sk_58 (h := h) hs) (rfl) (by have := Nat.le_trans (by decide : 4 ≤ 46) (sg4_58_8 (h := h) hs); omega) ?_
      refine e_il o_127_29 rfl ?_
      refine e_clR (as := [.ref (xR h 58 8), .int (xI h (xR h 34 0) 6)]) (rest := [.ref 58]) o_127_30 rfl rfl (x_okd cl_127_101 ml_101 (Nat.le_of_ble_eq_true rfl) (Nat.le_of_ble_eq_true rfl)) (rfl) k ?_
      rintro v2 h1 ⟨sh1, k⟩
      obtain ⟨nv2, k⟩ := k
      refine e_pR o_127_33 (sk_58 (h := h1) sh1) (nv2) ?_
      exact Ev.less (ls := [.ref 58, .int x1, .ref (xR h 34 0), .int (xI h (xR h 34 0) 6), .null, .null, .null]) ⟨Or.inr rfl, Or.inr rfl, Or.inr rfl, Or.inr rfl, Or.inl rfl, Or.inl rfl, Or.inl rfl, trivial⟩ k
set_option maxHeartbeats 4000000 in
set_option maxRecDepth 100000 in
theorem B_127_51 {x1 : Int32} {x2 : Nat} {x3 : Int32} {h : XH} {Q : Value → XH → Prop} (hs : Sh h) (hx2 : x2 = 14 ∨ x2 = 24) (k : Ev 127 59 [.ref 58, .int x1, .ref x2, .int x3, .int ((xI h 58 7) + 1), .null, .null] [] h Q) : Ev 127 51 [.ref 58, .int x1, .ref x2, .int x3, .null, .null, .null] [] h Q := by
  refine e_al o_127_51 rfl ?_
  refine e_gI o_127_52 (sk_58 (h := h) hs) ?_
  refine e_c 1 o_127_55 rfl ?_
  refine e_bin o_127_56 rfl ?_
  refine e_is (ls' := [.ref 58, .int x1, .ref x2, .int x3, .int ((xI h 58 7) + 1), .null, .null]) o_127_57 (Nat.le_of_ble_eq_true rfl) rfl ?_
  exact Ev.less (ls := [.ref 58, .int x1, .ref x2, .int x3, .int ((xI h 58 7) + 1), .null, .null]) ⟨Or.inr rfl, Or.inr rfl, Or.inr rfl, Or.inr rfl, Or.inr rfl, Or.inl rfl, Or.inl rfl, trivial⟩ k
set_option maxHeartbeats 4000000 in
set_option maxRecDepth 100000 in
theorem B_127_59 {x1 : Int32} {x2 : Nat} {x3 : Int32} {x4 : Int32} {h : XH} {Q : Value → XH → Prop} (hs : Sh h) (hx2 : x2 = 14 ∨ x2 = 24) (k : ((x1 < x4) → Ev 127 227 [.null, .null, .null, .null, .null, .null, .null] [] h Q) ∧ (¬ (x1 < x4) → ((30 < x4) → Ev 127 227 [.null, .null, .null, .null, .null, .null, .null] [] h Q) ∧ (¬ (30 < x4) → ((x4 = 1) → Ev 127 85 [.ref 58, .int x1, .ref x2, .int x3, .int x4, .null, .null] [] h Q) ∧ (¬ (x4 = 1) → ((¬ (xI h x2 8) = 0) → Ev 127 89 [.ref 58, .int x1, .ref x2, .int x3, .int x4, .null, .null] [] h Q) ∧ (¬ (¬ (xI h x2 8) = 0) → Ev 127 85 [.ref 58, .int x1, .ref x2, .int x3, .int x4, .null, .null] [] h Q))))) : Ev 127 59 [.ref 58, .int x1, .ref x2, .int x3, .int x4, .null, .null] [] h Q := by
  refine e_il o_127_59 rfl ?_
  refine e_il o_127_61 rfl ?_
  refine e_if_4 o_127_62 (fun z => ?_) (fun z => ?_)
  · have k := k.1 z
    exact Ev.less (ls := [.null, .null, .null, .null, .null, .null, .null]) ⟨Or.inl rfl, Or.inl rfl, Or.inl rfl, Or.inl rfl, Or.inl rfl, Or.inl rfl, Or.inl rfl, trivial⟩ k
  · have k := k.2 z
    refine e_il o_127_65 rfl ?_
    refine e_c 30 o_127_67 rfl ?_
    refine e_if_4 o_127_69 (fun z => ?_) (fun z => ?_)
    · have k := k.1 z
      exact Ev.less (ls := [.null, .null, .null, .null, .null, .null, .null]) ⟨Or.inl rfl, Or.inl rfl, Or.inl rfl, Or.inl rfl, Or.inl rfl, Or.inl rfl, Or.inl rfl, trivial⟩ k
    · have k := k.2 z
      refine e_il o_127_72 rfl ?_
      refine e_c 1 o_127_74 rfl ?_
      refine e_if_0 o_127_75 (fun z => ?_) (fun z => ?_)
      · have k := k.1 z
        exact Ev.less (ls := [.ref 58, .int x1, .ref x2, .int x3, .int x4, .null, .null]) ⟨Or.inr rfl, Or.inr rfl, Or.inr rfl, Or.inr rfl, Or.inr rfl, Or.inl rfl, Or.inl rfl, trivial⟩ k
      · have k := k.2 z
        refine e_al o_127_78 rfl ?_
        refine e_gI o_127_79 (sc_k (h := h) hs hx2) ?_
        refine e_i0_1 o_127_82 (fun z => ?_) (fun z => ?_)
        · have k := k.1 z
          exact Ev.less (ls := [.ref 58, .int x1, .ref x2, .int x3, .int x4, .null, .null]) ⟨Or.inr rfl, Or.inr rfl, Or.inr rfl, Or.inr rfl, Or.inr rfl, Or.inl rfl, Or.inl rfl, trivial⟩ k
        · have k := k.2 z
          exact Ev.less (ls := [.ref 58, .int x1, .ref x2, .int x3, .int x4, .null, .null]) ⟨Or.inr rfl, Or.inr rfl, Or.inr rfl, Or.inr rfl, Or.inr rfl, Or.inl rfl, Or.inl rfl, trivial⟩ k
set_option maxHeartbeats 4000000 in
set_option maxRecDepth 100000 in
theorem B_127_85 {x1 : Int32} {x2 : Nat} {x3 : Int32} {x4 : Int32} {h : XH} {Q : Value → XH → Prop} (hs : Sh h) (hx2 : x2 = 14 ∨ x2 = 24) (k : ClV 128 [.ref 58] h (fun h1 => Sh h1 ∧ (Ev 127 89 [.ref 58, .int x1, .ref x2, .int x3, .int x4, .null, .null] [] h1 Q))) : Ev 127 85 [.ref 58, .int x1, .ref x2, .int x3, .int x4, .null, .null] [] h Q := by
  refine e_al o_127_85 rfl ?_
  refine e_clV (as := [.ref 58]) (rest := []) o_127_86 rfl rfl (x_okd cl_127_128 ml_128 (Nat.le_of_ble_eq_true rfl) (Nat.le_of_ble_eq_true rfl)) (x_rc0 (ci := 1) (sk_58 (h := h) hs) mo_128) k ?_
  rintro h1 ⟨sh1, k⟩
  exact Ev.less (ls := [.ref 58, .int x1, .ref x2, .int x3, .int x4, .null, .null]) ⟨Or.inr rfl, Or.inr rfl, Or.inr rfl, Or.inr rfl, Or.inr rfl, Or.inl rfl, Or.inl rfl, trivial⟩ k
set_option maxHeartbeats 4000000 in
set_option maxRecDepth 100000 in
theorem B_127_89 {x1 : Int32} {x2 : Nat} {x3 : Int32} {x4 : Int32} {h : XH} {Q : Value → XH → Prop} (hs : Sh h) (hx2 : x2 = 14 ∨ x2 = 24) (k : Ev 127 92 [.ref 58, .int x1, .ref x2, .int x3, .int x4, .int 0, .null] [] h Q) : Ev 127 89 [.ref 58, .int x1, .ref x2, .int x3, .int x4, .null, .null] [] h Q := by
  refine e_c 0 o_127_89 rfl ?_
  refine e_is (ls' := [.ref 58, .int x1, .ref x2, .int x3, .int x4, .int 0, .null]) o_127_90 (Nat.le_of_ble_eq_true rfl) rfl ?_
  exact Ev.less (ls := [.ref 58, .int x1, .ref x2, .int x3, .int x4, .int 0, .null]) ⟨Or.inr rfl, Or.inr rfl, Or.inr rfl, Or.inr rfl, Or.inr rfl, Or.inr rfl, Or.inl rfl, trivial⟩ k
set_option maxHeartbeats 4000000 in
set_option maxRecDepth 100000 in
theorem B_127_92 {x1 : Int32} {x2 : Nat} {x3 : Int32} {x4 : Int32} {x5 : Int32} {h : XH} {Q : Value → XH → Prop} (hs : Sh h) (hx2 : x2 = 14 ∨ x2 = 24) (k : ((x3 ≤ x5) → Ev 127 59 [.ref 58, .int x1, .ref x2, .int x3, .int (x4 + 1), .null, .null] [] (xsI h 58 7 x4) Q) ∧ (¬ (x3 ≤ x5) → ((¬ x4 = 0) → InB x5 (xN h (xR h 58 8)) ∧ (InB (((x4 - 1) * x3) + x5) (xN h (xR h 58 9)) ∧ (ClI 129 [.ref 58, .int (((xI h (xR h 58 8) (tn x5)) * 15625) + (xI h (xR h 58 9) (tn (((x4 - 1) * x3) + x5)))), .int (x4 - 1)] h (fun v2 h1 => Sh h1 ∧ (InB x5 (xN h1 (xR h1 58 8)) ∧ (InB ((x4 * x3) + x5) (xN (xsI h1 (xR h1 58 8) (tn x5) (v2 / 15625)) (xR h1 58 9)) ∧ (Ev 127 209 [.ref 58, .int x1, .ref x2, .int x3, .int x4, .int x5, .null] [] (xsI (xsI h1 (xR h1 58 8) (tn x5) (v2 / 15625)) (xR h1 58 9) (tn ((x4 * x3) + x5)) (v2 - v2 / 15625 * 15625)) Q))))))) ∧ (¬ (¬ x4 = 0) → ClV 53 [.ref 34, .ref 62, .int x5] h (fun h3 => Sh h3 ∧ (InB x5 (xN h3 (xR h3 58 8)) ∧ (ClI 58 [.ref 62] (xsI h3 (xR h3 58 8) (tn x5) x5) (fun v6 h5 => Sh h5 ∧ xR h5 58 9 = xR h3 58 9 ∧ (InB x5 (xN h5 (xR h5 58 9)) ∧ (Ev 127 209 [.ref 58, .int x1, .ref x2, .int x3, .int x4, .int x5, .null] [] (xsI h5 (xR h5 58 9) (tn x5) v6) Q))))))))) : Ev 127 92 [.ref 58, .int x1, .ref x2, .int x3, .int x4, .int x5, .null] [] h Q := by
  refine e_il o_127_92 rfl ?_
  refine e_il o_127_94 rfl ?_
  refine e_if_3 o_127_95 (fun z => ?_) (fun z => ?_)
  · have k := k.1 z
    refine e_al o_127_215 rfl ?_
    refine e_il o_127_216 rfl ?_
    refine e_pI o_127_218 (sk_58 (h := h) hs) ?_
    refine e_inc (ls' := [.ref 58, .int x1, .ref x2, .int x3, .int (x4 + 1), .int x5, .null]) o_127_221 rfl rfl rfl ?_
    refine e_go o_127_224 ?_
    exact Ev.less (ls := [.ref 58, .int x1, .ref x2, .int x3, .int (x4 + 1), .null, .null]) ⟨Or.inr rfl, Or.inr rfl, Or.inr rfl, Or.inr rfl, Or.inr rfl, Or.inl rfl, Or.inl rfl, trivial⟩ k
  · have k := k.2 z
    refine e_il o_127_98 rfl ?_
    refine e_i0_1 o_127_100 (fun z => ?_) (fun z => ?_)
    · have k := k.1 z
      refine e_al o_127_142 rfl ?_
      refine e_al o_127_143 rfl ?_
      refine e_gR (r := (xR h 58 8)) o_127_144 (sk_58 (h := h) hs) (rfl) (by have := Nat.le_trans (by decide : 4 ≤ 46) (sg4_58_8 (h := h) hs); omega) ?_
      refine e_il o_127_147 rfl ?_
      obtain ⟨q, k⟩ := k
      refine e_ia (n := (xN h (xR h 58 8))) o_127_149 (sgk_58_8 (h := h) hs) (rfl) q ?_
      refine e_c 15625 o_127_150 rfl ?_
      refine e_bin o_127_153 rfl ?_
      refine e_al o_127_154 rfl ?_
      refine e_gR (r := (xR h 58 9)) o_127_155 (sk_58 (h := h) hs) (rfl) (by have := Nat.le_trans (by decide : 4 ≤ 46) (sg4_58_9 (h := h) hs); omega) ?_
      refine e_il o_127_158 rfl ?_
      refine e_c 1 o_127_160 rfl ?_
      refine e_bin o_127_161 rfl ?_
      refine e_il o_127_162 rfl ?_
      refine e_bin o_127_163 rfl ?_
      refine e_il o_127_164 rfl ?_
      refine e_bin o_127_166 rfl ?_
      obtain ⟨q, k⟩ := k
      refine e_ia (n := (xN h (xR h 58 9))) o_127_167 (sgk_58_9 (h := h) hs) (rfl) q ?_
      refine e_bin o_127_168 rfl ?_
      refine e_il o_127_169 rfl ?_
      refine e_c 1 o_127_171 rfl ?_
      refine e_bin o_127_172 rfl ?_
      refine e_clI (as := [.ref 58, .int (((xI h (xR h 58 8) (tn x5)) * 15625) + (xI h (xR h 58 9) (tn (((x4 - 1) * x3) + x5)))), .int (x4 - 1)]) (rest := []) o_127_173 rfl rfl (x_okd cl_127_129 ml_129 (Nat.le_of_ble_eq_true rfl) (Nat.le_of_ble_eq_true rfl)) (x_rc0 (ci := 1) (sk_58 (h := h) hs) mo_129) k ?_
      rintro v2 h1 ⟨sh1, k⟩
      refine e_is (ls' := [.ref 58, .int x1, .ref x2, .int x3, .int x4, .int x5, .int v2]) o_127_176 (Nat.le_of_ble_eq_true rfl) rfl ?_
      refine e_al o_127_178 rfl ?_
      refine e_gR (r := (xR h1 58 8)) o_127_179 (sk_58 (h := h1) sh1) (rfl) (by have := Nat.le_trans (by decide : 4 ≤ 46) (sg4_58_8 (h := h1) sh1); omega) ?_
      refine e_il o_127_182 rfl ?_
      refine e_il o_127_184 rfl ?_
      refine e_c 15625 o_127_186 rfl ?_
      refine e_div o_127_189 (by decide) ?_
      obtain ⟨q, k⟩ := k
      refine e_ias (n := (xN h1 (xR h1 58 8))) o_127_190 (sgk_58_8 (h := h1) sh1) (Nat.le_trans (by decide : 4 ≤ 46) (sg4_58_8 (h := h1) sh1)) (rfl) q ?_
      refine e_al o_127_191 rfl ?_
      refine e_gR (r := (xR h1 58 9)) o_127_192 (sk_58 (h := h1) sh1) (rfl) (by have := Nat.le_trans (by decide : 4 ≤ 46) (sg4_58_9 (h := h1) sh1); omega) ?_
      refine e_il o_127_195 rfl ?_
      refine e_il o_127_197 rfl ?_
      refine e_bin o_127_198 rfl ?_
      refine e_il o_127_199 rfl ?_
      refine e_bin o_127_201 rfl ?_
      refine e_il o_127_202 rfl ?_
      refine e_c 15625 o_127_204 rfl ?_
      refine e_rem o_127_207 (by decide) ?_
      obtain ⟨q, k⟩ := k
      refine e_ias (n := (xN (xsI h1 (xR h1 58 8) (tn x5) (v2 / 15625)) (xR h1 58 9))) o_127_208 (sgk_58_9 (h := h1) sh1) (Nat.le_trans (by decide : 4 ≤ 46) (sg4_58_9 (h := h1) sh1)) (rfl) q ?_
      exact Ev.less (ls := [.ref 58, .int x1, .ref x2, .int x3, .int x4, .int x5, .null]) ⟨Or.inr rfl, Or.inr rfl, Or.inr rfl, Or.inr rfl, Or.inr rfl, Or.inr rfl, Or.inl rfl, trivial⟩ k
    · have k := k.2 z
      refine e_al o_127_103 rfl ?_
      refine e_gR (r := 34) o_127_104 (sk_58 (h := h) hs) (sr_58_1 (h := h) hs) (by decide) ?_
      refine e_al o_127_107 rfl ?_
      refine e_gR (r := 62) o_127_108 (sk_58 (h := h) hs) (sr_58_5 (h := h) hs) (by decide) ?_
      refine e_il o_127_111 rfl ?_
      refine e_clV (as := [.ref 34, .ref 62, .int x5]) (rest := []) o_127_113 rfl rfl (x_okd cl_127_53 ml_53 (Nat.le_of_ble_eq_true rfl) (Nat.le_of_ble_eq_true rfl)) (x_rc0 (ci := 3) (sk_34 (h := h) hs) mo_53) k ?_
      rintro h3 ⟨sh3, k⟩
      refine e_al o_127_116 rfl ?_
      refine e_gR (r := (xR h3 58 8)) o_127_117 (sk_58 (h := h3) sh3) (rfl) (by have := Nat.le_trans (by decide : 4 ≤ 46) (sg4_58_8 (h := h3) sh3); omega) ?_
      refine e_il o_127_120 rfl ?_
      refine e_il o_127_122 rfl ?_
      obtain ⟨q, k⟩ := k
      refine e_ias (n := (xN h3 (xR h3 58 8))) o_127_124 (sgk_58_8 (h := h3) sh3) (Nat.le_trans (by decide : 4 ≤ 46) (sg4_58_8 (h := h3) sh3)) (rfl) q ?_
      refine e_al o_127_125 rfl ?_
      refine e_gR (r := (xR h3 58 9)) o_127_126 (sk_58 (h := h3) sh3) (rfl) (by have := Nat.le_trans (by decide : 4 ≤ 46) (sg4_58_9 (h := h3) sh3); omega) ?_
      refine e_il o_127_129 rfl ?_
      refine e_al o_127_131 rfl ?_
      refine e_gR (r := 62) o_127_132 (sk_58 (h := h3) sh3) (sr_58_5 (h := h3) sh3) (by decide) ?_
      refine e_clI (as := [.ref 62]) (rest := [.int x5, .ref (xR h3 58 9)]) o_127_135 rfl rfl (x_okd cl_127_58 ml_58 (Nat.le_of_ble_eq_true rfl) (Nat.le_of_ble_eq_true rfl)) (rfl) k ?_
      rintro v6 h5 ⟨sh5, g58_9_h5, k⟩
      rw [← g58_9_h5]
      obtain ⟨q, k⟩ := k
      refine e_ias (n := (xN h5 (xR h5 58 9))) o_127_138 (sgk_58_9 (h := h5) sh5) (Nat.le_trans (by decide : 4 ≤ 46) (sg4_58_9 (h := h5) sh5)) (rfl) q ?_
      refine e_go o_127_139 ?_
      exact Ev.less (ls := [.ref 58, .int x1, .ref x2, .int x3, .int x4, .int x5, .null]) ⟨Or.inr rfl, Or.inr rfl, Or.inr rfl, Or.inr rfl, Or.inr rfl, Or.inr rfl, Or.inl rfl, trivial⟩ k
set_option maxHeartbeats 4000000 in
set_option maxRecDepth 100000 in
theorem B_127_209 {x1 : Int32} {x2 : Nat} {x3 : Int32} {x4 : Int32} {x5 : Int32} {h : XH} {Q : Value → XH → Prop} (hs : Sh h) (hx2 : x2 = 14 ∨ x2 = 24) (k : Ev 127 92 [.ref 58, .int x1, .ref x2, .int x3, .int x4, .int (x5 + 1), .null] [] h Q) : Ev 127 209 [.ref 58, .int x1, .ref x2, .int x3, .int x4, .int x5, .null] [] h Q := by
  refine e_inc (ls' := [.ref 58, .int x1, .ref x2, .int x3, .int x4, .int (x5 + 1), .null]) o_127_209 rfl rfl rfl ?_
  refine e_go o_127_212 ?_
  exact Ev.less (ls := [.ref 58, .int x1, .ref x2, .int x3, .int x4, .int (x5 + 1), .null]) ⟨Or.inr rfl, Or.inr rfl, Or.inr rfl, Or.inr rfl, Or.inr rfl, Or.inr rfl, Or.inl rfl, trivial⟩ k
set_option maxHeartbeats 4000000 in
set_option maxRecDepth 100000 in
theorem B_127_227  {h : XH} {Q : Value → XH → Prop} (hs : Sh h) (k : Q .null h) : Ev 127 227 [.null, .null, .null, .null, .null, .null, .null] [] h Q := by
  exact e_ret0 o_127_227 k
set_option maxHeartbeats 4000000 in
set_option maxRecDepth 100000 in
theorem B_127_36 {x1 : Int32} {x2 : Nat} {x3 : Int32} {h : XH} {Q : Value → XH → Prop} (hs : Sh h) (hx2 : x2 = 14 ∨ x2 = 24) (k : ClR 101 [.ref (xR h 58 9), .int (31 * x3)] h (fun v2 h1 => Sh h1 ∧ (v2 ≠ 0 ∧ Ev 127 51 [.ref 58, .int x1, .ref x2, .int x3, .null, .null, .null] [] (xsR h1 58 9 v2) Q))) : Ev 127 36 [.ref 58, .int x1, .ref x2, .int x3, .null, .null, .null] [] h Q := by
  refine e_al o_127_36 rfl ?_
  refine e_al o_127_37 rfl ?_
  refine e_gR (r := (xR h 58 9)) o_127_38 (sk_58 (h := h) hs) (rfl) (by have := Nat.le_trans (by decide : 4 ≤ 46) (sg4_58_9 (h := h) hs); omega) ?_
  refine e_c 31 o_127_41 rfl ?_
  refine e_il o_127_43 rfl ?_
  refine e_bin o_127_44 rfl ?_
  refine e_clR (as := [.ref (xR h 58 9), .int (31 * x3)]) (rest := [.ref 58]) o_127_45 rfl rfl (x_okd cl_127_101 ml_101 (Nat.le_of_ble_eq_true rfl) (Nat.le_of_ble_eq_true rfl)) (rfl) k ?_
  rintro v2 h1 ⟨sh1, k⟩
  obtain ⟨nv2, k⟩ := k
  refine e_pR o_127_48 (sk_58 (h := h1) sh1) (nv2) ?_
  exact Ev.less (ls := [.ref 58, .int x1, .ref x2, .int x3, .null, .null, .null]) ⟨Or.inr rfl, Or.inr rfl, Or.inr rfl, Or.inr rfl, Or.inl rfl, Or.inl rfl, Or.inl rfl, trivial⟩ k
set_option maxHeartbeats 4000000 in
set_option maxRecDepth 100000 in
theorem B_128_0  {h : XH} {Q : Value → XH → Prop} (hs : Sh h) (k : ((4099 ≤ (Int32.ofNat (xN h (xR h 58 11)))) → ClV 23 [.ref (xR h 58 11), .int (-1)] h (fun h1 => Sh h1 ∧ (Q .null h1))) ∧ (¬ (4099 ≤ (Int32.ofNat (xN h (xR h 58 11)))) → ¬ ((4099 : Int32) < 0 ∨ 60000000 < ((4099 : Int32)).toNatClampNeg) ∧ (Ev 128 20 [.ref 58] [] (xsR (xnew h 1 (tn (4099 : Int32))) 58 11 (xT h)) Q))) : Ev 128 0 (x_ini 128 [.ref 58]) [] h Q := by
  rw [show x_ini 128 [.ref 58] = [.ref 58] from x_inid ml_128 rfl]
  refine e_al o_128_0 rfl ?_
  refine e_gR (r := (xR h 58 11)) o_128_1 (sk_58 (h := h) hs) (rfl) (by have := Nat.le_trans (by decide : 4 ≤ 46) (sg4_58_11 (h := h) hs); omega) ?_
  refine e_len (n := (xN h (xR h 58 11))) o_128_4 (by rw [show _ = _ from sgk_58_11 (h := h) hs]; decide) (rfl) ?_
  refine e_c 4099 o_128_5 rfl ?_
  refine e_if_3 o_128_8 (fun z => ?_) (fun z => ?_)
  · have k := k.1 z
    refine e_al o_128_29 rfl ?_
    refine e_gR (r := (xR h 58 11)) o_128_30 (sk_58 (h := h) hs) (rfl) (by have := Nat.le_trans (by decide : 4 ≤ 46) (sg4_58_11 (h := h) hs); omega) ?_
    refine e_c (-1) o_128_33 rfl ?_
    refine e_clV (as := [.ref (xR h 58 11), .int (-1)]) (rest := []) o_128_34 rfl rfl (x_okd cl_128_23 ml_23 (Nat.le_of_ble_eq_true rfl) (Nat.le_of_ble_eq_true rfl)) (rfl) k ?_
    rintro h1 ⟨sh1, k⟩
    exact e_ret0 o_128_37 k
  · have k := k.2 z
    refine e_al o_128_11 rfl ?_
    refine e_c 4099 o_128_12 rfl ?_
    obtain ⟨q, k⟩ := k
    refine e_na o_128_15 q ?_
    refine e_pR o_128_17 (sk_58 (h := (xnew h 1 (tn (4099 : Int32)))) (sh_new hs)) (by have := (hs).2.2.2.2.2.2.1; omega) ?_
    exact Ev.less (ls := [.ref 58]) ⟨Or.inr rfl, trivial⟩ k
set_option maxHeartbeats 4000000 in
set_option maxRecDepth 100000 in
theorem B_128_20  {h : XH} {Q : Value → XH → Prop} (hs : Sh h) (k : ¬ ((4099 : Int32) < 0 ∨ 60000000 < ((4099 : Int32)).toNatClampNeg) ∧ (Ev 128 29 [.ref 58] [] (xsR (xnew h 1 (tn (4099 : Int32))) 58 12 (xT h)) Q)) : Ev 128 20 [.ref 58] [] h Q := by
  refine e_al o_128_20 rfl ?_
  refine e_c 4099 o_128_21 rfl ?_
  obtain ⟨q, k⟩ := k
  refine e_na o_128_24 q ?_
  refine e_pR o_128_26 (sk_58 (h := (xnew h 1 (tn (4099 : Int32)))) (sh_new hs)) (by have := (hs).2.2.2.2.2.2.1; omega) ?_
  exact Ev.less (ls := [.ref 58]) ⟨Or.inr rfl, trivial⟩ k
set_option maxHeartbeats 4000000 in
set_option maxRecDepth 100000 in
theorem B_128_29  {h : XH} {Q : Value → XH → Prop} (hs : Sh h) (k : ClV 23 [.ref (xR h 58 11), .int (-1)] h (fun h1 => Sh h1 ∧ (Q .null h1))) : Ev 128 29 [.ref 58] [] h Q := by
  refine e_al o_128_29 rfl ?_
  refine e_gR (r := (xR h 58 11)) o_128_30 (sk_58 (h := h) hs) (rfl) (by have := Nat.le_trans (by decide : 4 ≤ 46) (sg4_58_11 (h := h) hs); omega) ?_
  refine e_c (-1) o_128_33 rfl ?_
  refine e_clV (as := [.ref (xR h 58 11), .int (-1)]) (rest := []) o_128_34 rfl rfl (x_okd cl_128_23 ml_23 (Nat.le_of_ble_eq_true rfl) (Nat.le_of_ble_eq_true rfl)) (rfl) k ?_
  rintro h1 ⟨sh1, k⟩
  exact e_ret0 o_128_37 k
set_option maxHeartbeats 4000000 in
set_option maxRecDepth 100000 in
theorem B_129_0 {x1 : Int32} {x2 : Int32} {h : XH} {Q : Value → XH → Prop} (hs : Sh h) (k : InB (x1 - x1 / 4099 * 4099) (xN h (xR h 58 11)) ∧ ((((xI h (xR h 58 11) (tn (x1 - x1 / 4099 * 4099))) = x1) → InB (x1 - x1 / 4099 * 4099) (xN h (xR h 58 12)) ∧ (Q (.int (xI h (xR h 58 12) (tn (x1 - x1 / 4099 * 4099)))) h)) ∧ (¬ ((xI h (xR h 58 11) (tn (x1 - x1 / 4099 * 4099))) = x1) → ClV 54 [.ref (xR h 34 0), .ref 62, .int (x1 / 15625)] h (fun h1 => Sh h1 ∧ (ClV 62 [.ref 62, .int (x1 - x1 / 15625 * 15625)] h1 (fun h3 => Sh h3 ∧ (InB 14 20 ∧ (ClV 79 [.ref 34, .ref 62, .int (xI (xsI h3 62 (tn 14) x2) (xR h3 34 0) 3)] (xsI h3 62 (tn 14) x2) (fun h5 => Sh h5 ∧ (InB (x1 - x1 / 4099 * 4099) (xN h5 (xR h5 58 11)) ∧ (ClI 52 [.ref (xR h5 34 0), .ref 62] (xsI h5 (xR h5 58 11) (tn (x1 - x1 / 4099 * 4099)) x1) (fun v8 h7 => Sh h7 ∧ xR h7 58 12 = xR h5 58 12 ∧ (ClI 58 [.ref 62] h7 (fun v10 h9 => Sh h9 ∧ xR h9 58 12 = xR h7 58 12 ∧ (InB (x1 - x1 / 4099 * 4099) (xN h9 (xR h9 58 12)) ∧ (InB (x1 - x1 / 4099 * 4099) (xN (xsI h9 (xR h9 58 12) (tn (x1 - x1 / 4099 * 4099)) ((v8 * 15625) + v10)) (xR h9 58 12)) ∧ (Q (.int (xI (xsI h9 (xR h9 58 12) (tn (x1 - x1 / 4099 * 4099)) ((v8 * 15625) + v10)) (xR h9 58 12) (tn (x1 - x1 / 4099 * 4099)))) (xsI h9 (xR h9 58 12) (tn (x1 - x1 / 4099 * 4099)) ((v8 * 15625) + v10))))))))))))))))))) : Ev 129 0 (x_ini 129 [.ref 58, .int x1, .int x2]) [] h Q := by
  rw [show x_ini 129 [.ref 58, .int x1, .int x2] = [.ref 58, .int x1, .int x2, .null] from x_inid ml_129 rfl]
  refine e_il o_129_0 rfl ?_
  refine e_c 4099 o_129_1 rfl ?_
  refine e_rem o_129_4 (by decide) ?_
  refine e_is (ls' := [.ref 58, .int x1, .int x2, .int (x1 - x1 / 4099 * 4099)]) o_129_5 (Nat.le_of_ble_eq_true rfl) rfl ?_
  refine e_al o_129_6 rfl ?_
  refine e_gR (r := (xR h 58 11)) o_129_7 (sk_58 (h := h) hs) (rfl) (by have := Nat.le_trans (by decide : 4 ≤ 46) (sg4_58_11 (h := h) hs); omega) ?_
  refine e_il o_129_10 rfl ?_
  obtain ⟨q, k⟩ := k
  refine e_ia (n := (xN h (xR h 58 11))) o_129_11 (sgk_58_11 (h := h) hs) (rfl) q ?_
  refine e_il o_129_12 rfl ?_
  refine e_if_0 o_129_13 (fun z => ?_) (fun z => ?_)
  · have k := k.1 z
    refine e_al o_129_115 rfl ?_
    refine e_gR (r := (xR h 58 12)) o_129_116 (sk_58 (h := h) hs) (rfl) (by have := Nat.le_trans (by decide : 4 ≤ 46) (sg4_58_12 (h := h) hs); omega) ?_
    refine e_il o_129_119 rfl ?_
    obtain ⟨q, k⟩ := k
    refine e_ia (n := (xN h (xR h 58 12))) o_129_120 (sgk_58_12 (h := h) hs) (rfl) q ?_
    exact e_retI o_129_121 k
  · have k := k.2 z
    refine e_al o_129_16 rfl ?_
    refine e_gR (r := 34) o_129_17 (sk_58 (h := h) hs) (sr_58_1 (h := h) hs) (by decide) ?_
    refine e_gR (r := (xR h 34 0)) o_129_20 (sk_34 (h := h) hs) (rfl) (by rcases (ss_p hs) with q | q <;> omega) ?_
    refine e_al o_129_23 rfl ?_
    refine e_gR (r := 62) o_129_24 (sk_58 (h := h) hs) (sr_58_5 (h := h) hs) (by decide) ?_
    refine e_il o_129_27 rfl ?_
    refine e_c 15625 o_129_28 rfl ?_
    refine e_div o_129_31 (by decide) ?_
    refine e_clV (as := [.ref (xR h 34 0), .ref 62, .int (x1 / 15625)]) (rest := []) o_129_32 rfl rfl (x_okd cl_129_54 ml_54 (Nat.le_of_ble_eq_true rfl) (Nat.le_of_ble_eq_true rfl)) (x_rc0 (ci := 5) (sc_k (h := h) hs (ss_p hs)) mo_54) k ?_
    rintro h1 ⟨sh1, k⟩
    refine e_al o_129_35 rfl ?_
    refine e_gR (r := 62) o_129_36 (sk_58 (h := h1) sh1) (sr_58_5 (h := h1) sh1) (by decide) ?_
    refine e_il o_129_39 rfl ?_
    refine e_c 15625 o_129_40 rfl ?_
    refine e_rem o_129_43 (by decide) ?_
    refine e_clV (as := [.ref 62, .int (x1 - x1 / 15625 * 15625)]) (rest := []) o_129_44 rfl rfl (x_okd cl_129_62 ml_62 (Nat.le_of_ble_eq_true rfl) (Nat.le_of_ble_eq_true rfl)) (rfl) k ?_
    rintro h3 ⟨sh3, k⟩
    refine e_al o_129_47 rfl ?_
    refine e_gR (r := 62) o_129_48 (sk_58 (h := h3) sh3) (sr_58_5 (h := h3) sh3) (by decide) ?_
    refine e_c 14 o_129_51 rfl ?_
    refine e_il o_129_53 rfl ?_
    obtain ⟨q, k⟩ := k
    refine e_ias (n := 20) o_129_54 (sk_62 (h := h3) sh3) (by decide) (sn_62 (h := h3) sh3) q ?_
    refine e_al o_129_55 rfl ?_
    refine e_gR (r := 34) o_129_56 (sk_58 (h := h3) sh3) (sr_58_1 (h := h3) sh3) (by decide) ?_
    refine e_al o_129_59 rfl ?_
    refine e_gR (r := 62) o_129_60 (sk_58 (h := h3) sh3) (sr_58_5 (h := h3) sh3) (by decide) ?_
    refine e_al o_129_63 rfl ?_
    refine e_gR (r := 34) o_129_64 (sk_58 (h := h3) sh3) (sr_58_1 (h := h3) sh3) (by decide) ?_
    refine e_gR (r := (xR h3 34 0)) o_129_67 (sk_34 (h := h3) sh3) (rfl) (by rcases (ss_p sh3) with q | q <;> omega) ?_
    refine e_gI o_129_70 (sc_k (h := h3) sh3 (ss_p sh3)) ?_
    refine e_clV (as := [.ref 34, .ref 62, .int (xI (xsI h3 62 (tn 14) x2) (xR h3 34 0) 3)]) (rest := []) o_129_73 rfl rfl (x_okd cl_129_79 ml_79 (Nat.le_of_ble_eq_true rfl) (Nat.le_of_ble_eq_true rfl)) (x_rc0 (ci := 3) (sk_34 (h := h3) sh3) mo_79) k ?_
    rintro h5 ⟨sh5, k⟩
    refine e_al o_129_76 rfl ?_
    refine e_gR (r := (xR h5 58 11)) o_129_77 (sk_58 (h := h5) sh5) (rfl) (by have := Nat.le_trans (by decide : 4 ≤ 46) (sg4_58_11 (h := h5) sh5); omega) ?_
    refine e_il o_129_80 rfl ?_
    refine e_il o_129_81 rfl ?_
    obtain ⟨q, k⟩ := k
    refine e_ias (n := (xN h5 (xR h5 58 11))) o_129_82 (sgk_58_11 (h := h5) sh5) (Nat.le_trans (by decide : 4 ≤ 46) (sg4_58_11 (h := h5) sh5)) (rfl) q ?_
    refine e_al o_129_83 rfl ?_
    refine e_gR (r := (xR h5 58 12)) o_129_84 (sk_58 (h := h5) sh5) (rfl) (by have := Nat.le_trans (by decide : 4 ≤ 46) (sg4_58_12 (h := h5) sh5); omega) ?_
    refine e_il o_129_87 rfl ?_
    refine e_al o_129_88 rfl ?_
    refine e_gR (r := 34) o_129_89 (sk_58 (h := h5) sh5) (sr_58_1 (h := h5) sh5) (by decide) ?_
    refine e_gR (r := (xR h5 34 0)) o_129_92 (sk_34 (h := h5) sh5) (rfl) (by rcases (ss_p sh5) with q | q <;> omega) ?_
    refine e_al o_129_95 rfl ?_
    refine e_gR (r := 62) o_129_96 (sk_58 (h := h5) sh5) (sr_58_5 (h := h5) sh5) (by decide) ?_
    refine e_clI (as := [.ref (xR h5 34 0), .ref 62]) (rest := [.int (x1 - x1 / 4099 * 4099), .ref (xR h5 58 12)]) o_129_99 rfl rfl (x_okd cl_129_52 ml_52 (Nat.le_of_ble_eq_true rfl) (Nat.le_of_ble_eq_true rfl)) (x_rc0 (ci := 5) (sc_k (h := h5) sh5 (ss_p sh5)) mo_52) k ?_
    rintro v8 h7 ⟨sh7, g58_12_h7, k⟩
    rw [← g58_12_h7]
    refine e_c 15625 o_129_102 rfl ?_
    refine e_bin o_129_105 rfl ?_
    refine e_al o_129_106 rfl ?_
    refine e_gR (r := 62) o_129_107 (sk_58 (h := h7) sh7) (sr_58_5 (h := h7) sh7) (by decide) ?_
    refine e_clI (as := [.ref 62]) (rest := [.int (v8 * 15625), .int (x1 - x1 / 4099 * 4099), .ref (xR h7 58 12)]) o_129_110 rfl rfl (x_okd cl_129_58 ml_58 (Nat.le_of_ble_eq_true rfl) (Nat.le_of_ble_eq_true rfl)) (rfl) k ?_
    rintro v10 h9 ⟨sh9, g58_12_h9, k⟩
    rw [← g58_12_h9]
    refine e_bin o_129_113 rfl ?_
    obtain ⟨q, k⟩ := k
    refine e_ias (n := (xN h9 (xR h9 58 12))) o_129_114 (sgk_58_12 (h := h9) sh9) (Nat.le_trans (by decide : 4 ≤ 46) (sg4_58_12 (h := h9) sh9)) (rfl) q ?_
    refine e_al o_129_115 rfl ?_
    refine e_gR (r := (xR h9 58 12)) o_129_116 (sk_58 (h := h9) sh9) (rfl) (by have := Nat.le_trans (by decide : 4 ≤ 46) (sg4_58_12 (h := h9) sh9); omega) ?_
    refine e_il o_129_119 rfl ?_
    obtain ⟨q, k⟩ := k
    refine e_ia (n := (xN (xsI h9 (xR h9 58 12) (tn (x1 - x1 / 4099 * 4099)) ((v8 * 15625) + v10)) (xR h9 58 12))) o_129_120 (sgk_58_12 (h := h9) sh9) (rfl) q ?_
    exact e_retI o_129_121 k
set_option maxHeartbeats 4000000 in
set_option maxRecDepth 100000 in
theorem B_130_0 {x1 : Int32} {x2 : Int32} {h : XH} {Q : Value → XH → Prop} (hs : Sh h) (k : ClR 101 [.ref (xR h 58 10), .int 15625] h (fun v2 h1 => Sh h1 ∧ (v2 ≠ 0 ∧ Ev 130 25 [.ref 58, .int x1, .int x2, .int (xI h (xR h 34 0) 6), .null, .null] [] (xsR h1 58 10 v2) Q))) : Ev 130 0 (x_ini 130 [.ref 58, .int x1, .int x2]) [] h Q := by
  rw [show x_ini 130 [.ref 58, .int x1, .int x2] = [.ref 58, .int x1, .int x2, .null, .null, .null] from x_inid ml_130 rfl]
  refine e_al o_130_0 rfl ?_
  refine e_gR (r := 34) o_130_1 (sk_58 (h := h) hs) (sr_58_1 (h := h) hs) (by decide) ?_
  refine e_gR (r := (xR h 34 0)) o_130_4 (sk_34 (h := h) hs) (rfl) (by rcases (ss_p hs) with q | q <;> omega) ?_
  refine e_gI o_130_7 (sc_k (h := h) hs (ss_p hs)) ?_
  refine e_is (ls' := [.ref 58, .int x1, .int x2, .int (xI h (xR h 34 0) 6), .null, .null]) o_130_10 (Nat.le_of_ble_eq_true rfl) rfl ?_
  refine e_al o_130_11 rfl ?_
  refine e_al o_130_12 rfl ?_
  refine e_gR (r := (xR h 58 10)) o_130_13 (sk_58 (h := h) hs) (rfl) (by have := Nat.le_trans (by decide : 4 ≤ 46) (sg4_58_10 (h := h) hs); omega) ?_
  refine e_c 15625 o_130_16 rfl ?_
  refine e_clR (as := [.ref (xR h 58 10), .int 15625]) (rest := [.ref 58]) o_130_19 rfl rfl (x_okd cl_130_101 ml_101 (Nat.le_of_ble_eq_true rfl) (Nat.le_of_ble_eq_true rfl)) (rfl) k ?_
  rintro v2 h1 ⟨sh1, k⟩
  obtain ⟨nv2, k⟩ := k
  refine e_pR o_130_22 (sk_58 (h := h1) sh1) (nv2) ?_
  exact Ev.less (ls := [.ref 58, .int x1, .int x2, .int (xI h (xR h 34 0) 6), .null, .null]) ⟨Or.inr rfl, Or.inr rfl, Or.inr rfl, Or.inr rfl, Or.inl rfl, Or.inl rfl, trivial⟩ k
set_option maxHeartbeats 4000000 in
set_option maxRecDepth 100000 in
theorem B_130_36 {x1 : Int32} {x2 : Int32} {x3 : Int32} {x4 : Int32} {h : XH} {Q : Value → XH → Prop} (hs : Sh h) (k : ((x3 ≤ x4) → Q (.int (-2)) h) ∧ (¬ (x3 ≤ x4) → InB ((x1 * x3) + x4) (xN h (xR h 58 9)) ∧ (InB (xI h (xR h 58 9) (tn ((x1 * x3) + x4))) (xN h (xR h 58 10)) ∧ ((((xI h (xR h 58 10) (tn (xI h (xR h 58 9) (tn ((x1 * x3) + x4))))) < 0) → InB (xI h (xR h 58 9) (tn ((x1 * x3) + x4))) (xN h (xR h 58 10)) ∧ (Ev 130 36 [.ref 58, .int x1, .int x2, .int x3, .int (x4 + 1), .null] [] (xsI h (xR h 58 10) (tn (xI h (xR h 58 9) (tn ((x1 * x3) + x4)))) x4) Q)) ∧ (¬ ((xI h (xR h 58 10) (tn (xI h (xR h 58 9) (tn ((x1 * x3) + x4))))) < 0) → ((¬ x2 = 0) → Q (.int x4) h) ∧ (¬ (¬ x2 = 0) → InB (xI h (xR h 58 9) (tn ((x1 * x3) + x4))) (xN h (xR h 58 10)) ∧ (Q (.int (xI h (xR h 58 10) (tn (xI h (xR h 58 9) (tn ((x1 * x3) + x4)))))) h))))))) : Ev 130 36 [.ref 58, .int x1, .int x2, .int x3, .int x4, .null] [] h Q := by
  refine e_il o_130_36 rfl ?_
  refine e_il o_130_38 rfl ?_
  refine e_if_3 o_130_39 (fun z => ?_) (fun z => ?_)
  · have k := k.1 z
    refine e_c (-2) o_130_97 rfl ?_
    exact e_retI o_130_99 k
  · have k := k.2 z
    refine e_al o_130_42 rfl ?_
    refine e_gR (r := (xR h 58 9)) o_130_43 (sk_58 (h := h) hs) (rfl) (by have := Nat.le_trans (by decide : 4 ≤ 46) (sg4_58_9 (h := h) hs); omega) ?_
    refine e_il o_130_46 rfl ?_
    refine e_il o_130_47 rfl ?_
    refine e_bin o_130_48 rfl ?_
    refine e_il o_130_49 rfl ?_
    refine e_bin o_130_51 rfl ?_
    obtain ⟨q, k⟩ := k
    refine e_ia (n := (xN h (xR h 58 9))) o_130_52 (sgk_58_9 (h := h) hs) (rfl) q ?_
    refine e_is (ls' := [.ref 58, .int x1, .int x2, .int x3, .int x4, .int (xI h (xR h 58 9) (tn ((x1 * x3) + x4)))]) o_130_53 (Nat.le_of_ble_eq_true rfl) rfl ?_
    refine e_al o_130_55 rfl ?_
    refine e_gR (r := (xR h 58 10)) o_130_56 (sk_58 (h := h) hs) (rfl) (by have := Nat.le_trans (by decide : 4 ≤ 46) (sg4_58_10 (h := h) hs); omega) ?_
    refine e_il o_130_59 rfl ?_
    obtain ⟨q, k⟩ := k
    refine e_ia (n := (xN h (xR h 58 10))) o_130_61 (sgk_58_10 (h := h) hs) (rfl) q ?_
    refine e_i0_2 o_130_62 (fun z => ?_) (fun z => ?_)
    · have k := k.1 z
      refine e_al o_130_82 rfl ?_
      refine e_gR (r := (xR h 58 10)) o_130_83 (sk_58 (h := h) hs) (rfl) (by have := Nat.le_trans (by decide : 4 ≤ 46) (sg4_58_10 (h := h) hs); omega) ?_
      refine e_il o_130_86 rfl ?_
      refine e_il o_130_88 rfl ?_
      obtain ⟨q, k⟩ := k
      refine e_ias (n := (xN h (xR h 58 10))) o_130_90 (sgk_58_10 (h := h) hs) (Nat.le_trans (by decide : 4 ≤ 46) (sg4_58_10 (h := h) hs)) (rfl) q ?_
      refine e_inc (ls' := [.ref 58, .int x1, .int x2, .int x3, .int (x4 + 1), .int (xI h (xR h 58 9) (tn ((x1 * x3) + x4)))]) o_130_91 rfl rfl rfl ?_
      refine e_go o_130_94 ?_
      exact Ev.less (ls := [.ref 58, .int x1, .int x2, .int x3, .int (x4 + 1), .null]) ⟨Or.inr rfl, Or.inr rfl, Or.inr rfl, Or.inr rfl, Or.inr rfl, Or.inl rfl, trivial⟩ k
    · have k := k.2 z
      refine e_il o_130_65 rfl ?_
      refine e_i0_1 o_130_66 (fun z => ?_) (fun z => ?_)
      · have k := k.1 z
        refine e_il o_130_79 rfl ?_
        exact e_retI o_130_81 k
      · have k := k.2 z
        refine e_al o_130_69 rfl ?_
        refine e_gR (r := (xR h 58 10)) o_130_70 (sk_58 (h := h) hs) (rfl) (by have := Nat.le_trans (by decide : 4 ≤ 46) (sg4_58_10 (h := h) hs); omega) ?_
        refine e_il o_130_73 rfl ?_
        obtain ⟨q, k⟩ := k
        refine e_ia (n := (xN h (xR h 58 10))) o_130_75 (sgk_58_10 (h := h) hs) (rfl) q ?_
        refine e_go o_130_76 ?_
        exact e_retI o_130_81 k
set_option maxHeartbeats 4000000 in
set_option maxRecDepth 100000 in
theorem B_130_25 {x1 : Int32} {x2 : Int32} {x3 : Int32} {h : XH} {Q : Value → XH → Prop} (hs : Sh h) (k : ClV 23 [.ref (xR h 58 10), .int (-1)] h (fun h1 => Sh h1 ∧ (Ev 130 36 [.ref 58, .int x1, .int x2, .int x3, .int 0, .null] [] h1 Q))) : Ev 130 25 [.ref 58, .int x1, .int x2, .int x3, .null, .null] [] h Q := by
  refine e_al o_130_25 rfl ?_
  refine e_gR (r := (xR h 58 10)) o_130_26 (sk_58 (h := h) hs) (rfl) (by have := Nat.le_trans (by decide : 4 ≤ 46) (sg4_58_10 (h := h) hs); omega) ?_
  refine e_c (-1) o_130_29 rfl ?_
  refine e_clV (as := [.ref (xR h 58 10), .int (-1)]) (rest := []) o_130_30 rfl rfl (x_okd cl_130_23 ml_23 (Nat.le_of_ble_eq_true rfl) (Nat.le_of_ble_eq_true rfl)) (rfl) k ?_
  rintro h1 ⟨sh1, k⟩
  refine e_c 0 o_130_33 rfl ?_
  refine e_is (ls' := [.ref 58, .int x1, .int x2, .int x3, .int 0, .null]) o_130_34 (Nat.le_of_ble_eq_true rfl) rfl ?_
  exact Ev.less (ls := [.ref 58, .int x1, .int x2, .int x3, .int 0, .null]) ⟨Or.inr rfl, Or.inr rfl, Or.inr rfl, Or.inr rfl, Or.inr rfl, Or.inl rfl, trivial⟩ k
set_option maxHeartbeats 4000000 in
set_option maxRecDepth 100000 in
theorem B_132_0 {x1 : Int32} {x2 : Int32} {x3 : Int32} {h : XH} {Q : Value → XH → Prop} (hs : Sh h) (k : ClV 100 [.ref 43, .ref 39] h (fun h1 => Sh h1 ∧ (ClV 133 [.ref 43, .int x1, .int x2] h1 (fun h3 => Sh h3 ∧ (ClI 52 [.ref (xR h1 34 0), .ref 39] h3 (fun v6 h5 => Sh h5 ∧ (ClI 134 [.ref 43, .int v6, .int (((xI h3 (xR h1 34 0) 4) ||| (xI h3 (xR h1 34 0) 5)) ^^^ (-1))] h5 (fun v8 h7 => Sh h7 ∧ (Ev 132 57 [.ref 43, .int x1, .int x2, .int x3, .null, .ref (xR h1 34 0), .int (((xI h3 (xR h1 34 0) 4) ||| (xI h3 (xR h1 34 0) 5)) ^^^ (-1)), .int v8, .int 0, .int 0] [] h7 Q))))))))) : Ev 132 0 (x_ini 132 [.ref 43, .int x1, .int x2, .int x3, .ref 39]) [] h Q := by
  rw [show x_ini 132 [.ref 43, .int x1, .int x2, .int x3, .ref 39] = [.ref 43, .int x1, .int x2, .int x3, .ref 39, .null, .null, .null, .null, .null] from x_inid ml_132 rfl]
  refine e_al o_132_0 rfl ?_
  refine e_al o_132_1 rfl ?_
  refine e_clV (as := [.ref 43, .ref 39]) (rest := []) o_132_3 rfl rfl (x_okd cl_132_100 ml_100 (Nat.le_of_ble_eq_true rfl) (Nat.le_of_ble_eq_true rfl)) (x_rc0 (ci := 7) (sk_43 (h := h) hs) mo_100) k ?_
  rintro h1 ⟨sh1, k⟩
  refine e_al o_132_6 rfl ?_
  refine e_gR (r := 34) o_132_7 (sk_43 (h := h1) sh1) (sr_43_1 (h := h1) sh1) (by decide) ?_
  refine e_gR (r := (xR h1 34 0)) o_132_10 (sk_34 (h := h1) sh1) (rfl) (by rcases (ss_p sh1) with q | q <;> omega) ?_
  refine e_as (ls' := [.ref 43, .int x1, .int x2, .int x3, .ref 39, .ref (xR h1 34 0), .null, .null, .null, .null]) o_132_13 (Nat.le_of_ble_eq_true rfl) rfl ?_
  refine e_al o_132_15 rfl ?_
  refine e_il o_132_16 rfl ?_
  refine e_il o_132_17 rfl ?_
  refine e_clV (as := [.ref 43, .int x1, .int x2]) (rest := []) o_132_18 rfl rfl (x_okd cl_132_133 ml_133 (Nat.le_of_ble_eq_true rfl) (Nat.le_of_ble_eq_true rfl)) (x_rc0 (ci := 7) (sk_43 (h := h1) sh1) mo_133) k ?_
  rintro h3 ⟨sh3, k⟩
  refine e_al o_132_21 rfl ?_
  refine e_gI o_132_23 (sc_k (h := h3) sh3 (ss_p sh1)) ?_
  refine e_al o_132_26 rfl ?_
  refine e_gI o_132_28 (sc_k (h := h3) sh3 (ss_p sh1)) ?_
  refine e_bin o_132_31 rfl ?_
  refine e_c (-1) o_132_32 rfl ?_
  refine e_bin o_132_33 rfl ?_
  refine e_is (ls' := [.ref 43, .int x1, .int x2, .int x3, .ref 39, .ref (xR h1 34 0), .int (((xI h3 (xR h1 34 0) 4) ||| (xI h3 (xR h1 34 0) 5)) ^^^ (-1)), .null, .null, .null]) o_132_34 (Nat.le_of_ble_eq_true rfl) rfl ?_
  refine e_al o_132_36 rfl ?_
  refine e_al o_132_37 rfl ?_
  refine e_al o_132_39 rfl ?_
  refine e_clI (as := [.ref (xR h1 34 0), .ref 39]) (rest := [.ref 43]) o_132_41 rfl rfl (x_okd cl_132_52 ml_52 (Nat.le_of_ble_eq_true rfl) (Nat.le_of_ble_eq_true rfl)) (x_rc0 (ci := 5) (sc_k (h := h3) sh3 (ss_p sh1)) mo_52) k ?_
  rintro v6 h5 ⟨sh5, k⟩
  refine e_il o_132_44 rfl ?_
  refine e_clI (as := [.ref 43, .int v6, .int (((xI h3 (xR h1 34 0) 4) ||| (xI h3 (xR h1 34 0) 5)) ^^^ (-1))]) (rest := []) o_132_46 rfl rfl (x_okd cl_132_134 ml_134 (Nat.le_of_ble_eq_true rfl) (Nat.le_of_ble_eq_true rfl)) (x_rc0 (ci := 7) (sk_43 (h := h5) sh5) mo_134) k ?_
  rintro v8 h7 ⟨sh7, k⟩
  refine e_is (ls' := [.ref 43, .int x1, .int x2, .int x3, .ref 39, .ref (xR h1 34 0), .int (((xI h3 (xR h1 34 0) 4) ||| (xI h3 (xR h1 34 0) 5)) ^^^ (-1)), .int v8, .null, .null]) o_132_49 (Nat.le_of_ble_eq_true rfl) rfl ?_
  refine e_c 0 o_132_51 rfl ?_
  refine e_is (ls' := [.ref 43, .int x1, .int x2, .int x3, .ref 39, .ref (xR h1 34 0), .int (((xI h3 (xR h1 34 0) 4) ||| (xI h3 (xR h1 34 0) 5)) ^^^ (-1)), .int v8, .int 0, .null]) o_132_52 (Nat.le_of_ble_eq_true rfl) rfl ?_
  refine e_c 0 o_132_54 rfl ?_
  refine e_is (ls' := [.ref 43, .int x1, .int x2, .int x3, .ref 39, .ref (xR h1 34 0), .int (((xI h3 (xR h1 34 0) 4) ||| (xI h3 (xR h1 34 0) 5)) ^^^ (-1)), .int v8, .int 0, .int 0]) o_132_55 (Nat.le_of_ble_eq_true rfl) rfl ?_
  exact Ev.less (ls := [.ref 43, .int x1, .int x2, .int x3, .null, .ref (xR h1 34 0), .int (((xI h3 (xR h1 34 0) 4) ||| (xI h3 (xR h1 34 0) 5)) ^^^ (-1)), .int v8, .int 0, .int 0]) ⟨Or.inr rfl, Or.inr rfl, Or.inr rfl, Or.inr rfl, Or.inl rfl, Or.inr rfl, Or.inr rfl, Or.inr rfl, Or.inr rfl, Or.inr rfl, trivial⟩ k
set_option maxHeartbeats 4000000 in
set_option maxRecDepth 100000 in
theorem B_132_57 {x1 : Int32} {x2 : Int32} {x3 : Int32} {x5 : Nat} {x6 : Int32} {x7 : Int32} {x8 : Int32} {x9 : Int32} {h : XH} {Q : Value → XH → Prop} (hs : Sh h) (hx5 : x5 = 14 ∨ x5 = 24) (k : (((xI h x5 6) ≤ x9) → ((¬ x3 = (-1)) → Q (.int (-1)) h) ∧ (¬ (¬ x3 = (-1)) → Q (.int x8) h)) ∧ (¬ ((xI h x5 6) ≤ x9) → ClI 134 [.ref 43, .int x9, .int x6] h (fun v2 h1 => Sh h1 ∧ (((¬ v2 = x7) → Ev 132 156 [.ref 43, .int x1, .int x2, .int x3, .null, .ref x5, .int x6, .int x7, .int x8, .int x9] [] h1 Q) ∧ (¬ (¬ v2 = x7) → InB x9 (xN h1 (xR h1 43 4)) ∧ (ClI 64 [.int (xI h1 (xR h1 43 4) (tn x9)), .int x2] h1 (fun v4 h3 => Sh h3 ∧ (ClI 134 [.ref 43, .int x9, .int ((xI h3 x5 4) ^^^ (-1))] h3 (fun v6 h5 => Sh h5 ∧ xR h5 43 6 = xR h3 43 6 ∧ (InB v6 (xN h5 (xR h5 43 6)) ∧ (((¬ v4 = (xI h5 (xR h5 43 6) (tn v6))) → Ev 132 156 [.ref 43, .int x1, .int x2, .int x3, .null, .ref x5, .int x6, .int x7, .int x8, .int x9] [] h5 Q) ∧ (¬ (¬ v4 = (xI h5 (xR h5 43 6) (tn v6))) → InB x9 (xN h5 (xR h5 43 4)) ∧ (ClI 64 [.int (xI h5 (xR h5 43 4) (tn x9)), .int x1] h5 (fun v8 h7 => Sh h7 ∧ (ClI 134 [.ref 43, .int x9, .int ((xI h7 x5 5) ^^^ (-1))] h7 (fun v10 h9 => Sh h9 ∧ xR h9 43 5 = xR h7 43 5 ∧ (InB v10 (xN h9 (xR h9 43 5)) ∧ (((¬ v8 = (xI h9 (xR h9 43 5) (tn v10))) → Ev 132 156 [.ref 43, .int x1, .int x2, .int x3, .null, .ref x5, .int x6, .int x7, .int x8, .int x9] [] h9 Q) ∧ (¬ (¬ v8 = (xI h9 (xR h9 43 5) (tn v10))) → ((¬ x8 = x3) → Ev 132 156 [.ref 43, .int x1, .int x2, .int x3, .null, .ref x5, .int x6, .int x7, .int (x8 + 1), .int x9] [] h9 Q) ∧ (¬ (¬ x8 = x3) → Q (.int x9) h9)))))))))))))))))))) : Ev 132 57 [.ref 43, .int x1, .int x2, .int x3, .null, .ref x5, .int x6, .int x7, .int x8, .int x9] [] h Q := by
  refine e_il o_132_57 rfl ?_
  refine e_al o_132_59 rfl ?_
  refine e_gI o_132_61 (sc_k (h := h) hs hx5) ?_
  refine e_if_3 o_132_64 (fun z => ?_) (fun z => ?_)
  · have k := k.1 z
    refine e_il o_132_162 rfl ?_
    refine e_c (-1) o_132_163 rfl ?_
    refine e_if_1 o_132_164 (fun z => ?_) (fun z => ?_)
    · have k := k.1 z
      refine e_c (-1) o_132_172 rfl ?_
      exact e_retI o_132_173 k
    · have k := k.2 z
      refine e_il o_132_167 rfl ?_
      refine e_go o_132_169 ?_
      exact e_retI o_132_173 k
  · have k := k.2 z
    refine e_al o_132_67 rfl ?_
    refine e_il o_132_68 rfl ?_
    refine e_il o_132_70 rfl ?_
    refine e_clI (as := [.ref 43, .int x9, .int x6]) (rest := []) o_132_72 rfl rfl (x_okd cl_132_134 ml_134 (Nat.le_of_ble_eq_true rfl) (Nat.le_of_ble_eq_true rfl)) (x_rc0 (ci := 7) (sk_43 (h := h) hs) mo_134) k ?_
    rintro v2 h1 ⟨sh1, k⟩
    refine e_il o_132_75 rfl ?_
    refine e_if_1 o_132_77 (fun z => ?_) (fun z => ?_)
    · have k := k.1 z
      exact Ev.less (ls := [.ref 43, .int x1, .int x2, .int x3, .null, .ref x5, .int x6, .int x7, .int x8, .int x9]) ⟨Or.inr rfl, Or.inr rfl, Or.inr rfl, Or.inr rfl, Or.inl rfl, Or.inr rfl, Or.inr rfl, Or.inr rfl, Or.inr rfl, Or.inr rfl, trivial⟩ k
    · have k := k.2 z
      refine e_al o_132_80 rfl ?_
      refine e_gR (r := (xR h1 43 4)) o_132_81 (sk_43 (h := h1) sh1) (rfl) (by have := Nat.le_trans (by decide : 4 ≤ 46) (sg4_43_4 (h := h1) sh1); omega) ?_
      refine e_il o_132_84 rfl ?_
      obtain ⟨q, k⟩ := k
      refine e_ia (n := (xN h1 (xR h1 43 4))) o_132_86 (sgk_43_4 (h := h1) sh1) (rfl) q ?_
      refine e_il o_132_87 rfl ?_
      refine e_clI (as := [.int (xI h1 (xR h1 43 4) (tn x9)), .int x2]) (rest := []) o_132_88 rfl rfl (x_okd cl_132_64 ml_64 (Nat.le_of_ble_eq_true rfl) (Nat.le_of_ble_eq_true rfl)) (rfl) k ?_
      rintro v4 h3 ⟨sh3, k⟩
      refine e_al o_132_91 rfl ?_
      refine e_gR (r := (xR h3 43 6)) o_132_92 (sk_43 (h := h3) sh3) (rfl) (by have := Nat.le_trans (by decide : 4 ≤ 46) (sg4_43_6 (h := h3) sh3); omega) ?_
      refine e_al o_132_95 rfl ?_
      refine e_il o_132_96 rfl ?_
      refine e_al o_132_98 rfl ?_
      refine e_gI o_132_100 (sc_k (h := h3) sh3 hx5) ?_
      refine e_c (-1) o_132_103 rfl ?_
      refine e_bin o_132_104 rfl ?_
      refine e_clI (as := [.ref 43, .int x9, .int ((xI h3 x5 4) ^^^ (-1))]) (rest := [.ref (xR h3 43 6), .int v4]) o_132_105 rfl rfl (x_okd cl_132_134 ml_134 (Nat.le_of_ble_eq_true rfl) (Nat.le_of_ble_eq_true rfl)) (x_rc0 (ci := 7) (sk_43 (h := h3) sh3) mo_134) k ?_
      rintro v6 h5 ⟨sh5, g43_6_h5, k⟩
      rw [← g43_6_h5]
      obtain ⟨q, k⟩ := k
      refine e_ia (n := (xN h5 (xR h5 43 6))) o_132_108 (sgk_43_6 (h := h5) sh5) (rfl) q ?_
      refine e_if_1 o_132_109 (fun z => ?_) (fun z => ?_)
      · have k := k.1 z
        exact Ev.less (ls := [.ref 43, .int x1, .int x2, .int x3, .null, .ref x5, .int x6, .int x7, .int x8, .int x9]) ⟨Or.inr rfl, Or.inr rfl, Or.inr rfl, Or.inr rfl, Or.inl rfl, Or.inr rfl, Or.inr rfl, Or.inr rfl, Or.inr rfl, Or.inr rfl, trivial⟩ k
      · have k := k.2 z
        refine e_al o_132_112 rfl ?_
        refine e_gR (r := (xR h5 43 4)) o_132_113 (sk_43 (h := h5) sh5) (rfl) (by have := Nat.le_trans (by decide : 4 ≤ 46) (sg4_43_4 (h := h5) sh5); omega) ?_
        refine e_il o_132_116 rfl ?_
        obtain ⟨q, k⟩ := k
        refine e_ia (n := (xN h5 (xR h5 43 4))) o_132_118 (sgk_43_4 (h := h5) sh5) (rfl) q ?_
        refine e_il o_132_119 rfl ?_
        refine e_clI (as := [.int (xI h5 (xR h5 43 4) (tn x9)), .int x1]) (rest := []) o_132_120 rfl rfl (x_okd cl_132_64 ml_64 (Nat.le_of_ble_eq_true rfl) (Nat.le_of_ble_eq_true rfl)) (rfl) k ?_
        rintro v8 h7 ⟨sh7, k⟩
        refine e_al o_132_123 rfl ?_
        refine e_gR (r := (xR h7 43 5)) o_132_124 (sk_43 (h := h7) sh7) (rfl) (by have := Nat.le_trans (by decide : 4 ≤ 46) (sg4_43_5 (h := h7) sh7); omega) ?_
        refine e_al o_132_127 rfl ?_
        refine e_il o_132_128 rfl ?_
        refine e_al o_132_130 rfl ?_
        refine e_gI o_132_132 (sc_k (h := h7) sh7 hx5) ?_
        refine e_c (-1) o_132_135 rfl ?_
        refine e_bin o_132_136 rfl ?_
        refine e_clI (as := [.ref 43, .int x9, .int ((xI h7 x5 5) ^^^ (-1))]) (rest := [.ref (xR h7 43 5), .int v8]) o_132_137 rfl rfl (x_okd cl_132_134 ml_134 (Nat.le_of_ble_eq_true rfl) (Nat.le_of_ble_eq_true rfl)) (x_rc0 (ci := 7) (sk_43 (h := h7) sh7) mo_134) k ?_
        rintro v10 h9 ⟨sh9, g43_5_h9, k⟩
        rw [← g43_5_h9]
        obtain ⟨q, k⟩ := k
        refine e_ia (n := (xN h9 (xR h9 43 5))) o_132_140 (sgk_43_5 (h := h9) sh9) (rfl) q ?_
        refine e_if_1 o_132_141 (fun z => ?_) (fun z => ?_)
        · have k := k.1 z
          exact Ev.less (ls := [.ref 43, .int x1, .int x2, .int x3, .null, .ref x5, .int x6, .int x7, .int x8, .int x9]) ⟨Or.inr rfl, Or.inr rfl, Or.inr rfl, Or.inr rfl, Or.inl rfl, Or.inr rfl, Or.inr rfl, Or.inr rfl, Or.inr rfl, Or.inr rfl, trivial⟩ k
        · have k := k.2 z
          refine e_il o_132_144 rfl ?_
          refine e_il o_132_146 rfl ?_
          refine e_if_1 o_132_147 (fun z => ?_) (fun z => ?_)
          · have k := k.1 z
            refine e_inc (ls' := [.ref 43, .int x1, .int x2, .int x3, .null, .ref x5, .int x6, .int x7, .int (x8 + 1), .int x9]) o_132_153 rfl rfl rfl ?_
            exact Ev.less (ls := [.ref 43, .int x1, .int x2, .int x3, .null, .ref x5, .int x6, .int x7, .int (x8 + 1), .int x9]) ⟨Or.inr rfl, Or.inr rfl, Or.inr rfl, Or.inr rfl, Or.inl rfl, Or.inr rfl, Or.inr rfl, Or.inr rfl, Or.inr rfl, Or.inr rfl, trivial⟩ k
          · have k := k.2 z
            refine e_il o_132_150 rfl ?_
            exact e_retI o_132_152 k
set_option maxHeartbeats 4000000 in
set_option maxRecDepth 100000 in
theorem B_132_156 {x1 : Int32} {x2 : Int32} {x3 : Int32} {x5 : Nat} {x6 : Int32} {x7 : Int32} {x8 : Int32} {x9 : Int32} {h : XH} {Q : Value → XH → Prop} (hs : Sh h) (hx5 : x5 = 14 ∨ x5 = 24) (k : Ev 132 57 [.ref 43, .int x1, .int x2, .int x3, .null, .ref x5, .int x6, .int x7, .int x8, .int (x9 + 1)] [] h Q) : Ev 132 156 [.ref 43, .int x1, .int x2, .int x3, .null, .ref x5, .int x6, .int x7, .int x8, .int x9] [] h Q := by
  refine e_inc (ls' := [.ref 43, .int x1, .int x2, .int x3, .null, .ref x5, .int x6, .int x7, .int x8, .int (x9 + 1)]) o_132_156 rfl rfl rfl ?_
  refine e_go o_132_159 ?_
  exact Ev.less (ls := [.ref 43, .int x1, .int x2, .int x3, .null, .ref x5, .int x6, .int x7, .int x8, .int (x9 + 1)]) ⟨Or.inr rfl, Or.inr rfl, Or.inr rfl, Or.inr rfl, Or.inl rfl, Or.inr rfl, Or.inr rfl, Or.inr rfl, Or.inr rfl, Or.inr rfl, trivial⟩ k
set_option maxHeartbeats 4000000 in
set_option maxRecDepth 100000 in
theorem B_133_0 {x1 : Int32} {x2 : Int32} {h : XH} {Q : Value → XH → Prop} (hs : Sh h) (k : ClR 101 [.ref (xR h 43 5), .int (xI h (xR h 34 0) 6)] h (fun v2 h1 => Sh h1 ∧ (v2 ≠ 0 ∧ Ev 133 23 [.ref 43, .int x1, .int x2, .ref (xR h 34 0), .null, .null, .null] [] (xsR h1 43 5 v2) Q))) : Ev 133 0 (x_ini 133 [.ref 43, .int x1, .int x2]) [] h Q := by
  rw [show x_ini 133 [.ref 43, .int x1, .int x2] = [.ref 43, .int x1, .int x2, .null, .null, .null, .null] from x_inid ml_133 rfl]
  refine e_al o_133_0 rfl ?_
  refine e_gR (r := 34) o_133_1 (sk_43 (h := h) hs) (sr_43_1 (h := h) hs) (by decide) ?_
  refine e_gR (r := (xR h 34 0)) o_133_4 (sk_34 (h := h) hs) (rfl) (by rcases (ss_p hs) with q | q <;> omega) ?_
  refine e_as (ls' := [.ref 43, .int x1, .int x2, .ref (xR h 34 0), .null, .null, .null]) o_133_7 (Nat.le_of_ble_eq_true rfl) rfl ?_
  refine e_al o_133_8 rfl ?_
  refine e_al o_133_9 rfl ?_
  refine e_gR (r := (xR h 43 5)) o_133_10 (sk_43 (h := h) hs) (rfl) (by have := Nat.le_trans (by decide : 4 ≤ 46) (sg4_43_5 (h := h) hs); omega) ?_
  refine e_al o_133_13 rfl ?_
  refine e_gI o_133_14 (sc_k (h := h) hs (ss_p hs)) ?_
  refine e_clR (as := [.ref (xR h 43 5), .int (xI h (xR h 34 0) 6)]) (rest := [.ref 43]) o_133_17 rfl rfl (x_okd cl_133_101 ml_101 (Nat.le_of_ble_eq_true rfl) (Nat.le_of_ble_eq_true rfl)) (rfl) k ?_
  rintro v2 h1 ⟨sh1, k⟩
  obtain ⟨nv2, k⟩ := k
  refine e_pR o_133_20 (sk_43 (h := h1) sh1) (nv2) ?_
  exact Ev.less (ls := [.ref 43, .int x1, .int x2, .ref (xR h 34 0), .null, .null, .null]) ⟨Or.inr rfl, Or.inr rfl, Or.inr rfl, Or.inr rfl, Or.inl rfl, Or.inl rfl, Or.inl rfl, trivial⟩ k
set_option maxHeartbeats 4000000 in
set_option maxRecDepth 100000 in
theorem B_133_57 {x1 : Int32} {x2 : Int32} {x3 : Nat} {x4 : Int32} {h : XH} {Q : Value → XH → Prop} (hs : Sh h) (hx3 : x3 = 14 ∨ x3 = 24) (k : (((xI h x3 6) ≤ x4) → Q .null h) ∧ (¬ ((xI h x3 6) ≤ x4) → ClI 134 [.ref 43, .int x4, .int ((xI h x3 4) ^^^ (-1))] h (fun v2 h1 => Sh h1 ∧ (ClI 134 [.ref 43, .int x4, .int ((xI h1 x3 5) ^^^ (-1))] h1 (fun v4 h3 => Sh h3 ∧ (InB v2 (xN h3 (xR h3 43 6)) ∧ (InB x4 (xN h3 (xR h3 43 4)) ∧ (ClI 64 [.int (xI h3 (xR h3 43 4) (tn x4)), .int x2] h3 (fun v6 h5 => Sh h5 ∧ xR h5 43 6 = xR h3 43 6 ∧ (InB v2 (xN h5 (xR h5 43 6)) ∧ (InB v4 (xN (xsI h5 (xR h5 43 6) (tn v2) (if v6 < (xI h3 (xR h5 43 6) (tn v2)) then v6 else (xI h3 (xR h5 43 6) (tn v2)))) (xR h5 43 5)) ∧ (InB x4 (xN (xsI h5 (xR h5 43 6) (tn v2) (if v6 < (xI h3 (xR h5 43 6) (tn v2)) then v6 else (xI h3 (xR h5 43 6) (tn v2)))) (xR h5 43 4)) ∧ (ClI 64 [.int (xI (xsI h5 (xR h5 43 6) (tn v2) (if v6 < (xI h3 (xR h5 43 6) (tn v2)) then v6 else (xI h3 (xR h5 43 6) (tn v2)))) (xR h5 43 4) (tn x4)), .int x1] (xsI h5 (xR h5 43 6) (tn v2) (if v6 < (xI h3 (xR h5 43 6) (tn v2)) then v6 else (xI h3 (xR h5 43 6) (tn v2)))) (fun v8 h7 => Sh h7 ∧ xR h7 43 5 = xR h5 43 5 ∧ (InB v4 (xN h7 (xR h7 43 5)) ∧ (∀ h9 : XH, h9 = (xsI h7 (xR h7 43 5) (tn v4) (if v8 < (xI (xsI h5 (xR h5 43 6) (tn v2) (if v6 < (xI h3 (xR h5 43 6) (tn v2)) then v6 else (xI h3 (xR h5 43 6) (tn v2)))) (xR h7 43 5) (tn v4)) then v8 else (xI (xsI h5 (xR h5 43 6) (tn v2) (if v6 < (xI h3 (xR h5 43 6) (tn v2)) then v6 else (xI h3 (xR h5 43 6) (tn v2)))) (xR h7 43 5) (tn v4)))) → (Ev 133 57 [.ref 43, .int x1, .int x2, .ref x3, .int (x4 + 1), .null, .null] [] h9 Q))))))))))))))))) : Ev 133 57 [.ref 43, .int x1, .int x2, .ref x3, .int x4, .null, .null] [] h Q := by
  refine e_il o_133_57 rfl ?_
  refine e_al o_133_59 rfl ?_
  refine e_gI o_133_60 (sc_k (h := h) hs hx3) ?_
  refine e_if_3 o_133_63 (fun z => ?_) (fun z => ?_)
  · have k := k.1 z
    exact e_ret0 o_133_156 k
  · have k := k.2 z
    refine e_al o_133_66 rfl ?_
    refine e_il o_133_67 rfl ?_
    refine e_al o_133_69 rfl ?_
    refine e_gI o_133_70 (sc_k (h := h) hs hx3) ?_
    refine e_c (-1) o_133_73 rfl ?_
    refine e_bin o_133_74 rfl ?_
    refine e_clI (as := [.ref 43, .int x4, .int ((xI h x3 4) ^^^ (-1))]) (rest := []) o_133_75 rfl rfl (x_okd cl_133_134 ml_134 (Nat.le_of_ble_eq_true rfl) (Nat.le_of_ble_eq_true rfl)) (x_rc0 (ci := 7) (sk_43 (h := h) hs) mo_134) k ?_
    rintro v2 h1 ⟨sh1, k⟩
    refine e_is (ls' := [.ref 43, .int x1, .int x2, .ref x3, .int x4, .int v2, .null]) o_133_78 (Nat.le_of_ble_eq_true rfl) rfl ?_
    refine e_al o_133_80 rfl ?_
    refine e_il o_133_81 rfl ?_
    refine e_al o_133_83 rfl ?_
    refine e_gI o_133_84 (sc_k (h := h1) sh1 hx3) ?_
    refine e_c (-1) o_133_87 rfl ?_
    refine e_bin o_133_88 rfl ?_
    refine e_clI (as := [.ref 43, .int x4, .int ((xI h1 x3 5) ^^^ (-1))]) (rest := []) o_133_89 rfl rfl (x_okd cl_133_134 ml_134 (Nat.le_of_ble_eq_true rfl) (Nat.le_of_ble_eq_true rfl)) (x_rc0 (ci := 7) (sk_43 (h := h1) sh1) mo_134) k ?_
    rintro v4 h3 ⟨sh3, k⟩
    refine e_is (ls' := [.ref 43, .int x1, .int x2, .ref x3, .int x4, .int v2, .int v4]) o_133_92 (Nat.le_of_ble_eq_true rfl) rfl ?_
    refine e_al o_133_94 rfl ?_
    refine e_gR (r := (xR h3 43 6)) o_133_95 (sk_43 (h := h3) sh3) (rfl) (by have := Nat.le_trans (by decide : 4 ≤ 46) (sg4_43_6 (h := h3) sh3); omega) ?_
    refine e_il o_133_98 rfl ?_
    refine e_al o_133_100 rfl ?_
    refine e_gR (r := (xR h3 43 6)) o_133_101 (sk_43 (h := h3) sh3) (rfl) (by have := Nat.le_trans (by decide : 4 ≤ 46) (sg4_43_6 (h := h3) sh3); omega) ?_
    refine e_il o_133_104 rfl ?_
    obtain ⟨q, k⟩ := k
    refine e_ia (n := (xN h3 (xR h3 43 6))) o_133_106 (sgk_43_6 (h := h3) sh3) (rfl) q ?_
    refine e_al o_133_107 rfl ?_
    refine e_gR (r := (xR h3 43 4)) o_133_108 (sk_43 (h := h3) sh3) (rfl) (by have := Nat.le_trans (by decide : 4 ≤ 46) (sg4_43_4 (h := h3) sh3); omega) ?_
    refine e_il o_133_111 rfl ?_
    obtain ⟨q, k⟩ := k
    refine e_ia (n := (xN h3 (xR h3 43 4))) o_133_113 (sgk_43_4 (h := h3) sh3) (rfl) q ?_
    refine e_il o_133_114 rfl ?_
    refine e_clI (as := [.int (xI h3 (xR h3 43 4) (tn x4)), .int x2]) (rest := [.int (xI h3 (xR h3 43 6) (tn v2)), .int v2, .ref (xR h3 43 6)]) o_133_115 rfl rfl (x_okd cl_133_64 ml_64 (Nat.le_of_ble_eq_true rfl) (Nat.le_of_ble_eq_true rfl)) (rfl) k ?_
    rintro v6 h5 ⟨sh5, g43_6_h5, k⟩
    rw [← g43_6_h5]
    refine e_min o_133_118 (Nat.le_of_ble_eq_true rfl) ?_
    obtain ⟨q, k⟩ := k
    refine e_ias (n := (xN h5 (xR h5 43 6))) o_133_121 (sgk_43_6 (h := h5) sh5) (Nat.le_trans (by decide : 4 ≤ 46) (sg4_43_6 (h := h5) sh5)) (rfl) q ?_
    refine e_al o_133_122 rfl ?_
    refine e_gR (r := (xR h5 43 5)) o_133_123 (sk_43 (h := h5) sh5) (rfl) (by have := Nat.le_trans (by decide : 4 ≤ 46) (sg4_43_5 (h := h5) sh5); omega) ?_
    refine e_il o_133_126 rfl ?_
    refine e_al o_133_128 rfl ?_
    refine e_gR (r := (xR h5 43 5)) o_133_129 (sk_43 (h := h5) sh5) (rfl) (by have := Nat.le_trans (by decide : 4 ≤ 46) (sg4_43_5 (h := h5) sh5); omega) ?_
    refine e_il o_133_132 rfl ?_
    obtain ⟨q, k⟩ := k
    refine e_ia (n := (xN (xsI h5 (xR h5 43 6) (tn v2) (if v6 < (xI h3 (xR h5 43 6) (tn v2)) then v6 else (xI h3 (xR h5 43 6) (tn v2)))) (xR h5 43 5))) o_133_134 (sgk_43_5 (h := h5) sh5) (rfl) q ?_
    refine e_al o_133_135 rfl ?_
    refine e_gR (r := (xR h5 43 4)) o_133_136 (sk_43 (h := h5) sh5) (rfl) (by have := Nat.le_trans (by decide : 4 ≤ 46) (sg4_43_4 (h := h5) sh5); omega) ?_
    refine e_il o_133_139 rfl ?_
    obtain ⟨q, k⟩ := k
    refine e_ia (n := (xN (xsI h5 (xR h5 43 6) (tn v2) (if v6 < (xI h3 (xR h5 43 6) (tn v2)) then v6 else (xI h3 (xR h5 43 6) (tn v2)))) (xR h5 43 4))) o_133_141 (sgk_43_4 (h := h5) sh5) (rfl) q ?_
    refine e_il o_133_142 rfl ?_
    refine e_clI (as := [.int (xI (xsI h5 (xR h5 43 6) (tn v2) (if v6 < (xI h3 (xR h5 43 6) (tn v2)) then v6 else (xI h3 (xR h5 43 6) (tn v2)))) (xR h5 43 4) (tn x4)), .int x1]) (rest := [.int (xI (xsI h5 (xR h5 43 6) (tn v2) (if v6 < (xI h3 (xR h5 43 6) (tn v2)) then v6 else (xI h3 (xR h5 43 6) (tn v2)))) (xR h5 43 5) (tn v4)), .int v4, .ref (xR h5 43 5)]) o_133_143 rfl rfl (x_okd cl_133_64 ml_64 (Nat.le_of_ble_eq_true rfl) (Nat.le_of_ble_eq_true rfl)) (rfl) k ?_
    rintro v8 h7 ⟨sh7, g43_5_h7, k⟩
    rw [← g43_5_h7]
    refine e_min o_133_146 (Nat.le_of_ble_eq_true rfl) ?_
    obtain ⟨q, k⟩ := k
    refine e_ias (n := (xN h7 (xR h7 43 5))) o_133_149 (sgk_43_5 (h := h7) sh7) (Nat.le_trans (by decide : 4 ≤ 46) (sg4_43_5 (h := h7) sh7)) (rfl) q ?_
    obtain ⟨h9, eh9⟩ : ∃ z : XH, z = (xsI h7 (xR h7 43 5) (tn v4) (if v8 < (xI (xsI h5 (xR h5 43 6) (tn v2) (if v6 < (xI h3 (xR h5 43 6) (tn v2)) then v6 else (xI h3 (xR h5 43 6) (tn v2)))) (xR h7 43 5) (tn v4)) then v8 else (xI (xsI h5 (xR h5 43 6) (tn v2) (if v6 < (xI h3 (xR h5 43 6) (tn v2)) then v6 else (xI h3 (xR h5 43 6) (tn v2)))) (xR h7 43 5) (tn v4)))) := ⟨_, rfl⟩
    show Ev 133 150 [.ref 43, .int x1, .int x2, .ref x3, .int x4, .int v2, .int v4] [] (xsI h7 (xR h7 43 5) (tn v4) (if v8 < (xI (xsI h5 (xR h5 43 6) (tn v2) (if v6 < (xI h3 (xR h5 43 6) (tn v2)) then v6 else (xI h3 (xR h5 43 6) (tn v2)))) (xR h7 43 5) (tn v4)) then v8 else (xI (xsI h5 (xR h5 43 6) (tn v2) (if v6 < (xI h3 (xR h5 43 6) (tn v2)) then v6 else (xI h3 (xR h5 43 6) (tn v2)))) (xR h7 43 5) (tn v4)))) Q
    rw [← eh9]
    have sh9 : Sh h9 := by rw [eh9]; exact (sh_I sh7 (by have := Nat.le_trans (by decide : 4 ≤ 46) (sg4_43_5 (h := h7) sh7); omega))
    have k := k h9 eh9
    refine e_inc (ls' := [.ref 43, .int x1, .int x2, .ref x3, .int (x4 + 1), .int v2, .int v4]) o_133_150 rfl rfl rfl ?_
    refine e_go o_133_153 ?_
    exact Ev.less (ls := [.ref 43, .int x1, .int x2, .ref x3, .int (x4 + 1), .null, .null]) ⟨Or.inr rfl, Or.inr rfl, Or.inr rfl, Or.inr rfl, Or.inr rfl, Or.inl rfl, Or.inl rfl, trivial⟩ k
set_option maxHeartbeats 4000000 in
set_option maxRecDepth 100000 in
theorem B_133_23 {x1 : Int32} {x2 : Int32} {x3 : Nat} {h : XH} {Q : Value → XH → Prop} (hs : Sh h) (hx3 : x3 = 14 ∨ x3 = 24) (k : ClR 101 [.ref (xR h 43 6), .int (xI h x3 6)] h (fun v2 h1 => Sh h1 ∧ (v2 ≠ 0 ∧ Ev 133 38 [.ref 43, .int x1, .int x2, .ref x3, .null, .null, .null] [] (xsR h1 43 6 v2) Q))) : Ev 133 23 [.ref 43, .int x1, .int x2, .ref x3, .null, .null, .null] [] h Q := by
  refine e_al o_133_23 rfl ?_
  refine e_al o_133_24 rfl ?_
  refine e_gR (r := (xR h 43 6)) o_133_25 (sk_43 (h := h) hs) (rfl) (by have := Nat.le_trans (by decide : 4 ≤ 46) (sg4_43_6 (h := h) hs); omega) ?_
  refine e_al o_133_28 rfl ?_
  refine e_gI o_133_29 (sc_k (h := h) hs hx3) ?_
  refine e_clR (as := [.ref (xR h 43 6), .int (xI h x3 6)]) (rest := [.ref 43]) o_133_32 rfl rfl (x_okd cl_133_101 ml_101 (Nat.le_of_ble_eq_true rfl) (Nat.le_of_ble_eq_true rfl)) (rfl) k ?_
  rintro v2 h1 ⟨sh1, k⟩
  obtain ⟨nv2, k⟩ := k
  refine e_pR o_133_35 (sk_43 (h := h1) sh1) (nv2) ?_
  exact Ev.less (ls := [.ref 43, .int x1, .int x2, .ref x3, .null, .null, .null]) ⟨Or.inr rfl, Or.inr rfl, Or.inr rfl, Or.inr rfl, Or.inl rfl, Or.inl rfl, Or.inl rfl, trivial⟩ k
set_option maxHeartbeats 4000000 in
set_option maxRecDepth 100000 in
theorem B_133_38 {x1 : Int32} {x2 : Int32} {x3 : Nat} {h : XH} {Q : Value → XH → Prop} (hs : Sh h) (hx3 : x3 = 14 ∨ x3 = 24) (k : ClV 23 [.ref (xR h 43 5), .int 4] h (fun h1 => Sh h1 ∧ (ClV 23 [.ref (xR h1 43 6), .int 4] h1 (fun h3 => Sh h3 ∧ (Ev 133 57 [.ref 43, .int x1, .int x2, .ref x3, .int 0, .null, .null] [] h3 Q))))) : Ev 133 38 [.ref 43, .int x1, .int x2, .ref x3, .null, .null, .null] [] h Q := by
  refine e_al o_133_38 rfl ?_
  refine e_gR (r := (xR h 43 5)) o_133_39 (sk_43 (h := h) hs) (rfl) (by have := Nat.le_trans (by decide : 4 ≤ 46) (sg4_43_5 (h := h) hs); omega) ?_
  refine e_c 4 o_133_42 rfl ?_
  refine e_clV (as := [.ref (xR h 43 5), .int 4]) (rest := []) o_133_43 rfl rfl (x_okd cl_133_23 ml_23 (Nat.le_of_ble_eq_true rfl) (Nat.le_of_ble_eq_true rfl)) (rfl) k ?_
  rintro h1 ⟨sh1, k⟩
  refine e_al o_133_46 rfl ?_
  refine e_gR (r := (xR h1 43 6)) o_133_47 (sk_43 (h := h1) sh1) (rfl) (by have := Nat.le_trans (by decide : 4 ≤ 46) (sg4_43_6 (h := h1) sh1); omega) ?_
  refine e_c 4 o_133_50 rfl ?_
  refine e_clV (as := [.ref (xR h1 43 6), .int 4]) (rest := []) o_133_51 rfl rfl (x_okd cl_133_23 ml_23 (Nat.le_of_ble_eq_true rfl) (Nat.le_of_ble_eq_true rfl)) (rfl) k ?_
  rintro h3 ⟨sh3, k⟩
  refine e_c 0 o_133_54 rfl ?_
  refine e_is (ls' := [.ref 43, .int x1, .int x2, .ref x3, .int 0, .null, .null]) o_133_55 (Nat.le_of_ble_eq_true rfl) rfl ?_
  exact Ev.less (ls := [.ref 43, .int x1, .int x2, .ref x3, .int 0, .null, .null]) ⟨Or.inr rfl, Or.inr rfl, Or.inr rfl, Or.inr rfl, Or.inr rfl, Or.inl rfl, Or.inl rfl, trivial⟩ k
set_option maxHeartbeats 4000000 in
set_option maxRecDepth 100000 in
theorem B_134_0 {x1 : Int32} {x2 : Int32} {h : XH} {Q : Value → XH → Prop} (hs : Sh h) (k : Ev 134 14 [.null, .int x1, .int x2, .ref (xR h 34 0), .int 0, .int 0] [] h Q) : Ev 134 0 (x_ini 134 [.ref 43, .int x1, .int x2]) [] h Q := by
  rw [show x_ini 134 [.ref 43, .int x1, .int x2] = [.ref 43, .int x1, .int x2, .null, .null, .null] from x_inid ml_134 rfl]
  refine e_al o_134_0 rfl ?_
  refine e_gR (r := 34) o_134_1 (sk_43 (h := h) hs) (sr_43_1 (h := h) hs) (by decide) ?_
  refine e_gR (r := (xR h 34 0)) o_134_4 (sk_34 (h := h) hs) (rfl) (by rcases (ss_p hs) with q | q <;> omega) ?_
  refine e_as (ls' := [.ref 43, .int x1, .int x2, .ref (xR h 34 0), .null, .null]) o_134_7 (Nat.le_of_ble_eq_true rfl) rfl ?_
  refine e_c 0 o_134_8 rfl ?_
  refine e_is (ls' := [.ref 43, .int x1, .int x2, .ref (xR h 34 0), .int 0, .null]) o_134_9 (Nat.le_of_ble_eq_true rfl) rfl ?_
  refine e_c 0 o_134_11 rfl ?_
  refine e_is (ls' := [.ref 43, .int x1, .int x2, .ref (xR h 34 0), .int 0, .int 0]) o_134_12 (Nat.le_of_ble_eq_true rfl) rfl ?_
  exact Ev.less (ls := [.null, .int x1, .int x2, .ref (xR h 34 0), .int 0, .int 0]) ⟨Or.inl rfl, Or.inr rfl, Or.inr rfl, Or.inr rfl, Or.inr rfl, Or.inr rfl, trivial⟩ k
set_option maxHeartbeats 4000000 in
set_option maxRecDepth 100000 in
theorem B_134_14 {x1 : Int32} {x2 : Int32} {x3 : Nat} {x4 : Int32} {x5 : Int32} {h : XH} {Q : Value → XH → Prop} (hs : Sh h) (hx3 : x3 = 14 ∨ x3 = 24) (k : (((xI h x3 0) ≤ x5) → Q (.int x4) h) ∧ (¬ ((xI h x3 0) ≤ x5) → ((¬ ((x2 >>> (x5 &&& 31)) &&& 1) = (1 : Int32)) → Ev 134 14 [.null, .int x1, .int x2, .ref x3, .int x4, .int (x5 + 1)] [] h Q) ∧ (¬ (¬ ((x2 >>> (x5 &&& 31)) &&& 1) = (1 : Int32)) → ClI 117 [.ref x3, .int x1, .int x5] h (fun v2 h1 => Sh h1 ∧ (InB x5 8 ∧ (Ev 134 14 [.null, .int x1, .int x2, .ref x3, .int (x4 + (v2 * (xI h1 (x3 + 3) (tn x5)))), .int (x5 + 1)] [] h1 Q)))))) : Ev 134 14 [.null, .int x1, .int x2, .ref x3, .int x4, .int x5] [] h Q := by
  refine e_il o_134_14 rfl ?_
  refine e_al o_134_16 rfl ?_
  refine e_gI o_134_17 (sc_k (h := h) hs hx3) ?_
  refine e_if_3 o_134_20 (fun z => ?_) (fun z => ?_)
  · have k := k.1 z
    refine e_il o_134_59 rfl ?_
    exact e_retI o_134_61 k
  · have k := k.2 z
    refine e_il o_134_23 rfl ?_
    refine e_il o_134_24 rfl ?_
    refine e_bin o_134_26 rfl ?_
    refine e_c 1 o_134_27 rfl ?_
    refine e_bin o_134_28 rfl ?_
    refine e_c 1 o_134_29 rfl ?_
    refine e_if_1 o_134_30 (fun z => ?_) (fun z => ?_)
    · have k := k.1 z
      refine e_inc (ls' := [.null, .int x1, .int x2, .ref x3, .int x4, .int (x5 + 1)]) o_134_53 rfl rfl rfl ?_
      refine e_go o_134_56 ?_
      exact Ev.less (ls := [.null, .int x1, .int x2, .ref x3, .int x4, .int (x5 + 1)]) ⟨Or.inl rfl, Or.inr rfl, Or.inr rfl, Or.inr rfl, Or.inr rfl, Or.inr rfl, trivial⟩ k
    · have k := k.2 z
      refine e_il o_134_33 rfl ?_
      refine e_al o_134_35 rfl ?_
      refine e_il o_134_36 rfl ?_
      refine e_il o_134_37 rfl ?_
      refine e_clI (as := [.ref x3, .int x1, .int x5]) (rest := [.int x4]) o_134_39 rfl rfl (x_okd cl_134_117 ml_117 (Nat.le_of_ble_eq_true rfl) (Nat.le_of_ble_eq_true rfl)) (x_rc0 (ci := 5) (sc_k (h := h) hs hx3) mo_117) k ?_
      rintro v2 h1 ⟨sh1, k⟩
      refine e_al o_134_42 rfl ?_
      refine e_gR (r := (x3 + 3)) o_134_43 (sc_k (h := h1) sh1 hx3) (sc_r11 (h := h1) sh1 hx3) (by omega) ?_
      refine e_il o_134_46 rfl ?_
      obtain ⟨q, k⟩ := k
      refine e_ia (n := 8) o_134_48 ((sc_a3 (h := h1) sh1 hx3).1) ((sc_a3 (h := h1) sh1 hx3).2.1) q ?_
      refine e_bin o_134_49 rfl ?_
      refine e_bin o_134_50 rfl ?_
      refine e_is (ls' := [.null, .int x1, .int x2, .ref x3, .int (x4 + (v2 * (xI h1 (x3 + 3) (tn x5)))), .int x5]) o_134_51 (Nat.le_of_ble_eq_true rfl) rfl ?_
      refine e_inc (ls' := [.null, .int x1, .int x2, .ref x3, .int (x4 + (v2 * (xI h1 (x3 + 3) (tn x5)))), .int (x5 + 1)]) o_134_53 rfl rfl rfl ?_
      refine e_go o_134_56 ?_
      exact Ev.less (ls := [.null, .int x1, .int x2, .ref x3, .int (x4 + (v2 * (xI h1 (x3 + 3) (tn x5)))), .int (x5 + 1)]) ⟨Or.inl rfl, Or.inr rfl, Or.inr rfl, Or.inr rfl, Or.inr rfl, Or.inr rfl, trivial⟩ k
set_option maxHeartbeats 4000000 in
set_option maxRecDepth 100000 in
theorem B_136_0 {x1 : Int32} {x2 : Int32} {x3 : Int32} {h : XH} {Q : Value → XH → Prop} (hs : Sh h) (k : ((¬ (xI h (xR h 34 0) 2) = 0) → Ev 136 40 [.ref 53, .int x1, .int x2, .int x3, .ref 39, .int 0, .int 0, .null] [] h Q) ∧ (¬ (¬ (xI h (xR h 34 0) 2) = 0) → ClI 104 [.ref 53, .int x2, .ref 39] h (fun v2 h1 => Sh h1 ∧ (ClI 64 [.int v2, .int x1] h1 (fun v4 h3 => Sh h3 ∧ (((¬ v4 = 4) → Q (.int 0) h3) ∧ (¬ (¬ v4 = 4) → Q (.int x3) h3))))))) : Ev 136 0 (x_ini 136 [.ref 53, .int x1, .int x2, .int x3, .ref 39]) [] h Q := by
  rw [show x_ini 136 [.ref 53, .int x1, .int x2, .int x3, .ref 39] = [.ref 53, .int x1, .int x2, .int x3, .ref 39, .null, .null, .null] from x_inid ml_136 rfl]
  refine e_al o_136_0 rfl ?_
  refine e_gR (r := 34) o_136_1 (sk_53 (h := h) hs) (sr_53_1 (h := h) hs) (by decide) ?_
  refine e_gR (r := (xR h 34 0)) o_136_4 (sk_34 (h := h) hs) (rfl) (by rcases (ss_p hs) with q | q <;> omega) ?_
  refine e_gI o_136_7 (sc_k (h := h) hs (ss_p hs)) ?_
  refine e_i0_1 o_136_10 (fun z => ?_) (fun z => ?_)
  · have k := k.1 z
    refine e_c 0 o_136_34 rfl ?_
    refine e_is (ls' := [.ref 53, .int x1, .int x2, .int x3, .ref 39, .int 0, .null, .null]) o_136_35 (Nat.le_of_ble_eq_true rfl) rfl ?_
    refine e_c 0 o_136_37 rfl ?_
    refine e_is (ls' := [.ref 53, .int x1, .int x2, .int x3, .ref 39, .int 0, .int 0, .null]) o_136_38 (Nat.le_of_ble_eq_true rfl) rfl ?_
    exact Ev.less (ls := [.ref 53, .int x1, .int x2, .int x3, .ref 39, .int 0, .int 0, .null]) ⟨Or.inr rfl, Or.inr rfl, Or.inr rfl, Or.inr rfl, Or.inr rfl, Or.inr rfl, Or.inr rfl, Or.inl rfl, trivial⟩ k
  · have k := k.2 z
    refine e_al o_136_13 rfl ?_
    refine e_il o_136_14 rfl ?_
    refine e_al o_136_15 rfl ?_
    refine e_clI (as := [.ref 53, .int x2, .ref 39]) (rest := []) o_136_17 rfl rfl (x_okd cl_136_104 ml_104 (Nat.le_of_ble_eq_true rfl) (Nat.le_of_ble_eq_true rfl)) (x_rc0 (ci := 0) (sk_53 (h := h) hs) mo_104) k ?_
    rintro v2 h1 ⟨sh1, k⟩
    refine e_il o_136_20 rfl ?_
    refine e_clI (as := [.int v2, .int x1]) (rest := []) o_136_21 rfl rfl (x_okd cl_136_64 ml_64 (Nat.le_of_ble_eq_true rfl) (Nat.le_of_ble_eq_true rfl)) (rfl) k ?_
    rintro v4 h3 ⟨sh3, k⟩
    refine e_c 4 o_136_24 rfl ?_
    refine e_if_1 o_136_25 (fun z => ?_) (fun z => ?_)
    · have k := k.1 z
      refine e_c 0 o_136_32 rfl ?_
      exact e_retI o_136_33 k
    · have k := k.2 z
      refine e_il o_136_28 rfl ?_
      refine e_go o_136_29 ?_
      exact e_retI o_136_33 k
set_option maxHeartbeats 4000000 in
set_option maxRecDepth 100000 in
theorem B_136_40 {x1 : Int32} {x2 : Int32} {x3 : Int32} {x5 : Int32} {x6 : Int32} {h : XH} {Q : Value → XH → Prop} (hs : Sh h) (k : ((x3 ≤ x6) → Q (.int x5) h) ∧ (¬ (x3 ≤ x6) → (39 ≠ 55 ∧ ¬ (0 : Int32) < 0 ∧ ¬ (0 : Int32) < 0 ∧ ¬ (20 : Int32) < 0 ∧ tn (0 : Int32) + tn (20 : Int32) ≤ 20 ∧ tn (0 : Int32) + tn (20 : Int32) ≤ 20) ∧ (Ev 136 62 [.ref 53, .int x1, .int x2, .int x3, .ref 39, .int x5, .int x6, .int 0] [] (xsA h 55 (va_cpy (xI h 39) (xI h 55) (tn (0 : Int32)) (tn (0 : Int32)) (tn (20 : Int32)))) Q))) : Ev 136 40 [.ref 53, .int x1, .int x2, .int x3, .ref 39, .int x5, .int x6, .null] [] h Q := by
  refine e_il o_136_40 rfl ?_
  refine e_il o_136_42 rfl ?_
  refine e_if_3 o_136_43 (fun z => ?_) (fun z => ?_)
  · have k := k.1 z
    refine e_il o_136_120 rfl ?_
    exact e_retI o_136_122 k
  · have k := k.2 z
    refine e_al o_136_46 rfl ?_
    refine e_c 0 o_136_48 rfl ?_
    refine e_al o_136_49 rfl ?_
    refine e_gR (r := 55) o_136_50 (sk_53 (h := h) hs) (sr_53_3 (h := h) hs) (by decide) ?_
    refine e_c 0 o_136_53 rfl ?_
    refine e_c 20 o_136_54 rfl ?_
    obtain ⟨q, k⟩ := k
    refine e_cp (ns := 20) (nd := 20) o_136_56 ⟨sk_39 (h := h) hs, sk_55 (h := h) hs, by decide, by decide, q.1⟩ (sn_39 (h := h) hs) (sn_55 (h := h) hs) q.2 (Nat.le_of_ble_eq_true rfl) ?_
    refine e_c 0 o_136_59 rfl ?_
    refine e_is (ls' := [.ref 53, .int x1, .int x2, .int x3, .ref 39, .int x5, .int x6, .int 0]) o_136_60 (Nat.le_of_ble_eq_true rfl) rfl ?_
    exact Ev.less (ls := [.ref 53, .int x1, .int x2, .int x3, .ref 39, .int x5, .int x6, .int 0]) ⟨Or.inr rfl, Or.inr rfl, Or.inr rfl, Or.inr rfl, Or.inr rfl, Or.inr rfl, Or.inr rfl, Or.inr rfl, trivial⟩ k
set_option maxHeartbeats 4000000 in
set_option maxRecDepth 100000 in
theorem B_136_62 {x1 : Int32} {x2 : Int32} {x3 : Int32} {x5 : Int32} {x6 : Int32} {x7 : Int32} {h : XH} {Q : Value → XH → Prop} (hs : Sh h) (k : ((x2 ≤ x7) → InB (8 + x1) 20 ∧ (((¬ (xI h 55 (tn (8 + x1))) = 4) → Ev 136 40 [.ref 53, .int x1, .int x2, .int x3, .ref 39, .int x5, .int (x6 + 1), .null] [] h Q) ∧ (¬ (¬ (xI h 55 (tn (8 + x1))) = 4) → Ev 136 40 [.ref 53, .int x1, .int x2, .int x3, .ref 39, .int (x5 + 1), .int (x6 + 1), .null] [] h Q))) ∧ (¬ (x2 ≤ x7) → ClV 79 [.ref 34, .ref 55, .int ((xI h (xR h 34 0) 3) + x6)] h (fun h1 => Sh h1 ∧ (Ev 136 62 [.ref 53, .int x1, .int x2, .int x3, .ref 39, .int x5, .int x6, .int (x7 + 1)] [] h1 Q)))) : Ev 136 62 [.ref 53, .int x1, .int x2, .int x3, .ref 39, .int x5, .int x6, .int x7] [] h Q := by
  refine e_il o_136_62 rfl ?_
  refine e_il o_136_64 rfl ?_
  refine e_if_3 o_136_65 (fun z => ?_) (fun z => ?_)
  · have k := k.1 z
    refine e_al o_136_98 rfl ?_
    refine e_gR (r := 55) o_136_99 (sk_53 (h := h) hs) (sr_53_3 (h := h) hs) (by decide) ?_
    refine e_c 8 o_136_102 rfl ?_
    refine e_il o_136_104 rfl ?_
    refine e_bin o_136_105 rfl ?_
    obtain ⟨q, k⟩ := k
    refine e_ia (n := 20) o_136_106 (sk_55 (h := h) hs) (sn_55 (h := h) hs) q ?_
    refine e_c 4 o_136_107 rfl ?_
    refine e_if_1 o_136_108 (fun z => ?_) (fun z => ?_)
    · have k := k.1 z
      refine e_inc (ls' := [.ref 53, .int x1, .int x2, .int x3, .ref 39, .int x5, .int (x6 + 1), .int x7]) o_136_114 rfl rfl rfl ?_
      refine e_go o_136_117 ?_
      exact Ev.less (ls := [.ref 53, .int x1, .int x2, .int x3, .ref 39, .int x5, .int (x6 + 1), .null]) ⟨Or.inr rfl, Or.inr rfl, Or.inr rfl, Or.inr rfl, Or.inr rfl, Or.inr rfl, Or.inr rfl, Or.inl rfl, trivial⟩ k
    · have k := k.2 z
      refine e_inc (ls' := [.ref 53, .int x1, .int x2, .int x3, .ref 39, .int (x5 + 1), .int x6, .int x7]) o_136_111 rfl rfl rfl ?_
      refine e_inc (ls' := [.ref 53, .int x1, .int x2, .int x3, .ref 39, .int (x5 + 1), .int (x6 + 1), .int x7]) o_136_114 rfl rfl rfl ?_
      refine e_go o_136_117 ?_
      exact Ev.less (ls := [.ref 53, .int x1, .int x2, .int x3, .ref 39, .int (x5 + 1), .int (x6 + 1), .null]) ⟨Or.inr rfl, Or.inr rfl, Or.inr rfl, Or.inr rfl, Or.inr rfl, Or.inr rfl, Or.inr rfl, Or.inl rfl, trivial⟩ k
  · have k := k.2 z
    refine e_al o_136_68 rfl ?_
    refine e_gR (r := 34) o_136_69 (sk_53 (h := h) hs) (sr_53_1 (h := h) hs) (by decide) ?_
    refine e_al o_136_72 rfl ?_
    refine e_gR (r := 55) o_136_73 (sk_53 (h := h) hs) (sr_53_3 (h := h) hs) (by decide) ?_
    refine e_al o_136_76 rfl ?_
    refine e_gR (r := 34) o_136_77 (sk_53 (h := h) hs) (sr_53_1 (h := h) hs) (by decide) ?_
    refine e_gR (r := (xR h 34 0)) o_136_80 (sk_34 (h := h) hs) (rfl) (by rcases (ss_p hs) with q | q <;> omega) ?_
    refine e_gI o_136_83 (sc_k (h := h) hs (ss_p hs)) ?_
    refine e_il o_136_86 rfl ?_
    refine e_bin o_136_88 rfl ?_
    refine e_clV (as := [.ref 34, .ref 55, .int ((xI h (xR h 34 0) 3) + x6)]) (rest := []) o_136_89 rfl rfl (x_okd cl_136_79 ml_79 (Nat.le_of_ble_eq_true rfl) (Nat.le_of_ble_eq_true rfl)) (x_rc0 (ci := 3) (sk_34 (h := h) hs) mo_79) k ?_
    rintro h1 ⟨sh1, k⟩
    refine e_inc (ls' := [.ref 53, .int x1, .int x2, .int x3, .ref 39, .int x5, .int x6, .int (x7 + 1)]) o_136_92 rfl rfl rfl ?_
    refine e_go o_136_95 ?_
    exact Ev.less (ls := [.ref 53, .int x1, .int x2, .int x3, .ref 39, .int x5, .int x6, .int (x7 + 1)]) ⟨Or.inr rfl, Or.inr rfl, Or.inr rfl, Or.inr rfl, Or.inr rfl, Or.inr rfl, Or.inr rfl, Or.inr rfl, trivial⟩ k
set_option maxHeartbeats 4000000 in
set_option maxRecDepth 100000 in
theorem B_138_0 {x1 : Int32} {x2 : Int32} {x3 : Int32} {h : XH} {Q : Value → XH → Prop} (hs : Sh h) (k : (((xI h 58 0) < 20) → InB (xI h 58 0) 20 ∧ (InB (xI (xsI h 59 (tn (xI h 58 0)) x1) 58 0) 20 ∧ (InB (xI (xsI (xsI h 59 (tn (xI h 58 0)) x1) 60 (tn (xI (xsI h 59 (tn (xI h 58 0)) x1) 58 0)) x2) 58 0) 20 ∧ (∀ h1 : XH, h1 = (xsI (xsI (xsI h 59 (tn (xI h 58 0)) x1) 60 (tn (xI (xsI h 59 (tn (xI h 58 0)) x1) 58 0)) x2) 61 (tn (xI (xsI (xsI h 59 (tn (xI h 58 0)) x1) 60 (tn (xI (xsI h 59 (tn (xI h 58 0)) x1) 58 0)) x2) 58 0)) x3) → (Q (.int ((xI (xsI h1 58 0 ((xI h1 58 0) + 1)) 58 0) - 1)) (xsI h1 58 0 ((xI h1 58 0) + 1))))))) ∧ (¬ ((xI h 58 0) < 20) → Q (.int (-1)) h)) : Ev 138 0 (x_ini 138 [.ref 58, .int x1, .int x2, .int x3]) [] h Q := by
  rw [show x_ini 138 [.ref 58, .int x1, .int x2, .int x3] = [.ref 58, .int x1, .int x2, .int x3] from x_inid ml_138 rfl]
  refine e_al o_138_0 rfl ?_
  refine e_gI o_138_1 (sk_58 (h := h) hs) ?_
  refine e_c 20 o_138_4 rfl ?_
  refine e_if_2 o_138_6 (fun z => ?_) (fun z => ?_)
  · have k := k.1 z
    refine e_al o_138_11 rfl ?_
    refine e_gR (r := 59) o_138_12 (sk_58 (h := h) hs) (sr_58_2 (h := h) hs) (by decide) ?_
    refine e_al o_138_15 rfl ?_
    refine e_gI o_138_16 (sk_58 (h := h) hs) ?_
    refine e_il o_138_19 rfl ?_
    obtain ⟨q, k⟩ := k
    refine e_ias (n := 20) o_138_20 (sk_59 (h := h) hs) (by decide) (sn_59 (h := h) hs) q ?_
    refine e_al o_138_21 rfl ?_
    refine e_gR (r := 60) o_138_22 (sk_58 (h := h) hs) (sr_58_3 (h := h) hs) (by decide) ?_
    refine e_al o_138_25 rfl ?_
    refine e_gI o_138_26 (sk_58 (h := h) hs) ?_
    refine e_il o_138_29 rfl ?_
    obtain ⟨q, k⟩ := k
    refine e_ias (n := 20) o_138_30 (sk_60 (h := h) hs) (by decide) (sn_60 (h := h) hs) q ?_
    refine e_al o_138_31 rfl ?_
    refine e_gR (r := 61) o_138_32 (sk_58 (h := h) hs) (sr_58_4 (h := h) hs) (by decide) ?_
    refine e_al o_138_35 rfl ?_
    refine e_gI o_138_36 (sk_58 (h := h) hs) ?_
    refine e_il o_138_39 rfl ?_
    obtain ⟨q, k⟩ := k
    refine e_ias (n := 20) o_138_40 (sk_61 (h := h) hs) (by decide) (sn_61 (h := h) hs) q ?_
    obtain ⟨h1, eh1⟩ : ∃ z : XH, z = (xsI (xsI (xsI h 59 (tn (xI h 58 0)) x1) 60 (tn (xI (xsI h 59 (tn (xI h 58 0)) x1) 58 0)) x2) 61 (tn (xI (xsI (xsI h 59 (tn (xI h 58 0)) x1) 60 (tn (xI (xsI h 59 (tn (xI h 58 0)) x1) 58 0)) x2) 58 0)) x3) := ⟨_, rfl⟩
    show Ev 138 41 [.ref 58, .int x1, .int x2, .int x3] [] (xsI (xsI (xsI h 59 (tn (xI h 58 0)) x1) 60 (tn (xI (xsI h 59 (tn (xI h 58 0)) x1) 58 0)) x2) 61 (tn (xI (xsI (xsI h 59 (tn (xI h 58 0)) x1) 60 (tn (xI (xsI h 59 (tn (xI h 58 0)) x1) 58 0)) x2) 58 0)) x3) Q
    rw [← eh1]
    have sh1 : Sh h1 := by rw [eh1]; exact (sh_I (sh_I (sh_I hs (by decide)) (by decide)) (by decide))
    have k := k h1 eh1
    refine e_al o_138_41 rfl ?_
    refine e_dup o_138_42 rfl ?_
    refine e_gI o_138_43 (sk_58 (h := h1) sh1) ?_
    refine e_c 1 o_138_46 rfl ?_
    refine e_bin o_138_47 rfl ?_
    refine e_pI o_138_48 (sk_58 (h := h1) sh1) ?_
    refine e_al o_138_51 rfl ?_
    refine e_gI o_138_52 (sk_58 (h := h1) sh1) ?_
    refine e_c 1 o_138_55 rfl ?_
    refine e_bin o_138_56 rfl ?_
    exact e_retI o_138_57 k
  · have k := k.2 z
    refine e_c (-1) o_138_9 rfl ?_
    exact e_retI o_138_10 k
set_option maxHeartbeats 4000000 in
set_option maxRecDepth 100000 in
theorem B_141_0 {x1 : Int32} {h : XH} {Q : Value → XH → Prop} (hs : Sh h) (k : ((x1 < 0) → Q (.int 0) h) ∧ (¬ (x1 < 0) → (((xI h 58 0) < x1) → Q (.int 0) h) ∧ (¬ ((xI h 58 0) < x1) → Q (.int 1) h))) : Ev 141 0 (x_ini 141 [.ref 58, .int x1]) [] h Q := by
  rw [show x_ini 141 [.ref 58, .int x1] = [.ref 58, .int x1] from x_inid ml_141 rfl]
  refine e_il o_141_0 rfl ?_
  refine e_i0_2 o_141_1 (fun z => ?_) (fun z => ?_)
  · have k := k.1 z
    refine e_c 0 o_141_16 rfl ?_
    exact e_retZ o_141_17 (by decide) k
  · have k := k.2 z
    refine e_il o_141_4 rfl ?_
    refine e_al o_141_5 rfl ?_
    refine e_gI o_141_6 (sk_58 (h := h) hs) ?_
    refine e_if_4 o_141_9 (fun z => ?_) (fun z => ?_)
    · have k := k.1 z
      refine e_c 0 o_141_16 rfl ?_
      exact e_retZ o_141_17 (by decide) k
    · have k := k.2 z
      refine e_c 1 o_141_12 rfl ?_
      refine e_go o_141_13 ?_
      exact e_retZ o_141_17 (by decide) k
set_option maxHeartbeats 4000000 in
set_option maxRecDepth 100000 in
theorem B_142_0 {x1 : Int32} {h : XH} {Q : Value → XH → Prop} (hs : Sh h) (k : Ev 142 4 [.ref 58, .int x1, .int (-1), .int 0] [] h Q) : Ev 142 0 (x_ini 142 [.ref 58, .int x1]) [] h Q := by
  rw [show x_ini 142 [.ref 58, .int x1] = [.ref 58, .int x1, .null, .null] from x_inid ml_142 rfl]
  refine e_c (-1) o_142_0 rfl ?_
  refine e_is (ls' := [.ref 58, .int x1, .int (-1), .null]) o_142_1 (Nat.le_of_ble_eq_true rfl) rfl ?_
  refine e_c 0 o_142_2 rfl ?_
  refine e_is (ls' := [.ref 58, .int x1, .int (-1), .int 0]) o_142_3 (Nat.le_of_ble_eq_true rfl) rfl ?_
  exact Ev.less (ls := [.ref 58, .int x1, .int (-1), .int 0]) ⟨Or.inr rfl, Or.inr rfl, Or.inr rfl, Or.inr rfl, trivial⟩ k
set_option maxHeartbeats 4000000 in
set_option maxRecDepth 100000 in
theorem B_142_4 {x1 : Int32} {x2 : Int32} {x3 : Int32} {h : XH} {Q : Value → XH → Prop} (hs : Sh h) (k : ((x1 ≤ x3) → Q (.int x2) h) ∧ (¬ (x1 ≤ x3) → (((xI h 58 0) ≤ x3) → Q (.int x2) h) ∧ (¬ ((xI h 58 0) ≤ x3) → InB x3 20 ∧ (Ev 142 4 [.ref 58, .int x1, .int (if x2 < (xI h 60 (tn x3)) then (xI h 60 (tn x3)) else x2), .int (x3 + 1)] [] h Q)))) : Ev 142 4 [.ref 58, .int x1, .int x2, .int x3] [] h Q := by
  refine e_il o_142_4 rfl ?_
  refine e_il o_142_5 rfl ?_
  refine e_if_3 o_142_6 (fun z => ?_) (fun z => ?_)
  · have k := k.1 z
    refine e_il o_142_34 rfl ?_
    exact e_retI o_142_35 k
  · have k := k.2 z
    refine e_il o_142_9 rfl ?_
    refine e_al o_142_10 rfl ?_
    refine e_gI o_142_11 (sk_58 (h := h) hs) ?_
    refine e_if_3 o_142_14 (fun z => ?_) (fun z => ?_)
    · have k := k.1 z
      refine e_il o_142_34 rfl ?_
      exact e_retI o_142_35 k
    · have k := k.2 z
      refine e_il o_142_17 rfl ?_
      refine e_al o_142_18 rfl ?_
      refine e_gR (r := 60) o_142_19 (sk_58 (h := h) hs) (sr_58_3 (h := h) hs) (by decide) ?_
      refine e_il o_142_22 rfl ?_
      obtain ⟨q, k⟩ := k
      refine e_ia (n := 20) o_142_23 (sk_60 (h := h) hs) (sn_60 (h := h) hs) q ?_
      refine e_max o_142_24 (Nat.le_of_ble_eq_true rfl) ?_
      refine e_is (ls' := [.ref 58, .int x1, .int (if x2 < (xI h 60 (tn x3)) then (xI h 60 (tn x3)) else x2), .int x3]) o_142_27 (Nat.le_of_ble_eq_true rfl) rfl ?_
      refine e_inc (ls' := [.ref 58, .int x1, .int (if x2 < (xI h 60 (tn x3)) then (xI h 60 (tn x3)) else x2), .int (x3 + 1)]) o_142_28 rfl rfl rfl ?_
      refine e_go o_142_31 ?_
      exact Ev.less (ls := [.ref 58, .int x1, .int (if x2 < (xI h 60 (tn x3)) then (xI h 60 (tn x3)) else x2), .int (x3 + 1)]) ⟨Or.inr rfl, Or.inr rfl, Or.inr rfl, Or.inr rfl, trivial⟩ k
set_option maxHeartbeats 4000000 in
set_option maxRecDepth 100000 in
theorem B_143_0 {x1 : Int32} {x2 : Int32} {h : XH} {Q : Value → XH → Prop} (hs : Sh h) (k : Ev 143 5 [.ref 58, .int x1, .int x2, .int 0, .int 0] [] h Q) : Ev 143 0 (x_ini 143 [.ref 58, .int x1, .int x2]) [] h Q := by
  rw [show x_ini 143 [.ref 58, .int x1, .int x2] = [.ref 58, .int x1, .int x2, .null, .null] from x_inid ml_143 rfl]
  refine e_c 0 o_143_0 rfl ?_
  refine e_is (ls' := [.ref 58, .int x1, .int x2, .int 0, .null]) o_143_1 (Nat.le_of_ble_eq_true rfl) rfl ?_
  refine e_c 0 o_143_2 rfl ?_
  refine e_is (ls' := [.ref 58, .int x1, .int x2, .int 0, .int 0]) o_143_3 (Nat.le_of_ble_eq_true rfl) rfl ?_
  exact Ev.less (ls := [.ref 58, .int x1, .int x2, .int 0, .int 0]) ⟨Or.inr rfl, Or.inr rfl, Or.inr rfl, Or.inr rfl, Or.inr rfl, trivial⟩ k
set_option maxHeartbeats 4000000 in
set_option maxRecDepth 100000 in
theorem B_143_5 {x1 : Int32} {x2 : Int32} {x3 : Int32} {x4 : Int32} {h : XH} {Q : Value → XH → Prop} (hs : Sh h) (k : (((xI h (xR h 34 0) 6) ≤ x4) → ((¬ x2 = (-1)) → Q (.int (-1)) h) ∧ (¬ (¬ x2 = (-1)) → Q (.int x3) h)) ∧ (¬ ((xI h (xR h 34 0) 6) ≤ x4) → ClI 144 [.ref 58, .int x4, .int x1] h (fun v2 h1 => Sh h1 ∧ (((v2 = 0) → Ev 143 5 [.ref 58, .int x1, .int x2, .int x3, .int (x4 + 1)] [] h1 Q) ∧ (¬ (v2 = 0) → ((¬ x3 = x2) → Ev 143 5 [.ref 58, .int x1, .int x2, .int (x3 + 1), .int (x4 + 1)] [] h1 Q) ∧ (¬ (¬ x3 = x2) → Q (.int x4) h1)))))) : Ev 143 5 [.ref 58, .int x1, .int x2, .int x3, .int x4] [] h Q := by
  refine e_il o_143_5 rfl ?_
  refine e_al o_143_7 rfl ?_
  refine e_gR (r := 34) o_143_8 (sk_58 (h := h) hs) (sr_58_1 (h := h) hs) (by decide) ?_
  refine e_gR (r := (xR h 34 0)) o_143_11 (sk_34 (h := h) hs) (rfl) (by rcases (ss_p hs) with q | q <;> omega) ?_
  refine e_gI o_143_14 (sc_k (h := h) hs (ss_p hs)) ?_
  refine e_if_3 o_143_17 (fun z => ?_) (fun z => ?_)
  · have k := k.1 z
    refine e_il o_143_47 rfl ?_
    refine e_c (-1) o_143_48 rfl ?_
    refine e_if_1 o_143_49 (fun z => ?_) (fun z => ?_)
    · have k := k.1 z
      refine e_c (-1) o_143_56 rfl ?_
      exact e_retI o_143_57 k
    · have k := k.2 z
      refine e_il o_143_52 rfl ?_
      refine e_go o_143_53 ?_
      exact e_retI o_143_57 k
  · have k := k.2 z
    refine e_al o_143_20 rfl ?_
    refine e_il o_143_21 rfl ?_
    refine e_il o_143_23 rfl ?_
    refine e_clI (as := [.ref 58, .int x4, .int x1]) (rest := []) o_143_24 rfl rfl (x_okd cl_143_144 ml_144 (Nat.le_of_ble_eq_true rfl) (Nat.le_of_ble_eq_true rfl)) (x_rc0 (ci := 1) (sk_58 (h := h) hs) mo_144) k ?_
    rintro v2 h1 ⟨sh1, k⟩
    refine e_i0_0 o_143_27 (fun z => ?_) (fun z => ?_)
    · have k := k.1 z
      refine e_inc (ls' := [.ref 58, .int x1, .int x2, .int x3, .int (x4 + 1)]) o_143_41 rfl rfl rfl ?_
      refine e_go o_143_44 ?_
      exact Ev.less (ls := [.ref 58, .int x1, .int x2, .int x3, .int (x4 + 1)]) ⟨Or.inr rfl, Or.inr rfl, Or.inr rfl, Or.inr rfl, Or.inr rfl, trivial⟩ k
    · have k := k.2 z
      refine e_il o_143_30 rfl ?_
      refine e_il o_143_31 rfl ?_
      refine e_if_1 o_143_32 (fun z => ?_) (fun z => ?_)
      · have k := k.1 z
        refine e_inc (ls' := [.ref 58, .int x1, .int x2, .int (x3 + 1), .int x4]) o_143_38 rfl rfl rfl ?_
        refine e_inc (ls' := [.ref 58, .int x1, .int x2, .int (x3 + 1), .int (x4 + 1)]) o_143_41 rfl rfl rfl ?_
        refine e_go o_143_44 ?_
        exact Ev.less (ls := [.ref 58, .int x1, .int x2, .int (x3 + 1), .int (x4 + 1)]) ⟨Or.inr rfl, Or.inr rfl, Or.inr rfl, Or.inr rfl, Or.inr rfl, trivial⟩ k
      · have k := k.2 z
        refine e_il o_143_35 rfl ?_
        exact e_retI o_143_37 k
set_option maxHeartbeats 4000000 in
set_option maxRecDepth 100000 in
theorem B_144_0 {x1 : Int32} {x2 : Int32} {h : XH} {Q : Value → XH → Prop} (hs : Sh h) (k : Ev 144 14 [.ref 58, .int x1, .int x2, .int (xI h (xR h 34 0) 6), .int 0] [] h Q) : Ev 144 0 (x_ini 144 [.ref 58, .int x1, .int x2]) [] h Q := by
  rw [show x_ini 144 [.ref 58, .int x1, .int x2] = [.ref 58, .int x1, .int x2, .null, .null] from x_inid ml_144 rfl]
  refine e_al o_144_0 rfl ?_
  refine e_gR (r := 34) o_144_1 (sk_58 (h := h) hs) (sr_58_1 (h := h) hs) (by decide) ?_
  refine e_gR (r := (xR h 34 0)) o_144_4 (sk_34 (h := h) hs) (rfl) (by rcases (ss_p hs) with q | q <;> omega) ?_
  refine e_gI o_144_7 (sc_k (h := h) hs (ss_p hs)) ?_
  refine e_is (ls' := [.ref 58, .int x1, .int x2, .int (xI h (xR h 34 0) 6), .null]) o_144_10 (Nat.le_of_ble_eq_true rfl) rfl ?_
  refine e_c 0 o_144_11 rfl ?_
  refine e_is (ls' := [.ref 58, .int x1, .int x2, .int (xI h (xR h 34 0) 6), .int 0]) o_144_12 (Nat.le_of_ble_eq_true rfl) rfl ?_
  exact Ev.less (ls := [.ref 58, .int x1, .int x2, .int (xI h (xR h 34 0) 6), .int 0]) ⟨Or.inr rfl, Or.inr rfl, Or.inr rfl, Or.inr rfl, Or.inr rfl, trivial⟩ k
set_option maxHeartbeats 4000000 in
set_option maxRecDepth 100000 in
theorem B_144_14 {x1 : Int32} {x2 : Int32} {x3 : Int32} {x4 : Int32} {h : XH} {Q : Value → XH → Prop} (hs : Sh h) (k : ((x2 ≤ x4) → Q (.int 1) h) ∧ (¬ (x2 ≤ x4) → InB x4 20 ∧ (InB (((xI h 60 (tn x4)) * x3) + x1) (xN h (xR h 58 9)) ∧ (InB x4 20 ∧ (ClI 64 [.int (xI h (xR h 58 9) (tn (((xI h 60 (tn x4)) * x3) + x1))), .int (xI h 59 (tn x4))] h (fun v2 h1 => Sh h1 ∧ (InB x4 20 ∧ (((v2 = (xI h1 61 (tn x4))) → Ev 144 14 [.ref 58, .int x1, .int x2, .int x3, .int (x4 + 1)] [] h1 Q) ∧ (¬ (v2 = (xI h1 61 (tn x4))) → Q (.int 0) h1))))))))) : Ev 144 14 [.ref 58, .int x1, .int x2, .int x3, .int x4] [] h Q := by
  refine e_il o_144_14 rfl ?_
  refine e_il o_144_16 rfl ?_
  refine e_if_3 o_144_17 (fun z => ?_) (fun z => ?_)
  · have k := k.1 z
    refine e_c 1 o_144_64 rfl ?_
    exact e_retZ o_144_65 (by decide) k
  · have k := k.2 z
    refine e_al o_144_20 rfl ?_
    refine e_gR (r := (xR h 58 9)) o_144_21 (sk_58 (h := h) hs) (rfl) (by have := Nat.le_trans (by decide : 4 ≤ 46) (sg4_58_9 (h := h) hs); omega) ?_
    refine e_al o_144_24 rfl ?_
    refine e_gR (r := 60) o_144_25 (sk_58 (h := h) hs) (sr_58_3 (h := h) hs) (by decide) ?_
    refine e_il o_144_28 rfl ?_
    obtain ⟨q, k⟩ := k
    refine e_ia (n := 20) o_144_30 (sk_60 (h := h) hs) (sn_60 (h := h) hs) q ?_
    refine e_il o_144_31 rfl ?_
    refine e_bin o_144_32 rfl ?_
    refine e_il o_144_33 rfl ?_
    refine e_bin o_144_34 rfl ?_
    obtain ⟨q, k⟩ := k
    refine e_ia (n := (xN h (xR h 58 9))) o_144_35 (sgk_58_9 (h := h) hs) (rfl) q ?_
    refine e_al o_144_36 rfl ?_
    refine e_gR (r := 59) o_144_37 (sk_58 (h := h) hs) (sr_58_2 (h := h) hs) (by decide) ?_
    refine e_il o_144_40 rfl ?_
    obtain ⟨q, k⟩ := k
    refine e_ia (n := 20) o_144_42 (sk_59 (h := h) hs) (sn_59 (h := h) hs) q ?_
    refine e_clI (as := [.int (xI h (xR h 58 9) (tn (((xI h 60 (tn x4)) * x3) + x1))), .int (xI h 59 (tn x4))]) (rest := []) o_144_43 rfl rfl (x_okd cl_144_64 ml_64 (Nat.le_of_ble_eq_true rfl) (Nat.le_of_ble_eq_true rfl)) (rfl) k ?_
    rintro v2 h1 ⟨sh1, k⟩
    refine e_al o_144_46 rfl ?_
    refine e_gR (r := 61) o_144_47 (sk_58 (h := h1) sh1) (sr_58_4 (h := h1) sh1) (by decide) ?_
    refine e_il o_144_50 rfl ?_
    obtain ⟨q, k⟩ := k
    refine e_ia (n := 20) o_144_52 (sk_61 (h := h1) sh1) (sn_61 (h := h1) sh1) q ?_
    refine e_if_0 o_144_53 (fun z => ?_) (fun z => ?_)
    · have k := k.1 z
      refine e_inc (ls' := [.ref 58, .int x1, .int x2, .int x3, .int (x4 + 1)]) o_144_58 rfl rfl rfl ?_
      refine e_go o_144_61 ?_
      exact Ev.less (ls := [.ref 58, .int x1, .int x2, .int x3, .int (x4 + 1)]) ⟨Or.inr rfl, Or.inr rfl, Or.inr rfl, Or.inr rfl, Or.inr rfl, trivial⟩ k
    · have k := k.2 z
      refine e_c 0 o_144_56 rfl ?_
      exact e_retZ o_144_57 (by decide) k
set_option maxHeartbeats 4000000 in
set_option maxRecDepth 100000 in
theorem B_146_0 {x1 : Int32} {h : XH} {Q : Value → XH → Prop} (hs : Sh h) (k : Ev 146 16 [.ref 58, .int x1, .ref (xR h 34 0), .int (-1), .int 0, .int 0] [] h Q) : Ev 146 0 (x_ini 146 [.ref 58, .int x1]) [] h Q := by
  rw [show x_ini 146 [.ref 58, .int x1] = [.ref 58, .int x1, .null, .null, .null, .null] from x_inid ml_146 rfl]
  refine e_al o_146_0 rfl ?_
  refine e_gR (r := 34) o_146_1 (sk_58 (h := h) hs) (sr_58_1 (h := h) hs) (by decide) ?_
  refine e_gR (r := (xR h 34 0)) o_146_4 (sk_34 (h := h) hs) (rfl) (by rcases (ss_p hs) with q | q <;> omega) ?_
  refine e_as (ls' := [.ref 58, .int x1, .ref (xR h 34 0), .null, .null, .null]) o_146_7 (Nat.le_of_ble_eq_true rfl) rfl ?_
  refine e_c (-1) o_146_8 rfl ?_
  refine e_is (ls' := [.ref 58, .int x1, .ref (xR h 34 0), .int (-1), .null, .null]) o_146_9 (Nat.le_of_ble_eq_true rfl) rfl ?_
  refine e_c 0 o_146_10 rfl ?_
  refine e_is (ls' := [.ref 58, .int x1, .ref (xR h 34 0), .int (-1), .int 0, .null]) o_146_11 (Nat.le_of_ble_eq_true rfl) rfl ?_
  refine e_c 0 o_146_13 rfl ?_
  refine e_is (ls' := [.ref 58, .int x1, .ref (xR h 34 0), .int (-1), .int 0, .int 0]) o_146_14 (Nat.le_of_ble_eq_true rfl) rfl ?_
  exact Ev.less (ls := [.ref 58, .int x1, .ref (xR h 34 0), .int (-1), .int 0, .int 0]) ⟨Or.inr rfl, Or.inr rfl, Or.inr rfl, Or.inr rfl, Or.inr rfl, Or.inr rfl, trivial⟩ k
set_option maxHeartbeats 4000000 in
set_option maxRecDepth 100000 in
theorem B_146_16 {x1 : Int32} {x2 : Nat} {x3 : Int32} {x4 : Int32} {x5 : Int32} {h : XH} {Q : Value → XH → Prop} (hs : Sh h) (hx2 : x2 = 14 ∨ x2 = 24) (k : (((xI h x2 6) ≤ x5) → Q (.int x4) h) ∧ (¬ ((xI h x2 6) ≤ x5) → ClI 144 [.ref 58, .int x5, .int x1] h (fun v2 h1 => Sh h1 ∧ (((v2 = 0) → Ev 146 16 [.ref 58, .int x1, .ref x2, .int x3, .int x4, .int (x5 + 1)] [] h1 Q) ∧ (¬ (v2 = 0) → ((0 ≤ x3) → ClI 147 [.ref 58, .int x3, .int x5] h1 (fun v4 h3 => Sh h3 ∧ (Ev 146 16 [.ref 58, .int x1, .ref x2, .int x3, .int (x4 &&& (v4 ^^^ (-1))), .int (x5 + 1)] [] h3 Q))) ∧ (¬ (0 ≤ x3) → ClI 147 [.ref 58, .int x5, .int x5] h1 (fun v6 h5 => Sh h5 ∧ (Ev 146 16 [.ref 58, .int x1, .ref x2, .int x5, .int (((1 <<< ((xI h1 x2 0) &&& 31)) - 1) &&& (v6 ^^^ (-1))), .int (x5 + 1)] [] h5 Q)))))))) : Ev 146 16 [.ref 58, .int x1, .ref x2, .int x3, .int x4, .int x5] [] h Q := by
  refine e_il o_146_16 rfl ?_
  refine e_al o_146_18 rfl ?_
  refine e_gI o_146_19 (sc_k (h := h) hs hx2) ?_
  refine e_if_3 o_146_22 (fun z => ?_) (fun z => ?_)
  · have k := k.1 z
    refine e_il o_146_72 rfl ?_
    exact e_retI o_146_74 k
  · have k := k.2 z
    refine e_al o_146_25 rfl ?_
    refine e_il o_146_26 rfl ?_
    refine e_il o_146_28 rfl ?_
    refine e_clI (as := [.ref 58, .int x5, .int x1]) (rest := []) o_146_29 rfl rfl (x_okd cl_146_144 ml_144 (Nat.le_of_ble_eq_true rfl) (Nat.le_of_ble_eq_true rfl)) (x_rc0 (ci := 1) (sk_58 (h := h) hs) mo_144) k ?_
    rintro v2 h1 ⟨sh1, k⟩
    refine e_i0_0 o_146_32 (fun z => ?_) (fun z => ?_)
    · have k := k.1 z
      refine e_inc (ls' := [.ref 58, .int x1, .ref x2, .int x3, .int x4, .int (x5 + 1)]) o_146_66 rfl rfl rfl ?_
      refine e_go o_146_69 ?_
      exact Ev.less (ls := [.ref 58, .int x1, .ref x2, .int x3, .int x4, .int (x5 + 1)]) ⟨Or.inr rfl, Or.inr rfl, Or.inr rfl, Or.inr rfl, Or.inr rfl, Or.inr rfl, trivial⟩ k
    · have k := k.2 z
      refine e_il o_146_35 rfl ?_
      refine e_i0_3 o_146_36 (fun z => ?_) (fun z => ?_)
      · have k := k.1 z
        refine e_il o_146_52 rfl ?_
        refine e_al o_146_54 rfl ?_
        refine e_il o_146_55 rfl ?_
        refine e_il o_146_56 rfl ?_
        refine e_clI (as := [.ref 58, .int x3, .int x5]) (rest := [.int x4]) o_146_58 rfl rfl (x_okd cl_146_147 ml_147 (Nat.le_of_ble_eq_true rfl) (Nat.le_of_ble_eq_true rfl)) (x_rc0 (ci := 1) (sk_58 (h := h1) sh1) mo_147) k ?_
        rintro v4 h3 ⟨sh3, k⟩
        refine e_c (-1) o_146_61 rfl ?_
        refine e_bin o_146_62 rfl ?_
        refine e_bin o_146_63 rfl ?_
        refine e_is (ls' := [.ref 58, .int x1, .ref x2, .int x3, .int (x4 &&& (v4 ^^^ (-1))), .int x5]) o_146_64 (Nat.le_of_ble_eq_true rfl) rfl ?_
        refine e_inc (ls' := [.ref 58, .int x1, .ref x2, .int x3, .int (x4 &&& (v4 ^^^ (-1))), .int (x5 + 1)]) o_146_66 rfl rfl rfl ?_
        refine e_go o_146_69 ?_
        exact Ev.less (ls := [.ref 58, .int x1, .ref x2, .int x3, .int (x4 &&& (v4 ^^^ (-1))), .int (x5 + 1)]) ⟨Or.inr rfl, Or.inr rfl, Or.inr rfl, Or.inr rfl, Or.inr rfl, Or.inr rfl, trivial⟩ k
      · have k := k.2 z
        refine e_il o_146_39 rfl ?_
        refine e_is (ls' := [.ref 58, .int x1, .ref x2, .int x5, .int x4, .int x5]) o_146_41 (Nat.le_of_ble_eq_true rfl) rfl ?_
        refine e_c 1 o_146_42 rfl ?_
        refine e_al o_146_43 rfl ?_
        refine e_gI o_146_44 (sc_k (h := h1) sh1 hx2) ?_
        refine e_bin o_146_47 rfl ?_
        refine e_c 1 o_146_48 rfl ?_
        refine e_bin o_146_49 rfl ?_
        refine e_is (ls' := [.ref 58, .int x1, .ref x2, .int x5, .int ((1 <<< ((xI h1 x2 0) &&& 31)) - 1), .int x5]) o_146_50 (Nat.le_of_ble_eq_true rfl) rfl ?_
        refine e_il o_146_52 rfl ?_
        refine e_al o_146_54 rfl ?_
        refine e_il o_146_55 rfl ?_
        refine e_il o_146_56 rfl ?_
        refine e_clI (as := [.ref 58, .int x5, .int x5]) (rest := [.int ((1 <<< ((xI h1 x2 0) &&& 31)) - 1)]) o_146_58 rfl rfl (x_okd cl_146_147 ml_147 (Nat.le_of_ble_eq_true rfl) (Nat.le_of_ble_eq_true rfl)) (x_rc0 (ci := 1) (sk_58 (h := h1) sh1) mo_147) k ?_
        rintro v6 h5 ⟨sh5, k⟩
        refine e_c (-1) o_146_61 rfl ?_
        refine e_bin o_146_62 rfl ?_
        refine e_bin o_146_63 rfl ?_
        refine e_is (ls' := [.ref 58, .int x1, .ref x2, .int x5, .int (((1 <<< ((xI h1 x2 0) &&& 31)) - 1) &&& (v6 ^^^ (-1))), .int x5]) o_146_64 (Nat.le_of_ble_eq_true rfl) rfl ?_
        refine e_inc (ls' := [.ref 58, .int x1, .ref x2, .int x5, .int (((1 <<< ((xI h1 x2 0) &&& 31)) - 1) &&& (v6 ^^^ (-1))), .int (x5 + 1)]) o_146_66 rfl rfl rfl ?_
        refine e_go o_146_69 ?_
        exact Ev.less (ls := [.ref 58, .int x1, .ref x2, .int x5, .int (((1 <<< ((xI h1 x2 0) &&& 31)) - 1) &&& (v6 ^^^ (-1))), .int (x5 + 1)]) ⟨Or.inr rfl, Or.inr rfl, Or.inr rfl, Or.inr rfl, Or.inr rfl, Or.inr rfl, trivial⟩ k
set_option maxHeartbeats 4000000 in
set_option maxRecDepth 100000 in
theorem B_147_0 {x1 : Int32} {x2 : Int32} {h : XH} {Q : Value → XH → Prop} (hs : Sh h) (k : Ev 147 14 [.null, .int x1, .int x2, .ref (xR h 34 0), .int 0, .int 0] [] h Q) : Ev 147 0 (x_ini 147 [.ref 58, .int x1, .int x2]) [] h Q := by
  rw [show x_ini 147 [.ref 58, .int x1, .int x2] = [.ref 58, .int x1, .int x2, .null, .null, .null] from x_inid ml_147 rfl]
  refine e_al o_147_0 rfl ?_
  refine e_gR (r := 34) o_147_1 (sk_58 (h := h) hs) (sr_58_1 (h := h) hs) (by decide) ?_
  refine e_gR (r := (xR h 34 0)) o_147_4 (sk_34 (h := h) hs) (rfl) (by rcases (ss_p hs) with q | q <;> omega) ?_
  refine e_as (ls' := [.ref 58, .int x1, .int x2, .ref (xR h 34 0), .null, .null]) o_147_7 (Nat.le_of_ble_eq_true rfl) rfl ?_
  refine e_c 0 o_147_8 rfl ?_
  refine e_is (ls' := [.ref 58, .int x1, .int x2, .ref (xR h 34 0), .int 0, .null]) o_147_9 (Nat.le_of_ble_eq_true rfl) rfl ?_
  refine e_c 0 o_147_11 rfl ?_
  refine e_is (ls' := [.ref 58, .int x1, .int x2, .ref (xR h 34 0), .int 0, .int 0]) o_147_12 (Nat.le_of_ble_eq_true rfl) rfl ?_
  exact Ev.less (ls := [.null, .int x1, .int x2, .ref (xR h 34 0), .int 0, .int 0]) ⟨Or.inl rfl, Or.inr rfl, Or.inr rfl, Or.inr rfl, Or.inr rfl, Or.inr rfl, trivial⟩ k
set_option maxHeartbeats 4000000 in
set_option maxRecDepth 100000 in
theorem B_147_14 {x1 : Int32} {x2 : Int32} {x3 : Nat} {x4 : Int32} {x5 : Int32} {h : XH} {Q : Value → XH → Prop} (hs : Sh h) (hx3 : x3 = 14 ∨ x3 = 24) (k : (((xI h x3 0) ≤ x5) → Q (.int x4) h) ∧ (¬ ((xI h x3 0) ≤ x5) → ClI 117 [.ref x3, .int x1, .int x5] h (fun v2 h1 => Sh h1 ∧ (ClI 117 [.ref x3, .int x2, .int x5] h1 (fun v4 h3 => Sh h3 ∧ (((v2 = v4) → Ev 147 14 [.null, .int x1, .int x2, .ref x3, .int x4, .int (x5 + 1)] [] h3 Q) ∧ (¬ (v2 = v4) → Ev 147 14 [.null, .int x1, .int x2, .ref x3, .int (x4 ||| (1 <<< (x5 &&& 31))), .int (x5 + 1)] [] h3 Q))))))) : Ev 147 14 [.null, .int x1, .int x2, .ref x3, .int x4, .int x5] [] h Q := by
  refine e_il o_147_14 rfl ?_
  refine e_al o_147_16 rfl ?_
  refine e_gI o_147_17 (sc_k (h := h) hs hx3) ?_
  refine e_if_3 o_147_20 (fun z => ?_) (fun z => ?_)
  · have k := k.1 z
    refine e_il o_147_55 rfl ?_
    exact e_retI o_147_57 k
  · have k := k.2 z
    refine e_al o_147_23 rfl ?_
    refine e_il o_147_24 rfl ?_
    refine e_il o_147_25 rfl ?_
    refine e_clI (as := [.ref x3, .int x1, .int x5]) (rest := []) o_147_27 rfl rfl (x_okd cl_147_117 ml_117 (Nat.le_of_ble_eq_true rfl) (Nat.le_of_ble_eq_true rfl)) (x_rc0 (ci := 5) (sc_k (h := h) hs hx3) mo_117) k ?_
    rintro v2 h1 ⟨sh1, k⟩
    refine e_al o_147_30 rfl ?_
    refine e_il o_147_31 rfl ?_
    refine e_il o_147_32 rfl ?_
    refine e_clI (as := [.ref x3, .int x2, .int x5]) (rest := [.int v2]) o_147_34 rfl rfl (x_okd cl_147_117 ml_117 (Nat.le_of_ble_eq_true rfl) (Nat.le_of_ble_eq_true rfl)) (x_rc0 (ci := 5) (sc_k (h := h1) sh1 hx3) mo_117) k ?_
    rintro v4 h3 ⟨sh3, k⟩
    refine e_if_0 o_147_37 (fun z => ?_) (fun z => ?_)
    · have k := k.1 z
      refine e_inc (ls' := [.null, .int x1, .int x2, .ref x3, .int x4, .int (x5 + 1)]) o_147_49 rfl rfl rfl ?_
      refine e_go o_147_52 ?_
      exact Ev.less (ls := [.null, .int x1, .int x2, .ref x3, .int x4, .int (x5 + 1)]) ⟨Or.inl rfl, Or.inr rfl, Or.inr rfl, Or.inr rfl, Or.inr rfl, Or.inr rfl, trivial⟩ k
    · have k := k.2 z
      refine e_il o_147_40 rfl ?_
      refine e_c 1 o_147_42 rfl ?_
      refine e_il o_147_43 rfl ?_
      refine e_bin o_147_45 rfl ?_
      refine e_bin o_147_46 rfl ?_
      refine e_is (ls' := [.null, .int x1, .int x2, .ref x3, .int (x4 ||| (1 <<< (x5 &&& 31))), .int x5]) o_147_47 (Nat.le_of_ble_eq_true rfl) rfl ?_
      refine e_inc (ls' := [.null, .int x1, .int x2, .ref x3, .int (x4 ||| (1 <<< (x5 &&& 31))), .int (x5 + 1)]) o_147_49 rfl rfl rfl ?_
      refine e_go o_147_52 ?_
      exact Ev.less (ls := [.null, .int x1, .int x2, .ref x3, .int (x4 ||| (1 <<< (x5 &&& 31))), .int (x5 + 1)]) ⟨Or.inl rfl, Or.inr rfl, Or.inr rfl, Or.inr rfl, Or.inr rfl, Or.inr rfl, trivial⟩ k
set_option maxHeartbeats 4000000 in
set_option maxRecDepth 100000 in
theorem B_149_0 {x1 : Int32} {x2 : Int32} {x3 : Int32} {h : XH} {Q : Value → XH → Prop} (hs : Sh h) (k : Ev 149 10 [.ref 58, .int x1, .int x2, .int x3, .int (-2), .int 0, .int 0, .null] [] h Q) : Ev 149 0 (x_ini 149 [.ref 58, .int x1, .int x2, .int x3]) [] h Q := by
  rw [show x_ini 149 [.ref 58, .int x1, .int x2, .int x3] = [.ref 58, .int x1, .int x2, .int x3, .null, .null, .null, .null] from x_inid ml_149 rfl]
  refine e_c (-2) o_149_0 rfl ?_
  refine e_is (ls' := [.ref 58, .int x1, .int x2, .int x3, .int (-2), .null, .null, .null]) o_149_2 (Nat.le_of_ble_eq_true rfl) rfl ?_
  refine e_c 0 o_149_4 rfl ?_
  refine e_is (ls' := [.ref 58, .int x1, .int x2, .int x3, .int (-2), .int 0, .null, .null]) o_149_5 (Nat.le_of_ble_eq_true rfl) rfl ?_
  refine e_c 0 o_149_7 rfl ?_
  refine e_is (ls' := [.ref 58, .int x1, .int x2, .int x3, .int (-2), .int 0, .int 0, .null]) o_149_8 (Nat.le_of_ble_eq_true rfl) rfl ?_
  exact Ev.less (ls := [.ref 58, .int x1, .int x2, .int x3, .int (-2), .int 0, .int 0, .null]) ⟨Or.inr rfl, Or.inr rfl, Or.inr rfl, Or.inr rfl, Or.inr rfl, Or.inr rfl, Or.inr rfl, Or.inl rfl, trivial⟩ k
set_option maxHeartbeats 4000000 in
set_option maxRecDepth 100000 in
theorem B_149_10 {x1 : Int32} {x2 : Int32} {x3 : Int32} {x4 : Int32} {x5 : Int32} {x6 : Int32} {h : XH} {Q : Value → XH → Prop} (hs : Sh h) (k : (((xI h (xR h 34 0) 1) ≤ x6) → ((x4 < 0) → Q (.int x4) h) ∧ (¬ (x4 < 0) → ((¬ x3 = 0) → Q (.int x5) h) ∧ (¬ (¬ x3 = 0) → Q (.int x4) h))) ∧ (¬ ((xI h (xR h 34 0) 1) ≤ x6) → ClI 150 [.ref 58, .int x1, .int x2, .int x6] h (fun v2 h1 => Sh h1 ∧ (((v2 ≤ 0) → Ev 149 10 [.ref 58, .int x1, .int x2, .int x3, .int x4, .int x5, .int (x6 + 1), .null] [] h1 Q) ∧ (¬ (v2 ≤ 0) → ((x4 < 0) → Ev 149 10 [.ref 58, .int x1, .int x2, .int x3, .int x6, .int v2, .int (x6 + 1), .null] [] h1 Q) ∧ (¬ (x4 < 0) → ((x5 ≤ v2) → Ev 149 10 [.ref 58, .int x1, .int x2, .int x3, .int x4, .int x5, .int (x6 + 1), .null] [] h1 Q) ∧ (¬ (x5 ≤ v2) → Ev 149 10 [.ref 58, .int x1, .int x2, .int x3, .int x6, .int v2, .int (x6 + 1), .null] [] h1 Q))))))) : Ev 149 10 [.ref 58, .int x1, .int x2, .int x3, .int x4, .int x5, .int x6, .null] [] h Q := by
  refine e_il o_149_10 rfl ?_
  refine e_al o_149_12 rfl ?_
  refine e_gR (r := 34) o_149_13 (sk_58 (h := h) hs) (sr_58_1 (h := h) hs) (by decide) ?_
  refine e_gR (r := (xR h 34 0)) o_149_16 (sk_34 (h := h) hs) (rfl) (by rcases (ss_p hs) with q | q <;> omega) ?_
  refine e_gI o_149_19 (sc_k (h := h) hs (ss_p hs)) ?_
  refine e_if_3 o_149_22 (fun z => ?_) (fun z => ?_)
  · have k := k.1 z
    refine e_il o_149_66 rfl ?_
    refine e_i0_2 o_149_68 (fun z => ?_) (fun z => ?_)
    · have k := k.1 z
      refine e_il o_149_75 rfl ?_
      refine e_go o_149_77 ?_
      exact e_retI o_149_82 k
    · have k := k.2 z
      refine e_il o_149_71 rfl ?_
      refine e_i0_1 o_149_72 (fun z => ?_) (fun z => ?_)
      · have k := k.1 z
        refine e_il o_149_80 rfl ?_
        exact e_retI o_149_82 k
      · have k := k.2 z
        refine e_il o_149_75 rfl ?_
        refine e_go o_149_77 ?_
        exact e_retI o_149_82 k
  · have k := k.2 z
    refine e_al o_149_25 rfl ?_
    refine e_il o_149_26 rfl ?_
    refine e_il o_149_27 rfl ?_
    refine e_il o_149_28 rfl ?_
    refine e_clI (as := [.ref 58, .int x1, .int x2, .int x6]) (rest := []) o_149_30 rfl rfl (x_okd cl_149_150 ml_150 (Nat.le_of_ble_eq_true rfl) (Nat.le_of_ble_eq_true rfl)) (x_rc0 (ci := 1) (sk_58 (h := h) hs) mo_150) k ?_
    rintro v2 h1 ⟨sh1, k⟩
    refine e_is (ls' := [.ref 58, .int x1, .int x2, .int x3, .int x4, .int x5, .int x6, .int v2]) o_149_33 (Nat.le_of_ble_eq_true rfl) rfl ?_
    refine e_il o_149_35 rfl ?_
    refine e_i0_5 o_149_37 (fun z => ?_) (fun z => ?_)
    · have k := k.1 z
      refine e_inc (ls' := [.ref 58, .int x1, .int x2, .int x3, .int x4, .int x5, .int (x6 + 1), .int v2]) o_149_60 rfl rfl rfl ?_
      refine e_go o_149_63 ?_
      exact Ev.less (ls := [.ref 58, .int x1, .int x2, .int x3, .int x4, .int x5, .int (x6 + 1), .null]) ⟨Or.inr rfl, Or.inr rfl, Or.inr rfl, Or.inr rfl, Or.inr rfl, Or.inr rfl, Or.inr rfl, Or.inl rfl, trivial⟩ k
    · have k := k.2 z
      refine e_il o_149_40 rfl ?_
      refine e_i0_2 o_149_42 (fun z => ?_) (fun z => ?_)
      · have k := k.1 z
        refine e_il o_149_52 rfl ?_
        refine e_is (ls' := [.ref 58, .int x1, .int x2, .int x3, .int x6, .int x5, .int x6, .int v2]) o_149_54 (Nat.le_of_ble_eq_true rfl) rfl ?_
        refine e_il o_149_56 rfl ?_
        refine e_is (ls' := [.ref 58, .int x1, .int x2, .int x3, .int x6, .int v2, .int x6, .int v2]) o_149_58 (Nat.le_of_ble_eq_true rfl) rfl ?_
        refine e_inc (ls' := [.ref 58, .int x1, .int x2, .int x3, .int x6, .int v2, .int (x6 + 1), .int v2]) o_149_60 rfl rfl rfl ?_
        refine e_go o_149_63 ?_
        exact Ev.less (ls := [.ref 58, .int x1, .int x2, .int x3, .int x6, .int v2, .int (x6 + 1), .null]) ⟨Or.inr rfl, Or.inr rfl, Or.inr rfl, Or.inr rfl, Or.inr rfl, Or.inr rfl, Or.inr rfl, Or.inl rfl, trivial⟩ k
      · have k := k.2 z
        refine e_il o_149_45 rfl ?_
        refine e_il o_149_47 rfl ?_
        refine e_if_3 o_149_49 (fun z => ?_) (fun z => ?_)
        · have k := k.1 z
          refine e_inc (ls' := [.ref 58, .int x1, .int x2, .int x3, .int x4, .int x5, .int (x6 + 1), .int v2]) o_149_60 rfl rfl rfl ?_
          refine e_go o_149_63 ?_
          exact Ev.less (ls := [.ref 58, .int x1, .int x2, .int x3, .int x4, .int x5, .int (x6 + 1), .null]) ⟨Or.inr rfl, Or.inr rfl, Or.inr rfl, Or.inr rfl, Or.inr rfl, Or.inr rfl, Or.inr rfl, Or.inl rfl, trivial⟩ k
        · have k := k.2 z
          refine e_il o_149_52 rfl ?_
          refine e_is (ls' := [.ref 58, .int x1, .int x2, .int x3, .int x6, .int x5, .int x6, .int v2]) o_149_54 (Nat.le_of_ble_eq_true rfl) rfl ?_
          refine e_il o_149_56 rfl ?_
          refine e_is (ls' := [.ref 58, .int x1, .int x2, .int x3, .int x6, .int v2, .int x6, .int v2]) o_149_58 (Nat.le_of_ble_eq_true rfl) rfl ?_
          refine e_inc (ls' := [.ref 58, .int x1, .int x2, .int x3, .int x6, .int v2, .int (x6 + 1), .int v2]) o_149_60 rfl rfl rfl ?_
          refine e_go o_149_63 ?_
          exact Ev.less (ls := [.ref 58, .int x1, .int x2, .int x3, .int x6, .int v2, .int (x6 + 1), .null]) ⟨Or.inr rfl, Or.inr rfl, Or.inr rfl, Or.inr rfl, Or.inr rfl, Or.inr rfl, Or.inr rfl, Or.inl rfl, trivial⟩ k
set_option maxHeartbeats 4000000 in
set_option maxRecDepth 100000 in
theorem B_150_0 {x1 : Int32} {x2 : Int32} {x3 : Int32} {h : XH} {Q : Value → XH → Prop} (hs : Sh h) (k : ClV 23 [.ref 63, .int 0] h (fun h1 => Sh h1 ∧ (Ev 150 23 [.ref 58, .int x1, .int x2, .int x3, .int (xI h (xR h 34 0) 6), .int 0, .null] [] h1 Q))) : Ev 150 0 (x_ini 150 [.ref 58, .int x1, .int x2, .int x3]) [] h Q := by
  rw [show x_ini 150 [.ref 58, .int x1, .int x2, .int x3] = [.ref 58, .int x1, .int x2, .int x3, .null, .null, .null] from x_inid ml_150 rfl]
  refine e_al o_150_0 rfl ?_
  refine e_gR (r := 34) o_150_1 (sk_58 (h := h) hs) (sr_58_1 (h := h) hs) (by decide) ?_
  refine e_gR (r := (xR h 34 0)) o_150_4 (sk_34 (h := h) hs) (rfl) (by rcases (ss_p hs) with q | q <;> omega) ?_
  refine e_gI o_150_7 (sc_k (h := h) hs (ss_p hs)) ?_
  refine e_is (ls' := [.ref 58, .int x1, .int x2, .int x3, .int (xI h (xR h 34 0) 6), .null, .null]) o_150_10 (Nat.le_of_ble_eq_true rfl) rfl ?_
  refine e_al o_150_12 rfl ?_
  refine e_gR (r := 63) o_150_13 (sk_58 (h := h) hs) (sr_58_6 (h := h) hs) (by decide) ?_
  refine e_c 0 o_150_16 rfl ?_
  refine e_clV (as := [.ref 63, .int 0]) (rest := []) o_150_17 rfl rfl (x_okd cl_150_23 ml_23 (Nat.le_of_ble_eq_true rfl) (Nat.le_of_ble_eq_true rfl)) (rfl) k ?_
  rintro h1 ⟨sh1, k⟩
  refine e_c 0 o_150_20 rfl ?_
  refine e_is (ls' := [.ref 58, .int x1, .int x2, .int x3, .int (xI h (xR h 34 0) 6), .int 0, .null]) o_150_21 (Nat.le_of_ble_eq_true rfl) rfl ?_
  exact Ev.less (ls := [.ref 58, .int x1, .int x2, .int x3, .int (xI h (xR h 34 0) 6), .int 0, .null]) ⟨Or.inr rfl, Or.inr rfl, Or.inr rfl, Or.inr rfl, Or.inr rfl, Or.inr rfl, Or.inl rfl, trivial⟩ k
set_option maxHeartbeats 4000000 in
set_option maxRecDepth 100000 in
theorem B_150_23 {x1 : Int32} {x2 : Int32} {x3 : Int32} {x4 : Int32} {x5 : Int32} {h : XH} {Q : Value → XH → Prop} (hs : Sh h) (k : ((x4 ≤ x5) → Ev 150 77 [.ref 58, .null, .null, .null, .null, .int 0, .int 0] [] h Q) ∧ (¬ (x4 ≤ x5) → ClI 144 [.ref 58, .int x5, .int x1] h (fun v2 h1 => Sh h1 ∧ (((v2 = 0) → Ev 150 23 [.ref 58, .int x1, .int x2, .int x3, .int x4, .int (x5 + 1), .null] [] h1 Q) ∧ (¬ (v2 = 0) → InB ((x2 * x4) + x5) (xN h1 (xR h1 58 9)) ∧ (ClI 64 [.int (xI h1 (xR h1 58 9) (tn ((x2 * x4) + x5))), .int x3] h1 (fun v4 h3 => Sh h3 ∧ (InB v4 5 ∧ (InB v4 5 ∧ (Ev 150 23 [.ref 58, .int x1, .int x2, .int x3, .int x4, .int (x5 + 1), .null] [] (xsI h3 63 (tn v4) ((xI h3 63 (tn v4)) + 1)) Q)))))))))) : Ev 150 23 [.ref 58, .int x1, .int x2, .int x3, .int x4, .int x5, .null] [] h Q := by
  refine e_il o_150_23 rfl ?_
  refine e_il o_150_25 rfl ?_
  refine e_if_3 o_150_27 (fun z => ?_) (fun z => ?_)
  · have k := k.1 z
    refine e_c 0 o_150_71 rfl ?_
    refine e_is (ls' := [.ref 58, .int x1, .int x2, .int x3, .int x4, .int 0, .null]) o_150_72 (Nat.le_of_ble_eq_true rfl) rfl ?_
    refine e_c 0 o_150_74 rfl ?_
    refine e_is (ls' := [.ref 58, .int x1, .int x2, .int x3, .int x4, .int 0, .int 0]) o_150_75 (Nat.le_of_ble_eq_true rfl) rfl ?_
    exact Ev.less (ls := [.ref 58, .null, .null, .null, .null, .int 0, .int 0]) ⟨Or.inr rfl, Or.inl rfl, Or.inl rfl, Or.inl rfl, Or.inl rfl, Or.inr rfl, Or.inr rfl, trivial⟩ k
  · have k := k.2 z
    refine e_al o_150_30 rfl ?_
    refine e_il o_150_31 rfl ?_
    refine e_il o_150_33 rfl ?_
    refine e_clI (as := [.ref 58, .int x5, .int x1]) (rest := []) o_150_34 rfl rfl (x_okd cl_150_144 ml_144 (Nat.le_of_ble_eq_true rfl) (Nat.le_of_ble_eq_true rfl)) (x_rc0 (ci := 1) (sk_58 (h := h) hs) mo_144) k ?_
    rintro v2 h1 ⟨sh1, k⟩
    refine e_i0_0 o_150_37 (fun z => ?_) (fun z => ?_)
    · have k := k.1 z
      refine e_inc (ls' := [.ref 58, .int x1, .int x2, .int x3, .int x4, .int (x5 + 1), .null]) o_150_65 rfl rfl rfl ?_
      refine e_go o_150_68 ?_
      exact Ev.less (ls := [.ref 58, .int x1, .int x2, .int x3, .int x4, .int (x5 + 1), .null]) ⟨Or.inr rfl, Or.inr rfl, Or.inr rfl, Or.inr rfl, Or.inr rfl, Or.inr rfl, Or.inl rfl, trivial⟩ k
    · have k := k.2 z
      refine e_al o_150_40 rfl ?_
      refine e_gR (r := 63) o_150_41 (sk_58 (h := h1) sh1) (sr_58_6 (h := h1) sh1) (by decide) ?_
      refine e_al o_150_44 rfl ?_
      refine e_gR (r := (xR h1 58 9)) o_150_45 (sk_58 (h := h1) sh1) (rfl) (by have := Nat.le_trans (by decide : 4 ≤ 46) (sg4_58_9 (h := h1) sh1); omega) ?_
      refine e_il o_150_48 rfl ?_
      refine e_il o_150_49 rfl ?_
      refine e_bin o_150_51 rfl ?_
      refine e_il o_150_52 rfl ?_
      refine e_bin o_150_54 rfl ?_
      obtain ⟨q, k⟩ := k
      refine e_ia (n := (xN h1 (xR h1 58 9))) o_150_55 (sgk_58_9 (h := h1) sh1) (rfl) q ?_
      refine e_il o_150_56 rfl ?_
      refine e_clI (as := [.int (xI h1 (xR h1 58 9) (tn ((x2 * x4) + x5))), .int x3]) (rest := [.ref 63]) o_150_57 rfl rfl (x_okd cl_150_64 ml_64 (Nat.le_of_ble_eq_true rfl) (Nat.le_of_ble_eq_true rfl)) (rfl) k ?_
      rintro v4 h3 ⟨sh3, k⟩
      refine e_dup2 o_150_60 ⟨rfl, rfl⟩ ?_
      obtain ⟨q, k⟩ := k
      refine e_ia (n := 5) o_150_61 (sk_63 (h := h3) sh3) (sn_63 (h := h3) sh3) q ?_
      refine e_c 1 o_150_62 rfl ?_
      refine e_bin o_150_63 rfl ?_
      obtain ⟨q, k⟩ := k
      refine e_ias (n := 5) o_150_64 (sk_63 (h := h3) sh3) (by decide) (sn_63 (h := h3) sh3) q ?_
      refine e_inc (ls' := [.ref 58, .int x1, .int x2, .int x3, .int x4, .int (x5 + 1), .null]) o_150_65 rfl rfl rfl ?_
      refine e_go o_150_68 ?_
      exact Ev.less (ls := [.ref 58, .int x1, .int x2, .int x3, .int x4, .int (x5 + 1), .null]) ⟨Or.inr rfl, Or.inr rfl, Or.inr rfl, Or.inr rfl, Or.inr rfl, Or.inr rfl, Or.inl rfl, trivial⟩ k
set_option maxHeartbeats 4000000 in
set_option maxRecDepth 100000 in
theorem B_150_77 {x5 : Int32} {x6 : Int32} {h : XH} {Q : Value → XH → Prop} (hs : Sh h) (k : ((5 ≤ x6) → Q (.int x5) h) ∧ (¬ (5 ≤ x6) → InB x6 5 ∧ (Ev 150 77 [.ref 58, .null, .null, .null, .null, .int (if x5 < (xI h 63 (tn x6)) then (xI h 63 (tn x6)) else x5), .int (x6 + 1)] [] h Q))) : Ev 150 77 [.ref 58, .null, .null, .null, .null, .int x5, .int x6] [] h Q := by
  refine e_il o_150_77 rfl ?_
  refine e_c 5 o_150_79 rfl ?_
  refine e_if_3 o_150_80 (fun z => ?_) (fun z => ?_)
  · have k := k.1 z
    refine e_il o_150_103 rfl ?_
    exact e_retI o_150_105 k
  · have k := k.2 z
    refine e_il o_150_83 rfl ?_
    refine e_al o_150_85 rfl ?_
    refine e_gR (r := 63) o_150_86 (sk_58 (h := h) hs) (sr_58_6 (h := h) hs) (by decide) ?_
    refine e_il o_150_89 rfl ?_
    obtain ⟨q, k⟩ := k
    refine e_ia (n := 5) o_150_91 (sk_63 (h := h) hs) (sn_63 (h := h) hs) q ?_
    refine e_max o_150_92 (Nat.le_of_ble_eq_true rfl) ?_
    refine e_is (ls' := [.ref 58, .null, .null, .null, .null, .int (if x5 < (xI h 63 (tn x6)) then (xI h 63 (tn x6)) else x5), .int x6]) o_150_95 (Nat.le_of_ble_eq_true rfl) rfl ?_
    refine e_inc (ls' := [.ref 58, .null, .null, .null, .null, .int (if x5 < (xI h 63 (tn x6)) then (xI h 63 (tn x6)) else x5), .int (x6 + 1)]) o_150_97 rfl rfl rfl ?_
    refine e_go o_150_100 ?_
    exact Ev.less (ls := [.ref 58, .null, .null, .null, .null, .int (if x5 < (xI h 63 (tn x6)) then (xI h 63 (tn x6)) else x5), .int (x6 + 1)]) ⟨Or.inr rfl, Or.inl rfl, Or.inl rfl, Or.inl rfl, Or.inl rfl, Or.inr rfl, Or.inr rfl, trivial⟩ k
set_option maxHeartbeats 4000000 in
set_option maxRecDepth 100000 in
theorem B_152_0 {x1 : Int32} {h : XH} {Q : Value → XH → Prop} (hs : Sh h) (k : ClR 101 [.ref (xR h 58 10), .int 15625] h (fun v2 h1 => Sh h1 ∧ (v2 ≠ 0 ∧ Ev 152 25 [.ref 58, .int x1, .int (xI h (xR h 34 0) 1), .null, .null] [] (xsR h1 58 10 v2) Q))) : Ev 152 0 (x_ini 152 [.ref 58, .int x1]) [] h Q := by
  rw [show x_ini 152 [.ref 58, .int x1] = [.ref 58, .int x1, .null, .null, .null] from x_inid ml_152 rfl]
  refine e_al o_152_0 rfl ?_
  refine e_gR (r := 34) o_152_1 (sk_58 (h := h) hs) (sr_58_1 (h := h) hs) (by decide) ?_
  refine e_gR (r := (xR h 34 0)) o_152_4 (sk_34 (h := h) hs) (rfl) (by rcases (ss_p hs) with q | q <;> omega) ?_
  refine e_gI o_152_7 (sc_k (h := h) hs (ss_p hs)) ?_
  refine e_is (ls' := [.ref 58, .int x1, .int (xI h (xR h 34 0) 1), .null, .null]) o_152_10 (Nat.le_of_ble_eq_true rfl) rfl ?_
  refine e_al o_152_11 rfl ?_
  refine e_al o_152_12 rfl ?_
  refine e_gR (r := (xR h 58 10)) o_152_13 (sk_58 (h := h) hs) (rfl) (by have := Nat.le_trans (by decide : 4 ≤ 46) (sg4_58_10 (h := h) hs); omega) ?_
  refine e_c 15625 o_152_16 rfl ?_
  refine e_clR (as := [.ref (xR h 58 10), .int 15625]) (rest := [.ref 58]) o_152_19 rfl rfl (x_okd cl_152_101 ml_101 (Nat.le_of_ble_eq_true rfl) (Nat.le_of_ble_eq_true rfl)) (rfl) k ?_
  rintro v2 h1 ⟨sh1, k⟩
  obtain ⟨nv2, k⟩ := k
  refine e_pR o_152_22 (sk_58 (h := h1) sh1) (nv2) ?_
  exact Ev.less (ls := [.ref 58, .int x1, .int (xI h (xR h 34 0) 1), .null, .null]) ⟨Or.inr rfl, Or.inr rfl, Or.inr rfl, Or.inl rfl, Or.inl rfl, trivial⟩ k
set_option maxHeartbeats 4000000 in
set_option maxRecDepth 100000 in
theorem B_152_35 {x1 : Int32} {x2 : Int32} {x3 : Int32} {h : XH} {Q : Value → XH → Prop} (hs : Sh h) (k : ((x2 < x3) → Q (.int (-2)) h) ∧ (¬ (x2 < x3) → Ev 152 43 [.ref 58, .int x1, .int x2, .int x3, .int 0] [] h Q)) : Ev 152 35 [.ref 58, .int x1, .int x2, .int x3, .null] [] h Q := by
  refine e_il o_152_35 rfl ?_
  refine e_il o_152_36 rfl ?_
  refine e_if_4 o_152_37 (fun z => ?_) (fun z => ?_)
  · have k := k.1 z
    refine e_c (-2) o_152_103 rfl ?_
    exact e_retI o_152_105 k
  · have k := k.2 z
    refine e_c 0 o_152_40 rfl ?_
    refine e_is (ls' := [.ref 58, .int x1, .int x2, .int x3, .int 0]) o_152_41 (Nat.le_of_ble_eq_true rfl) rfl ?_
    exact Ev.less (ls := [.ref 58, .int x1, .int x2, .int x3, .int 0]) ⟨Or.inr rfl, Or.inr rfl, Or.inr rfl, Or.inr rfl, Or.inr rfl, trivial⟩ k
set_option maxHeartbeats 4000000 in
set_option maxRecDepth 100000 in
theorem B_152_43 {x1 : Int32} {x2 : Int32} {x3 : Int32} {x4 : Int32} {h : XH} {Q : Value → XH → Prop} (hs : Sh h) (k : (((1 <<< (x2 &&& 31)) ≤ x4) → Ev 152 35 [.ref 58, .int x1, .int x2, .int (x3 + 1), .null] [] h Q) ∧ (¬ ((1 <<< (x2 &&& 31)) ≤ x4) → ClI 91 [.int x4] h (fun v2 h1 => Sh h1 ∧ (((¬ v2 = x3) → Ev 152 43 [.ref 58, .int x1, .int x2, .int x3, .int (x4 + 1)] [] h1 Q) ∧ (¬ (¬ v2 = x3) → InB x3 7 ∧ ((((xI h1 1 (tn x3)) < (xI h1 (xR h1 34 0) 6)) → Ev 152 43 [.ref 58, .int x1, .int x2, .int x3, .int (x4 + 1)] [] h1 Q) ∧ (¬ ((xI h1 1 (tn x3)) < (xI h1 (xR h1 34 0) 6)) → ClI 153 [.ref 58, .int x4, .int x1] h1 (fun v4 h3 => Sh h3 ∧ (((v4 = 0) → Ev 152 43 [.ref 58, .int x1, .int x2, .int x3, .int (x4 + 1)] [] h3 Q) ∧ (¬ (v4 = 0) → Q (.int x4) h3)))))))))) : Ev 152 43 [.ref 58, .int x1, .int x2, .int x3, .int x4] [] h Q := by
  refine e_il o_152_43 rfl ?_
  refine e_c 1 o_152_45 rfl ?_
  refine e_il o_152_46 rfl ?_
  refine e_bin o_152_47 rfl ?_
  refine e_if_3 o_152_48 (fun z => ?_) (fun z => ?_)
  · have k := k.1 z
    refine e_inc (ls' := [.ref 58, .int x1, .int x2, .int (x3 + 1), .int x4]) o_152_97 rfl rfl rfl ?_
    refine e_go o_152_100 ?_
    exact Ev.less (ls := [.ref 58, .int x1, .int x2, .int (x3 + 1), .null]) ⟨Or.inr rfl, Or.inr rfl, Or.inr rfl, Or.inr rfl, Or.inl rfl, trivial⟩ k
  · have k := k.2 z
    refine e_il o_152_51 rfl ?_
    refine e_clI (as := [.int x4]) (rest := []) o_152_53 rfl rfl (x_okd cl_152_91 ml_91 (Nat.le_of_ble_eq_true rfl) (Nat.le_of_ble_eq_true rfl)) (rfl) k ?_
    rintro v2 h1 ⟨sh1, k⟩
    refine e_il o_152_56 rfl ?_
    refine e_if_1 o_152_57 (fun z => ?_) (fun z => ?_)
    · have k := k.1 z
      refine e_inc (ls' := [.ref 58, .int x1, .int x2, .int x3, .int (x4 + 1)]) o_152_91 rfl rfl rfl ?_
      refine e_go o_152_94 ?_
      exact Ev.less (ls := [.ref 58, .int x1, .int x2, .int x3, .int (x4 + 1)]) ⟨Or.inr rfl, Or.inr rfl, Or.inr rfl, Or.inr rfl, Or.inr rfl, trivial⟩ k
    · have k := k.2 z
      refine e_al o_152_60 rfl ?_
      refine e_gR (r := 34) o_152_61 (sk_58 (h := h1) sh1) (sr_58_1 (h := h1) sh1) (by decide) ?_
      refine e_gR (r := (xR h1 34 0)) o_152_64 (sk_34 (h := h1) sh1) (rfl) (by rcases (ss_p sh1) with q | q <;> omega) ?_
      refine e_gI o_152_67 (sc_k (h := h1) sh1 (ss_p sh1)) ?_
      refine e_cst o_152_70 ?_
      refine e_il o_152_73 rfl ?_
      obtain ⟨q, k⟩ := k
      refine e_ia (n := 7) o_152_74 ((sh1).2.2.2.2.2.2.2.1.1) ((sh1).2.2.2.2.2.2.2.1.2.1) q ?_
      refine e_if_4 o_152_75 (fun z => ?_) (fun z => ?_)
      · have k := k.1 z
        refine e_inc (ls' := [.ref 58, .int x1, .int x2, .int x3, .int (x4 + 1)]) o_152_91 rfl rfl rfl ?_
        refine e_go o_152_94 ?_
        exact Ev.less (ls := [.ref 58, .int x1, .int x2, .int x3, .int (x4 + 1)]) ⟨Or.inr rfl, Or.inr rfl, Or.inr rfl, Or.inr rfl, Or.inr rfl, trivial⟩ k
      · have k := k.2 z
        refine e_al o_152_78 rfl ?_
        refine e_il o_152_79 rfl ?_
        refine e_il o_152_81 rfl ?_
        refine e_clI (as := [.ref 58, .int x4, .int x1]) (rest := []) o_152_82 rfl rfl (x_okd cl_152_153 ml_153 (Nat.le_of_ble_eq_true rfl) (Nat.le_of_ble_eq_true rfl)) (x_rc0 (ci := 1) (sk_58 (h := h1) sh1) mo_153) k ?_
        rintro v4 h3 ⟨sh3, k⟩
        refine e_i0_0 o_152_85 (fun z => ?_) (fun z => ?_)
        · have k := k.1 z
          refine e_inc (ls' := [.ref 58, .int x1, .int x2, .int x3, .int (x4 + 1)]) o_152_91 rfl rfl rfl ?_
          refine e_go o_152_94 ?_
          exact Ev.less (ls := [.ref 58, .int x1, .int x2, .int x3, .int (x4 + 1)]) ⟨Or.inr rfl, Or.inr rfl, Or.inr rfl, Or.inr rfl, Or.inr rfl, trivial⟩ k
        · have k := k.2 z
          refine e_il o_152_88 rfl ?_
          exact e_retI o_152_90 k
set_option maxHeartbeats 4000000 in
set_option maxRecDepth 100000 in
theorem B_152_25 {x1 : Int32} {x2 : Int32} {h : XH} {Q : Value → XH → Prop} (hs : Sh h) (k : ClV 23 [.ref (xR h 58 10), .int (-1)] h (fun h1 => Sh h1 ∧ (Ev 152 35 [.ref 58, .int x1, .int x2, .int 0, .null] [] h1 Q))) : Ev 152 25 [.ref 58, .int x1, .int x2, .null, .null] [] h Q := by
  refine e_al o_152_25 rfl ?_
  refine e_gR (r := (xR h 58 10)) o_152_26 (sk_58 (h := h) hs) (rfl) (by have := Nat.le_trans (by decide : 4 ≤ 46) (sg4_58_10 (h := h) hs); omega) ?_
  refine e_c (-1) o_152_29 rfl ?_
  refine e_clV (as := [.ref (xR h 58 10), .int (-1)]) (rest := []) o_152_30 rfl rfl (x_okd cl_152_23 ml_23 (Nat.le_of_ble_eq_true rfl) (Nat.le_of_ble_eq_true rfl)) (rfl) k ?_
  rintro h1 ⟨sh1, k⟩
  refine e_c 0 o_152_33 rfl ?_
  refine e_is (ls' := [.ref 58, .int x1, .int x2, .int 0, .null]) o_152_34 (Nat.le_of_ble_eq_true rfl) rfl ?_
  exact Ev.less (ls := [.ref 58, .int x1, .int x2, .int 0, .null]) ⟨Or.inr rfl, Or.inr rfl, Or.inr rfl, Or.inr rfl, Or.inl rfl, trivial⟩ k
set_option maxHeartbeats 4000000 in
set_option maxRecDepth 100000 in
theorem B_153_0 {x1 : Int32} {x2 : Int32} {h : XH} {Q : Value → XH → Prop} (hs : Sh h) (k : Ev 153 14 [.ref 58, .int x1, .int x2, .int (xI h (xR h 34 0) 6), .int 0, .null, .null, .null] [] h Q) : Ev 153 0 (x_ini 153 [.ref 58, .int x1, .int x2]) [] h Q := by
  rw [show x_ini 153 [.ref 58, .int x1, .int x2] = [.ref 58, .int x1, .int x2, .null, .null, .null, .null, .null] from x_inid ml_153 rfl]
  refine e_al o_153_0 rfl ?_
  refine e_gR (r := 34) o_153_1 (sk_58 (h := h) hs) (sr_58_1 (h := h) hs) (by decide) ?_
  refine e_gR (r := (xR h 34 0)) o_153_4 (sk_34 (h := h) hs) (rfl) (by rcases (ss_p hs) with q | q <;> omega) ?_
  refine e_gI o_153_7 (sc_k (h := h) hs (ss_p hs)) ?_
  refine e_is (ls' := [.ref 58, .int x1, .int x2, .int (xI h (xR h 34 0) 6), .null, .null, .null, .null]) o_153_10 (Nat.le_of_ble_eq_true rfl) rfl ?_
  refine e_c 0 o_153_11 rfl ?_
  refine e_is (ls' := [.ref 58, .int x1, .int x2, .int (xI h (xR h 34 0) 6), .int 0, .null, .null, .null]) o_153_12 (Nat.le_of_ble_eq_true rfl) rfl ?_
  exact Ev.less (ls := [.ref 58, .int x1, .int x2, .int (xI h (xR h 34 0) 6), .int 0, .null, .null, .null]) ⟨Or.inr rfl, Or.inr rfl, Or.inr rfl, Or.inr rfl, Or.inr rfl, Or.inl rfl, Or.inl rfl, Or.inl rfl, trivial⟩ k
set_option maxHeartbeats 4000000 in
set_option maxRecDepth 100000 in
theorem B_153_14 {x1 : Int32} {x2 : Int32} {x3 : Int32} {x4 : Int32} {h : XH} {Q : Value → XH → Prop} (hs : Sh h) (k : ((x3 ≤ x4) → Q (.int 1) h) ∧ (¬ (x3 ≤ x4) → InB ((x2 * x3) + x4) (xN h (xR h 58 9)) ∧ (Ev 153 39 [.ref 58, .int x1, .int x2, .int x3, .int x4, .int (xI h (xR h 58 9) (tn ((x2 * x3) + x4))), .int 0, .int 0] [] h Q))) : Ev 153 14 [.ref 58, .int x1, .int x2, .int x3, .int x4, .null, .null, .null] [] h Q := by
  refine e_il o_153_14 rfl ?_
  refine e_il o_153_16 rfl ?_
  refine e_if_3 o_153_17 (fun z => ?_) (fun z => ?_)
  · have k := k.1 z
    refine e_c 1 o_153_118 rfl ?_
    exact e_retZ o_153_119 (by decide) k
  · have k := k.2 z
    refine e_al o_153_20 rfl ?_
    refine e_gR (r := (xR h 58 9)) o_153_21 (sk_58 (h := h) hs) (rfl) (by have := Nat.le_trans (by decide : 4 ≤ 46) (sg4_58_9 (h := h) hs); omega) ?_
    refine e_il o_153_24 rfl ?_
    refine e_il o_153_25 rfl ?_
    refine e_bin o_153_26 rfl ?_
    refine e_il o_153_27 rfl ?_
    refine e_bin o_153_29 rfl ?_
    obtain ⟨q, k⟩ := k
    refine e_ia (n := (xN h (xR h 58 9))) o_153_30 (sgk_58_9 (h := h) hs) (rfl) q ?_
    refine e_is (ls' := [.ref 58, .int x1, .int x2, .int x3, .int x4, .int (xI h (xR h 58 9) (tn ((x2 * x3) + x4))), .null, .null]) o_153_31 (Nat.le_of_ble_eq_true rfl) rfl ?_
    refine e_c 0 o_153_33 rfl ?_
    refine e_is (ls' := [.ref 58, .int x1, .int x2, .int x3, .int x4, .int (xI h (xR h 58 9) (tn ((x2 * x3) + x4))), .int 0, .null]) o_153_34 (Nat.le_of_ble_eq_true rfl) rfl ?_
    refine e_c 0 o_153_36 rfl ?_
    refine e_is (ls' := [.ref 58, .int x1, .int x2, .int x3, .int x4, .int (xI h (xR h 58 9) (tn ((x2 * x3) + x4))), .int 0, .int 0]) o_153_37 (Nat.le_of_ble_eq_true rfl) rfl ?_
    exact Ev.less (ls := [.ref 58, .int x1, .int x2, .int x3, .int x4, .int (xI h (xR h 58 9) (tn ((x2 * x3) + x4))), .int 0, .int 0]) ⟨Or.inr rfl, Or.inr rfl, Or.inr rfl, Or.inr rfl, Or.inr rfl, Or.inr rfl, Or.inr rfl, Or.inr rfl, trivial⟩ k
set_option maxHeartbeats 4000000 in
set_option maxRecDepth 100000 in
theorem B_153_39 {x1 : Int32} {x2 : Int32} {x3 : Int32} {x4 : Int32} {x5 : Int32} {x6 : Int32} {x7 : Int32} {h : XH} {Q : Value → XH → Prop} (hs : Sh h) (k : (((x1 >>> (x7 &&& 31)) = (0 : Int32)) → InB x6 (xN h (xR h 58 10)) ∧ (((¬ (xI h (xR h 58 10) (tn x6)) = x1) → InB x6 (xN h (xR h 58 10)) ∧ (Ev 153 14 [.ref 58, .int x1, .int x2, .int x3, .int (x4 + 1), .null, .null, .null] [] (xsI h (xR h 58 10) (tn x6) x1) Q)) ∧ (¬ (¬ (xI h (xR h 58 10) (tn x6)) = x1) → Q (.int 0) h))) ∧ (¬ ((x1 >>> (x7 &&& 31)) = (0 : Int32)) → ((6 ≤ x7) → InB x6 (xN h (xR h 58 10)) ∧ (((¬ (xI h (xR h 58 10) (tn x6)) = x1) → InB x6 (xN h (xR h 58 10)) ∧ (Ev 153 14 [.ref 58, .int x1, .int x2, .int x3, .int (x4 + 1), .null, .null, .null] [] (xsI h (xR h 58 10) (tn x6) x1) Q)) ∧ (¬ (¬ (xI h (xR h 58 10) (tn x6)) = x1) → Q (.int 0) h))) ∧ (¬ (6 ≤ x7) → ((¬ ((x1 >>> (x7 &&& 31)) &&& 1) = (1 : Int32)) → Ev 153 39 [.ref 58, .int x1, .int x2, .int x3, .int x4, .int (x5 / 5), .int x6, .int (x7 + 1)] [] h Q) ∧ (¬ (¬ ((x1 >>> (x7 &&& 31)) &&& 1) = (1 : Int32)) → InB x7 7 ∧ (Ev 153 39 [.ref 58, .int x1, .int x2, .int x3, .int x4, .int (x5 / 5), .int (x6 + ((x5 - x5 / 5 * 5) * (xI h 1 (tn x7)))), .int (x7 + 1)] [] h Q))))) : Ev 153 39 [.ref 58, .int x1, .int x2, .int x3, .int x4, .int x5, .int x6, .int x7] [] h Q := by
  refine e_il o_153_39 rfl ?_
  refine e_il o_153_40 rfl ?_
  refine e_bin o_153_42 rfl ?_
  refine e_i0_0 o_153_43 (fun z => ?_) (fun z => ?_)
  · have k := k.1 z
    refine e_al o_153_91 rfl ?_
    refine e_gR (r := (xR h 58 10)) o_153_92 (sk_58 (h := h) hs) (rfl) (by have := Nat.le_trans (by decide : 4 ≤ 46) (sg4_58_10 (h := h) hs); omega) ?_
    refine e_il o_153_95 rfl ?_
    obtain ⟨q, k⟩ := k
    refine e_ia (n := (xN h (xR h 58 10))) o_153_97 (sgk_58_10 (h := h) hs) (rfl) q ?_
    refine e_il o_153_98 rfl ?_
    refine e_if_1 o_153_99 (fun z => ?_) (fun z => ?_)
    · have k := k.1 z
      refine e_al o_153_104 rfl ?_
      refine e_gR (r := (xR h 58 10)) o_153_105 (sk_58 (h := h) hs) (rfl) (by have := Nat.le_trans (by decide : 4 ≤ 46) (sg4_58_10 (h := h) hs); omega) ?_
      refine e_il o_153_108 rfl ?_
      refine e_il o_153_110 rfl ?_
      obtain ⟨q, k⟩ := k
      refine e_ias (n := (xN h (xR h 58 10))) o_153_111 (sgk_58_10 (h := h) hs) (Nat.le_trans (by decide : 4 ≤ 46) (sg4_58_10 (h := h) hs)) (rfl) q ?_
      refine e_inc (ls' := [.ref 58, .int x1, .int x2, .int x3, .int (x4 + 1), .int x5, .int x6, .int x7]) o_153_112 rfl rfl rfl ?_
      refine e_go o_153_115 ?_
      exact Ev.less (ls := [.ref 58, .int x1, .int x2, .int x3, .int (x4 + 1), .null, .null, .null]) ⟨Or.inr rfl, Or.inr rfl, Or.inr rfl, Or.inr rfl, Or.inr rfl, Or.inl rfl, Or.inl rfl, Or.inl rfl, trivial⟩ k
    · have k := k.2 z
      refine e_c 0 o_153_102 rfl ?_
      exact e_retZ o_153_103 (by decide) k
  · have k := k.2 z
    refine e_il o_153_46 rfl ?_
    refine e_c 6 o_153_48 rfl ?_
    refine e_if_3 o_153_50 (fun z => ?_) (fun z => ?_)
    · have k := k.1 z
      refine e_al o_153_91 rfl ?_
      refine e_gR (r := (xR h 58 10)) o_153_92 (sk_58 (h := h) hs) (rfl) (by have := Nat.le_trans (by decide : 4 ≤ 46) (sg4_58_10 (h := h) hs); omega) ?_
      refine e_il o_153_95 rfl ?_
      obtain ⟨q, k⟩ := k
      refine e_ia (n := (xN h (xR h 58 10))) o_153_97 (sgk_58_10 (h := h) hs) (rfl) q ?_
      refine e_il o_153_98 rfl ?_
      refine e_if_1 o_153_99 (fun z => ?_) (fun z => ?_)
      · have k := k.1 z
        refine e_al o_153_104 rfl ?_
        refine e_gR (r := (xR h 58 10)) o_153_105 (sk_58 (h := h) hs) (rfl) (by have := Nat.le_trans (by decide : 4 ≤ 46) (sg4_58_10 (h := h) hs); omega) ?_
        refine e_il o_153_108 rfl ?_
        refine e_il o_153_110 rfl ?_
        obtain ⟨q, k⟩ := k
        refine e_ias (n := (xN h (xR h 58 10))) o_153_111 (sgk_58_10 (h := h) hs) (Nat.le_trans (by decide : 4 ≤ 46) (sg4_58_10 (h := h) hs)) (rfl) q ?_
        refine e_inc (ls' := [.ref 58, .int x1, .int x2, .int x3, .int (x4 + 1), .int x5, .int x6, .int x7]) o_153_112 rfl rfl rfl ?_
        refine e_go o_153_115 ?_
        exact Ev.less (ls := [.ref 58, .int x1, .int x2, .int x3, .int (x4 + 1), .null, .null, .null]) ⟨Or.inr rfl, Or.inr rfl, Or.inr rfl, Or.inr rfl, Or.inr rfl, Or.inl rfl, Or.inl rfl, Or.inl rfl, trivial⟩ k
      · have k := k.2 z
        refine e_c 0 o_153_102 rfl ?_
        exact e_retZ o_153_103 (by decide) k
    · have k := k.2 z
      refine e_il o_153_53 rfl ?_
      refine e_il o_153_54 rfl ?_
      refine e_bin o_153_56 rfl ?_
      refine e_c 1 o_153_57 rfl ?_
      refine e_bin o_153_58 rfl ?_
      refine e_c 1 o_153_59 rfl ?_
      refine e_if_1 o_153_60 (fun z => ?_) (fun z => ?_)
      · have k := k.1 z
        refine e_il o_153_79 rfl ?_
        refine e_c 5 o_153_81 rfl ?_
        refine e_div o_153_82 (by decide) ?_
        refine e_is (ls' := [.ref 58, .int x1, .int x2, .int x3, .int x4, .int (x5 / 5), .int x6, .int x7]) o_153_83 (Nat.le_of_ble_eq_true rfl) rfl ?_
        refine e_inc (ls' := [.ref 58, .int x1, .int x2, .int x3, .int x4, .int (x5 / 5), .int x6, .int (x7 + 1)]) o_153_85 rfl rfl rfl ?_
        refine e_go o_153_88 ?_
        exact Ev.less (ls := [.ref 58, .int x1, .int x2, .int x3, .int x4, .int (x5 / 5), .int x6, .int (x7 + 1)]) ⟨Or.inr rfl, Or.inr rfl, Or.inr rfl, Or.inr rfl, Or.inr rfl, Or.inr rfl, Or.inr rfl, Or.inr rfl, trivial⟩ k
      · have k := k.2 z
        refine e_il o_153_63 rfl ?_
        refine e_il o_153_65 rfl ?_
        refine e_c 5 o_153_67 rfl ?_
        refine e_rem o_153_68 (by decide) ?_
        refine e_cst o_153_69 ?_
        refine e_il o_153_72 rfl ?_
        obtain ⟨q, k⟩ := k
        refine e_ia (n := 7) o_153_74 ((hs).2.2.2.2.2.2.2.1.1) ((hs).2.2.2.2.2.2.2.1.2.1) q ?_
        refine e_bin o_153_75 rfl ?_
        refine e_bin o_153_76 rfl ?_
        refine e_is (ls' := [.ref 58, .int x1, .int x2, .int x3, .int x4, .int x5, .int (x6 + ((x5 - x5 / 5 * 5) * (xI h 1 (tn x7)))), .int x7]) o_153_77 (Nat.le_of_ble_eq_true rfl) rfl ?_
        refine e_il o_153_79 rfl ?_
        refine e_c 5 o_153_81 rfl ?_
        refine e_div o_153_82 (by decide) ?_
        refine e_is (ls' := [.ref 58, .int x1, .int x2, .int x3, .int x4, .int (x5 / 5), .int (x6 + ((x5 - x5 / 5 * 5) * (xI h 1 (tn x7)))), .int x7]) o_153_83 (Nat.le_of_ble_eq_true rfl) rfl ?_
        refine e_inc (ls' := [.ref 58, .int x1, .int x2, .int x3, .int x4, .int (x5 / 5), .int (x6 + ((x5 - x5 / 5 * 5) * (xI h 1 (tn x7)))), .int (x7 + 1)]) o_153_85 rfl rfl rfl ?_
        refine e_go o_153_88 ?_
        exact Ev.less (ls := [.ref 58, .int x1, .int x2, .int x3, .int x4, .int (x5 / 5), .int (x6 + ((x5 - x5 / 5 * 5) * (xI h 1 (tn x7)))), .int (x7 + 1)]) ⟨Or.inr rfl, Or.inr rfl, Or.inr rfl, Or.inr rfl, Or.inr rfl, Or.inr rfl, Or.inr rfl, Or.inr rfl, trivial⟩ k
