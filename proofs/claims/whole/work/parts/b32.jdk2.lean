/-! charAt and indexOf of a text -/
theorem jt_ch : ∀ q, q < 128 → ((Int32.ofNat q &&& 255).toUInt32 % 65536).toInt32 = Int32.ofNat q := by decide +kernel
theorem jt_nar : ∀ q, q < 128 → (match narrow .char (.int (Int32.ofNat q)) with | .int v => decide (v = Int32.ofNat q) | _ => false) = true := by decide +kernel
theorem jt_narr {q : Nat} (hq : q < 128) : narrow .char (.int (Int32.ofNat q)) = .int (Int32.ofNat q) := by
  have h := jt_nar q hq
  split at h
  · rename_i v hv
    rw [hv, of_decide_eq_true h]
  · cases h
theorem jt_8 : ∀ q, q < 128 → ∀ k, k < 256 → (Int32.ofNat q = (Int32.ofNat k).toInt8.toInt32 ↔ q = k) := by decide +kernel
theorem jt_cmp {q : Nat} {c : Int32} (hq : q < 128) (h0 : ¬ c < 0) (h1 : ¬ 255 < c) : (Int32.ofNat q = c.toInt8.toInt32 ↔ (q : Int) = c.toInt) := by
  have a0 : (0 : Int) ≤ c.toInt := by simpa using Int32.le_iff_toInt_le.mp (Int32.not_lt.mp h0)
  have a1 : c.toInt ≤ 255 := by
    have := Int32.le_iff_toInt_le.mp (Int32.not_lt.mp h1)
    have e : (255 : Int32).toInt = 255 := by decide
    omega
  obtain ⟨k, hk⟩ : ∃ k : Nat, c.toInt = (k : Int) := ⟨c.toInt.toNat, by omega⟩
  have hc : c = Int32.ofNat k := by
    apply Int32.toInt_inj.mp
    rw [Int32.toInt_ofNat_of_lt (by omega)]
    exact hk
  rw [hc, jt_8 q hq k (by omega), Int32.toInt_ofNat_of_lt (by omega)]
  omega
theorem jt_cons {q i : Nat} {r : List Nat} {c : Int} : x_idx (q :: r) c i = if (q : Int) = c then Int32.ofNat i else x_idx r c (i + 1) := rfl
theorem jt_no {c : Int} : ∀ (l : List Nat) (i : Nat), (∀ q ∈ l, (q : Int) ≠ c) → x_idx l c i = -1 := by
  intro l
  induction l with
  | nil => intro i _; rfl
  | cons q r ih =>
    intro i hn
    unfold x_idx
    rw [if_neg (hn q List.mem_cons_self)]
    exact ih (i + 1) fun q hq => hn q (List.mem_cons_of_mem _ hq)
theorem jt_in {i : Int32} {n : Nat} (hn : n ≤ 1000) (h : vp_in i n) : ¬ i < 0 ∧ i < Int32.ofNat n ∧ i.toNatClampNeg < n := by
  have h0 : ¬ i < 0 := fun q => h (Or.inl q)
  have h1 : i.toNatClampNeg < n := Nat.not_le.mp fun q => h (Or.inr q)
  refine ⟨h0, ?_, h1⟩
  rw [Int32.lt_iff_toInt_lt, Int32.toInt_ofNat_of_lt (by omega)]
  have : i.toInt.toNat < n := h1
  omega
section JU
variable {l : Launch} {b0 : Nat} {ra : Nat → Nat} {cA dC : Nat → ClassId} {dI : Nat → Nat → Nat} {L : Nat} {xs : Nat → Int32} {a d : Nat} {T : List Nat} {h : XH}
theorem jt_gd (hT : ∀ q ∈ T, q < 128) (j : Nat) : T.getD j 0 < 128 := by
  rw [List.getD_eq_getElem?_getD]
  cases hj : T[j]? with
  | none => show 0 < 128; omega
  | some v => exact hT v (List.mem_of_getElem? hj)
theorem jt_scharAt (hT : ∀ q ∈ T, q < 128) (hN : T.length ≤ 1000) {i : Int32} (hi : vp_in i T.length) : Met l jt_y_sc (Cond.code jt_y_sc jt_c_sc 2 (some .char) :: gtbl) (jt_rm 2 43) (jt_P b0 ra cA dC dI L xs [.ref d, .int i] a d T h) (g_Qc b0 ra cA dC dI L xs (.int (Int32.ofNat (T.getD i.toNatClampNeg 0))) h) 0 0 (fun q => b0 ≤ q) := by
  refine jt_met rfl (Nat.le_refl _) fun p e s m below meth c ls C G N J hl => ?_
  obtain ⟨F, hlk, hr⟩ := C
  obtain ⟨hx, hb, hml, hown, hw⟩ := id F
  obtain ⟨i0, i1, i2⟩ := jt_in hN hi
  have S : va_S (fun q => b0 ≤ q) s.heap s.heap [] := va_S.rf
  refine lv_iload_n hx hb jt_d_sc_0 rfl (lv_at hl 1 rfl) ?_
  refine lv_aload_n hx hb jt_d_sc_1 rfl (lv_at hl 0 rfl) ?_
  refine va_tlen hx hb J.2.2.2 S rfl jt_d_sc_2 ?_
  refine jt_callS (av := [.int i, .int (Int32.ofNat T.length)]) (rest := []) F G J N S (jt_check i0 i1) jt_w165 jt_w109 jt_w163 jt_w164 ⟨by decide, by decide, show _ = some 2 by decide +kernel⟩ ⟨Nat.le_refl _, Nat.le_refl _⟩ hl.1 (by decide) jt_d_sc_3 ⟨Nat.le_refl _, Nat.le_refl _⟩ fun H1 locs1 N1 S1 => ?_
  refine lv_aload_n hx hb jt_d_sc_6 rfl (lv_at hl 0 rfl) ?_
  refine lv_iload_n hx hb jt_d_sc_7 rfl (lv_at hl 1 rfl) ?_
  refine va_tb hx hb J.2.2.2 S1 hi rfl jt_d_sc_8 ?_
  refine lv_sipush hx hb (v := 255) jt_d_sc_9 rfl ?_
  refine lv_iand hx hb jt_d_sc_12 ?_
  refine lv_i2c hx hb jt_d_sc_13 (jt_ch _ (jt_gd hT _)) ?_
  exact W.zret hx hb hr (jt_narr (jt_gd hT _)) (fun t ht _ => ⟨rfl, by rw [ht]; exact N1, S1.F ht⟩) S1.2.2 jt_d_sc_14 hlk
theorem jt_charAt (hT : ∀ q ∈ T, q < 128) (hN : T.length ≤ 1000) {i : Int32} (hi : vp_in i T.length) : Met l jt_y_ca (Cond.code jt_y_ca jt_c_ca 2 (some .char) :: gtbl) (jt_rm 3 64) (jt_P b0 ra cA dC dI L xs [.ref a, .int i] a d T h) (g_Qc b0 ra cA dC dI L xs (.int (Int32.ofNat (T.getD i.toNatClampNeg 0))) h) 0 0 (fun q => b0 ≤ q) := by
  refine jt_met rfl (Nat.le_refl _) fun p e s m below meth c ls C G N J hl => ?_
  obtain ⟨F, hlk, hr⟩ := C
  obtain ⟨hx, hb, hml, hown, hw⟩ := id F
  have S : va_S (fun q => b0 ≤ q) s.heap s.heap [] := va_S.rf
  refine lv_aload_n hx hb jt_d_ca_0 rfl (lv_at hl 0 rfl) ?_
  refine jt_callV (As := []) (rest := []) F G J N S jt_latin jt_w159 jt_w109 jt_w156 jt_w157 jt_w158 ⟨by decide, by decide, by decide +kernel⟩ ⟨by show 1 ≤ 3; decide, by show 20 ≤ 64; decide⟩ hl.1 (by decide) jt_d_ca_1 ⟨Nat.le_refl _, Nat.le_refl _⟩ fun H1 locs1 N1 S1 => ?_
  refine lv_if_eq hx hb (tgt := 16) jt_d_ca_4 rfl (fun q => absurd q (by decide)) (fun _ => ?_)
  refine lv_aload_n hx hb jt_d_ca_7 rfl (lv_at hl 0 rfl) ?_
  refine vk_getf hx hb J.2.2.1 S1 hown (hw _ jt_w1946) (fun x hx => hx) jt_d_ca_8 ?_
  refine lv_iload_n hx hb jt_d_ca_11 rfl (lv_at hl 1 rfl) ?_
  refine jt_callS (av := [.ref d, .int i]) (rest := []) F G J N1 S1 (jt_scharAt hT hN hi) jt_w162 jt_w110 jt_w160 jt_w161 ⟨by decide, by decide, show _ = some 2 by decide +kernel⟩ ⟨Nat.le_refl _, Nat.le_refl _⟩ hl.1 (by decide) jt_d_ca_12 ⟨Nat.le_refl _, Nat.le_refl _⟩ fun H2 locs2 N2 S2 => ?_
  exact W.zret hx hb hr (jt_narr (jt_gd hT _)) (fun t ht _ => ⟨rfl, by rw [ht]; exact N2, S2.F ht⟩) S2.2.2 jt_d_ca_15 hlk
theorem jt_can {ch : Int32} : Met l jt_y_en (Cond.code jt_y_en jt_c_en 1 (some .boolean) :: gtbl) (jt_rm 0 0) (jt_P b0 ra cA dC dI L xs [.int ch] a d T h) (g_Qc b0 ra cA dC dI L xs (.int (if ch < 0 ∨ 255 < ch then 0 else 1)) h) 0 0 (fun q => b0 ≤ q) := by
  refine jt_met rfl (Nat.le_refl _) fun p e s m below meth c ls C G N J hl => ?_
  obtain ⟨⟨hx, hb, hml, hown, hw⟩, hlk, hr⟩ := C
  have S : va_S (fun q => b0 ≤ q) s.heap s.heap [] := va_S.rf
  have kn : (ch < 0 ∨ 255 < ch) → W p l e (jt_rm 0 0) s m [Value.int ch].toArray below meth c s.heap [] 0 0 (MQ below (g_Qc b0 ra cA dC dI L xs (.int (if ch < 0 ∨ 255 < ch then 0 else 1)) h) [Value.int ch].toArray s 0 0 (fun q => b0 ≤ q)) (F0 m 15 ls []) := fun q => by
    rw [if_pos q]
    refine lv_iconst hx hb jt_d_en_15 rfl ?_
    exact W.zret hx hb hr rfl (fun t ht _ => ⟨rfl, by rw [ht]; exact N, S.F ht⟩) S.2.2 jt_d_en_16 hlk
  refine lv_iload_n hx hb jt_d_en_0 rfl (lv_at hl 0 rfl) ?_
  refine lv_if_lt hx hb (tgt := 15) jt_d_en_1 rfl (fun q => kn (Or.inl q)) (fun q0 => ?_)
  refine lv_iload_n hx hb jt_d_en_4 rfl (lv_at hl 0 rfl) ?_
  refine lv_sipush hx hb (v := 255) jt_d_en_5 rfl ?_
  refine lv_icmp_gt hx hb (tgt := 15) jt_d_en_8 rfl (fun q => kn (Or.inr q)) (fun q1 => ?_)
  rw [if_neg (fun q => q.elim q0 q1)]
  refine lv_iconst hx hb jt_d_en_11 rfl ?_
  refine lv_goto hx hb (tgt := 16) jt_d_en_12 rfl ?_
  exact W.zret hx hb hr rfl (fun t ht _ => ⟨rfl, by rw [ht]; exact N, S.F ht⟩) S.2.2 jt_d_en_16 hlk
theorem jt_ichar (hT : ∀ q ∈ T, q < 128) (hN : T.length ≤ 1000) {ch : Int32} (c0 : ¬ ch < 0) (c1 : ¬ 255 < ch) : Met l jt_y_ic (Cond.code jt_y_ic jt_c_ic 6 (some .int) :: gtbl) (jt_rm 0 0) (jt_P b0 ra cA dC dI L xs [.ref d, .int ch, .int 0, .int (Int32.ofNat T.length)] a d T h) (g_Qc b0 ra cA dC dI L xs (.int (x_idx T ch.toInt 0)) h) 0 0 (fun q => b0 ≤ q) := by
  refine jt_met rfl (by show 4 ≤ 6; decide) fun p e s m below meth c ls C G N J hl => ?_
  obtain ⟨⟨hx, hb, hml, hown, hw⟩, hlk, hr⟩ := C
  have S : va_S (fun q => b0 ≤ q) s.heap s.heap [] := va_S.rf
  have loop : ∀ (k i : Nat), i + k = T.length → x_idx (T.drop i) ch.toInt i = x_idx T ch.toInt 0 → ∀ ls : Array Slot, lv_has ls 6 [(5, .int (Int32.ofNat i)), (4, .int ch.toInt8.toInt32), (0, .ref d), (3, .int (Int32.ofNat T.length))] →
      W p l e (jt_rm 0 0) s m [Value.ref d, .int ch, .int 0, .int (Int32.ofNat T.length)].toArray below meth c s.heap [] 0 0 (MQ below (g_Qc b0 ra cA dC dI L xs (.int (x_idx T ch.toInt 0)) h) [Value.ref d, .int ch, .int 0, .int (Int32.ofNat T.length)].toArray s 0 0 (fun q => b0 ≤ q)) (F0 m 7 ls []) := by
    intro k
    induction k with
    | zero =>
      intro i hi hres ls hl
      refine lv_iload hx hb jt_d_ic_7 (lv_at hl 0 rfl) ?_
      refine lv_iload_n hx hb jt_d_ic_9 rfl (lv_at hl 3 rfl) ?_
      refine lv_icmp_ge hx hb (tgt := 31) jt_d_ic_10 rfl (fun _ => ?_) (fun q => ?_)
      · rw [← hres, List.drop_of_length_le (by omega)]
        refine lv_iconst hx hb jt_d_ic_31 rfl ?_
        exact W.iret hx hb hr (fun t ht _ => ⟨rfl, by rw [ht]; exact N, S.F ht⟩) S.2.2 jt_d_ic_32 hlk
      · exfalso
        apply q
        rw [show i = T.length by omega]
        exact Int32.le_refl _
    | succ k ih =>
      intro i hi hres ls hl
      have hlt : i < T.length := by omega
      refine lv_iload hx hb jt_d_ic_7 (lv_at hl 0 rfl) ?_
      refine lv_iload_n hx hb jt_d_ic_9 rfl (lv_at hl 3 rfl) ?_
      refine lv_icmp_ge hx hb (tgt := 31) jt_d_ic_10 rfl (fun q => ?_) (fun _ => ?_)
      · exfalso
        rw [Int32.le_iff_toInt_le, Int32.toInt_ofNat_of_lt (by omega), Int32.toInt_ofNat_of_lt (by omega)] at q
        omega
      have hcl : (Int32.ofNat i).toNatClampNeg = i := Int32.toNatClampNeg_ofNat_of_lt (by omega)
      have hin : vp_in (Int32.ofNat i) T.length := by
        rintro (q | q)
        · rw [Int32.lt_iff_toInt_lt, Int32.toInt_ofNat_of_lt (by omega)] at q
          have e : (0 : Int32).toInt = 0 := by decide
          omega
        · rw [hcl] at q; omega
      have hgd : T.getD i 0 = T[i] := by rw [List.getD_eq_getElem?_getD, List.getElem?_eq_getElem hlt]; rfl
      rw [List.drop_eq_getElem_cons hlt, jt_cons] at hres
      refine lv_aload_n hx hb jt_d_ic_13 rfl (lv_at hl 2 rfl) ?_
      refine lv_iload hx hb jt_d_ic_14 (lv_at hl 0 rfl) ?_
      refine va_tb hx hb J.2.2.2 S hin (v := .int (Int32.ofNat (T.getD i 0))) (by rw [hcl]) jt_d_ic_16 ?_
      refine lv_iload hx hb jt_d_ic_17 (lv_at hl 1 rfl) ?_
      refine lv_icmp_ne hx hb (tgt := 25) jt_d_ic_19 rfl (fun q => ?_) (fun q => ?_)
      · rw [jt_cmp (jt_gd hT i) c0 c1, hgd] at q
        rw [if_neg q] at hres
        refine lv_iinc hx hb (k := 0) (v := Int32.ofNat (i + 1)) jt_d_ic_25 hl rfl (Int32.ofNat_add i 1).symm (by decide) rfl fun ls' hl' => ?_
        refine lv_goto hx hb (tgt := 7) jt_d_ic_28 rfl ?_
        exact ih (i + 1) (by omega) hres ls' hl'
      · rw [jt_cmp (jt_gd hT i) c0 c1, hgd] at q
        rw [if_pos q] at hres
        refine lv_iload hx hb jt_d_ic_22 (lv_at hl 0 rfl) ?_
        rw [← hres]
        exact W.iret hx hb hr (fun t ht _ => ⟨rfl, by rw [ht]; exact N, S.F ht⟩) S.2.2 jt_d_ic_24 hlk
  refine lv_iload_n hx hb jt_d_ic_0 rfl (lv_at hl 1 rfl) ?_
  refine lv_i2b hx hb jt_d_ic_1 rfl ?_
  refine lv_istore hx hb jt_d_ic_2 hl (by decide) rfl fun ls1 hl1 => ?_
  refine lv_iload_n hx hb jt_d_ic_4 rfl (lv_at hl1 3 rfl) ?_
  refine lv_istore hx hb jt_d_ic_5 hl1 (by decide) rfl fun ls2 hl2 => ?_
  exact loop T.length 0 (by omega) rfl ls2 (lv_sub hl2 [0, 1, 2, 5] rfl)
theorem jt_sindex (hT : ∀ q ∈ T, q < 128) (hN : T.length ≤ 1000) (hP : 0 < T.length) {ch : Int32} : Met l jt_y_ix (Cond.code jt_y_ix jt_c_ix 4 (some .int) :: gtbl) (jt_rm 1 25) (jt_P b0 ra cA dC dI L xs [.ref d, .int ch, .int 0, .int (Int32.ofNat T.length)] a d T h) (g_Qc b0 ra cA dC dI L xs (.int (x_idx T ch.toInt 0)) h) 0 0 (fun q => b0 ≤ q) := by
  refine jt_met rfl (Nat.le_refl _) fun p e s m below meth c ls C G N J hl => ?_
  obtain ⟨F, hlk, hr⟩ := C
  obtain ⟨hx, hb, hml, hown, hw⟩ := id F
  have S : va_S (fun q => b0 ≤ q) s.heap s.heap [] := va_S.rf
  refine lv_iload_n hx hb jt_d_ix_0 rfl (lv_at hl 1 rfl) ?_
  refine jt_callS (av := [.int ch]) (rest := []) F G J N S jt_can jt_w639 jt_w110 jt_w637 jt_w638 ⟨by decide, by decide, show _ = some 1 by decide +kernel⟩ ⟨by show 1 ≤ 1; decide, by show 20 ≤ 25; decide⟩ hl.1 (by decide) jt_d_ix_1 ⟨Nat.le_refl _, Nat.le_refl _⟩ fun H1 locs1 N1 S1 => ?_
  by_cases hc : ch < 0 ∨ 255 < ch
  · rw [if_pos hc]
    refine lv_if_ne hx hb (tgt := 9) jt_d_ix_4 rfl (fun q => absurd rfl q) (fun _ => ?_)
    have hres : x_idx T ch.toInt 0 = -1 := by
      refine jt_no T 0 fun q hq e => ?_
      have := hT q hq
      rcases hc with hc | hc
      · rw [Int32.lt_iff_toInt_lt] at hc
        have e0 : (0 : Int32).toInt = 0 := by decide
        omega
      · rw [Int32.lt_iff_toInt_lt] at hc
        have e0 : (255 : Int32).toInt = 255 := by decide
        omega
    rw [hres]
    refine lv_iconst hx hb jt_d_ix_7 rfl ?_
    exact W.iret hx hb hr (fun t ht _ => ⟨rfl, by rw [ht]; exact N1, S1.F ht⟩) S1.2.2 jt_d_ix_8 hlk
  · rw [if_neg hc]
    refine lv_if_ne hx hb (tgt := 9) jt_d_ix_4 rfl (fun _ => ?_) (fun q => absurd q (by decide))
    refine lv_iload_n hx hb jt_d_ix_9 rfl (lv_at hl 2 rfl) ?_
    refine lv_iconst hx hb (v := 0) jt_d_ix_10 rfl ?_
    refine va_mmax hx hb (hml.trans hl.1.symm) hown (hw _ jt_w640) (hw _ jt_w641) (hw _ jt_w121) (hw _ jt_w642) (by decide) (by decide) (Nat.le_refl _) (Nat.le_refl _) jt_d_ix_11 ?_
    rw [if_neg (show ¬ (0 : Int32) < 0 by decide)]
    refine lv_istore_n hx hb jt_d_ix_14 rfl hl (by decide) rfl fun ls1 hl1 => ?_
    refine lv_iload_n hx hb jt_d_ix_15 rfl (lv_at hl1 3 rfl) ?_
    refine lv_aload_n hx hb jt_d_ix_16 rfl (lv_at hl1 1 rfl) ?_
    refine va_tlen hx hb J.2.2.2 S1 rfl jt_d_ix_17 ?_
    refine va_mmin hx hb (hml.trans hl1.1.symm) hown (hw _ jt_w643) (hw _ jt_w644) (hw _ jt_w121) (hw _ jt_w645) (by decide) (by decide) (Nat.le_refl _) (Nat.le_refl _) jt_d_ix_18 ?_
    rw [ite_self]
    refine lv_istore_n hx hb jt_d_ix_21 rfl hl1 (by decide) rfl fun ls2 hl2 => ?_
    refine lv_iload_n hx hb jt_d_ix_22 rfl (lv_at hl2 1 rfl) ?_
    refine lv_iload_n hx hb jt_d_ix_23 rfl (lv_at hl2 0 rfl) ?_
    refine lv_icmp_lt hx hb (tgt := 29) jt_d_ix_24 rfl (fun _ => ?_) (fun q => ?_)
    · refine lv_aload_n hx hb jt_d_ix_29 rfl (lv_at hl2 2 rfl) ?_
      refine lv_iload_n hx hb jt_d_ix_30 rfl (lv_at hl2 3 rfl) ?_
      refine lv_iload_n hx hb jt_d_ix_31 rfl (lv_at hl2 1 rfl) ?_
      refine lv_iload_n hx hb jt_d_ix_32 rfl (lv_at hl2 0 rfl) ?_
      refine jt_callS (av := [.ref d, .int ch, .int 0, .int (Int32.ofNat T.length)]) (rest := []) F G J N1 S1 (jt_ichar hT hN (fun q => hc (Or.inl q)) (fun q => hc (Or.inr q))) jt_w648 jt_w110 jt_w646 jt_w647 ⟨by decide, by decide, show _ = some 4 by decide +kernel⟩ ⟨Nat.le_refl _, Nat.le_refl _⟩ hl2.1 (by decide) jt_d_ix_33 ⟨Nat.le_refl _, Nat.le_refl _⟩ fun H2 locs2 N2 S2 => ?_
      exact W.iret hx hb hr (fun t ht _ => ⟨rfl, by rw [ht]; exact N2, S2.F ht⟩) S2.2.2 jt_d_ix_36 hlk
    · exfalso
      apply q
      rw [Int32.lt_iff_toInt_lt, Int32.toInt_ofNat_of_lt (by omega)]
      have e0 : (0 : Int32).toInt = 0 := by decide
      omega
theorem jt_index2 (hT : ∀ q ∈ T, q < 128) (hN : T.length ≤ 1000) (hP : 0 < T.length) {ch : Int32} : Met l jt_y_i2 (Cond.code jt_y_i2 jt_c_i2 3 (some .int) :: gtbl) (jt_rm 2 48) (jt_P b0 ra cA dC dI L xs [.ref a, .int ch, .int 0] a d T h) (g_Qc b0 ra cA dC dI L xs (.int (x_idx T ch.toInt 0)) h) 0 0 (fun q => b0 ≤ q) := by
  refine jt_met rfl (Nat.le_refl _) fun p e s m below meth c ls C G N J hl => ?_
  obtain ⟨F, hlk, hr⟩ := C
  obtain ⟨hx, hb, hml, hown, hw⟩ := id F
  have S : va_S (fun q => b0 ≤ q) s.heap s.heap [] := va_S.rf
  refine lv_aload_n hx hb jt_d_i2_0 rfl (lv_at hl 0 rfl) ?_
  refine jt_callV (As := []) (rest := []) F G J N S jt_latin jt_w159 jt_w109 jt_w156 jt_w157 jt_w158 ⟨by decide, by decide, by decide +kernel⟩ ⟨by show 1 ≤ 2; decide, by show 20 ≤ 48; decide⟩ hl.1 (by decide) jt_d_i2_1 ⟨Nat.le_refl _, Nat.le_refl _⟩ fun H1 locs1 N1 S1 => ?_
  refine lv_if_eq hx hb (tgt := 23) jt_d_i2_4 rfl (fun q => absurd q (by decide)) (fun _ => ?_)
  refine lv_aload_n hx hb jt_d_i2_7 rfl (lv_at hl 0 rfl) ?_
  refine vk_getf hx hb J.2.2.1 S1 hown (hw _ jt_w1946) (fun x hx => hx) jt_d_i2_8 ?_
  refine lv_iload_n hx hb jt_d_i2_11 rfl (lv_at hl 1 rfl) ?_
  refine lv_iload_n hx hb jt_d_i2_12 rfl (lv_at hl 2 rfl) ?_
  refine lv_aload_n hx hb jt_d_i2_13 rfl (lv_at hl 0 rfl) ?_
  refine jt_callV (As := []) F G J N1 S1 jt_length jt_w145 jt_w109 jt_w633 jt_w143 jt_w144 ⟨by decide, by decide, by decide +kernel⟩ ⟨by show 2 ≤ 2; decide, by show 40 ≤ 48; decide⟩ hl.1 (by show 3 ≤ 8; decide) jt_d_i2_14 ⟨Nat.le_refl _, Nat.le_refl _⟩ fun H2 locs2 N2 S2 => ?_
  refine jt_callS (av := [.ref d, .int ch, .int 0, .int (Int32.ofNat T.length)]) (rest := []) F G J N2 S2 (jt_sindex hT hN hP) jt_w636 jt_w110 jt_w634 jt_w635 ⟨by decide, by decide, show _ = some 4 by decide +kernel⟩ ⟨Nat.le_refl _, Nat.le_refl _⟩ hl.1 (by decide) jt_d_i2_17 ⟨Nat.le_refl _, Nat.le_refl _⟩ fun H3 locs3 N3 S3 => ?_
  refine lv_goto hx hb (tgt := 36) jt_d_i2_20 rfl ?_
  exact W.iret hx hb hr (fun t ht _ => ⟨rfl, by rw [ht]; exact N3, S3.F ht⟩) S3.2.2 jt_d_i2_36 hlk
theorem jt_index1 (hT : ∀ q ∈ T, q < 128) (hN : T.length ≤ 1000) (hP : 0 < T.length) {ch : Int32} : Met l jt_y_i1 (Cond.code jt_y_i1 jt_c_i1 2 (some .int) :: gtbl) (jt_rm 3 70) (jt_P b0 ra cA dC dI L xs [.ref a, .int ch] a d T h) (g_Qc b0 ra cA dC dI L xs (.int (x_idx T ch.toInt 0)) h) 0 0 (fun q => b0 ≤ q) := by
  refine jt_met rfl (Nat.le_refl _) fun p e s m below meth c ls C G N J hl => ?_
  obtain ⟨F, hlk, hr⟩ := C
  obtain ⟨hx, hb, hml, hown, hw⟩ := id F
  have S : va_S (fun q => b0 ≤ q) s.heap s.heap [] := va_S.rf
  refine lv_aload_n hx hb jt_d_i1_0 rfl (lv_at hl 0 rfl) ?_
  refine lv_iload_n hx hb jt_d_i1_1 rfl (lv_at hl 1 rfl) ?_
  refine lv_iconst hx hb (v := 0) jt_d_i1_2 rfl ?_
  refine jt_callV (As := [.int ch, .int 0]) (rest := []) F G J N S (jt_index2 hT hN hP) jt_w632 jt_w109 jt_w629 jt_w630 jt_w631 ⟨by decide, by decide, show _ = some 2 by decide +kernel⟩ ⟨Nat.le_refl _, Nat.le_refl _⟩ hl.1 (by decide) jt_d_i1_3 ⟨Nat.le_refl _, Nat.le_refl _⟩ fun H1 locs1 N1 S1 => ?_
  exact W.iret hx hb hr (fun t ht _ => ⟨rfl, by rw [ht]; exact N1, S1.F ht⟩) S1.2.2 jt_d_i1_6 hlk
end JU
