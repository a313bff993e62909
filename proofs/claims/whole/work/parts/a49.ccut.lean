/-! TOKENS: the one side cuts them -/
def oL (a : Nat) : Int64 := Int64.ofNat a
theorem uL_inj {x y : Int64} (h : uL x = uL y) : x = y := Int64.toBitVec_inj.mp (BitVec.eq_of_toNat_eq h)
theorem uL_oL {a : Nat} (h : a < 18446744073709551616) : uL (oL a) = a := by
  show (BitVec.ofNat 64 a).toNat = a
  rw [BitVec.toNat_ofNat]
  exact Nat.mod_eq_of_lt h
theorem oL_inj {a b : Nat} (ha : a < 18446744073709551616) (hb : b < 18446744073709551616) (h : oL a = oL b) : a = b := by rw [← uL_oL ha, ← uL_oL hb, h]
theorem uL_shl5 (x : Int64) : uL (x <<< ((5 : Int32).toInt64 &&& 63)) = (uL x * 32) % 18446744073709551616 := by
  rw [show ((5 : Int32).toInt64 &&& 63) = 5 by decide]
  show (x <<< (5 : Int64)).toBitVec.toNat = _
  rw [Int64.toBitVec_shiftLeft, show ((5 : Int64).toBitVec.smod 64) = 5#64 by decide, BitVec.shiftLeft_eq', BitVec.toNat_shiftLeft, Nat.shiftLeft_eq]
  rfl
theorem uL_mul {a b : Int64} : uL (a * b) = (uL a * uL b) % 18446744073709551616 := by
  show (a * b).toBitVec.toNat = _
  rw [Int64.toBitVec_mul, BitVec.toNat_mul]
  rfl
theorem lt_oL : ∀ k, k < 256 → isL k = true → ((sx k - 97) + 1).toInt64 = oL (k - 96) := by decide +kernel
theorem dg_oL : ∀ k, k < 128 → (sx k).toInt64 = oL k := by decide +kernel
theorem wl_oL {a k : Nat} (ha : a < 2 ^ 40) (hk : k < 256) (hl : isL k = true) : ((oL a : Int64) <<< ((5 : Int32).toInt64 &&& 63)) ||| (((sx k - 97) + 1) : Int32).toInt64 = oL (32 * a + (k - 96)) := by
  have hl2 := hl
  unfold isL at hl2
  simp at hl2
  apply uL_inj
  rw [lt_oL k hk hl, uL_or, uL_shl5, uL_oL (by omega), uL_oL (by omega), uL_oL (by omega), Nat.mod_eq_of_lt (by omega)]
  have := Nat.shiftLeft_add_eq_or_of_lt (show k - 96 < 2 ^ 5 by omega) a
  rw [Nat.shiftLeft_eq] at this
  rw [show a * 32 = a * 2 ^ 5 from rfl, ← this]
  omega
theorem dv_oL {a k : Nat} (ha : a < 2 ^ 40) (hl : isD k = true) : ((oL a : Int64) * 10) + (sx k).toInt64 - 48 = oL (10 * a + (k - 48)) := by
  unfold isD at hl
  simp at hl
  apply uL_inj
  rw [dg_oL k (by omega)]
  have e10 : uL (10 : Int64) = 10 := rfl
  have e48 : uL (48 : Int64) = 48 := rfl
  have e1 : uL (oL a * 10 + oL k) = a * 10 + k := by
    rw [uL_add, uL_mul, e10, uL_oL (by omega), uL_oL (by omega), Nat.mod_eq_of_lt (show a * 10 < 18446744073709551616 by omega), Nat.mod_eq_of_lt (by omega)]
  rw [uL_sub (by rw [e1, e48]; omega), e1, e48, uL_oL (by omega)]
  omega
section CUT
variable {h : XH} {B : Nat → Nat} {n : Nat} {Q : Value → XH → Prop}
theorem c_let {k : Nat} {K : Int32 → XH → Prop} (hs : Sh h) (hk : k < 256) (k1 : isL k = true → K (nI 1) h) (k0 : isL k = false → K (nI 0) h) : ClI 17 [.int (sx k)] h K := by
  have a := sx_L k hk
  cases e : isL k with
  | true =>
    have b := a.mp e
    exact B_17_0 hs ⟨fun z => absurd z b.1, fun _ => ⟨fun z => absurd z b.2, fun _ => ⟨_, rfl, k1 e⟩⟩⟩
  | false => exact B_17_0 hs ⟨fun _ => ⟨_, rfl, k0 e⟩, fun z => ⟨fun _ => ⟨_, rfl, k0 e⟩, fun y => by rw [a.mpr ⟨z, y⟩] at e; cases e⟩⟩
theorem c_dig {k : Nat} {K : Int32 → XH → Prop} (hs : Sh h) (hk : k < 256) (k1 : isD k = true → K (nI 1) h) (k0 : isD k = false → K (nI 0) h) : ClI 19 [.int (sx k)] h K := by
  have a := sx_D k hk
  cases e : isD k with
  | true =>
    have b := a.mp e
    exact B_19_0 hs ⟨fun z => absurd z b.1, fun _ => ⟨fun z => absurd z b.2, fun _ => ⟨_, rfl, k1 e⟩⟩⟩
  | false => exact B_19_0 hs ⟨fun _ => ⟨_, rfl, k0 e⟩, fun z => ⟨fun _ => ⟨_, rfl, k0 e⟩, fun y => by rw [a.mpr ⟨z, y⟩] at e; cases e⟩⟩
theorem c_sgn {k : Nat} {K : Int32 → XH → Prop} (hs : Sh h) (hk : k < 256) (k1 : isS k = true → K (nI 1) h) (k0 : isS k = false → K (nI 0) h) : ClI 20 [.int (sx k)] h K := by
  have a := sx_S k hk
  cases e : isS k with
  | true =>
    have b := a.mp e
    exact B_20_0 hs ⟨fun z => absurd z b.1, fun _ => ⟨fun z => absurd z b.2, fun _ => ⟨_, rfl, k1 e⟩⟩⟩
  | false => exact B_20_0 hs ⟨fun _ => ⟨_, rfl, k0 e⟩, fun z => ⟨fun _ => ⟨_, rfl, k0 e⟩, fun y => by rw [a.mpr ⟨z, y⟩] at e; cases e⟩⟩
theorem c_blank {k : Nat} {K : Int32 → XH → Prop} (hs : Sh h) (hk : k < 256) (k1 : isW k = true → K (nI 1) h) (k0 : isW k = false → K (nI 0) h) : ClI 15 [.int (sx k)] h K := by
  have a := sx_W k hk
  refine B_15_0 hs ⟨fun z => ⟨_, rfl, k1 (a.mpr (Or.inl z))⟩, fun z1 => ⟨fun z => ⟨_, rfl, k1 (a.mpr (Or.inr (Or.inl z)))⟩, fun z2 => ⟨fun z => ⟨_, rfl, k1 (a.mpr (Or.inr (Or.inr (Or.inl z))))⟩, fun z3 => ⟨fun z4 => ⟨_, rfl, k0 ?_⟩, fun z => ⟨_, rfl, k1 (a.mpr (Or.inr (Or.inr (Or.inr (Classical.not_not.mp z)))))⟩⟩⟩⟩⟩
  cases e : isW k with
  | false => rfl
  | true => rcases a.mp e with q | q | q | q <;> contradiction
/-- the words as they were made -/
def WD (h : XH) : Prop := ∀ w, w < 16 → xL h 7 w = oL (enc 32 (KW w))
theorem enc32_lt {l : List Nat} (ho : okN l) (hl : l.length ≤ 8) : enc 32 l < 2 ^ 40 := by
  have h1 := enc_lt (b := 32) (by decide) l ho
  have h2 : 32 ^ l.length ≤ 32 ^ 8 := Nat.pow_le_pow_right (by decide) hl
  omega
theorem l_kind {nm : List Nat} (hs : Sh h) (W : WD h) (ho : okN nm) (hl : nm.length ≤ 8) : ∀ (k w : Nat), w + k = 16 → Q (.int (nI (kwF nm k w))) h → Ev 18 2 [.ref 6, .long (oL (enc 32 nm)), .null, .int (nI w)] [] h Q := by
  intro k
  induction k with
  | zero =>
    intro w hk kk
    refine B_18_2 hs ?_
    try simp (disch := omega) only [lit, tn_nI, z_inb, nI_add, pk_mul, z_le, z_nle, z_lt, z_nlt, z_ne, z_m1, pk_sub, xI_ss, xI_sd, xI_n, eq_self, true_and, and_true, and_self, not_true_eq_false, not_false_eq_true, false_implies, true_implies, implies_true, Classical.not_not, forall_const, true_or, or_true, false_or, or_false, false_and, and_false, if_true, if_false, ite_true, ite_false, reduceIte, reduceCtorEq]
    exact kk
  | succ k ih =>
    intro w hk kk
    have kw := KW_ok w (by omega)
    refine B_18_2 hs ?_
    rw [tn_nI (show w < 2 ^ 31 by omega), W w (by omega), lg_cmp_eq]
    have hiff : oL (enc 32 (KW w)) = oL (enc 32 nm) ↔ KW w = nm := by
      constructor
      · intro q
        have h1 := enc32_lt kw.1 (by omega)
        have h2 := enc32_lt ho hl
        exact enc_inj (by decide) _ _ kw.1 ho (oL_inj (by omega) (by omega) q)
      · intro q; rw [q]
    have e : kwF nm (k + 1) w = if KW w = nm then 100 + w else kwF nm k (w + 1) := rfl
    refine ⟨fun z => absurd z (nI_ge (a := w) (b := 16) (by omega) (by decide)), fun _ => ⟨inb (by omega) (by decide), fun z => ?_, fun z => ?_⟩⟩
    · rw [e, if_neg (fun q => z (hiff.mpr q))] at kk
      rw [nI_1]
      exact ih (w + 1) (by omega) kk
    · rw [e, if_pos (hiff.mp (Classical.not_not.mp z))] at kk
      rw [show (100 : Int32) + nI w = nI (100 + w) from nI_add 100 w]
      exact kk
/-- bytes of the tape -/
def TB (B : Nat → Nat) (n : Nat) (h : XH) : Prop := n ≤ 2000 ∧ (∀ i, B i < 256) ∧ ∀ i, i < n → xI h 5 i = sx (B i)
theorem l_w208 {m i j : Nat} {x5 : Int64} (hs : Sh h) (hm : m ≤ 400) (e4 : xI h 6 4 = nI m) (kk : Q (.int (nI j)) (xsL h 10 m x5)) : Ev 16 208 [.ref 6, .null, .null, .null, .int (nI j), .long x5, .null] [] h Q := by
  refine B_16_208 hs ?_
  rw [e4, tn_nI (show m < 2 ^ 31 by omega)]
  exact ⟨inb (by omega) (by decide), kk⟩
theorem l_letters {m i : Nat} (hs : Sh h) (W : WD h) (T : TB B n h) (hm : m ≤ 400) (e4 : xI h 6 4 = nI m) (hi : i < n) (hl : isL (B i) = true) (kk : ∀ v : Int64, (tK B n i = 2 → v = oL (enc 32 (ltS B i (tE B n i - i)))) → Q (.int (nI (tE B n i))) (xsL (xsI h 8 m (nI (tK B n i))) 10 m v)) :
    ∀ (k j : Nat) (v : Int64), j + k = n → i ≤ j → (∀ a, a < j - i → isL (B (i + a)) = true) → enR isL B n i = enR isL B n j → (j - i ≤ 8 → v = oL (enc 32 (ltS B i (j - i)))) → Ev 16 15 [.ref 6, .ref 5, .int (nI i), .int (nI n), .int (nI j), .long v, .null] [] h Q := by
  have n2 := T.1
  have eE : tE B n i = enR isL B n i := by unfold tE; rw [if_pos hl]
  have eK : tK B n i = if 8 < tE B n i - i then 1 else kwF (ltS B i (tE B n i - i)) 16 0 := by unfold tK; rw [if_pos hl]
  have fin : ∀ (j : Nat) (v : Int64), i ≤ j → j ≤ n → tE B n i = j → (∀ a, a < j - i → isL (B (i + a)) = true) → (j - i ≤ 8 → v = oL (enc 32 (ltS B i (j - i)))) → Ev 16 61 [.ref 6, .null, .int (nI i), .null, .int (nI j), .long v, .null] [] h Q := by
    intro j v hj hjn ej ha hv
    rw [ej] at eK kk
    refine B_16_61 hs ?_
    rw [pk_sub hj, e4, tn_nI (show m < 2 ^ 31 by omega)]
    by_cases q : j - i ≤ 8
    · refine ⟨fun _ => ?_, fun z => absurd (nI_le (a := j - i) (b := 8) q (by decide)) z⟩
      have hv := hv q
      subst hv
      rw [if_neg (by omega)] at eK
      refine B_18_0 hs (l_kind hs W (ltS_ok _ ha) (by rw [ltS_len]; exact q) 16 0 (by decide) ⟨_, rfl, hs, inb (by omega) (by decide), ?_⟩)
      rw [← eK]
      have s8 : Sh (xsI h 8 m (nI (tK B n i))) := (Fx.rf.set (S := [8]) (by decide)).sh hs (by decide)
      exact l_w208 (i := i) s8 hm (by rw [xI_n (by decide)]; exact e4) (kk _ (fun _ => rfl))
    · refine ⟨fun z => absurd z (nI_ge (a := 8) (b := j - i) (by omega) (by omega)), fun _ => ⟨inb (by omega) (by decide), ?_⟩⟩
      rw [if_pos (by omega)] at eK
      have s8 : Sh (xsI h 8 m (nI (tK B n i))) := (Fx.rf.set (S := [8]) (by decide)).sh hs (by decide)
      have kk := kk v (fun z => by rw [eK] at z; cases z)
      rw [eK] at kk s8
      exact l_w208 (i := i) s8 hm (by rw [xI_n (by decide)]; exact e4) kk
  intro k
  induction k with
  | zero =>
    intro j v hk hj ha ee hv
    refine B_16_15 hs ⟨fun _ => ?_, fun z => absurd (nI_le (by omega) (by omega)) z⟩
    exact fin j v hj (by omega) (by rw [eE, ee, enR_0 (fun q => by omega)]) ha hv
  | succ k ih =>
    intro j v hk hj ha ee hv
    have ej : xI h 5 j = sx (B j) := T.2.2 j (by omega)
    refine B_16_15 hs ⟨fun z => absurd z (nI_ge (by omega) (by omega)), fun _ => ⟨inb (by omega) (by decide), ?_⟩⟩
    rw [tn_nI (show j < 2 ^ 31 by omega), ej, nI_1, pk_sub hj]
    refine c_let hs (T.2.1 j) (fun hL => ⟨hs, fun z => absurd z (by decide), fun _ => ?_⟩) (fun hL => ⟨hs, fun _ => ?_, fun z => absurd rfl z⟩)
    · have ha' : ∀ a, a < j + 1 - i → isL (B (i + a)) = true := fun a hA => by
        by_cases e : a = j - i
        · rw [e, show i + (j - i) = j by omega]; exact hL
        · exact ha a (by omega)
      have ee' : enR isL B n i = enR isL B n (j + 1) := by rw [ee]; exact enR_1 (by omega) hL
      refine ⟨fun z => ?_, fun z => ⟨inb (by omega) (by decide), ?_⟩⟩
      · have h8 : 8 ≤ j - i := (nI_leI (a := 8) (b := j - i) (by decide) (by omega)).mp z
        exact ih (j + 1) 0 (by omega) (by omega) ha' ee' (fun q => absurd q (by omega))
      · have h8 : j - i < 8 := by
          apply Classical.byContradiction
          intro q
          exact z (nI_le (a := 8) (b := j - i) (by omega) (by omega))
        have hv := hv (by omega)
        have hlt := enc32_lt (ltS_ok (j - i) ha) (by rw [ltS_len]; omega)
        subst hv
        rw [ej]
        refine B_2_0 hs ⟨_, rfl, hs, ?_⟩
        rw [wl_oL hlt (T.2.1 j) hL]
        refine ih (j + 1) _ (by omega) (by omega) ha' ee' (fun _ => ?_)
        rw [show j + 1 - i = (j - i) + 1 by omega]
        show _ = oL (32 * enc 32 (ltS B i (j - i)) + (B (i + (j - i)) - 96))
        rw [show i + (j - i) = j by omega]
    · exact fin j v hj (by omega) (by rw [eE, ee, enR_0 (fun q => by rw [q.2] at hL; cases hL)]) ha hv
theorem dvS_lt {i : Nat} : ∀ m, (∀ a, a < m → isD (B (i + a)) = true) → dvS B i m < 10 ^ m := by
  intro m
  induction m with
  | zero => intro _; exact Nat.one_pos
  | succ m ih =>
    intro h
    have h1 := ih (fun a ha => h a (by omega))
    have h2 := h m (by omega)
    unfold isD at h2
    simp at h2
    show 10 * dvS B i m + (B (i + m) - 48) < 10 ^ (m + 1)
    rw [Nat.pow_succ]
    omega
theorem l_digits {m i : Nat} (hs : Sh h) (T : TB B n h) (hm : m ≤ 400) (e4 : xI h 6 4 = nI m) (hi : i < n) (hl0 : isL (B i) = false) (hl : isD (B i) = true) (kk : ∀ v : Int64, (tK B n i = 3 → v = oL (dvS B i (tE B n i - i))) → Q (.int (nI (tE B n i))) (xsL (xsI h 8 m (nI (tK B n i))) 10 m v)) :
    ∀ (k j : Nat) (v : Int64), j + k = n → i ≤ j → (∀ a, a < j - i → isD (B (i + a)) = true) → enR isD B n i = enR isD B n j → (j - i ≤ 4 → v = oL (dvS B i (j - i))) → Ev 16 101 [.ref 6, .ref 5, .int (nI i), .int (nI n), .int (nI j), .long v, .null] [] h Q := by
  have n2 := T.1
  have nl : ¬ isL (B i) = true := by rw [hl0]; decide
  have eE : tE B n i = enR isD B n i := by unfold tE; rw [if_neg nl, if_pos hl]
  have eK : tK B n i = if 4 < tE B n i - i then 1 else 3 := by unfold tK; rw [if_neg nl, if_pos hl]
  have fin : ∀ (j : Nat) (v : Int64), i ≤ j → j ≤ n → tE B n i = j → (j - i ≤ 4 → v = oL (dvS B i (j - i))) → Ev 16 153 [.ref 6, .null, .int (nI i), .null, .int (nI j), .long v, .null] [] h Q := by
    intro j v hj hjn ej hv
    rw [ej] at eK kk
    refine B_16_153 hs ?_
    rw [pk_sub hj, e4, tn_nI (show m < 2 ^ 31 by omega)]
    have s8 : Sh (xsI h 8 m (nI (tK B n i))) := (Fx.rf.set (S := [8]) (by decide)).sh hs (by decide)
    by_cases q : j - i ≤ 4
    · refine ⟨fun _ => ⟨inb (by omega) (by decide), ?_⟩, fun z => absurd (nI_le (a := j - i) (b := 4) q (by decide)) z⟩
      rw [if_neg (by omega)] at eK
      have kk := kk v (fun _ => hv q)
      rw [eK] at kk s8
      exact l_w208 (i := i) s8 hm (by rw [xI_n (by decide)]; exact e4) kk
    · refine ⟨fun z => absurd z (nI_ge (a := 4) (b := j - i) (by omega) (by omega)), fun _ => ⟨inb (by omega) (by decide), ?_⟩⟩
      rw [if_pos (by omega)] at eK
      have kk := kk v (fun z => by rw [eK] at z; cases z)
      rw [eK] at kk s8
      exact l_w208 (i := i) s8 hm (by rw [xI_n (by decide)]; exact e4) kk
  intro k
  induction k with
  | zero =>
    intro j v hk hj ha ee hv
    refine B_16_101 hs ⟨fun _ => ?_, fun z => absurd (nI_le (by omega) (by omega)) z⟩
    exact fin j v hj (by omega) (by rw [eE, ee, enR_0 (fun q => by omega)]) hv
  | succ k ih =>
    intro j v hk hj ha ee hv
    have ej : xI h 5 j = sx (B j) := T.2.2 j (by omega)
    refine B_16_101 hs ⟨fun z => absurd z (nI_ge (by omega) (by omega)), fun _ => ⟨inb (by omega) (by decide), ?_⟩⟩
    rw [tn_nI (show j < 2 ^ 31 by omega), ej, nI_1, pk_sub hj]
    refine c_dig hs (T.2.1 j) (fun hL => ⟨hs, fun z => absurd z (by decide), fun _ => ?_⟩) (fun hL => ⟨hs, fun _ => ?_, fun z => absurd rfl z⟩)
    · have ha' : ∀ a, a < j + 1 - i → isD (B (i + a)) = true := fun a hA => by
        by_cases e : a = j - i
        · rw [e, show i + (j - i) = j by omega]; exact hL
        · exact ha a (by omega)
      have ee' : enR isD B n i = enR isD B n (j + 1) := by rw [ee]; exact enR_1 (by omega) hL
      refine ⟨fun z => ?_, fun z => ⟨inb (by omega) (by decide), ?_⟩⟩
      · have h8 : 4 ≤ j - i := (nI_leI (a := 4) (b := j - i) (by decide) (by omega)).mp z
        exact ih (j + 1) 0 (by omega) (by omega) ha' ee' (fun q => absurd q (by omega))
      · have h8 : j - i < 4 := by
          apply Classical.byContradiction
          intro q
          exact z (nI_le (a := 4) (b := j - i) (by omega) (by omega))
        have hv := hv (by omega)
        have hlt := dvS_lt (j - i) ha
        have h10 : 10 ^ (j - i) ≤ 10 ^ 4 := Nat.pow_le_pow_right (by decide) (by omega)
        subst hv
        rw [ej, dv_oL (by omega) hL]
        refine ih (j + 1) _ (by omega) (by omega) ha' ee' (fun _ => ?_)
        rw [show j + 1 - i = (j - i) + 1 by omega]
        show _ = oL (10 * dvS B i (j - i) + (B (i + (j - i)) - 48))
        rw [show i + (j - i) = j by omega]
    · exact fin j v hj (by omega) (by rw [eE, ee, enR_0 (fun q => by rw [q.2] at hL; cases hL)]) hv
theorem c_cutOne {m i : Nat} {K : Int32 → XH → Prop} (hs : Sh h) (W : WD h) (T : TB B n h) (hm : m ≤ 400) (e4 : xI h 6 4 = nI m) (hi : i < n) (k : ∀ v : Int64, (tK B n i = 2 → v = oL (enc 32 (ltS B i (tE B n i - i)))) → (tK B n i = 3 → v = oL (dvS B i (tE B n i - i))) → K (nI (tE B n i)) (xsL (xsI h 8 m (nI (tK B n i))) 10 m v)) : ClI 16 [.ref 6, .ref 5, .int (nI i), .int (nI n)] h K := by
  have n2 := T.1
  have ei : xI h 5 i = sx (B i) := T.2.2 i hi
  refine B_16_0 hs ?_
  rw [tn_nI (show i < 2 ^ 31 by omega), ei, nI_1]
  refine ⟨inb (by omega) (by decide), c_let hs (T.2.1 i) (fun hL => ⟨hs, fun z => absurd z (by decide), fun _ => ?_⟩) (fun hL => ⟨hs, fun _ => ⟨inb (by omega) (by decide), ?_⟩, fun z => absurd rfl z⟩)⟩
  · refine l_letters hs W T hm e4 hi hL (fun v hv => ⟨_, rfl, k v hv (fun z => ?_)⟩) (n - i) i 0 (by omega) (Nat.le_refl _) (fun a ha => absurd ha (by omega)) rfl (fun _ => by rw [Nat.sub_self]; rfl)
    have eK : tK B n i = if 8 < tE B n i - i then 1 else kwF (ltS B i (tE B n i - i)) 16 0 := by unfold tK; rw [if_pos hL]
    rw [eK] at z
    split at z
    · cases z
    · rcases kwF_r (nm := ltS B i (tE B n i - i)) 16 0 rfl with q | q <;> omega
  · have nl : ¬ isL (B i) = true := by rw [hL]; decide
    rw [ei]
    refine c_dig hs (T.2.1 i) (fun hD => ⟨hs, fun z => absurd z (by decide), fun _ => ?_⟩) (fun hD => ⟨hs, fun _ => ⟨inb (by omega) (by decide), ?_⟩, fun z => absurd rfl z⟩)
    · refine l_digits hs T hm e4 hi hL hD (fun v hv => ⟨_, rfl, k v (fun z => ?_) hv⟩) (n - i) i 0 (by omega) (Nat.le_refl _) (fun a ha => absurd ha (by omega)) rfl (fun _ => by rw [Nat.sub_self]; rfl)
      have eK : tK B n i = if 4 < tE B n i - i then 1 else 3 := by unfold tK; rw [if_neg nl, if_pos hD]
      rw [eK] at z
      split at z <;> cases z
    · have nd : ¬ isD (B i) = true := by rw [hD]; decide
      have eE : tE B n i = i + 1 := by unfold tE; rw [if_neg nl, if_neg nd]
      have eK : tK B n i = if isS (B i) = true then B i else 1 := by unfold tK; rw [if_neg nl, if_neg nd]
      rw [← eE]
      have s8 : Sh (xsI h 8 m (nI (tK B n i))) := (Fx.rf.set (S := [8]) (by decide)).sh hs (by decide)
      rw [ei, e4, tn_nI (show m < 2 ^ 31 by omega)]
      refine c_sgn hs (T.2.1 i) (fun hS => ⟨hs, fun z => absurd z (by decide), fun _ => ⟨inb (by omega) (by decide), inb (by omega) (by decide), ?_⟩⟩) (fun hS => ⟨hs, fun _ => ⟨inb (by omega) (by decide), ?_⟩, fun z => absurd rfl z⟩)
      · rw [if_pos hS] at eK
        have hb : B i < 128 ∧ B i ≠ 2 ∧ B i ≠ 3 := by unfold isS at hS; simp at hS; omega
        have kk := k 0 (fun z => by rw [eK] at z; exact absurd z hb.2.1) (fun z => by rw [eK] at z; exact absurd z hb.2.2)
        rw [ei, sx_n _ hb.1]
        rw [eK] at kk s8
        exact l_w208 (i := i) s8 hm (by rw [xI_n (by decide)]; exact e4) ⟨_, rfl, kk⟩
      · rw [if_neg (by rw [hS]; decide)] at eK
        have kk := k 0 (fun z => by rw [eK] at z; cases z) (fun z => by rw [eK] at z; cases z)
        rw [eK] at kk s8
        exact l_w208 (i := i) s8 hm (by rw [xI_n (by decide)]; exact e4) ⟨_, rfl, kk⟩
/-- what the parser can come to -/
def rch (B : Nat → Nat) (n j : Nat) : Prop := j ≤ 400 ∧ ∀ i, i < j → kS B n i ≠ 0 ∧ kS B n i ≠ 1
/-- token j as the one side holds it -/
def cT1 (B : Nat → Nat) (n j : Nat) (h : XH) : Prop := xI h 8 j = nI (kS B n j) ∧ xI h 9 j = nI (pS B n j) ∧ (kS B n j = 2 → xL h 10 j = oL (enc 32 (nS B n j))) ∧ (kS B n j = 3 → xL h 10 j = oL (vS B n j))
def cTk (B : Nat → Nat) (n : Nat) (h : XH) : Prop := ∀ j, rch B n j → cT1 B n j h
abbrev SCu : List Nat := [6, 8, 9]
theorem l_cut {h0 : XH} (hs : Sh h0) (W : WD h0) (T : TB B n h0) (kk : ∀ h1, Lx SCu [10] h0 h1 → (∀ j, j ≠ 4 → xI h1 6 j = xI h0 6 j) → cTk B n h1 → Q .null h1) :
    ∀ (k i e m mo : Nat) (h : XH), i + k = n → e ≤ n → Lx SCu [10] h0 h → (∀ j, j ≠ 4 → xI h 6 j = xI h0 6 j) → xI h 6 4 = nI m → (∀ j, j < m → cT1 B n j h) → (mo = 1 → m ≤ 400 ∧ pS B n m = enR isW B n (max i e) ∧ ∀ j, j < m → kS B n j ≠ 0 ∧ kS B n j ≠ 1) → (mo = 0 → m ≤ 401 ∧ (m = 401 ∨ (1 ≤ m ∧ kS B n (m - 1) = 1))) → (mo = 0 ∨ mo = 1) → Ev 14 13 [.ref 6, .ref 5, .int (nI n), .int (nI e), .int (nI mo), .int (nI i)] [] h Q := by
  have n2 := T.1
  have stop : ∀ (m mo : Nat) (h : XH), Lx SCu [10] h0 h → (∀ j, j ≠ 4 → xI h 6 j = xI h0 6 j) → xI h 6 4 = nI m → (∀ j, j < m → cT1 B n j h) → m ≤ 401 → (m = 401 ∨ (1 ≤ m ∧ kS B n (m - 1) = 1) ∨ (pS B n m = n)) → InB (xI h 6 4) 402 ∧ (InB (xI (xsI h 8 (tn (xI h 6 4)) 0) 6 4) 402 ∧ (Q .null (xsI (xsI h 8 (tn (xI h 6 4)) 0) 9 (tn (xI (xsI h 8 (tn (xI h 6 4)) 0) 6 4)) (nI n)))) := by
    intro m mo h f f6 e4 hT hm hc
    have e4' : xI (xsI h 8 m 0) 6 4 = nI m := by rw [xI_n (by decide)]; exact e4
    rw [e4, tn_nI (show m < 2 ^ 31 by omega), e4', tn_nI (show m < 2 ^ 31 by omega)]
    refine ⟨inb (by omega) (by decide), inb (by omega) (by decide), kk _ ((f.set (by decide)).set (by decide)) (fun j hj => by rw [xI_n (by decide), xI_n (by decide)]; exact f6 j hj) (fun j hj => ?_)⟩
    by_cases q : j < m
    · obtain ⟨t1, t2, t3, t4⟩ := hT j q
      refine ⟨?_, ?_, t3, t4⟩
      · rw [xI_n (by decide), xI_sd (by omega)]; exact t1
      · rw [xI_sd (by omega), xI_n (by decide)]; exact t2
    · have jm : j = m := by
        apply Classical.byContradiction
        intro ne
        have r := hj.2 m (by omega)
        rcases hc with z | z | z
        · have := hj.1; omega
        · exact (hj.2 (m - 1) (by omega)).2 z.2
        · apply r.1; unfold kS; rw [if_neg (by omega)]
      subst jm
      have pn : pS B n j = n := by
        rcases hc with z | z | z
        · have := hj.1; omega
        · exact absurd z.2 (hj.2 (j - 1) (by omega)).2
        · exact z
      have k0 : kS B n j = 0 := by unfold kS; rw [if_neg (by omega)]
      refine ⟨?_, ?_, fun z => (by rw [k0] at z; cases z), fun z => (by rw [k0] at z; cases z)⟩
      · rw [xI_n (by decide), xI_ss, k0]; rfl
      · rw [xI_ss, pn]
  intro k
  induction k with
  | zero =>
    intro i e m mo h hk he f f6 e4 hT h1 h0' hmo
    refine B_14_13 (f.sh hs (by decide)) ⟨fun _ => ?_, fun z => absurd (nI_le (by omega) (by omega)) z⟩
    rcases hmo with q | q
    · have := h0' q
      exact stop m mo h f f6 e4 hT this.1 (by rcases this.2 with z | z; exact Or.inl z; exact Or.inr (Or.inl z))
    · obtain ⟨a, b, d⟩ := h1 q
      refine stop m mo h f f6 e4 hT (by omega) (Or.inr (Or.inr ?_))
      rw [b, show max i e = n by omega, enR_0 (fun q => by omega)]
  | succ k ih =>
    intro i e m mo h hk he f f6 e4 hT h1 h0' hmo
    have s' := f.sh hs (by decide)
    have W' : WD h := fun w hw => by rw [f.al (by decide)]; exact W w hw
    have T' : TB B n h := ⟨T.1, T.2.1, fun i hi => by rw [f.at (by decide)]; exact T.2.2 i hi⟩
    refine B_14_13 s' ⟨fun z => absurd z (nI_ge (by omega) (by omega)), fun _ => ⟨fun z => ?_, fun z => ?_⟩⟩
    · have q : mo = 0 := by
        rcases hmo with q | q
        · exact q
        · subst q; exact absurd z (by decide)
      have := h0' q
      exact stop m mo h f f6 e4 hT this.1 (by rcases this.2 with z | z; exact Or.inl z; exact Or.inr (Or.inl z))
    · have q : mo = 1 := by
        rcases hmo with q | q
        · subst q; exact absurd rfl z
        · exact q
      subst q
      obtain ⟨a, b, d⟩ := h1 rfl
      rw [nI_1]
      refine ⟨fun y => ?_, fun y => ⟨inb (by omega) (by decide), ?_⟩⟩
      · have hie : i < e := (nI_ltI (by omega) (by omega)).mp y
        exact ih (i + 1) e m 1 h (by omega) he f f6 e4 hT (fun _ => ⟨a, by rw [b, show max i e = max (i + 1) e by omega], d⟩) (fun q => by cases q) (Or.inr rfl)
      · have hie : e ≤ i := by
          apply Classical.byContradiction
          intro q
          exact y (nI_lt (by omega) (by omega))
        have ei : xI h 5 i = sx (B i) := T'.2.2 i (by omega)
        rw [tn_nI (show i < 2 ^ 31 by omega), ei]
        refine c_blank s' (T.2.1 i) (fun hW => ⟨s', fun _ => ?_, fun z => absurd (by decide : ¬ nI 1 = (0 : Int32)) z⟩) (fun hW => ⟨s', fun z => absurd rfl z, fun _ => ?_⟩)
        · exact ih (i + 1) e m 1 h (by omega) he f f6 e4 hT (fun _ => ⟨a, by rw [b, show max i e = i by omega, show max (i + 1) e = i + 1 by omega]; exact enR_1 (by omega) hW, d⟩) (fun q => by cases q) (Or.inr rfl)
        · have pm : pS B n m = i := by rw [b, show max i e = i by omega, enR_0 (fun q => by rw [q.2] at hW; cases hW)]
          have km : kS B n m = tK B n i := by unfold kS; rw [pm, if_pos (by omega)]
          rw [e4, tn_nI (show m < 2 ^ 31 by omega)]
          refine ⟨inb (by omega) (by decide), ?_⟩
          have f9 : Lx SCu [10] h0 (xsI h 9 m (nI i)) := f.set (by decide)
          have s9 := f9.sh hs (by decide)
          have W9 : WD (xsI h 9 m (nI i)) := W'
          have T9 : TB B n (xsI h 9 m (nI i)) := ⟨T.1, T.2.1, fun j hj => by rw [xI_n (by decide)]; exact T'.2.2 j hj⟩
          have e49 : xI (xsI h 9 m (nI i)) 6 4 = nI m := by rw [xI_n (by decide)]; exact e4
          refine c_cutOne s9 W9 T9 a e49 (by omega) (fun v v2 v3 => ?_)
          have fz : Lx SCu [10] h0 (xsL (xsI (xsI h 9 m (nI i)) 8 m (nI (tK B n i))) 10 m v) := (f9.set (by decide)).setL (by decide)
          have i8 : xI (xsL (xsI (xsI h 9 m (nI i)) 8 m (nI (tK B n i))) 10 m v) 8 = up (xI h 8) m (nI (tK B n i)) := by
            show xI (xsI (xsI h 9 m (nI i)) 8 m (nI (tK B n i))) 8 = _
            rw [xI_s, xI_n (by decide)]
          have i9 : xI (xsL (xsI (xsI h 9 m (nI i)) 8 m (nI (tK B n i))) 10 m v) 9 = up (xI h 9) m (nI i) := by
            show xI (xsI (xsI h 9 m (nI i)) 8 m (nI (tK B n i))) 9 = _
            rw [xI_n (by decide), xI_s]
          have i6 : xI (xsL (xsI (xsI h 9 m (nI i)) 8 m (nI (tK B n i))) 10 m v) 6 = xI h 6 := by
            show xI (xsI (xsI h 9 m (nI i)) 8 m (nI (tK B n i))) 6 = _
            rw [xI_n (by decide), xI_n (by decide)]
          have iL : xL (xsL (xsI (xsI h 9 m (nI i)) 8 m (nI (tK B n i))) 10 m v) 10 = up (xL h 10) m v := xL_s
          generalize xsL (xsI (xsI h 9 m (nI i)) 8 m (nI (tK B n i))) 10 m v = hz at fz i8 i9 i6 iL ⊢
          have t9 := tE_in (B := B) (show i < n by omega)
          have e8 : xI hz 8 m = nI (tK B n i) := by rw [i8, up_same]
          have e4z : xI hz 6 4 = nI m := by rw [i6]; exact e4
          have newT : ∀ j, j < m + 1 → cT1 B n j (xsI hz 6 4 (nI (m + 1))) := fun j hj => by
            unfold cT1
            rw [xI_n (by decide), xI_n (by decide)]
            show _ ∧ _ ∧ (_ → xL hz 10 j = _) ∧ (_ → xL hz 10 j = _)
            rw [i8, i9, iL]
            by_cases e : j = m
            · subst e
              rw [up_same, up_same, up_same, km]
              refine ⟨rfl, by rw [pm], fun q => ?_, fun q => ?_⟩
              · rw [v2 q]; unfold nS; rw [pm]
              · rw [v3 q]; unfold vS; rw [pm]
            · rw [up_ne e, up_ne e, up_ne e]
              exact hT j (by omega)
          have f7 : Lx SCu [10] h0 (xsI hz 6 4 (nI (m + 1))) := fz.set (by decide)
          have f67 : ∀ j, j ≠ 4 → xI (xsI hz 6 4 (nI (m + 1))) 6 j = xI h0 6 j := fun j hj => by rw [xI_sd hj, i6]; exact f6 j hj
          rw [e4z, tn_nI (show m < 2 ^ 31 by omega), e8, nI_1]
          have tkr : tK B n i = 1 ∨ tK B n i ≠ 1 := by omega
          have tk116 : tK B n i < 2 ^ 31 := by
            unfold tK
            have := T.2.1 i
            split
            · split
              · omega
              · rcases kwF_r (nm := ltS B i (tE B n i - i)) 16 0 rfl with q | q <;> omega
            · split
              · split <;> omega
              · split <;> omega
          refine ⟨fz.sh hs (by decide), inb (by omega) (by decide), fun z => ?_, fun z => ⟨fun w => ?_, fun w => ?_⟩⟩
          · have tk1 : tK B n i = 1 := (nI_eq (b := 1) tk116 (by decide)).mp z
            exact ih (i + 1) (tE B n i) (m + 1) 0 _ (by omega) t9.2 f7 f67 xI_ss newT (fun q => by cases q) (fun _ => ⟨by omega, Or.inr ⟨by omega, by rw [show m + 1 - 1 = m from rfl, km, tk1]⟩⟩) (Or.inl rfl)
          · have m4 : 400 ≤ m := (nI_leI (a := 400) (b := m) (by decide) (by omega)).mp w
            exact ih (i + 1) (tE B n i) (m + 1) 0 _ (by omega) t9.2 f7 f67 xI_ss newT (fun q => by cases q) (fun _ => ⟨by omega, Or.inl (by omega)⟩) (Or.inl rfl)
          · have m4 : m < 400 := by
              apply Classical.byContradiction
              intro q
              exact w (nI_le (a := 400) (b := m) (by omega) (by omega))
            have tk1 : tK B n i ≠ 1 := fun q => z (by rw [q]; rfl)
            have tk0 : tK B n i ≠ 0 := by
              unfold tK
              have := T.2.1 i
              split
              · split
                · omega
                · rcases kwF_r (nm := ltS B i (tE B n i - i)) 16 0 rfl with q | q <;> omega
              · split
                · split <;> omega
                · split
                  · rename_i hS
                    unfold isS at hS
                    simp at hS
                    omega
                  · omega
            refine ih (i + 1) (tE B n i) (m + 1) 1 _ (by omega) t9.2 f7 f67 xI_ss newT (fun _ => ⟨by omega, ?_, fun j hj => ?_⟩) (fun q => by cases q) (Or.inr rfl)
            · rw [pS_s (by omega), pm, show max (i + 1) (tE B n i) = tE B n i by omega]
            · by_cases e : j = m
              · subst e; rw [km]; exact ⟨tk0, tk1⟩
              · exact d j (by omega)
theorem c_cutC {h0 : XH} {K : XH → Prop} (hs : Sh h0) (W : WD h0) (T : TB B n h0) (k : ∀ h1, Lx SCu [10] h0 h1 → (∀ j, j ≠ 4 → xI h1 6 j = xI h0 6 j) → cTk B n h1 → K h1) : ClV 14 [.ref 6, .ref 5, .int (nI n)] h0 K := by
  have f4 : Lx SCu [10] h0 (xsI h0 6 4 (nI 0)) := Lx.rf.set (by decide)
  refine B_14_0 hs (l_cut (f4.sh hs (by decide)) (W : WD (xsI h0 6 4 (nI 0))) ⟨T.1, T.2.1, fun i hi => by rw [xI_n (by decide)]; exact T.2.2 i hi⟩ (fun h1 f1 e1 c1 => ⟨rfl, k h1 (f4.tr f1) (fun j hj => by rw [e1 j hj, xI_sd hj]) c1⟩) n 0 0 0 1 _ (by omega) (by omega) Lx.rf (fun _ _ => rfl) xI_ss (fun j hj => absurd hj (by omega)) (fun _ => ⟨by omega, rfl, fun j hj => absurd hj (by omega)⟩) (fun q => by cases q) (Or.inr rfl))
end CUT
