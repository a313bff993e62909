/-! CONSTRUCTORS: the words of the one side -/
def xLA (h : XH) (c : Nat) (g : Nat → Int64) : XH := (h.1, h.2.1, up h.2.2.1 c g, h.2.2.2)
theorem xLA_s {h : XH} {c j : Nat} {g : Nat → Int64} {v : Int64} : xsL (xLA h c g) c j v = xLA h c (up g j v) := by
  unfold xsL xLA
  dsimp only
  have e : up (up h.2.2.1 c g) c (up (up h.2.2.1 c g c) j v) = up h.2.2.1 c (up g j v) := by
    funext a
    by_cases q : a = c
    · subst q; rw [up_same, up_same, up_same]
    · rw [up_ne q, up_ne q, up_ne q]
  rw [e]
def chW (i : Nat) : Nat := (x_txt 2).getD i 0
def wl5 (v : Int64) (c : Nat) : Int64 := (v <<< ((5 : Int32).toInt64 &&& 63)) ||| (((nI c - 97) + 1) : Int32).toInt64
def wdN : Nat → Nat
  | 0 => 0
  | i + 1 => if chW i = 32 then wdN i + 1 else wdN i
def wdG : Nat → Nat → Int64
  | 0 => fun _ => 0
  | i + 1 => if chW i = 32 then wdG i else up (wdG i) (wdN i) (wl5 (wdG i (wdN i)) (chW i))
theorem wdN_lt : ∀ i, i < 77 → wdN i < 16 := by decide +kernel
theorem chW_lt : ∀ i, i < 77 → chW i < 256 := by decide +kernel
theorem wd_all : ∀ w, w < 16 → wdG 77 w = oL (enc 32 (KW w)) := by decide +kernel
theorem txt_len : (x_txt 2).length = 77 := by decide +kernel
theorem c_wl {x0 : Int64} {x2 : Int32} {h : XH} {K : Int64 → XH → Prop} (k : K (((x0 : Int64) <<< ((5 : Int32).toInt64 &&& 63)) ||| (((x2 - 97) + 1) : Int32).toInt64) h) : ClL 2 [.long x0, .int x2] h K := by
  show Ev 2 0 (x_ini 2 [.long x0, .int x2]) [] h _
  rw [show x_ini 2 [.long x0, .int x2] = [.long x0, .null, .int x2] from x_inid ml_2 rfl]
  refine e_ll o_2_0 rfl ?_
  refine e_c 5 o_2_1 rfl ?_
  refine e_lshl o_2_2 ?_
  refine e_il o_2_3 rfl ?_
  refine e_c 97 o_2_4 rfl ?_
  refine e_bin o_2_6 rfl ?_
  refine e_c 1 o_2_7 rfl ?_
  refine e_bin o_2_8 rfl ?_
  refine e_i2l o_2_9 ?_
  refine e_lbin o_2_10 rfl ?_
  exact e_retL o_2_11 ⟨_, rfl, k⟩
section RDL
variable {h : XH} {Q : Value → XH → Prop} {a c : Nat}
set_option maxHeartbeats 4000000 in
theorem l_words (hk : xK h a = 14) (hr : xR h a 9 = c) (hc0 : c ≠ 0) (hkc : xK h c = 4) (hn : xN h c = 16) (kk : Q .null (xLA h c (wdG 77))) : ∀ (k i : Nat), i + k = 77 → Ev 1 67 [.ref a, .int (nI (wdN i)), .int (nI i), .null] [] (xLA h c (wdG i)) Q := by
  have plen : ∀ (st : List Value) (h : XH), (st.map fun v => v.category).sum ≤ 8 → x_prim 1102 (.ref 2 :: st) h = some (.int (nI 77) :: st) := by
    intro st h hst
    show (if ((2 : Nat) = 2 ∨ (2 : Nat) = 3) ∧ (st.map fun v => v.category).sum ≤ 8 then some (.int (Int32.ofNat (x_txt 2).length) :: st) else none) = _
    rw [if_pos ⟨Or.inl rfl, hst⟩, txt_len]
    rfl
  have pch : ∀ (i : Nat) (st : List Value) (h : XH), i < 77 → (st.map fun v => v.category).sum ≤ 8 → x_prim 1103 (.int (nI i) :: .ref 2 :: st) h = some (.int (nI (chW i)) :: st) := by
    intro i st h hi hst
    have e1 : (nI i).toNatClampNeg = i := tn_nI (by omega)
    show (if ((2 : Nat) = 2 ∨ (2 : Nat) = 3) ∧ ¬ (nI i < 0 ∨ (x_txt 2).length ≤ (nI i).toNatClampNeg) ∧ (st.map fun v => v.category).sum ≤ 8 then some (.int (Int32.ofNat ((x_txt 2).getD (nI i).toNatClampNeg 0)) :: st) else none) = _
    rw [if_pos ⟨Or.inl rfl, fun z => by
      rcases z with z | z
      · exact absurd z (nI_pos (by omega))
      · rw [txt_len, e1] at z; omega, hst⟩, e1]
    rfl
  intro k
  induction k with
  | zero =>
    intro i hi
    have : i = 77 := by omega
    subst this
    refine e_il o_1_67 rfl ?_
    refine e_cst o_1_68 ?_
    refine ev_prim o_1_70 (plen _ _ (Nat.le_of_ble_eq_true rfl)) ?_
    refine e_if_3 o_1_73 (fun z => ?_) (fun z => absurd (Int32.le_refl _) z)
    exact e_ret0 o_1_123 kk
  | succ k ih =>
    intro i hi
    have w16 := wdN_lt i (by omega)
    have c256 := chW_lt i (by omega)
    have nx : ∀ (w : Nat) (g : Nat → Int64), w = wdN (i + 1) → g = wdG (i + 1) → Ev 1 117 [.ref a, .int (nI w), .int (nI i), .int (nI (chW i))] [] (xLA h c g) Q := by
      intro w g hw hg
      subst hw hg
      refine e_inc (ls' := [.ref a, .int (nI (wdN (i + 1))), .int (nI (i + 1)), .int (nI (chW i))]) o_1_117 rfl (nI_1 i) rfl ?_
      refine e_go o_1_120 ?_
      exact Ev.less (ls := [.ref a, .int (nI (wdN (i + 1))), .int (nI (i + 1)), .null]) ⟨Or.inr rfl, Or.inr rfl, Or.inr rfl, Or.inl rfl, trivial⟩ (ih (i + 1) (by omega))
    refine e_il o_1_67 rfl ?_
    refine e_cst o_1_68 ?_
    refine ev_prim o_1_70 (plen _ _ (Nat.le_of_ble_eq_true rfl)) ?_
    refine e_if_3 o_1_73 (fun z => absurd z (nI_ge (by omega) (by omega))) (fun _ => ?_)
    refine e_il o_1_76 rfl ?_
    refine e_c 16 o_1_77 rfl ?_
    refine e_if_3 o_1_79 (fun z => absurd z (nI_ge (a := wdN i) (b := 16) (by omega) (by decide))) (fun _ => ?_)
    refine e_cst o_1_82 ?_
    refine e_il o_1_84 rfl ?_
    refine ev_prim o_1_85 (pch i _ _ (by omega) (Nat.le_of_ble_eq_true rfl)) ?_
    refine e_is (ls' := [.ref a, .int (nI (wdN i)), .int (nI i), .int (nI (chW i))]) o_1_88 (Nat.le_of_ble_eq_true rfl) rfl ?_
    refine e_il o_1_89 rfl ?_
    refine e_c 32 o_1_90 rfl ?_
    have eN : wdN (i + 1) = if chW i = 32 then wdN i + 1 else wdN i := rfl
    have eG : wdG (i + 1) = if chW i = 32 then wdG i else up (wdG i) (wdN i) (wl5 (wdG i (wdN i)) (chW i)) := rfl
    refine e_if_1 o_1_92 (fun z => ?_) (fun z => ?_)
    · have ne : ¬ chW i = 32 := fun q => z (by rw [q]; rfl)
      rw [if_neg ne] at eN eG
      refine e_al o_1_101 rfl ?_
      refine e_gR (r := c) o_1_102 hk hr hc0 ?_
      refine e_il o_1_105 rfl ?_
      refine e_al o_1_106 rfl ?_
      refine e_gR (r := c) o_1_107 hk hr hc0 ?_
      refine e_il o_1_110 rfl ?_
      have ib : InB (nI (wdN i)) 16 := inb w16 (by decide)
      refine e_la (n := 16) o_1_111 hkc hn ib ?_
      refine e_il o_1_112 rfl ?_
      have ex : xL (xLA h c (wdG i)) c (tn (nI (wdN i))) = wdG i (wdN i) := by
        rw [tn_nI (by omega)]
        show up h.2.2.1 c (wdG i) c (wdN i) = _
        rw [up_same]
      refine e_clL (as := [.long (xL (xLA h c (wdG i)) c (tn (nI (wdN i)))), .int (nI (chW i))]) (rest := [.int (nI (wdN i)), .ref c]) (K := fun v h1 => v = wl5 (wdG i (wdN i)) (chW i) ∧ h1 = xLA h c (wdG i)) o_1_113 rfl rfl (x_okd cl_1_2 ml_2 (Nat.le_of_ble_eq_true rfl) (Nat.le_of_ble_eq_true rfl)) rfl (c_wl ⟨by rw [ex]; rfl, rfl⟩) ?_
      rintro v h1 ⟨rfl, rfl⟩
      refine e_las (n := 16) o_1_116 hkc hn ib ?_
      rw [tn_nI (by omega), xLA_s]
      exact nx (wdN i) _ eN.symm eG.symm
    · have eq : chW i = 32 := (nI_eq (b := 32) (by omega) (by decide)).mp (Classical.not_not.mp z)
      rw [if_pos eq] at eN eG
      refine e_inc (ls' := [.ref a, .int (nI (wdN i + 1)), .int (nI i), .int (nI (chW i))]) o_1_95 rfl (nI_1 _) rfl ?_
      refine e_go o_1_98 ?_
      exact nx (wdN i + 1) _ eN.symm eG.symm
end RDL
def rdH (a t : Nat) (h : XH) : XH := xLA (rdH0 a t h) t (wdG 77)
