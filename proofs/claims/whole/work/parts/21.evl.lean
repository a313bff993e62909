/-! one instruction of the pure machine, goal first; the cells' kinds as premises -/
abbrev tn (i : Int32) : Nat := i.toNatClampNeg
def InB (i : Int32) (n : Nat) : Prop := ¬ (i < 0 ∨ n ≤ i.toNatClampNeg)
section E
variable {mi pc : Nat} {ls st : List Value} {h : XH} {Q : Value → XH → Prop} {imm : Int} {x y nx : Nat} {sw : List (Int × Nat)}
theorem e_c (v : Int32) (ho : x_ops mi pc = some (0, imm, x, y, nx, sw)) (hv : Int32.ofInt imm = v) (k : Ev mi nx ls (.int v :: st) h Q) : Ev mi pc ls st h Q := by
  subst hv
  exact ev_step ho (by decide) rfl k
theorem e_lc (v : Int64) (ho : x_ops mi pc = some (19, imm, x, y, nx, sw)) (hv : Int64.ofInt imm = v) (k : Ev mi nx ls (.long v :: st) h Q) : Ev mi pc ls st h Q := by
  subst hv
  exact ev_step ho (by decide) rfl k
theorem e_il {v : Int32} (ho : x_ops mi pc = some (1, imm, x, y, nx, sw)) (hl : ls[x]? = some (.int v)) (k : Ev mi nx ls (.int v :: st) h Q) : Ev mi pc ls st h Q := ev_step ho (by decide) (by simp [x_step, hl]) k
theorem e_al {v : Nat} (ho : x_ops mi pc = some (2, imm, x, y, nx, sw)) (hl : ls[x]? = some (.ref v)) (k : Ev mi nx ls (.ref v :: st) h Q) : Ev mi pc ls st h Q := ev_step ho (by decide) (by simp [x_step, hl]) k
theorem e_ll {v : Int64} (ho : x_ops mi pc = some (3, imm, x, y, nx, sw)) (hl : ls[x]? = some (.long v)) (k : Ev mi nx ls (.long v :: st) h Q) : Ev mi pc ls st h Q := ev_step ho (by decide) (by simp [x_step, hl]) k
theorem e_is {v : Int32} {ls' : List Value} (ho : x_ops mi pc = some (4, imm, x, y, nx, sw)) (hl : x < ls.length) (hs : x_set1 ls x (.int v) = ls') (k : Ev mi nx ls' st h Q) : Ev mi pc ls (.int v :: st) h Q := by
  subst hs
  exact ev_step ho (by decide) (if_pos hl) k
theorem e_as {v : Nat} {ls' : List Value} (ho : x_ops mi pc = some (5, imm, x, y, nx, sw)) (hl : x < ls.length) (hs : x_set1 ls x (.ref v) = ls') (k : Ev mi nx ls' st h Q) : Ev mi pc ls (.ref v :: st) h Q := by
  subst hs
  exact ev_step ho (by decide) (if_pos hl) k
theorem e_lst {v : Int64} {ls' : List Value} (ho : x_ops mi pc = some (6, imm, x, y, nx, sw)) (hl : x + 1 < ls.length) (hs : x_set2 ls x (.long v) = ls') (k : Ev mi nx ls' st h Q) : Ev mi pc ls (.long v :: st) h Q := by
  subst hs
  exact ev_step ho (by decide) (if_pos hl) k
theorem e_inc {v w : Int32} {ls' : List Value} (ho : x_ops mi pc = some (7, imm, x, y, nx, sw)) (hl : ls[x]? = some (.int v)) (hw : v + Int32.ofInt imm = w) (hs : x_set1 ls x (.int w) = ls') (k : Ev mi nx ls' st h Q) : Ev mi pc ls st h Q := by
  subst hw
  subst hs
  exact ev_step ho (by decide) (by simp [x_step, hl]) k
theorem e_bin {a b w : Int32} (ho : x_ops mi pc = some (8, imm, x, y, nx, sw)) (hw : x_bin x a b = w) (k : Ev mi nx ls (.int w :: st) h Q) : Ev mi pc ls (.int b :: .int a :: st) h Q := by
  subst hw
  exact ev_step ho (by decide) rfl k
theorem e_div {a b : Int32} (ho : x_ops mi pc = some (9, imm, x, y, nx, sw)) (hb : ¬ b = 0) (k : Ev mi nx ls (.int (a / b) :: st) h Q) : Ev mi pc ls (.int b :: .int a :: st) h Q := ev_step ho (by decide) (if_neg hb) k
theorem e_rem {a b : Int32} (ho : x_ops mi pc = some (10, imm, x, y, nx, sw)) (hb : ¬ b = 0) (k : Ev mi nx ls (.int (a - a / b * b) :: st) h Q) : Ev mi pc ls (.int b :: .int a :: st) h Q := ev_step ho (by decide) (if_neg hb) k
theorem e_lbin {a b w : Int64} (ho : x_ops mi pc = some (11, imm, x, y, nx, sw)) (hw : x_lbin x a b = w) (k : Ev mi nx ls (.long w :: st) h Q) : Ev mi pc ls (.long b :: .long a :: st) h Q := by
  subst hw
  exact ev_step ho (by decide) rfl k
theorem e_lshl {a : Int64} {b : Int32} (ho : x_ops mi pc = some (12, imm, x, y, nx, sw)) (k : Ev mi nx ls (.long (a <<< (b.toInt64 &&& 63)) :: st) h Q) : Ev mi pc ls (.int b :: .long a :: st) h Q := ev_step ho (by decide) rfl k
theorem e_lushr {a : Int64} {b : Int32} (ho : x_ops mi pc = some (13, imm, x, y, nx, sw)) (k : Ev mi nx ls (.long (a.toUInt64 >>> (b.toInt64.toUInt64 &&& Int64.toUInt64 63)).toInt64 :: st) h Q) : Ev mi pc ls (.int b :: .long a :: st) h Q := ev_step ho (by decide) rfl k
theorem e_i2l {a : Int32} (ho : x_ops mi pc = some (14, imm, x, y, nx, sw)) (k : Ev mi nx ls (.long a.toInt64 :: st) h Q) : Ev mi pc ls (.int a :: st) h Q := ev_step ho (by decide) rfl k
theorem e_l2i {a : Int64} (ho : x_ops mi pc = some (15, imm, x, y, nx, sw)) (k : Ev mi nx ls (.int a.toInt32 :: st) h Q) : Ev mi pc ls (.long a :: st) h Q := ev_step ho (by decide) rfl k
theorem e_i2b {a : Int32} (ho : x_ops mi pc = some (16, imm, x, y, nx, sw)) (k : Ev mi nx ls (.int a.toInt8.toInt32 :: st) h Q) : Ev mi pc ls (.int a :: st) h Q := ev_step ho (by decide) rfl k
theorem e_i2c {a : Int32} (ho : x_ops mi pc = some (17, imm, x, y, nx, sw)) (k : Ev mi nx ls (.int (a.toUInt32 % 65536).toInt32 :: st) h Q) : Ev mi pc ls (.int a :: st) h Q := ev_step ho (by decide) rfl k
theorem e_lcmp {a b : Int64} (ho : x_ops mi pc = some (18, imm, x, y, nx, sw)) (k : Ev mi nx ls (.int (lg_cmp a b) :: st) h Q) : Ev mi pc ls (.long b :: .long a :: st) h Q := ev_step ho (by decide) rfl k
theorem e_go (ho : x_ops mi pc = some (20, imm, x, y, nx, sw)) (k : Ev mi x ls st h Q) : Ev mi pc ls st h Q := ev_step ho (by decide) rfl k
theorem e_if {a b : Int32} {P : Prop} [Decidable P] (ho : x_ops mi pc = some (21, imm, x, y, nx, sw)) (hP : x_cmp y a b = decide P) (kt : P → Ev mi x ls st h Q) (kf : ¬ P → Ev mi nx ls st h Q) : Ev mi pc ls (.int b :: .int a :: st) h Q := by
  by_cases hp : P
  · exact ev_step ho (by decide) (by simp only [x_step, hP, decide_eq_true hp]; rfl) (kt hp)
  · exact ev_step ho (by decide) (by simp only [x_step, hP, decide_eq_false hp]; rfl) (kf hp)
theorem e_if0 {a : Int32} {P : Prop} [Decidable P] (ho : x_ops mi pc = some (22, imm, x, y, nx, sw)) (hP : x_cmp y a 0 = decide P) (kt : P → Ev mi x ls st h Q) (kf : ¬ P → Ev mi nx ls st h Q) : Ev mi pc ls (.int a :: st) h Q := by
  by_cases hp : P
  · exact ev_step ho (by decide) (by simp only [x_step, hP, decide_eq_true hp]; rfl) (kt hp)
  · exact ev_step ho (by decide) (by simp only [x_step, hP, decide_eq_false hp]; rfl) (kf hp)
theorem e_dup {v : Value} (ho : x_ops mi pc = some (23, imm, x, y, nx, sw)) (hc : v.category = 1) (k : Ev mi nx ls (v :: v :: st) h Q) : Ev mi pc ls (v :: st) h Q := ev_step ho (by decide) (if_pos hc) k
theorem e_dup2 {v w : Value} (ho : x_ops mi pc = some (24, imm, x, y, nx, sw)) (hc : v.category = 1 ∧ w.category = 1) (k : Ev mi nx ls (v :: w :: v :: w :: st) h Q) : Ev mi pc ls (v :: w :: st) h Q := ev_step ho (by decide) (if_pos hc) k
theorem e_pop {v : Value} (ho : x_ops mi pc = some (25, imm, x, y, nx, sw)) (hc : v.category = 1) (k : Ev mi nx ls st h Q) : Ev mi pc ls (v :: st) h Q := ev_step ho (by decide) (if_pos hc) k
theorem e_gI {a : Nat} (ho : x_ops mi pc = some (26, imm, x, y, nx, sw)) (hk : xK h a = 10 + x) (k : Ev mi nx ls (.int (xI h a y) :: st) h Q) : Ev mi pc ls (.ref a :: st) h Q := ev_step ho (by decide) (if_pos hk) k
theorem e_gR {a r : Nat} (ho : x_ops mi pc = some (27, imm, x, y, nx, sw)) (hk : xK h a = 10 + x) (hr : xR h a y = r) (hn : r ≠ 0) (k : Ev mi nx ls (.ref r :: st) h Q) : Ev mi pc ls (.ref a :: st) h Q := by
  subst hr
  exact ev_step ho (by decide) (if_pos ⟨hk, hn⟩) k
theorem e_pI {a : Nat} {v : Int32} (ho : x_ops mi pc = some (28, imm, x, y, nx, sw)) (hk : xK h a = 10 + x) (k : Ev mi nx ls st (xsI h a y v) Q) : Ev mi pc ls (.int v :: .ref a :: st) h Q := ev_step ho (by decide) (if_pos hk) k
theorem e_pZ {a : Nat} {v : Int32} (ho : x_ops mi pc = some (29, imm, x, y, nx, sw)) (hk : xK h a = 10 + x) (hv : v = 0 ∨ v = 1) (k : Ev mi nx ls st (xsI h a y v) Q) : Ev mi pc ls (.int v :: .ref a :: st) h Q := ev_step ho (by decide) (if_pos ⟨hk, hv⟩) k
theorem e_pR {a r : Nat} (ho : x_ops mi pc = some (30, imm, x, y, nx, sw)) (hk : xK h a = 10 + x) (hn : r ≠ 0) (k : Ev mi nx ls st (xsR h a y r) Q) : Ev mi pc ls (.ref r :: .ref a :: st) h Q := ev_step ho (by decide) (if_pos ⟨hk, hn⟩) k
theorem e_ia {a n : Nat} {i : Int32} (ho : x_ops mi pc = some (31, imm, x, y, nx, sw)) (hk : xK h a = 1) (hn : xN h a = n) (hi : InB i n) (k : Ev mi nx ls (.int (xI h a (tn i)) :: st) h Q) : Ev mi pc ls (.int i :: .ref a :: st) h Q := by
  subst hn
  exact ev_step ho (by decide) (if_pos ⟨hk, hi⟩) k
theorem e_ias {a n : Nat} {i v : Int32} (ho : x_ops mi pc = some (32, imm, x, y, nx, sw)) (hk : xK h a = 1) (h4 : 4 ≤ a) (hn : xN h a = n) (hi : InB i n) (k : Ev mi nx ls st (xsI h a (tn i) v) Q) : Ev mi pc ls (.int v :: .int i :: .ref a :: st) h Q := by
  subst hn
  exact ev_step ho (by decide) (if_pos ⟨hk, h4, hi⟩) k
theorem e_la {a n : Nat} {i : Int32} (ho : x_ops mi pc = some (33, imm, x, y, nx, sw)) (hk : xK h a = 4) (hn : xN h a = n) (hi : InB i n) (k : Ev mi nx ls (.long (xL h a (tn i)) :: st) h Q) : Ev mi pc ls (.int i :: .ref a :: st) h Q := by
  subst hn
  exact ev_step ho (by decide) (if_pos ⟨hk, hi⟩) k
theorem e_las {a n : Nat} {i : Int32} {v : Int64} (ho : x_ops mi pc = some (34, imm, x, y, nx, sw)) (hk : xK h a = 4) (hn : xN h a = n) (hi : InB i n) (k : Ev mi nx ls st (xsL h a (tn i) v) Q) : Ev mi pc ls (.long v :: .int i :: .ref a :: st) h Q := by
  subst hn
  exact ev_step ho (by decide) (if_pos ⟨hk, hi⟩) k
theorem e_ba {a n : Nat} {i : Int32} (ho : x_ops mi pc = some (35, imm, x, y, nx, sw)) (hk : xK h a = 2 ∨ xK h a = 3) (hn : xN h a = n) (hi : InB i n) (k : Ev mi nx ls (.int (xI h a (tn i)) :: st) h Q) : Ev mi pc ls (.int i :: .ref a :: st) h Q := by
  subst hn
  exact ev_step ho (by decide) (if_pos ⟨hk, hi⟩) k
theorem e_bas {a n : Nat} {i v : Int32} (ho : x_ops mi pc = some (36, imm, x, y, nx, sw)) (hk : xK h a = 2) (hn : xN h a = n) (hi : InB i n) (k : Ev mi nx ls st (xsI h a (tn i) v.toInt8.toInt32) Q) : Ev mi pc ls (.int v :: .int i :: .ref a :: st) h Q := by
  subst hn
  exact ev_step ho (by decide) (if_pos ⟨hk, hi⟩) k
theorem e_zas {a n : Nat} {i v : Int32} (ho : x_ops mi pc = some (36, imm, x, y, nx, sw)) (hk : xK h a = 3) (hv : v = 0 ∨ v = 1) (hn : xN h a = n) (hi : InB i n) (k : Ev mi nx ls st (xsI h a (tn i) v) Q) : Ev mi pc ls (.int v :: .int i :: .ref a :: st) h Q := by
  subst hn
  refine ev_step ho (by decide) ?_ k
  have : ¬ (xK h a = 2 ∧ ¬(i < 0 ∨ xN h a ≤ i.toNatClampNeg)) := fun q => by rw [hk] at q; exact absurd q.1 (by decide)
  simp only [x_step]
  rw [if_neg this, if_pos ⟨hk, hv, hi⟩]
theorem e_len {a n : Nat} (ho : x_ops mi pc = some (37, imm, x, y, nx, sw)) (hk : 1 ≤ xK h a ∧ xK h a ≤ 4) (hn : xN h a = n) (k : Ev mi nx ls (.int (Int32.ofNat n) :: st) h Q) : Ev mi pc ls (.ref a :: st) h Q := by
  subst hn
  exact ev_step ho (by decide) (if_pos hk) k
theorem e_na {n : Int32} (ho : x_ops mi pc = some (38, imm, x, y, nx, sw)) (hn : ¬ (n < 0 ∨ 60000000 < n.toNatClampNeg)) (k : Ev mi nx ls (.ref (xT h) :: st) (xnew h x (tn n)) Q) : Ev mi pc ls (.int n :: st) h Q := ev_step ho (by decide) (if_neg hn) k
theorem e_new (ho : x_ops mi pc = some (39, imm, x, y, nx, sw)) (k : Ev mi nx ls (.ref (xT h) :: st) (xnew h (10 + x) (x_nf x)) Q) : Ev mi pc ls st h Q := ev_step ho (by decide) rfl k
theorem e_cst (ho : x_ops mi pc = some (40, imm, x, y, nx, sw)) (k : Ev mi nx ls (.ref x :: st) h Q) : Ev mi pc ls st h Q := ev_step ho (by decide) rfl k
theorem e_sw {a : Int32} (ho : x_ops mi pc = some (41, imm, x, y, nx, sw)) (k : Ev mi (x_sw sw x a.toInt) ls st h Q) : Ev mi pc ls (.int a :: st) h Q := ev_step ho (by decide) rfl k
theorem e_cp {s d ns nd : Nat} {n dp sp : Int32} (ho : x_ops mi pc = some (42, imm, x, y, nx, sw)) (h1 : xK h s = 1 ∧ xK h d = 1 ∧ 4 ≤ s ∧ 4 ≤ d ∧ s ≠ d) (hns : xN h s = ns) (hnd : xN h d = nd) (h2 : ¬ sp < 0 ∧ ¬ dp < 0 ∧ ¬ n < 0 ∧ tn sp + tn n ≤ ns ∧ tn dp + tn n ≤ nd) (h3 : (st.map fun v => v.category).sum ≤ 8) (k : Ev mi nx ls st (xsA h d (va_cpy (xI h s) (xI h d) (tn sp) (tn dp) (tn n))) Q) : Ev mi pc ls (.int n :: .int dp :: .ref d :: .int sp :: .ref s :: st) h Q := by
  subst hns
  subst hnd
  exact ev_step ho (by decide) (if_pos ⟨h1.1, h1.2.1, h1.2.2.1, h1.2.2.2.1, h1.2.2.2.2, h2.1, h2.2.1, h2.2.2.1, h2.2.2.2.1, h2.2.2.2.2, h3⟩) k
theorem e_max {a b : Int32} (ho : x_ops mi pc = some (43, imm, 0, y, nx, sw)) (h3 : (st.map fun v => v.category).sum ≤ 8) (k : Ev mi nx ls (.int (if a < b then b else a) :: st) h Q) : Ev mi pc ls (.int b :: .int a :: st) h Q := ev_step ho (by decide) (if_pos h3) k
theorem e_min {a b : Int32} (ho : x_ops mi pc = some (43, imm, 1, y, nx, sw)) (h3 : (st.map fun v => v.category).sum ≤ 8) (k : Ev mi nx ls (.int (if b < a then b else a) :: st) h Q) : Ev mi pc ls (.int b :: .int a :: st) h Q := ev_step ho (by decide) (if_pos h3) k
theorem e_lmax {a b : Int64} (ho : x_ops mi pc = some (44, imm, 0, y, nx, sw)) (h3 : (st.map fun v => v.category).sum ≤ 8) (k : Ev mi nx ls (.long (if b < a then a else b) :: st) h Q) : Ev mi pc ls (.long b :: .long a :: st) h Q := ev_step ho (by decide) (if_pos h3) k
theorem e_lmin {a b : Int64} (ho : x_ops mi pc = some (44, imm, 1, y, nx, sw)) (h3 : (st.map fun v => v.category).sum ≤ 8) (k : Ev mi nx ls (.long (if b < a then b else a) :: st) h Q) : Ev mi pc ls (.long b :: .long a :: st) h Q := ev_step ho (by decide) (if_pos h3) k
theorem e_obj {a : Nat} (ho : x_ops mi pc = some (45, imm, x, y, nx, sw)) (h3 : (st.map fun v => v.category).sum ≤ 8) (k : Ev mi nx ls st h Q) : Ev mi pc ls (.ref a :: st) h Q := ev_step ho (by decide) (if_pos h3) k
theorem e_ret0 (ho : x_ops mi pc = some (60, imm, 0, y, nx, sw)) (k : Q .null h) : Ev mi pc ls [] h Q := ev_ret ho rfl k
theorem e_retI {v : Int32} (ho : x_ops mi pc = some (60, imm, 1, y, nx, sw)) (k : Q (.int v) h) : Ev mi pc ls [.int v] h Q := ev_ret ho rfl k
theorem e_retZ {v : Int32} (ho : x_ops mi pc = some (60, imm, 2, y, nx, sw)) (hv : v = 0 ∨ v = 1) (k : Q (.int v) h) : Ev mi pc ls [.int v] h Q := ev_ret ho (if_pos hv) k
theorem e_retL {v : Int64} (ho : x_ops mi pc = some (60, imm, 3, y, nx, sw)) (k : Q (.long v) h) : Ev mi pc ls [.long v] h Q := ev_ret ho rfl k
theorem e_retR {v : Nat} (ho : x_ops mi pc = some (60, imm, 4, y, nx, sw)) (k : Q (.ref v) h) : Ev mi pc ls [.ref v] h Q := ev_ret ho rfl k
/-- a call, by what it answers -/
def ClV (x : Nat) (as : List Value) (h : XH) (K : XH → Prop) : Prop := Ev x 0 (x_ini x as) [] h (fun r h1 => r = .null ∧ K h1)
def ClI (x : Nat) (as : List Value) (h : XH) (K : Int32 → XH → Prop) : Prop := Ev x 0 (x_ini x as) [] h (fun r h1 => ∃ v, r = .int v ∧ K v h1)
def ClL (x : Nat) (as : List Value) (h : XH) (K : Int64 → XH → Prop) : Prop := Ev x 0 (x_ini x as) [] h (fun r h1 => ∃ v, r = .long v ∧ K v h1)
def ClR (x : Nat) (as : List Value) (h : XH) (K : Nat → XH → Prop) : Prop := Ev x 0 (x_ini x as) [] h (fun r h1 => ∃ v, r = .ref v ∧ K v h1)
def x_okc (mi x : Nat) (rest as : List Value) : Prop := (rest.map fun v => v.category).sum ≤ 8 ∧ m_fr x + 1 ≤ m_fr mi ∧ 8 + (m_l x + 11) + m_lo x ≤ m_lo mi ∧ (x_fl as).length ≤ m_l x
theorem e_clV {as rest : List Value} {K : XH → Prop} (ho : x_ops mi pc = some (50, imm, x, y, nx, sw)) (hst : st = as.reverse ++ rest) (hy : as.length = y) (hc : x_okc mi x rest as) (hr : x_rcvb imm x as h = true) (hcl : ClV x as h K) (k : ∀ h1, K h1 → Ev mi nx ls rest h1 Q) : Ev mi pc ls st h Q := ev_call ho hst hy hc hr hcl (fun r h1 q => by obtain ⟨rfl, q⟩ := q; exact k h1 q)
theorem e_clI {as rest : List Value} {K : Int32 → XH → Prop} (ho : x_ops mi pc = some (50, imm, x, y, nx, sw)) (hst : st = as.reverse ++ rest) (hy : as.length = y) (hc : x_okc mi x rest as) (hr : x_rcvb imm x as h = true) (hcl : ClI x as h K) (k : ∀ v h1, K v h1 → Ev mi nx ls (.int v :: rest) h1 Q) : Ev mi pc ls st h Q := ev_call ho hst hy hc hr hcl (fun r h1 q => by obtain ⟨v, rfl, q⟩ := q; exact k v h1 q)
theorem e_clL {as rest : List Value} {K : Int64 → XH → Prop} (ho : x_ops mi pc = some (50, imm, x, y, nx, sw)) (hst : st = as.reverse ++ rest) (hy : as.length = y) (hc : x_okc mi x rest as) (hr : x_rcvb imm x as h = true) (hcl : ClL x as h K) (k : ∀ v h1, K v h1 → Ev mi nx ls (.long v :: rest) h1 Q) : Ev mi pc ls st h Q := ev_call ho hst hy hc hr hcl (fun r h1 q => by obtain ⟨v, rfl, q⟩ := q; exact k v h1 q)
theorem e_clR {as rest : List Value} {K : Nat → XH → Prop} (ho : x_ops mi pc = some (50, imm, x, y, nx, sw)) (hst : st = as.reverse ++ rest) (hy : as.length = y) (hc : x_okc mi x rest as) (hr : x_rcvb imm x as h = true) (hcl : ClR x as h K) (k : ∀ v h1, K v h1 → Ev mi nx ls (.ref v :: rest) h1 Q) : Ev mi pc ls st h Q := ev_call ho hst hy hc hr hcl (fun r h1 q => by obtain ⟨v, rfl, q⟩ := q; exact k v h1 q)
theorem ClV.mono {x : Nat} {as : List Value} {K K' : XH → Prop} (q : ClV x as h K) (hk : ∀ h1, K h1 → K' h1) : ClV x as h K' := Ev.mono q (fun r h1 z => ⟨z.1, hk h1 z.2⟩)
theorem ClI.mono {x : Nat} {as : List Value} {K K' : Int32 → XH → Prop} (q : ClI x as h K) (hk : ∀ v h1, K v h1 → K' v h1) : ClI x as h K' := Ev.mono q (fun r h1 z => by obtain ⟨v, e, z⟩ := z; exact ⟨v, e, hk v h1 z⟩)
theorem ClL.mono {x : Nat} {as : List Value} {K K' : Int64 → XH → Prop} (q : ClL x as h K) (hk : ∀ v h1, K v h1 → K' v h1) : ClL x as h K' := Ev.mono q (fun r h1 z => by obtain ⟨v, e, z⟩ := z; exact ⟨v, e, hk v h1 z⟩)
theorem ClR.mono {x : Nat} {as : List Value} {K K' : Nat → XH → Prop} (q : ClR x as h K) (hk : ∀ v h1, K v h1 → K' v h1) : ClR x as h K' := Ev.mono q (fun r h1 z => by obtain ⟨v, e, z⟩ := z; exact ⟨v, e, hk v h1 z⟩)
end E
/-! fewer locals known -/
def x_lle : List Value → List Value → Prop
  | [], [] => True
  | a :: r, b :: t => (a = .null ∨ a = b) ∧ x_lle r t
  | _, _ => False
def x_lef (ls ls' : List Value) : Prop := ls.length = ls'.length ∧ ∀ (i : Nat) (v : Value), ls[i]? = some v → v ≠ .null → ls'[i]? = some v
theorem x_lle_f : ∀ {ls ls' : List Value}, x_lle ls ls' → x_lef ls ls' := by
  intro ls
  induction ls with
  | nil => intro ls' h; cases ls' with
    | nil => exact ⟨rfl, fun i v hv => by simp at hv⟩
    | cons b t => cases h
  | cons a r ih => intro ls' h; cases ls' with
    | nil => cases h
    | cons b t =>
      obtain ⟨h1, h2⟩ := h
      obtain ⟨e, f⟩ := ih h2
      refine ⟨by simp [e], fun i v hv hn => ?_⟩
      cases i with
      | zero =>
        have : a = v := by simpa using hv
        subst this
        rcases h1 with q | q
        · exact absurd q hn
        · rw [q]; rfl
      | succ i => exact f i v hv hn
theorem x_set1_put {ls : List Value} {k j : Nat} {v w : Value} (h : ls[j]? = some w) (hj : j ≠ k) (hc : ¬ (j + 1 = k ∧ w.category = 2)) : (x_set1 ls k v)[j]? = some w := by
  unfold x_set1
  rw [List.getElem?_set, if_neg (fun e => hj e.symm)]
  cases k with
  | zero => exact h
  | succ i =>
    dsimp only
    split
    · rename_i h2
      rw [List.getElem?_set]
      by_cases e : i = j
      · subst e
        rw [List.getD_eq_getElem?_getD, h] at h2
        exact absurd ⟨rfl, h2⟩ hc
      · rw [if_neg e]; exact h
    · exact h
theorem x_set1_at {ls : List Value} {k : Nat} {v : Value} (h : k < ls.length) : (x_set1 ls k v)[k]? = some v := by
  have hl := x_set1_len (ls := ls) (k := k) (v := v)
  unfold x_set1 at hl ⊢
  rw [List.length_set] at hl
  rw [List.getElem?_set_self (by omega)]
theorem x_lef_set1 {ls ls' : List Value} (h : x_lef ls ls') (k : Nat) (v : Value) : x_lef (x_set1 ls k v) (x_set1 ls' k v) := by
  refine ⟨by rw [x_set1_len, x_set1_len]; exact h.1, fun j w hw hn => ?_⟩
  have hj : j < ls.length := by rw [← x_set1_len (ls := ls) (k := k) (v := v)]; exact (List.getElem?_eq_some_iff.mp hw).1
  rcases x_set1_get hw hn with ⟨rfl, rfl⟩ | ⟨h1, h2, h3⟩
  · exact x_set1_at (by rw [← h.1]; exact hj)
  · exact x_set1_put (h.2 j w h2 hn) h1 h3
theorem x_lef_set2 {ls ls' : List Value} (h : x_lef ls ls') (k : Nat) (v : Value) : x_lef (x_set2 ls k v) (x_set2 ls' k v) := by
  have h1 := x_lef_set1 h k v
  unfold x_set2
  refine ⟨by rw [List.length_set, List.length_set]; exact h1.1, fun j w hw hn => ?_⟩
  rw [List.getElem?_set] at hw ⊢
  by_cases e : k + 1 = j
  · rw [if_pos e] at hw
    have := (ite_some hw).2
    exact absurd this.symm hn
  · rw [if_neg e] at hw ⊢
    exact h1.2 j w hw hn
theorem x_step_less {code : Nat} {imm : Int} {x y nx : Nat} {sw : List (Int × Nat)} {nf : Nat → Nat} {ls ls' st l1 st' : List Value} {h h' : XH} {pc' : Nat} (hl : x_lef ls ls') (hs : x_step code imm x y nx sw nf ls st h = some (pc', l1, st', h')) : ∃ l1', x_step code imm x y nx sw nf ls' st h = some (pc', l1', st', h') ∧ x_lef l1 l1' := by
  unfold x_step at hs ⊢
  split at hs
  case h_2 =>
    split at hs
    · rename_i v hv; cases hs; rw [hl.2 x _ hv (by simp)]; exact ⟨ls', rfl, hl⟩
    · cases hs
  case h_3 =>
    split at hs
    · rename_i v hv; cases hs; rw [hl.2 x _ hv (by simp)]; exact ⟨ls', rfl, hl⟩
    · cases hs
  case h_4 =>
    split at hs
    · rename_i v hv; cases hs; rw [hl.2 x _ hv (by simp)]; exact ⟨ls', rfl, hl⟩
    · cases hs
  case h_5 =>
    split at hs
    · obtain ⟨c, e⟩ := ite_some hs; cases e; rw [hl.1] at c; exact ⟨_, if_pos c, x_lef_set1 hl x _⟩
    · cases hs
  case h_6 =>
    split at hs
    · obtain ⟨c, e⟩ := ite_some hs; cases e; rw [hl.1] at c; exact ⟨_, if_pos c, x_lef_set1 hl x _⟩
    · cases hs
  case h_7 =>
    split at hs
    · obtain ⟨c, e⟩ := ite_some hs; cases e; rw [hl.1] at c; exact ⟨_, if_pos c, x_lef_set2 hl x _⟩
    · cases hs
  case h_8 =>
    split at hs
    · rename_i v hv; cases hs; rw [hl.2 x _ hv (by simp)]; exact ⟨_, rfl, x_lef_set1 hl x _⟩
    · cases hs
  all_goals (repeat' (split at hs))
  all_goals first
    | (cases hs; done)
    | (cases hs; exact ⟨ls', rfl, hl⟩)
    | (cases hs; refine ⟨ls', ?_, hl⟩; first | (rw [if_pos (by assumption)]; done) | (rw [if_neg (by assumption)]; done) | (rw [if_neg (by assumption), if_pos (by assumption)]; done) | (simp [*]; done))
theorem x_run_less : ∀ (n : Nat) {mi pc : Nat} {ls ls' st : List Value} {h h' : XH} {r : Value}, x_lef ls ls' → x_run n mi pc ls st h = some (r, h') → x_run n mi pc ls' st h = some (r, h') := by
  intro n
  induction n with
  | zero => intro mi pc ls ls' st h h' r hl hr; cases hr
  | succ n ih =>
    intro mi pc ls ls' st h h' r hl hr
    unfold x_run at hr ⊢
    split at hr
    · cases hr
    · rename_i code imm x y nx sw hop
      split at hr
      · rename_i h60; rw [if_pos h60]; exact hr
      · rename_i h60
        rw [if_neg h60]
        split at hr
        · rename_i h50
          rw [if_pos h50]
          split at hr
          · rename_i hc
            rw [if_pos hc]
            split at hr
            · exact ih hl hr
            · cases hr
          · cases hr
        · rename_i h50
          rw [if_neg h50]
          split at hr
          · rename_i h51
            rw [if_pos h51]
            split at hr
            · exact ih hl hr
            · cases hr
          · rename_i h51
            rw [if_neg h51]
            split at hr
            · rename_i a b c d hs
              obtain ⟨l1', e, hl'⟩ := x_step_less hl hs
              rw [e]
              exact ih hl' hr
            · cases hr
theorem Ev.less {mi pc : Nat} {ls ls' st : List Value} {h : XH} {Q : Value → XH → Prop} (hl : x_lle ls ls') (k : Ev mi pc ls st h Q) : Ev mi pc ls' st h Q := by
  obtain ⟨n, r, h', h1, h2⟩ := k
  exact ⟨n, r, h', x_run_less n (x_lle_f hl) h1, h2⟩
theorem x_inid {mi n : Nat} {as ls : List Value} (hm : m_l mi = n) (he : x_fl as ++ List.replicate (n - (x_fl as).length) .null = ls) : x_ini mi as = ls := by
  subst hm
  exact he
def x_rmk (mi x : Nat) : Bool := Nat.ble (m_fr x + 1) (m_fr mi) && Nat.ble (8 + (m_l x + 11) + m_lo x) (m_lo mi)
theorem x_okd {mi x n : Nat} {rest as : List Value} (h : x_rmk mi x = true) (hm : m_l x = n) (h1 : (rest.map fun v => v.category).sum ≤ 8) (h2 : (x_fl as).length ≤ n) : x_okc mi x rest as := by
  unfold x_rmk at h
  rw [Bool.and_eq_true] at h
  exact ⟨h1, Nat.le_of_ble_eq_true h.1, Nat.le_of_ble_eq_true h.2, by rw [hm]; exact h2⟩
theorem x_rc0 {x a ci : Nat} {as : List Value} {h : XH} (hk : xK h a = 10 + ci) (hm : m_o x = ci) : x_rcvb 0 x (.ref a :: as) h = true := by
  subst hm
  exact decide_eq_true hk
def x_swk (F : Nat → Prop) (sw : List (Int × Nat)) (d : Nat) (a : Int32) : Prop := match sw with
  | [] => F d
  | q :: r => (a = Int32.ofInt q.1 → F q.2) ∧ (¬ a = Int32.ofInt q.1 → x_swk F r d a)
theorem x_swk_ok {F : Nat → Prop} {d : Nat} {a : Int32} : ∀ {sw : List (Int × Nat)}, (∀ q ∈ sw, (Int32.ofInt q.1).toInt = q.1) → x_swk F sw d a → F (x_sw sw d a.toInt) := by
  intro sw
  induction sw with
  | nil => intro _ h; exact h
  | cons q r ih =>
    intro hq h
    unfold x_sw
    have e := hq q List.mem_cons_self
    by_cases ha : q.1 = a.toInt
    · rw [if_pos ha]
      exact h.1 (by rw [ha, Int32.ofInt_toInt])
    · rw [if_neg ha]
      exact ih (fun q h => hq q (List.mem_cons_of_mem _ h)) (h.2 (fun z => ha (by rw [z, e])))
theorem e_swc {mi pc : Nat} {ls st : List Value} {h : XH} {Q : Value → XH → Prop} {imm : Int} {x y nx : Nat} {sw : List (Int × Nat)} {a : Int32} (ho : x_ops mi pc = some (41, imm, x, y, nx, sw)) (hq : ∀ q ∈ sw, (Int32.ofInt q.1).toInt = q.1) (k : x_swk (fun t => Ev mi t ls st h Q) sw x a) : Ev mi pc ls (.int a :: st) h Q := e_sw ho (x_swk_ok (F := fun t => Ev mi t ls st h Q) hq k)
