/-! WHAT CODES ARE WORTH, the same on both sides -/
theorem wd_and {w : Nat} (hw : w < 2 ^ 20) : nI w &&& 15 = nI (w % 16) := by
  apply Int32.toBitVec_inj.mp
  rw [Int32.toBitVec_and]
  apply BitVec.eq_of_toNat_eq
  rw [BitVec.toNat_and]
  show (BitVec.ofNat 32 w).toNat &&& 15 = (BitVec.ofNat 32 (w % 16)).toNat
  rw [BitVec.toNat_ofNat, BitVec.toNat_ofNat, Nat.mod_eq_of_lt (show w < 2 ^ 32 by omega), Nat.mod_eq_of_lt (show w % 16 < 2 ^ 32 by omega)]
  exact Nat.and_two_pow_sub_one_eq_mod w 4
theorem wd_shr {w : Nat} (hw : w < 2 ^ 20) : nI w >>> ((4 : Int32) &&& 31) = nI (w / 16) := by
  apply Int32.toBitVec_inj.mp
  rw [show ((4 : Int32) &&& 31) = (nI 4 &&& 31) from rfl, shr_bv (by decide)]
  have e0 : (nI w).toBitVec = BitVec.ofNat 32 w := rfl
  have e1 : (nI (w / 16)).toBitVec = BitVec.ofNat 32 (w / 16) := rfl
  rw [e0, e1, BitVec.sshiftRight_eq_of_msb_false (BitVec.msb_eq_false_iff_two_mul_lt.mpr (by rw [BitVec.toNat_ofNat, Nat.mod_eq_of_lt (show w < 2 ^ 32 by omega)]; omega))]
  apply BitVec.eq_of_toNat_eq
  rw [BitVec.toNat_ushiftRight, BitVec.toNat_ofNat, BitVec.toNat_ofNat, Nat.mod_eq_of_lt (show w < 2 ^ 32 by omega), Nat.mod_eq_of_lt (show w / 16 < 2 ^ 32 by omega), Nat.shiftRight_eq_div_pow]
def vz (rz : Nat → Nat) (c : Cd) : Nat := if c.1 = 11 then rz c.2 else c.2
/-- a code's word once names are found -/
def wz (rz : Nat → Nat) (c : Cd) : Nat := if c.1 = 11 then 16 * rz c.2 + 1 else cw c
def vlR (rz : Nat → Nat) (r : Nat → Int32) (c : Cd) : Int32 := if c.1 = 0 then nI c.2 else r (vz rz c)
def evE (rz : Nat → Nat) (r : Nat → Int32) : List Cd → List Int32 → Option (List Int32)
  | [], st => some st
  | c :: t, st => if pv c = true then evE rz r t (vlR rz r c :: st) else match st with
    | b :: a :: s => if c.1 = 5 ∧ b = 0 then none else evE rz r t (aop (nI c.1) a b :: s)
    | _ => none
def atE (cd : Nat → Int32) (rz : Nat → Nat) : Nat → List Cd → Prop
  | _, [] => True
  | i, c :: t => (cd i = nI (wz rz c) ∧ wz rz c < 2 ^ 20) ∧ atE cd rz (i + 1) t
def rvz (rz : Nat → Nat) (c : Cd) : Nat := if c.1 = 11 then rz c.2 else rcV c
def atR (kd ci : Nat → Int32) (rz : Nat → Nat) : Nat → List Cd → Prop
  | _, [] => True
  | i, c :: t => (kd i = nI (rcK c) ∧ ci i = nI (rvz rz c)) ∧ atR kd ci rz (i + 1) t
section EVE
variable {cd kd ci v r : Nat → Int32} {rz : Nat → Nat} {len : Nat} {k vv : Nat → Nat} {pg : Nat}
theorem rn_push {f i w : Nat} {st : List Int32} (e : cd i = nI w) (hw : w < 2 ^ 20) (h1 : w % 16 ≤ 1) (hl : i < len) (hs : st.length < 32) : rn cd len r (f + 1) i st = rn cd len r f (i + 1) ((if w % 16 = 0 then nI (w / 16) else r (w / 16)) :: st) := by
  have k1 : ¬ 1 < nI (w % 16) := nI_nlt (a := 1) (by omega) (by decide)
  conv => lhs; unfold rn
  rw [if_neg (by omega), e, wd_and hw, wd_shr hw, if_pos k1, if_pos hs, tn_nI (show w / 16 < 2 ^ 31 by omega)]
  by_cases q : w % 16 = 0
  · rw [if_pos q, if_pos (by rw [q]; rfl)]
  · have c0 : nI (w % 16) = (0 : Int32) ↔ w % 16 = 0 := nI_eq (b := 0) (by omega) (by decide)
    rw [if_neg q, if_neg (fun z => q (c0.mp z))]
theorem rn_big {f i w : Nat} {b : Int32} {s : List Int32} (h5 : len ≤ 512) (e : cd i = nI w) (hw : w < 2 ^ 20) (h1 : 2 ≤ w % 16) (hl : i < len) : rn cd len r (f + 1) i (b :: s) = if w % 16 = 10 then some b else if w % 16 = 9 then (if b = 0 ∧ i < w / 16 then rn cd len r f (w / 16) s else rn cd len r f (i + 1) s) else match s with
    | [] => none
    | a :: s' => if w % 16 = 5 ∧ b = 0 then none else rn cd len r f (i + 1) (aop (nI (w % 16)) a b :: s') := by
  have k1 : 1 < nI (w % 16) := nI_lt (a := 1) (by omega) (by omega)
  have q : ∀ y, y < 2 ^ 31 → (nI (w % 16) = nI y ↔ w % 16 = y) := fun y hy => nI_eq (by omega) hy
  have c10 : nI (w % 16) = (10 : Int32) ↔ w % 16 = 10 := q 10 (by decide)
  have c9 : nI (w % 16) = (9 : Int32) ↔ w % 16 = 9 := q 9 (by decide)
  have c5 : nI (w % 16) = (5 : Int32) ↔ w % 16 = 5 := q 5 (by decide)
  conv => lhs; unfold rn
  rw [if_neg (by omega), e, wd_and hw, wd_shr hw, if_neg (fun z => z k1), tn_nI (show w / 16 < 2 ^ 31 by omega)]
  dsimp only
  by_cases q10 : w % 16 = 10
  · rw [if_pos q10, if_pos (c10.mpr q10)]
  · rw [if_neg q10, if_neg (fun z => q10 (c10.mp z))]
    by_cases q9 : w % 16 = 9
    · rw [if_pos q9, if_pos (c9.mpr q9)]
      by_cases z : b = 0 ∧ i < w / 16
      · rw [if_pos z, if_pos ⟨z.1, nI_lt z.2 (by omega)⟩]
      · rw [if_neg z, if_neg (fun y => z ⟨y.1, ?_⟩)]
        rcases Nat.lt_or_ge i (w / 16) with c | c
        · exact c
        · exact absurd y.2 (nI_nlt c (by omega))
    · rw [if_neg q9, if_neg (fun z => q9 (c9.mp z))]
      match s with
      | [] => rfl
      | a :: s' =>
        dsimp only
        by_cases z : w % 16 = 5 ∧ b = 0
        · rw [if_pos z, if_pos ⟨c5.mpr z.1, z.2⟩]
        · rw [if_neg z, if_neg (fun y => z ⟨c5.mp y.1, y.2⟩)]
/-- a code that stands in an expression -/
def cOk2 (c : Cd) : Prop := (pv c = true ∧ (c.1 = 0 → c.2 < 10000)) ∨ (2 ≤ c.1 ∧ c.1 ≤ 5 ∧ c.2 = 0)
theorem wz_pv {c : Cd} (h : pv c = true) : wz rz c % 16 ≤ 1 ∧ (wz rz c % 16 = 0 ↔ c.1 = 0) ∧ wz rz c / 16 = vz rz c := by
  unfold pv at h
  simp only [Bool.or_eq_true, decide_eq_true_eq] at h
  unfold wz vz cw
  rcases h with ((h | h) | h) | h <;> rw [h] <;> simp <;> omega
theorem wz_op {c : Cd} (h : 2 ≤ c.1 ∧ c.1 ≤ 10) (h0 : c.1 ≠ 9 → c.2 = 0) : wz rz c % 16 = c.1 ∧ wz rz c / 16 = c.2 := by
  unfold wz cw
  rw [if_neg (by omega), if_neg (by omega)]
  omega
theorem dW_op {c : Cd} (h : 2 ≤ c.1 ∧ c.1 ≤ 10) : pv c = false := by
  unfold pv
  rw [decide_eq_false (by omega), decide_eq_false (by omega), decide_eq_false (by omega), decide_eq_false (by omega)]
  rfl
theorem ev_pv {c : Cd} {t : List Cd} {st : List Int32} (h : pv c = true) : evE rz r (c :: t) st = evE rz r t (vlR rz r c :: st) := if_pos h
theorem ev_op {c : Cd} {t : List Cd} {b a : Int32} {s : List Int32} (h : pv c = false) : evE rz r (c :: t) (b :: a :: s) = if c.1 = 5 ∧ b = 0 then none else evE rz r t (aop (nI c.1) a b :: s) := if_neg (by rw [h]; decide)
theorem rn_E (h5 : len ≤ 512) : ∀ (E : List Cd) (i f d d' e : Nat) (st : List Int32), atE cd rz i E → dW E d d' → (∀ x ∈ E, cOk2 x) → st.length = d + e → e ≤ 11 → i + E.length ≤ len → rn cd len r (f + E.length) i st = match evE rz r E st with
    | none => none
    | some st' => rn cd len r f (i + E.length) st' := by
  intro E
  induction E with
  | nil => intro i f d d' e st _ _ _ _ _ _; rfl
  | cons c t ih =>
    intro i f d d' e st ha hd hc hl he hL
    have hL : i + (t.length + 1) ≤ len := hL
    obtain ⟨⟨a1, a2⟩, a3⟩ := ha
    have h1 : f + (c :: t).length = (f + t.length) + 1 := rfl
    have h2 : i + (c :: t).length = (i + 1) + t.length := by show i + (t.length + 1) = _; omega
    rw [h1, h2]
    rcases hd with ⟨d1, d2, d3⟩ | ⟨d1, d2, d3, d4⟩
    · rw [ev_pv d1]
      obtain ⟨w1, w2, w3⟩ := wz_pv (rz := rz) d1
      rw [rn_push a1 a2 w1 (by omega) (by omega), w3]
      have ev : (if wz rz c % 16 = 0 then nI (vz rz c) else r (vz rz c)) = vlR rz r c := by
        unfold vlR
        by_cases q : c.1 = 0
        · rw [if_pos q, if_pos (w2.mpr q)]
          unfold vz
          rw [if_neg (by omega)]
        · rw [if_neg q, if_neg (fun z => q (w2.mp z))]
      rw [ev]
      exact ih (i + 1) f (d + 1) d' e _ a3 d3 (fun x hx => hc x (List.mem_cons_of_mem _ hx)) (by show st.length + 1 = _; omega) he (by omega)
    · have np : pv c = false := dW_op ⟨d1, by omega⟩
      have c0 : c.2 = 0 := by
        rcases hc c List.mem_cons_self with q | q
        · rw [dW_op ⟨d1, by omega⟩] at q; exact absurd q.1 (by decide)
        · exact q.2.2
      obtain ⟨w1, w2⟩ := wz_op (rz := rz) (c := c) ⟨d1, by omega⟩ (fun _ => c0)
      match st, hl with
      | b :: a :: s, hl =>
        have hl : s.length + 1 + 1 = d + e := hl
        rw [ev_op np, rn_big h5 a1 a2 (by omega) (by omega), w1, if_neg (by omega), if_neg (by omega)]
        dsimp only
        split
        · rfl
        · exact ih (i + 1) f (d - 1) d' e _ a3 d4 (fun x hx => hc x (List.mem_cons_of_mem _ hx)) (by show s.length + 1 = _; omega) he (by omega)
      | [], hl => exact absurd hl (by show ¬ 0 = d + e; omega)
      | [_], hl => exact absurd hl (by show ¬ 0 + 1 = d + e; omega)
theorem evE_len : ∀ (E : List Cd) (d d' e : Nat) (st st' : List Int32), dW E d d' → st.length = d + e → evE rz r E st = some st' → st'.length = d' + e := by
  intro E
  induction E with
  | nil => intro d d' e st st' h hl he; cases he; have h : d = d' := h; omega
  | cons c t ih =>
    intro d d' e st st' hd hl he
    rcases hd with ⟨d1, d2, d3⟩ | ⟨d1, d2, d3, d4⟩
    · rw [ev_pv d1] at he
      exact ih (d + 1) d' e _ _ d3 (by show st.length + 1 = _; omega) he
    · have np : pv c = false := dW_op ⟨d1, by omega⟩
      match st, hl, he with
      | b :: a :: s, hl, he =>
        have hl : s.length + 1 + 1 = d + e := hl
        rw [ev_op np] at he
        split at he
        · cases he
        · exact ih (d - 1) d' e _ _ d4 (by show s.length + 1 = _; omega) he
      | [], hl, he => exact absurd hl (by show ¬ 0 = d + e; omega)
      | [_], hl, he => exact absurd hl (by show ¬ 0 + 1 = d + e; omega)
theorem evE_lo : ∀ (E : List Cd) (d d' : Nat) (st lo : List Int32), dW E d d' → st.length = d → evE rz r E (st ++ lo) = match evE rz r E st with
    | none => none
    | some st' => some (st' ++ lo) := by
  intro E
  induction E with
  | nil => intro d d' st lo _ _; rfl
  | cons c t ih =>
    intro d d' st lo hd hl
    rcases hd with ⟨d1, d2, d3⟩ | ⟨d1, d2, d3, d4⟩
    · rw [ev_pv d1, ev_pv d1]
      exact ih (d + 1) d' (_ :: st) lo d3 (by show st.length + 1 = _; omega)
    · have np : pv c = false := dW_op ⟨d1, by omega⟩
      match st, hl with
      | b :: a :: s, hl =>
        have hl : s.length + 1 + 1 = d := hl
        show evE rz r (c :: t) (b :: a :: (s ++ lo)) = _
        rw [ev_op np, ev_op np]
        split
        · rfl
        · exact ih (d - 1) d' (_ :: s) lo d4 (by show s.length + 1 = _; omega)
      | [], hl => exact absurd hl (by show ¬ 0 = d; omega)
      | [_], hl => exact absurd hl (by show ¬ 0 + 1 = d; omega)
/-- one expression's worth -/
def ev1 (rz : Nat → Nat) (r : Nat → Int32) (E : List Cd) : Option Int32 := match evE rz r E [] with
  | some (x :: _) => some x
  | _ => none
theorem ev_one {E : List Cd} (h : dW E 0 1) : evE rz r E [] = match ev1 rz r E with
    | none => none
    | some x => some [x] := by
  unfold ev1
  match he : evE rz r E [] with
  | none => rfl
  | some st' =>
    have := evE_len E 0 1 0 [] st' h rfl he
    match st', this with
    | [x], _ => rfl
theorem ev_two {E : List Cd} {lo : List Int32} (h : dW E 0 1) : evE rz r E lo = match ev1 rz r E with
    | none => none
    | some x => some (x :: lo) := by
  have := evE_lo (rz := rz) (r := r) E 0 1 [] lo h rfl
  rw [List.nil_append] at this
  rw [this, ev_one h]
  cases ev1 rz r E with
  | none => rfl
  | some x => rfl
theorem rn_1 {E : List Cd} {i f : Nat} {st : List Int32} (h5 : len ≤ 512) (ha : atE cd rz i E) (hd : dW E 0 1) (hc : ∀ x ∈ E, cOk2 x) (hl : st.length ≤ 11) (hL : i + E.length ≤ len) : rn cd len r (f + E.length) i st = match ev1 rz r E with
    | none => none
    | some x => rn cd len r f (i + E.length) (x :: st) := by
  rw [rn_E h5 E i f 0 1 st.length st ha hd hc (by omega) hl hL, ev_two hd]
  cases ev1 rz r E with
  | none => rfl
  | some x => rfl
theorem tm_E : ∀ (E : List Cd) (i d d' : Nat) (st : List Int32), atR kd ci rz i E → dW E d d' → (∀ x ∈ E, cOk2 x ∧ (pv x = true → x.1 ≠ 0 → v (rvz rz x) = r (vz rz x)) ∧ rvz rz x < 2 ^ 31) → st.length = d → tm kd ci v E.length i st = evE rz r E st := by
  intro E
  induction E with
  | nil => intro i d d' st _ _ _ _; rfl
  | cons c t ih =>
    intro i d d' st ha hd hc hl
    obtain ⟨⟨a1, a2⟩, a3⟩ := ha
    obtain ⟨c1, c2, c3⟩ := hc c List.mem_cons_self
    have ct : ∀ x ∈ t, cOk2 x ∧ (pv x = true → x.1 ≠ 0 → v (rvz rz x) = r (vz rz x)) ∧ rvz rz x < 2 ^ 31 := fun x hx => hc x (List.mem_cons_of_mem _ hx)
    show tm kd ci v (t.length + 1) i st = _
    rcases hd with ⟨d1, d2, d3⟩ | ⟨d1, d2, d3, d4⟩
    · rw [ev_pv d1]
      by_cases q : c.1 = 0
      · have e1 : rcK c = 0 := by unfold rcK; rw [if_pos q]
        rw [e1] at a1
        rw [tm_k0 a1, a2]
        have e2 : nI (rvz rz c) = vlR rz r c := by
          unfold rvz vlR rcV
          rw [if_neg (by omega), if_pos q, if_pos q]
        rw [e2]
        exact ih (i + 1) (d + 1) d' _ a3 d3 ct (by show st.length + 1 = _; omega)
      · have e1 : rcK c = 1 := by
          unfold rcK
          unfold pv at d1
          simp only [Bool.or_eq_true, decide_eq_true_eq] at d1
          rw [if_neg q, if_pos (by omega)]
        rw [e1] at a1
        rw [tm_k1 a1, a2, tn_nI c3, c2 d1 q]
        have e2 : r (vz rz c) = vlR rz r c := by
          unfold vlR
          rw [if_neg q]
        rw [e2]
        exact ih (i + 1) (d + 1) d' _ a3 d3 ct (by show st.length + 1 = _; omega)
    · have np : pv c = false := dW_op ⟨d1, by omega⟩
      have e1 : rcK c = c.1 := by
        unfold rcK
        rw [if_neg (by omega), if_neg (by omega)]
      rw [e1] at a1
      match st, hl with
      | b :: a :: s, hl =>
        have hl : s.length + 1 + 1 = d := hl
        rw [tm_kk ⟨d1, d2⟩ a1, ev_op np]
        by_cases z : c.1 = 5 ∧ b = 0
        · rw [if_pos z, if_pos ⟨by rw [z.1], z.2⟩]
        · rw [if_neg z, if_neg (fun y => z ⟨(nI_eq (by omega) (by decide)).mp y.1, y.2⟩)]
          exact ih (i + 1) (d - 1) d' _ a3 d4 ct (by show s.length + 1 = _; omega)
      | [], hl => exact absurd hl (by show ¬ 0 = d; omega)
      | [_], hl => exact absurd hl (by show ¬ 0 + 1 = d; omega)
theorem tmW_E : ∀ (E : List Cd) (i d : Nat), atR kd ci rz i E → dW E d 1 → (∀ x ∈ E, pv x = true → x.1 ≠ 0 → rvz rz x < 16) → tmW kd ci E.length i d := by
  intro E
  induction E with
  | nil => intro i d _ h _; exact h
  | cons c t ih =>
    intro i d ha hd hc
    obtain ⟨⟨a1, a2⟩, a3⟩ := ha
    have ct : ∀ x ∈ t, pv x = true → x.1 ≠ 0 → rvz rz x < 16 := fun x hx => hc x (List.mem_cons_of_mem _ hx)
    rcases hd with ⟨d1, d2, d3⟩ | ⟨d1, d2, d3, d4⟩
    · by_cases q : c.1 = 0
      · have e1 : rcK c = 0 := by unfold rcK; rw [if_pos q]
        rw [e1] at a1
        exact Or.inl ⟨a1, ih (i + 1) (d + 1) a3 d3 ct⟩
      · have e1 : rcK c = 1 := by
          unfold rcK
          unfold pv at d1
          simp only [Bool.or_eq_true, decide_eq_true_eq] at d1
          rw [if_neg q, if_pos (by omega)]
        rw [e1] at a1
        exact Or.inr (Or.inl ⟨a1, ⟨_, hc c List.mem_cons_self d1 q, a2⟩, ih (i + 1) (d + 1) a3 d3 ct⟩)
    · have e1 : rcK c = c.1 := by
        unfold rcK
        rw [if_neg (by omega), if_neg (by omega)]
      rw [e1] at a1
      exact Or.inr (Or.inr ⟨⟨c.1, d1, d2, a1⟩, d3, ih (i + 1) (d - 1) a3 d4 ct⟩)
theorem atE_app : ∀ (E E' : List Cd) (i : Nat), atE cd rz i (E ++ E') ↔ atE cd rz i E ∧ atE cd rz (i + E.length) E' := by
  intro E
  induction E with
  | nil => intro E' i; exact ⟨fun h => ⟨trivial, h⟩, fun h => h.2⟩
  | cons c t ih =>
    intro E' i
    show (_ ∧ atE cd rz (i + 1) (t ++ E')) ↔ (_ ∧ atE cd rz (i + 1) t) ∧ atE cd rz (i + (t.length + 1)) E'
    rw [ih, show i + 1 + t.length = i + (t.length + 1) by omega]
    exact ⟨fun h => ⟨⟨h.1, h.2.1⟩, h.2.2⟩, fun h => ⟨h.1.1, h.1.2, h.2⟩⟩
theorem atR_app : ∀ (E E' : List Cd) (i : Nat), atR kd ci rz i (E ++ E') ↔ atR kd ci rz i E ∧ atR kd ci rz (i + E.length) E' := by
  intro E
  induction E with
  | nil => intro E' i; exact ⟨fun h => ⟨trivial, h⟩, fun h => h.2⟩
  | cons c t ih =>
    intro E' i
    show (_ ∧ atR kd ci rz (i + 1) (t ++ E')) ↔ (_ ∧ atR kd ci rz (i + 1) t) ∧ atR kd ci rz (i + (t.length + 1)) E'
    rw [ih, show i + 1 + t.length = i + (t.length + 1) by omega]
    exact ⟨fun h => ⟨⟨h.1, h.2.1⟩, h.2.2⟩, fun h => ⟨h.1.1, h.1.2, h.2⟩⟩
theorem atE_all : ∀ (E : List Cd) (i : Nat), (∀ j, j < E.length → cd (i + j) = nI (wz rz (cdAt E j)) ∧ wz rz (cdAt E j) < 2 ^ 20) → atE cd rz i E := by
  intro E
  induction E with
  | nil => intro i _; trivial
  | cons c t ih =>
    intro i h
    refine ⟨h 0 (Nat.succ_pos _), ih (i + 1) (fun j hj => ?_)⟩
    have := h (j + 1) (by show j + 1 < t.length + 1; omega)
    rw [show i + 1 + j = i + (j + 1) by omega]
    exact this
theorem atR_all : ∀ (E : List Cd) (i : Nat), (∀ j, j < E.length → kd (i + j) = nI (rcK (cdAt E j)) ∧ ci (i + j) = nI (rvz rz (cdAt E j))) → atR kd ci rz i E := by
  intro E
  induction E with
  | nil => intro i _; trivial
  | cons c t ih =>
    intro i h
    refine ⟨h 0 (Nat.succ_pos _), ih (i + 1) (fun j hj => ?_)⟩
    have := h (j + 1) (by show j + 1 < t.length + 1; omega)
    rw [show i + 1 + j = i + (j + 1) by omega]
    exact this
theorem atE.sg {cs E : List Cd} {i : Nat} (h : atE cd rz 0 cs) (s : seg cs i E) : atE cd rz i E := by
  obtain ⟨u, w, e, hu⟩ := s
  rw [e, atE_app, atE_app, hu, Nat.zero_add] at h
  exact h.2.1
theorem atR.sg {cs E : List Cd} {i b : Nat} (h : atR kd ci rz b cs) (s : seg cs i E) : atR kd ci rz (b + i) E := by
  obtain ⟨u, w, e, hu⟩ := s
  rw [e, atR_app, atR_app, hu] at h
  exact h.2.1
theorem seg.le {α : Type} {l E : List α} {i : Nat} (s : seg l i E) : i + E.length ≤ l.length := by
  obtain ⟨u, w, e, hu⟩ := s
  rw [e, List.length_append, List.length_append]
  omega
end EVE
