/-! READING: the one side's expressions -/
def EW (it : Nat) (h h1 : XH) : Prop := Lx [6, 11, it, it + 9] [] h h1 ∧ (∀ j, j ∉ [0, 1, 2, 3, 5, 7] → xI h1 6 j = xI h 6 j) ∧ ∀ j, j ≠ 7 → xI h1 it j = xI h it j
def sftS (p : Nat → Nat) (x j : Nat) (m : Md) : Md := match m with
  | .error e => .error e
  | .ok (a, sf, cs, rs) => .ok (a, sfO sf (some (x, p j)), cs, rs)
def paS (c : Cd) (m : Md) : Md := match m with
  | .error e => .error e
  | .ok (a, sf, cs, rs) => .ok (a, sf, apC cs c, rs ++ [c])
def popW (c : Nat) : List Nat → List Nat
  | [] => []
  | w :: ws => if c ≤ clo w then popW c ws else w :: ws
def popS (c : Nat) (ws : List Nat) (m : Md) : Md := match m with
  | .error e => .error e
  | .ok (a, sf, cs, rs) => .ok (a, sf, (pop c ws cs rs).2.1, (pop c ws cs rs).2.2)
theorem pop_W {c : Nat} : ∀ ws cs rs, (pop c ws cs rs).1 = popW c ws := by
  intro ws
  induction ws with
  | nil => intro cs rs; rfl
  | cons w ws ih =>
    intro cs rs
    show (if c ≤ clo w then pop c ws _ _ else (w :: ws, cs, rs)).1 = if c ≤ clo w then popW c ws else w :: ws
    split
    · exact ih _ _
    · rfl
section EWF
variable {it : Nat} {h h1 h2 : XH}
theorem EW.rf : EW it h h := ⟨Lx.rf, fun _ _ => rfl, fun _ _ => rfl⟩
theorem EW.tr (p : EW it h h1) (q : EW it h1 h2) : EW it h h2 := ⟨p.1.tr q.1, fun j hj => (q.2.1 j hj).trans (p.2.1 j hj), fun j hj => (q.2.2 j hj).trans (p.2.2 j hj)⟩
theorem EX.w (p : EX it h h1) : EW it h h1 := ⟨p.1.mono (by intro a ha; simp at ha ⊢; omega) (fun a ha => ha), fun j hj => p.2.1 j (fun q => hj (by simp at q ⊢; omega)), p.2.2⟩
theorem EW.f67 {v : Int32} (hit : it = 14 ∨ it = 24) (p : EW it h h1) : EW it h (xsI h1 6 7 v) := ⟨p.1.set (by simp), fun i hi => by rw [xI_sd (fun e => hi (by rw [e]; decide))]; exact p.2.1 i hi, fun i hi => by rw [xI_n (by omega)]; exact p.2.2 i hi⟩
theorem EW.f11 {j : Nat} {v : Int32} (hit : it = 14 ∨ it = 24) (p : EW it h h1) : EW it h (xsI h1 11 j v) := ⟨p.1.set (by simp), fun i hi => by rw [xI_n (by decide)]; exact p.2.1 i hi, fun i hi => by rw [xI_n (by omega)]; exact p.2.2 i hi⟩
end EWF
/-- what waits, as the one side holds it -/
def WT (ws : List Nat) (h : XH) : Prop := ws.length ≤ 32 ∧ xI h 6 7 = nI ws.length ∧ wl_is (xI h 11) ws ∧ ∀ w ∈ ws, w < 256
theorem WT.ex {ws : List Nat} {it : Nat} {h h1 : XH} (hit : it = 14 ∨ it = 24) (w : WT ws h) (f : EX it h h1) : WT ws h1 := ⟨w.1, by rw [f.2.1 7 (by decide)]; exact w.2.1, by rw [f.1.at (a := 11) (by simp; omega)]; exact w.2.2.1, w.2.2.2⟩
theorem oL_32 {x : Nat} (hx : x < 2 ^ 31) : (oL x).toInt32 = nI x := by
  apply Int32.toBitVec_inj.mp
  rw [Int64.toBitVec_toInt32, BitVec.signExtend_eq_setWidth_of_le _ (by decide)]
  apply BitVec.eq_of_toNat_eq
  rw [BitVec.toNat_setWidth]
  show (BitVec.ofNat 64 x).toNat % 2 ^ 32 = (BitVec.ofNat 32 x).toNat
  rw [BitVec.toNat_ofNat, BitVec.toNat_ofNat]
  omega
theorem vS_lt {B : Nat → Nat} {n j : Nat} (hk : kS B n j = 3) : vS B n j < 10000 := by
  unfold kS at hk
  by_cases q : pS B n j < n
  · rw [if_pos q] at hk
    unfold tK at hk
    by_cases l : isL (B (pS B n j)) = true
    · rw [if_pos l] at hk
      split at hk
      · cases hk
      · rcases kwF_r (nm := ltS B (pS B n j) (tE B n (pS B n j) - pS B n j)) 16 0 rfl with w | w <;> omega
    · rw [if_neg l] at hk
      by_cases d : isD (B (pS B n j)) = true
      · rw [if_pos d] at hk
        have h4 : tE B n (pS B n j) - pS B n j ≤ 4 := by
          split at hk
          · cases hk
          · omega
        have eE : tE B n (pS B n j) = enR isD B n (pS B n j) := by unfold tE; rw [if_neg l, if_pos d]
        have te := tE_in (B := B) q
        have ha : ∀ a, a < tE B n (pS B n j) - pS B n j → isD (B (pS B n j + a)) = true := fun a ha => enR_all (n - pS B n j) (pS B n j) rfl (pS B n j + a) (by omega) (by rw [← eE]; omega)
        have h1 := dvS_lt (tE B n (pS B n j) - pS B n j) ha
        have h10 : 10 ^ (tE B n (pS B n j) - pS B n j) ≤ 10 ^ 4 := Nat.pow_le_pow_right (by decide) h4
        unfold vS
        omega
      · rw [if_neg d] at hk
        split at hk
        · rename_i hS
          unfold isS at hS
          simp at hS
          omega
        · cases hk
  · rw [if_neg q] at hk
    cases hk
section CEX
variable {it : Nat} {B : Nat → Nat} {n : Nat} {h : XH} {m : Md} {a : Nat} {sf : Option (Nat × Nat)} {cs rs : List Cd} {Q : Value → XH → Prop}
theorem c_soft {x j : Nat} {K : XH → Prop} (hx : 1 ≤ x ∧ x < 20) (hj : j ≤ 401) (hr : ∀ c, m = .ok c → rch B n j) (r : RC it B n m h) (k : ∀ h1, EX it h h1 → RC it B n (sftS (pS B n) x j m) h1 → K h1) : ClV 31 [.ref 6, .int (nI x), .int (nI j)] h K := by
  have hit := r.i2
  refine B_31_0 r.sh r.i2 r.r ?_
  have i9 : xI (xsI h 6 2 (nI x)) 9 j = xI h 9 j := by rw [xI_n (by decide)]
  rw [tn_nI (show j < 2 ^ 31 by omega), i9]
  have f : EX it h (xsI (xsI h 6 2 (nI x)) 6 3 (xI h 9 j)) := (EX.rf.f6 hit (by decide)).f6 hit (by decide)
  match m, r, k, hr with
  | .error e, r, k, hr =>
    refine ⟨fun _ => ⟨rfl, k h EX.rf r⟩, fun _ => ⟨inb (by omega) (by decide), rfl, k _ f ?_⟩⟩
    obtain ⟨e1, e2, e3, e4, e5, ⟨b, e6, e7⟩, l, e8, e9⟩ := r.2
    exact ⟨r.1.ex f, e1, e2, e3, by rw [xI_sd (by decide), xI_sd (by decide)]; exact e4, by rw [xI_sd (by decide), xI_sd (by decide)]; exact e5, ⟨b, e6, by rw [xI_sd (by decide), xI_sd (by decide)]; exact e7⟩, ⟨l, e8, by rw [xI_n (by omega), xI_n (by omega)]; exact e9⟩⟩
  | .ok (a, sf, cs, rs), r, k, hr =>
    obtain ⟨e1, e0, e2, e3, e4, e5, e6, e7⟩ := r.2
    have p9 : xI h 9 j = nI (pS B n j) := (r.1.2.2.2.1 j (hr _ rfl)).2.1
    match sf, e4, r, k with
    | none, e4, r, k =>
      have e4 : xI h 6 2 = nI 0 := e4
      rw [e4]
      refine ⟨fun z => absurd rfl z, fun _ => ⟨inb (by omega) (by decide), rfl, k _ f ?_⟩⟩
      refine ⟨r.1.ex f, by rw [xI_sd (by decide), xI_sd (by decide)]; exact e1, by rw [xI_sd (by decide), xI_sd (by decide)]; exact e0, by rw [xI_sd (by decide), xI_sd (by decide)]; exact e2, e3, ?_, e5, by rw [xI_n (by omega), xI_n (by omega)]; exact e6, fun i hi => by rw [xI_n (by omega), xI_n (by omega)]; exact e7 i hi⟩
      exact ⟨by rw [xI_sd (by decide)]; exact xI_ss, by rw [xI_ss]; exact p9, hx.1, hx.2, pS_2000 r.1.2.2.2.2 j⟩
    | some (y, z), e4, r, k =>
      obtain ⟨f1, f2, f3, f4, f5⟩ := e4
      rw [f1]
      exact ⟨fun _ => ⟨rfl, k h EX.rf r⟩, fun q => absurd (fun q => by have := (nI_eq (a := y) (b := 0) (by omega) (by decide)).mp q; omega) q⟩
theorem c_clo {x : Nat} {K : Int32 → XH → Prop} (hs : Sh h) (hx : x < 256) (k : K (nI (clo x)) h) : ClI 38 [.int (nI x)] h K := by
  have e : ∀ y, y < 256 → (nI x = nI y ↔ x = y) := fun y hy => nI_eq (by omega) (by omega)
  unfold clo at k
  refine B_38_0 hs ⟨fun z => ?_, fun z1 => ⟨fun z2 => ⟨fun z => ?_, fun z3 => ⟨fun z4 => ?_, fun z => ?_⟩⟩, fun z => ?_⟩⟩
  · rw [if_pos ((e 42 (by decide)).mp z)] at k; exact ⟨_, rfl, k⟩
  · rw [if_neg (fun q => z1 ((e 42 (by decide)).mpr q)), if_neg (fun q => z2 ((e 47 (by decide)).mpr q)), if_pos ((e 43 (by decide)).mp z)] at k; exact ⟨_, rfl, k⟩
  · rw [if_neg (fun q => z1 ((e 42 (by decide)).mpr q)), if_neg (fun q => z2 ((e 47 (by decide)).mpr q)), if_neg (fun q => z3 ((e 43 (by decide)).mpr q)), if_neg (fun q => z4 ((e 45 (by decide)).mpr q))] at k; exact ⟨_, rfl, k⟩
  · rw [if_neg (fun q => z1 ((e 42 (by decide)).mpr q)), if_neg (fun q => z2 ((e 47 (by decide)).mpr q)), if_neg (fun q => z3 ((e 43 (by decide)).mpr q)), if_pos ((e 45 (by decide)).mp (Classical.not_not.mp z))] at k; exact ⟨_, rfl, k⟩
  · rw [if_neg (fun q => z1 ((e 42 (by decide)).mpr q)), if_pos ((e 47 (by decide)).mp (Classical.not_not.mp z))] at k; exact ⟨_, rfl, k⟩
theorem clo_le (x : Nat) : clo x ≤ 2 := by unfold clo; split <;> (try split) <;> (try split) <;> (try split) <;> omega
theorem c_letW {ws : List Nat} {x : Nat} {K : XH → Prop} (hx : x < 256) (r : RC it B n m h) (w : WT ws h) (k : ∀ h1, EW it h h1 → RC it B n m h1 → WT (pu ws x) h1 → K h1) : ClV 35 [.ref 6, .int (nI x)] h K := by
  have hit := r.i2
  obtain ⟨w1, w2, w3, w4⟩ := w
  refine B_35_0 r.sh r.i2 r.r ?_
  rw [w2]
  by_cases q : ws.length < 32
  · have ep : pu ws x = x :: ws := by unfold pu; rw [if_pos q]
    have i7 : xI (xsI h 11 ws.length (nI x)) 6 7 = nI ws.length := by rw [xI_n (by decide)]; exact w2
    rw [tn_nI (show ws.length < 2 ^ 31 by omega), i7, nI_1]
    refine ⟨fun z => absurd z (nI_ge (a := ws.length) (b := 32) q (by decide)), fun _ => ⟨inb q (by decide), rfl, ?_⟩⟩
    have f : EW it h (xsI (xsI h 11 ws.length (nI x)) 6 7 (nI (ws.length + 1))) := (EW.rf.f11 hit).f67 hit
    have s' : Sh (xsI (xsI h 11 ws.length (nI x)) 6 7 (nI (ws.length + 1))) := f.1.sh r.sh (by simp; omega)
    refine k _ f ?_ ?_
    · have cb : CB it B n (xsI (xsI h 11 ws.length (nI x)) 6 7 (nI (ws.length + 1))) := by
        refine ⟨s', hit, by rw [f.1.1]; exact r.r, fun j hj => ?_, r.1.2.2.2.2⟩
        unfold cT1
        rw [f.1.at (a := 8) (by simp; omega), f.1.at (a := 9) (by simp; omega), f.1.al (by simp)]
        exact r.1.2.2.2.1 j hj
      match m, r with
      | .error e, r =>
        obtain ⟨e1, e2, e3, e4, e5, ⟨b, e6, e7⟩, l, e8, e9⟩ := r.2
        exact ⟨cb, e1, e2, e3, by rw [xI_sd (by decide), xI_n (by decide)]; exact e4, by rw [xI_sd (by decide), xI_n (by decide)]; exact e5, ⟨b, e6, by rw [xI_sd (by decide), xI_n (by decide)]; exact e7⟩, ⟨l, e8, by rw [xI_n (by omega), xI_n (by omega)]; exact e9⟩⟩
      | .ok (a, sf, cs, rs), r =>
        obtain ⟨e1, e0, e2, e3, e4, e5, e6, e7⟩ := r.2
        refine ⟨cb, by rw [xI_sd (by decide), xI_n (by decide)]; exact e1, by rw [xI_sd (by decide), xI_n (by decide)]; exact e0, by rw [xI_sd (by decide), xI_n (by decide)]; exact e2, e3, ?_, e5, by rw [xI_n (by omega), xI_n (by omega)]; exact e6, fun i hi => by rw [xI_n (by omega), xI_n (by omega)]; exact e7 i hi⟩
        unfold sfR
        rw [xI_sd (by decide), xI_sd (by decide), xI_n (by decide)]
        exact e4
    · rw [ep]
      refine ⟨by show ws.length + 1 ≤ 32; omega, xI_ss, ?_, fun y hy => ?_⟩
      · rw [xI_n (by decide), xI_s]
        exact ⟨up_same, wl_up (Nat.le_refl _) w3⟩
      · rcases List.mem_cons.mp hy with e | e
        · rw [e]; exact hx
        · exact w4 y e
  · have ep : pu ws x = ws := by unfold pu; rw [if_neg q]
    refine ⟨fun _ => ⟨rfl, k h EW.rf r (by rw [ep]; exact ⟨w1, w2, w3, w4⟩)⟩, fun z => absurd (nI_le (a := 32) (b := ws.length) (by omega) (by omega)) z⟩
theorem RC.w7 {v : Int32} (r : RC it B n m h) : RC it B n m (xsI h 6 7 v) := by
  have hit := r.i2
  have f : EW it h (xsI h 6 7 v) := EW.rf.f67 hit
  have cb : CB it B n (xsI h 6 7 v) := by
    refine ⟨f.1.sh r.sh (by simp; omega), hit, by rw [f.1.1]; exact r.r, fun j hj => ?_, r.1.2.2.2.2⟩
    unfold cT1
    rw [f.1.at (a := 8) (by simp; omega), f.1.at (a := 9) (by simp; omega), f.1.al (by simp)]
    exact r.1.2.2.2.1 j hj
  match m, r with
  | .error e, r =>
    obtain ⟨e1, e2, e3, e4, e5, ⟨b, e6, e7⟩, l, e8, e9⟩ := r.2
    exact ⟨cb, e1, e2, e3, by rw [xI_sd (by decide)]; exact e4, by rw [xI_sd (by decide)]; exact e5, ⟨b, e6, by rw [xI_sd (by decide)]; exact e7⟩, ⟨l, e8, by rw [xI_n (by omega)]; exact e9⟩⟩
  | .ok (a, sf, cs, rs), r =>
    obtain ⟨e1, e0, e2, e3, e4, e5, e6, e7⟩ := r.2
    refine ⟨cb, by rw [xI_sd (by decide)]; exact e1, by rw [xI_sd (by decide)]; exact e0, by rw [xI_sd (by decide)]; exact e2, e3, ?_, e5, by rw [xI_n (by omega)]; exact e6, fun i hi => by rw [xI_n (by omega)]; exact e7 i hi⟩
    unfold sfR
    rw [xI_sd (by decide), xI_sd (by decide)]
    exact e4
theorem l_pop {c : Nat} {h0 : XH} (hc : 1 ≤ c ∧ c ≤ 2) (m0 : Md) (ws0 : List Nat) (kk : ∀ h1, EW it h0 h1 → RC it B n (popS c ws0 m0) h1 → WT (popW c ws0) h1 → Q .null h1) : ∀ (ws : List Nat) (m : Md) (h : XH), EW it h0 h → RC it B n m h → WT ws h → popS c ws0 m0 = popS c ws m → popW c ws0 = popW c ws → Ev 39 0 [.ref 6, .int (nI c), .null] [] h Q := by
  intro ws
  induction ws with
  | nil =>
    intro m h f r w e1 e2
    have w2 : xI h 6 7 = nI 0 := w.2.1
    refine B_39_0 r.sh r.i2 r.r ?_
    rw [w2]
    refine ⟨fun _ => kk h f ?_ (by rw [e2]; exact w), fun z => absurd (by decide) z⟩
    rw [e1]
    match m, r with
    | .error e, r => exact r
    | .ok (a, sf, cs, rs), r => exact r
  | cons x ws ih =>
    intro m h f r w e1 e2
    have hit := r.i2
    obtain ⟨w1, w2, w3, w4⟩ := w
    have w2 : xI h 6 7 = nI (ws.length + 1) := w2
    have w1 : ws.length + 1 ≤ 32 := w1
    have hx : x < 256 := w4 x List.mem_cons_self
    have i1 : nI (ws.length + 1) - (1 : Int32) = nI ws.length := by rw [show (1 : Int32) = nI 1 from rfl, pk_sub (by omega), Nat.add_sub_cancel]
    have i11 : xI h 11 ws.length = nI x := w3.1
    have cl := clo_le x
    refine B_39_0 r.sh r.i2 r.r ?_
    rw [w2, i1, tn_nI (show ws.length < 2 ^ 31 by omega), i11]
    refine ⟨fun z => absurd z (nI_ge (a := 0) (b := ws.length + 1) (by omega) (by omega)), fun _ => ⟨inb (by omega) (by decide), c_clo r.sh hx ⟨r.sh, r.r, fun z => ?_, fun z => ?_⟩⟩⟩
    · have lt : clo x < c := (nI_ltI (by omega) (by omega)).mp z
      refine kk h f ?_ ?_
      · rw [e1]
        have : popS c (x :: ws) m = m := by
          match m with
          | .error e => rfl
          | .ok (a, sf, cs, rs) =>
            have ep : pop c (x :: ws) cs rs = (x :: ws, cs, rs) := by
              show (if c ≤ clo x then _ else _) = _
              rw [if_neg (by omega)]
            show Except.ok (a, sf, (pop c (x :: ws) cs rs).2.1, (pop c (x :: ws) cs rs).2.2) = _
            rw [ep]
        rw [this]
        exact r
      · rw [e2]
        have : popW c (x :: ws) = x :: ws := by
          show (if c ≤ clo x then _ else _) = _
          rw [if_neg (by omega)]
        rw [this]
        exact ⟨w1, w2, w3, w4⟩
    · have le : c ≤ clo x := by
        apply Classical.byContradiction
        intro q
        exact z (nI_lt (by omega) (by omega))
      rw [w2, i1, tn_nI (show ws.length < 2 ^ 31 by omega), i11]
      have eW : popW c (x :: ws) = popW c ws := by
        show (if c ≤ clo x then _ else _) = _
        rw [if_pos le]
      have eS : popS c (x :: ws) m = popS c ws (paS (opc x, 0) m) := by
        match m with
        | .error e => rfl
        | .ok (a, sf, cs, rs) =>
          have ep : pop c (x :: ws) cs rs = pop c ws (apC cs (opc x, 0)) (rs ++ [(opc x, 0)]) := by
            show (if c ≤ clo x then _ else _) = _
            rw [if_pos le]
          show Except.ok (a, sf, (pop c (x :: ws) cs rs).2.1, (pop c (x :: ws) cs rs).2.2) = _
          rw [ep]
          rfl
      have go : ∀ op, op = opc x → op < 16 → ClV 37 [.ref 6, .int (nI op), .int 0] h (fun h3 => Sh h3 ∧ xR h3 6 8 = it ∧ (Ev 39 0 [.ref 6, .int (nI c), .null] [] (xsI h3 6 7 ((xI h3 6 7) - 1)) Q)) := by
        intro op eo ho
        refine c_put (op := op) (w := 0) (c := (opc x, 0)) ho (by decide) (by rw [← eo]; unfold cw; rw [if_neg (by show op ≠ 12; rw [eo]; unfold opc; split <;> (try split) <;> (try split) <;> decide)]) r (fun h3 f3 r3 => ⟨r3.sh, r3.r, ?_⟩)
        have i7 : xI h3 6 7 = nI (ws.length + 1) := by rw [f3.2.1 7 (by decide)]; exact w2
        rw [i7, i1]
        refine ih _ _ ((f.tr f3.w).f67 hit) (RC.w7 (m := paS (opc x, 0) m) ?_) ⟨by omega, xI_ss, by rw [xI_n (by decide), f3.1.at (a := 11) (by simp; omega)]; exact w3.2, fun y hy => w4 y (List.mem_cons_of_mem _ hy)⟩ (e1.trans eS) (e2.trans eW)
        match m, r3 with
        | .error e, r3 => exact r3
        | .ok (a, sf, cs, rs), r3 => exact r3
      have e : ∀ y, y < 256 → (nI x = nI y ↔ x = y) := fun y hy => nI_eq (by omega) (by omega)
      refine ⟨inb (by omega) (by decide), fun z1 => ⟨fun z2 => ⟨fun z3 => ?_, fun z3 => ?_⟩, fun z2 => ?_⟩, fun z1 => ?_⟩
      · exact go 5 (by unfold opc; rw [if_neg (fun q => z1 ((e 43 (by decide)).mpr q)), if_neg (fun q => z2 ((e 45 (by decide)).mpr q)), if_neg (fun q => z3 ((e 42 (by decide)).mpr q))]) (by decide)
      · exact go 4 (by unfold opc; rw [if_neg (fun q => z1 ((e 43 (by decide)).mpr q)), if_neg (fun q => z2 ((e 45 (by decide)).mpr q)), if_pos ((e 42 (by decide)).mp (Classical.not_not.mp z3))]) (by decide)
      · exact go 3 (by unfold opc; rw [if_neg (fun q => z1 ((e 43 (by decide)).mpr q)), if_pos ((e 45 (by decide)).mp (Classical.not_not.mp z2))]) (by decide)
      · exact go 2 (by unfold opc; rw [if_pos ((e 43 (by decide)).mp (Classical.not_not.mp z1))]) (by decide)
theorem c_popC {c : Nat} {ws : List Nat} {K : XH → Prop} (hc : 1 ≤ c ∧ c ≤ 2) (r : RC it B n m h) (w : WT ws h) (k : ∀ h1, EW it h h1 → RC it B n (popS c ws m) h1 → WT (popW c ws) h1 → K h1) : ClV 39 [.ref 6, .int (nI c)] h K := by
  have := l_pop (Q := fun r h1 => r = .null ∧ K h1) hc m ws (fun h1 f1 r1 w1 => ⟨rfl, k h1 f1 r1 w1⟩) ws m h EW.rf r w rfl rfl
  exact this
theorem c_unit {pg : Nat} {law : Bool} {K : XH → Prop} (hB : ∀ i, B i < 256) (hpg : pg ≤ 6) (r : RC it B n (.ok (a, sf, cs, rs)) h) (e66 : xI h 6 6 = nI pg) (k : ∀ h1, EX it h h1 → RC it B n (unS (kS B n) (pS B n) (vS B n) law pg (.ok (a, sf, cs, rs))) h1 → K h1) : ClV 36 [.ref 6, .int (nI (kS B n a)), .int (if law = true then 1 else 0)] h K := by
  have kl := kS_lt (n := n) hB a
  have hit := r.i2
  have k9 := r.k
  have e5 : xI h 6 5 = nI a := r.2.2.2.1
  have e : ∀ y, y < 256 → (nI (kS B n a) = nI y ↔ kS B n a = y) := fun y hy => nI_eq (by omega) (by omega)
  have us : unS (kS B n) (pS B n) (vS B n) law pg (.ok (a, sf, cs, rs)) = match unC (kS B n) (vS B n) pg a with
    | none => .error (1, pS B n a)
    | some c => .ok (a, if law = true ∧ kS B n a = 114 then sfO sf (some (6, pS B n a)) else sf, apC cs c, rs ++ [c]) := rfl
  refine B_36_0 r.sh r.i2 r.r ⟨fun z3 => ⟨fun z2 => ⟨fun z115 => ⟨fun z114 => ?_, fun z114 => ?_⟩, fun z115 => ?_⟩, fun z2 => ?_⟩, fun z3 => ?_⟩
  · have uc : unC (kS B n) (vS B n) pg a = none := by
      unfold unC
      rw [if_neg (fun q => z3 ((e 3 (by decide)).mpr q)), if_neg (fun q => z2 ((e 2 (by decide)).mpr q)), if_neg (fun q => z115 ((e 115 (by decide)).mpr q)), if_neg (fun q => z114 ((e 114 (by decide)).mpr q))]
    rw [uc] at us
    refine c_blame (x := 1) (by decide) r (fun h1 f1 r1 => ⟨r1.sh, r1.r, rfl, k h1 f1 ?_⟩)
    rw [us]
    exact r1
  · have k4 := (e 114 (by decide)).mp (Classical.not_not.mp z114)
    have uc : unC (kS B n) (vS B n) pg a = some (12, 8 + pg) := by
      unfold unC
      rw [k4]
      rfl
    rw [uc] at us
    rw [e66, show (8 : Int32) + nI pg = nI (8 + pg) from nI_add 8 pg]
    refine c_put (op := 1) (w := 8 + pg) (c := (12, 8 + pg)) (by decide) (by omega) rfl r (fun h1 f1 r1 => ⟨r1.sh, r1.r, ?_⟩)
    have r1 : RC it B n (.ok (a, sf, apC cs (12, 8 + pg), rs ++ [(12, 8 + pg)])) h1 := r1
    cases law with
    | false =>
      refine ⟨fun _ => ⟨rfl, k h1 f1 ?_⟩, fun z => absurd rfl z⟩
      rw [us]
      exact r1
    | true =>
      refine ⟨fun z => absurd z (by decide), fun _ => ?_⟩
      have a5 : xI h1 6 5 = nI a := r1.2.2.2.1
      rw [a5]
      refine c_soft (x := 6) (by decide) (by omega) (fun c _ => r1.2.2.2.2.1) r1 (fun h2 f2 r2 => ⟨r2.sh, r2.r, rfl, k h2 (f1.tr f2) ?_⟩)
      rw [us]
      dsimp only
      rw [if_pos ⟨rfl, k4⟩]
      exact r2
  · have k4 := (e 115 (by decide)).mp (Classical.not_not.mp z115)
    have uc : unC (kS B n) (vS B n) pg a = some (1, 14) := by
      unfold unC
      rw [k4]
      rfl
    rw [uc] at us
    refine c_put (op := 1) (w := 14) (c := (1, 14)) (by decide) (by decide) rfl r (fun h1 f1 r1 => ⟨r1.sh, r1.r, rfl, k h1 f1 ?_⟩)
    rw [us]
    dsimp only
    rw [if_neg (fun q => by have := q.2; omega)]
    exact r1
  · have k4 := (e 2 (by decide)).mp (Classical.not_not.mp z2)
    have uc : unC (kS B n) (vS B n) pg a = some (11, a) := by
      unfold unC
      rw [k4]
      rfl
    rw [uc] at us
    rw [e5]
    refine c_put (op := 11) (w := a) (c := (11, a)) (by decide) (by omega) rfl r (fun h1 f1 r1 => ⟨r1.sh, r1.r, rfl, k h1 f1 ?_⟩)
    rw [us]
    dsimp only
    rw [if_neg (fun q => by have := q.2; omega)]
    exact r1
  · have k4 := (e 3 (by decide)).mp (Classical.not_not.mp z3)
    have uc : unC (kS B n) (vS B n) pg a = some (0, vS B n a) := by
      unfold unC
      rw [if_pos k4]
    have vl := vS_lt k4
    rw [uc] at us
    rw [e5, tn_nI (show a < 2 ^ 31 by omega), (r.1.2.2.2.1 a r.2.2.2.2.1).2.2.2 k4, oL_32 (by omega)]
    refine ⟨inb (by omega) (by decide), c_put (op := 0) (w := vS B n a) (c := (0, vS B n a)) (by decide) (by omega) rfl r (fun h1 f1 r1 => ⟨r1.sh, r1.r, rfl, k h1 f1 ?_⟩)⟩
    rw [us]
    dsimp only
    rw [if_neg (fun q => by have := q.2; omega)]
    exact r1
end CEX
