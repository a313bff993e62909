/-! READING: laws of the one side -/
/-- lengths of codes -/
def clM (m : Md) : Nat := match m with
  | .error _ => 0
  | .ok (_, _, cs, _) => cs.length
def rlM (m : Md) : Nat := match m with
  | .error _ => 0
  | .ok (_, _, _, rs) => rs.length
def atM (m : Md) : Nat := match m with
  | .error _ => 0
  | .ok (a, _, _, _) => a
def patS (sk : Nat) (m : Md) : Md := match m with
  | .error e => .error e
  | .ok (a, sf, cs, rs) => .ok (a, sf, cs.set sk (9, cs.length), rs)
abbrev Br : Type := Nat × Nat × Nat × Nat × Nat
section LAWS
variable (k p v : Nat → Nat) (pg : Nat)
def if1 (m : Md) : Md := tkS k p 111 m
def if3 (m : Md) : Md := tkS k p 60 (exS k p v true pg (if1 k p m))
def if6 (m : Md) : Md := puS (6, 0) (tkS k p 112 (exS k p v true pg (if3 k p v pg m)))
def if8 (m : Md) : Md := exS k p v true pg (puS (9, 0) (if6 k p v pg m))
def ifS (m : Md) : Md := patS (clM (if6 k p v pg m)) (tkS k p 113 (puS (10, 0) (if8 k p v pg m)))
/-- the branch, as the other side numbers its codes -/
def ifB (m : Md) : Br := (1, rlM (if1 k p m), rlM (if3 k p v pg m), rlM (if6 k p v pg m), rlM (if8 k p v pg m))
def lawL : Nat → Md → List Br → Md × List Br
  | 0, m, b => (m, b)
  | f + 1, m, b => match m with
    | .error e => (.error e, b)
    | .ok (a, sf, cs, rs) => if k a = 111 then (if f = 0 then (.error (2, p a), b) else lawL f (ifS k p v pg (.ok (a, sf, cs, rs))) (b ++ [ifB k p v pg (.ok (a, sf, cs, rs))])) else (.ok (a, sf, cs, rs), b)
def lawM (m : Md) : Md × List Br := lawL k p v pg 5 (tkS k p 61 m) []
def lawS (m : Md) : Md := puS (10, 0) (exS k p v true pg (lawM k p v pg m).1)
end LAWS
section CLAW
variable {it : Nat} {B : Nat → Nat} {n : Nat} {h h0 : XH} {m : Md} {pg : Nat} {Q : Value → XH → Prop}
theorem c_takeM {x : Nat} {K : Int32 → XH → Prop} (hB : ∀ i, B i < 256) (hx : x < 256) (hx2 : 2 ≤ x) (r : RC it B n m h) (k : ∀ h1 v, EX it h h1 → RC it B n (tkS (kS B n) (pS B n) x m) h1 → K v h1) : ClI 26 [.ref 6, .int (nI x)] h K :=
  c_take hB hx hx2 r (fun h1 _ _ f r => k h1 _ f r) (fun h1 _ _ f r => k h1 _ f r)
theorem pat_len {l : List Cd} {i : Nat} {c : Cd} : (l.set i c).length = l.length := List.length_set
theorem cdAt_set {l : List Cd} {i j : Nat} {c : Cd} (hj : j < l.length) : cdAt (l.set i c) j = if i = j then c else cdAt l j := by
  unfold cdAt
  rw [List.getD_eq_getElem?_getD, List.getD_eq_getElem?_getD, List.getElem?_set]
  split
  · rename_i e
    subst e
    rw [if_pos hj]
    rfl
  · rfl
/-- the place behind is known: the skip is told where to -/
theorem RC.pat {sk : Nat} {m0 : Md} {h11 : XH} (r : RC it B n m h) (r0 : RC it B n m0 h11) (hsk : xI h11 it 7 = nI sk) (hs : sk < 512) (hm : ∀ c, m = .ok c → sk = clM m0) : RC it B n (patS (clM m0) m) (xsI h (it + 9) sk (((xI h it 7) <<< ((4 : Int32) &&& 31)) ||| 9)) := by
  have hit := r.i2
  have f : EX it h (xsI h (it + 9) sk (((xI h it 7) <<< ((4 : Int32) &&& 31)) ||| 9)) := EX.rf.f9 hit
  match m, r, hm with
  | .error e, r, hm =>
    obtain ⟨e1, e2, e3, e4, e5, ⟨b, e6, e7⟩, l, e8, e9⟩ := r.2
    exact ⟨r.1.ex f, e1, e2, e3, by rw [xI_n (by omega)]; exact e4, by rw [xI_n (by omega)]; exact e5, ⟨b, e6, by rw [xI_n (by omega)]; exact e7⟩, ⟨l, e8, by rw [xI_n (by omega)]; exact e9⟩⟩
  | .ok (a, sf, cs, rs), r, hm =>
    have es := hm _ rfl
    obtain ⟨e1, e0, e2, e3, e4, e5, e6, e7⟩ := r.2
    refine ⟨r.1.ex f, by rw [xI_n (by omega)]; exact e1, by rw [xI_n (by omega)]; exact e0, by rw [xI_n (by omega)]; exact e2, e3, by unfold sfR; rw [xI_n (by omega)]; exact e4, ?_⟩
    rw [pat_len]
    refine ⟨e5, by rw [xI_n (by omega)]; exact e6, fun i hi => ?_⟩
    rw [cdAt_set hi, ← es, e6]
    have o4 := or4 (x := cs.length) (y := 9) (by omega) (by decide)
    rw [show (nI cs.length <<< ((4 : Int32) &&& 31)) ||| (9 : Int32) = nI (16 * cs.length + 9) from o4]
    by_cases q : sk = i
    · subst q
      rw [xI_ss, if_pos rfl]
      rfl
    · rw [xI_sd (fun z => q z.symm), if_neg q]
      exact e7 i hi
theorem c_if {x1 : Int32} (hB : ∀ i, B i < 256) (hpg : pg ≤ 6) (r : RC it B n m h) (e66 : xI h 6 6 = nI pg) (kk : ∀ h1, EW it h h1 → RC it B n (ifS (kS B n) (pS B n) (vS B n) pg m) h1 → Ev 33 145 [.ref 6, .int x1, .null] [] h1 Q) : Ev 33 45 [.ref 6, .int x1, .null] [] h Q := by
  have hit := r.i2
  refine B_33_45 r.sh r.i2 r.r (c_takeM hB (by decide) (by decide) r (fun h1 v1 f1 r1 => ⟨r1.sh, r1.r, ?_⟩))
  have g1 := f1.w
  refine c_expr (law := true) hB hpg r1 (by rw [g1.2.1 6 (by decide)]; exact e66) (fun h3 f3 r3 => ⟨r3.sh, r3.r, ?_⟩)
  have g3 := g1.tr f3
  refine c_takeM hB (by decide) (by decide) r3 (fun h5 v5 f5 r5 => ⟨r5.sh, r5.r, ?_⟩)
  have g5 := g3.tr f5.w
  refine c_expr (law := true) hB hpg r5 (by rw [g5.2.1 6 (by decide)]; exact e66) (fun h7 f7 r7 => ⟨r7.sh, r7.r, ?_⟩)
  have g7 := g5.tr f7
  refine c_takeM hB (by decide) (by decide) r7 (fun h9 v9 f9 r9 => ⟨r9.sh, r9.r, ?_⟩)
  have g9 := g7.tr f9.w
  refine c_put (op := 6) (w := 0) (c := (6, 0)) (by decide) (by decide) rfl r9 (fun h11 f11 r11 => ⟨r11.sh, r11.r, ?_⟩)
  have g11 := g9.tr f11.w
  refine c_put (op := 9) (w := 0) (c := (9, 0)) (by decide) (by decide) rfl r11 (fun h13 f13 r13 => ⟨r13.sh, r13.r, ?_⟩)
  have g13 := g11.tr f13.w
  refine c_expr (law := true) hB hpg r13 (by rw [g13.2.1 6 (by decide)]; exact e66) (fun h15 f15 r15 => ⟨r15.sh, r15.r, ?_⟩)
  have g15 := g13.tr f15
  refine c_put (op := 10) (w := 0) (c := (10, 0)) (by decide) (by decide) rfl r15 (fun h17 f17 r17 => ⟨r17.sh, r17.r, ?_⟩)
  have g17 := g15.tr f17.w
  refine c_takeM hB (by decide) (by decide) r17 (fun h19 v19 f19 r19 => ⟨r19.sh, r19.r, ?_⟩)
  have g19 := g17.tr f19.w
  have r11' : RC it B n (if6 (kS B n) (pS B n) (vS B n) pg m) h11 := r11
  obtain ⟨sk, hsk, esk, eok⟩ : ∃ sk, sk ≤ 512 ∧ xI h11 it 7 = nI sk ∧ ∀ c, if6 (kS B n) (pS B n) (vS B n) pg m = .ok c → sk = clM (if6 (kS B n) (pS B n) (vS B n) pg m) := by
    match hm : if6 (kS B n) (pS B n) (vS B n) pg m with
    | .error e =>
      rw [hm] at r11'
      obtain ⟨e1, e2, e3, e4, e5, e6, l, e8, e9⟩ := r11'.2
      exact ⟨l, e8, e9, fun c hc => by cases hc⟩
    | .ok (a, sf, cs, rs) =>
      rw [hm] at r11'
      obtain ⟨e1, e0, e2, e3, e4, e5, e6, e7⟩ := r11'.2
      exact ⟨cs.length, e5, e6, fun c _ => rfl⟩
  have back : ∀ c, tkS (kS B n) (pS B n) 113 (puS (10, 0) (if8 (kS B n) (pS B n) (vS B n) pg m)) = .ok c → ∃ c', if6 (kS B n) (pS B n) (vS B n) pg m = .ok c' := by
    intro c hc
    match hm : if6 (kS B n) (pS B n) (vS B n) pg m with
    | .error e =>
      unfold if8 at hc
      rw [hm] at hc
      cases hc
    | .ok c' => exact ⟨c', rfl⟩
  rw [esk, tn_nI (show sk < 2 ^ 31 by omega)]
  have r19' : RC it B n (tkS (kS B n) (pS B n) 113 (puS (10, 0) (if8 (kS B n) (pS B n) (vS B n) pg m))) h19 := r19
  refine ⟨fun z => kk h19 g19 ?_, fun z => ⟨?_, kk _ (g19.tr (EX.rf.f9 hit).w) ?_⟩⟩
  · have s5 : ¬ sk < 512 := fun q => nI_ge (a := sk) (b := 512) q (by decide) z
    unfold ifS
    match hm : tkS (kS B n) (pS B n) 113 (puS (10, 0) (if8 (kS B n) (pS B n) (vS B n) pg m)) with
    | .error e => rw [hm] at r19'; exact r19'
    | .ok (a, sf, cs, rs) =>
      rw [hm] at r19'
      obtain ⟨c', hc'⟩ := back _ hm
      have e := eok c' hc'
      have l5 : cs.length ≤ 512 := r19'.2.2.2.2.2.2.1
      have : cs.set (clM (if6 (kS B n) (pS B n) (vS B n) pg m)) (9, cs.length) = cs := List.set_eq_of_length_le (by omega)
      show RC it B n (.ok (a, sf, cs.set (clM (if6 (kS B n) (pS B n) (vS B n) pg m)) (9, cs.length), rs)) h19
      rw [this]
      exact r19'
  · have s5 : sk < 512 := by
      apply Classical.byContradiction
      intro q
      exact z (nI_le (a := 512) (b := sk) (by omega) (by omega))
    exact inb s5 (by decide)
  · have s5 : sk < 512 := by
      apply Classical.byContradiction
      intro q
      exact z (nI_le (a := 512) (b := sk) (by omega) (by omega))
    exact RC.pat (m0 := if6 (kS B n) (pS B n) (vS B n) pg m) r19' r11' esk s5 (fun c hc => by obtain ⟨c', hc'⟩ := back c hc; exact eok c' hc')
theorem l_law {M : Md} (hB : ∀ i, B i < 256) (hpg : pg ≤ 6) (kk : ∀ h1, EW it h0 h1 → RC it B n (puS (10, 0) (exS (kS B n) (pS B n) (vS B n) true pg M)) h1 → Q .null h1) :
    ∀ (f : Nat) (m : Md) (b : List Br) (h : XH), f ≤ 5 → EW it h0 h → RC it B n m h → xI h 6 6 = nI pg → M = (lawL (kS B n) (pS B n) (vS B n) pg f m b).1 → Ev 33 9 [.ref 6, .int (nI (5 - f)), .null] [] h Q := by
  have last : ∀ (m : Md) (h : XH), EW it h0 h → RC it B n m h → xI h 6 6 = nI pg → M = m → Ev 33 151 [.ref 6, .null, .null] [] h Q := by
    intro m h g r e66 em
    refine B_33_151 r.sh r.i2 r.r (c_expr (law := true) hB hpg r e66 (fun h1 f1 r1 => ⟨r1.sh, r1.r, ?_⟩))
    refine c_put (op := 10) (w := 0) (c := (10, 0)) (by decide) (by decide) rfl r1 (fun h2 f2 r2 => ⟨r2.sh, r2.r, kk h2 ((g.tr f1).tr f2.w) ?_⟩)
    rw [em]
    exact r2
  intro f
  induction f with
  | zero =>
    intro m b h hf g r e66 eM
    exact B_33_9 r.sh r.i2 r.r ⟨fun _ => last m h g r e66 eM, fun z => absurd (nI_lt (a := 4) (b := 5) (by decide) (by decide)) z⟩
  | succ f ih =>
    intro m b h hf g r e66 eM
    have n4 : ¬ (4 : Int32) < nI (5 - (f + 1)) := nI_nlt (a := 4) (b := 5 - (f + 1)) (by omega) (by decide)
    refine B_33_9 r.sh r.i2 r.r ⟨fun z => absurd z n4, fun _ => ?_⟩
    match m, r, eM with
    | .error e, r, eM =>
      have e4 : xI h 6 1 = nI e.1 := r.2.2.2.2.1
      have e1 : 1 ≤ e.1 := r.2.1
      have e2 : e.1 < 20 := r.2.2.1
      have ne : ¬ xI h 6 1 = (0 : Int32) := fun q => by rw [e4] at q; have := (nI_eq (a := e.1) (b := 0) (by omega) (by decide)).mp q; omega
      exact ⟨fun _ => last _ h g r e66 eM, fun z => absurd ne z⟩
    | .ok (a, sf, cs, rs), r, eM =>
      have k9 := r.k
      have e1 : xI h 6 1 = nI 0 := r.2.1
      have e5 : xI h 6 5 = nI a := r.2.2.2.1
      have kl := kS_lt (n := n) hB a
      have eM : M = (if kS B n a = 111 then (if f = 0 then (.error (2, pS B n a), b) else lawL (kS B n) (pS B n) (vS B n) pg f (ifS (kS B n) (pS B n) (vS B n) pg (.ok (a, sf, cs, rs))) (b ++ [ifB (kS B n) (pS B n) (vS B n) pg (.ok (a, sf, cs, rs))])) else ((.ok (a, sf, cs, rs) : Md), b)).1 := eM
      rw [e1, e5, tn_nI (show a < 2 ^ 31 by omega), k9.1]
      refine ⟨fun z => absurd rfl z, fun _ => ⟨inb (by omega) (by decide), fun z => ?_, fun z => ?_⟩⟩
      · rw [if_neg (fun q => z (by rw [q]; rfl))] at eM
        exact last _ h g r e66 eM
      · have k1 : kS B n a = 111 := (nI_eq (b := 111) (by omega) (by decide)).mp (Classical.not_not.mp z)
        rw [if_pos k1] at eM
        refine ⟨fun y => ?_, fun y => ?_⟩
        · have f0 : f ≠ 0 := fun q => y (by rw [q]; rfl)
          rw [if_neg f0] at eM
          refine c_if hB hpg r e66 (fun h1 f1 r1 => B_33_145 r1.sh r1.i2 r1.r ?_)
          rw [nI_1, show 5 - (f + 1) + 1 = 5 - f by omega]
          exact ih _ _ h1 (by omega) (g.tr f1) r1 (by rw [f1.2.1 6 (by decide)]; exact e66) eM
        · have f0 : f = 0 := by
            have := (nI_eq (a := 5 - (f + 1)) (b := 4) (by omega) (by decide)).mp (Classical.not_not.mp y)
            omega
          rw [if_pos f0] at eM
          have eM2 : M = .error (2, pS B n a) := eM
          refine c_blame (x := 2) (by decide) r (fun h1 f1 r1 => ⟨r1.sh, r1.r, ?_⟩)
          have r1 : RC it B n (.error (2, pS B n a)) h1 := r1
          refine c_if hB hpg r1 (by rw [f1.2.1 6 (by decide)]; exact e66) (fun h2 f2 r2 => B_33_145 r2.sh r2.i2 r2.r ?_)
          have r2 : RC it B n (.error (2, pS B n a)) h2 := r2
          subst f0
          rw [nI_1]
          exact ih (.error (2, pS B n a)) b h2 (by omega) ((g.tr f1.w).tr f2) r2 (by rw [f2.2.1 6 (by decide), f1.2.1 6 (by decide)]; exact e66) eM2
theorem c_law {K : XH → Prop} (hB : ∀ i, B i < 256) (hpg : pg ≤ 6) (r : RC it B n m h) (e66 : xI h 6 6 = nI pg) (k : ∀ h1, EW it h h1 → RC it B n (lawS (kS B n) (pS B n) (vS B n) pg m) h1 → K h1) : ClV 33 [.ref 6] h K := by
  refine B_33_0 r.sh r.i2 r.r (c_takeM hB (by decide) (by decide) r (fun h1 v1 f1 r1 => ⟨r1.sh, r1.r, ?_⟩))
  exact l_law (h0 := h) hB hpg (fun h2 f2 r2 => ⟨rfl, k h2 f2 r2⟩) 5 _ [] h1 (by decide) f1.w r1 (by rw [f1.2.1 6 (by decide)]; exact e66) rfl
end CLAW
