/-! A TEXT THAT WAS READ: what the one side's words keep -/
theorem or6 : ∀ n, n < 6 → ∀ X, X < 64 → X < 2 ^ n → nI X ||| bt n = nI (X + 2 ^ n) := by decide +kernel
theorem bor_X {f : Nat → Bool} : ∀ n, n ≤ 6 → ∃ X, X < 2 ^ n ∧ bor (fun j => if f j = true then bt j else 0) n = nI X := by
  intro n
  induction n with
  | zero => intro _; exact ⟨0, by decide, rfl⟩
  | succ n ih =>
    intro hn
    obtain ⟨X, hX, e⟩ := ih (by omega)
    have e1 : bor (fun j => if f j = true then bt j else 0) (n + 1) = bor (fun j => if f j = true then bt j else 0) n ||| (if f n = true then bt n else 0) := rfl
    have p2 : 2 ^ (n + 1) = 2 ^ n + 2 ^ n := by rw [Nat.pow_succ]; omega
    have p6 : 2 ^ n ≤ 2 ^ 5 := Nat.pow_le_pow_right (by decide) (by omega)
    rw [e1, e]
    split
    · exact ⟨X + 2 ^ n, by omega, or6 n (by omega) X (by omega) hX⟩
    · exact ⟨X, by omega, Int32.or_zero⟩
section PTX
variable {it : Nat} {B : Nat → Nat} {n : Nat} {h : XH} {cs rs : List Cd} {F : List Fa} {G : List Pg} {LW : List Lw} {BR : List Br} {sl sd pg a : Nat} {rz : Nat → Nat} {T : Nat → Nat → Int32}
/-- the words, by their names -/
def TX (T : Nat → Nat → Int32) (rz : Nat → Nat) (cs : List Cd) (st : St) : Prop := (cs.length ≤ 400 ∧ T 0 7 = nI cs.length ∧ atE (T 9) rz 0 cs) ∧ (T 0 0 = nI st.1.length ∧ T 0 6 = nI (wcF st.1 st.1.length) ∧ T 0 4 = whB st.1 1 ∧ T 0 5 = whB st.1 2 ∧ (∀ f, f < 8 → ∃ m, m ≤ 3 ∧ T 1 f = nI m) ∧ ∀ f, f < st.1.length → T 1 f = nI (cl13 (faA st.1 f).2.1) ∧ T 2 f = nI (faA st.1 f).2.2.1 ∧ T 3 f = nI (wcF st.1 f)) ∧ (T 0 1 = nI st.2.1.length ∧ (∀ p, st.2.1.length ≤ p → p < 6 → T 6 p = nI 0) ∧ ∀ p, p < st.2.1.length → T 5 p = nI (pgA st.2.1 p).2.1 ∧ T 6 p = nI (pgA st.2.1 p).2.2.length ∧ ∀ c, c < (pgA st.2.1 p).2.2.length → T 8 (p * 6 + c) = nI (cmA (pgA st.2.1 p).2.2 c).1) ∧ (∀ f, f < 8 → T 4 f = lwA st.2.2.1 f) ∧ (T 0 2 = nI st.2.2.2.2.1 ∧ T 0 3 = nI st.2.2.2.2.2.1) ∧ (∀ q, q < 6 → T 7 q = if q < st.2.1.length then lsBt rz cs (pgA st.2.1 q).2.2 (pgA st.2.1 q).2.2.length else 0) ∧ T 0 8 = nI (if st.2.2.2.2.1 = 0 ∧ ¬ dyL rz cs = true then 1 else 0)
theorem JT.tx {st : St} (j : JT it B n cs st h) (hl : cs.length ≤ 400) : TX (txS h it) (rzF B n st.1 st.2.1) cs st := by
  obtain ⟨⟨z1, z2, z3, z4, z5, z6⟩, f, g, l, o, s7, s8⟩ := j
  obtain ⟨f1, f2, f3, f4, f5, f6, f7⟩ := f
  obtain ⟨g1, g2, g3, g4⟩ := g
  refine ⟨⟨hl, z5, atE_all cs 0 (fun j hj => ?_)⟩, ⟨f2, f3, f4, f5, f6, fun f hf => ⟨(f7 f hf).1, (f7 f hf).2.1, (f7 f hf).2.2.2.2.1⟩⟩, ⟨g2, g3, fun p hp => ⟨(g4 p hp).1, (g4 p hp).2.2.1, fun c hc => ((g4 p hp).2.2.2.2.2.2.2 c hc).1⟩⟩, l, ⟨o.1, o.2.2.1⟩, s7, s8⟩
  rw [Nat.zero_add]
  exact z6 j hj
theorem atE_at : ∀ (cs : List Cd) (i j : Nat), atE (T 9) rz i cs → j < cs.length → T 9 (i + j) = nI (wz rz (cdAt cs j)) ∧ wz rz (cdAt cs j) < 2 ^ 20 := by
  intro cs
  induction cs with
  | nil => intro i j _ hj; exact absurd hj (Nat.not_lt_zero _)
  | cons c t ih =>
    intro i j h hj
    cases j with
    | zero => exact h.1
    | succ j =>
      have := ih (i + 1) j h.2 (by have hj : j + 1 < t.length + 1 := hj; omega)
      rw [show i + 1 + j = i + (j + 1) by omega] at this
      exact this
/-- a word that looks something up -/
theorem okC_v {x : Cd} (hr : ∀ j, rz j < 14) (h : okC (kS B n) (vS B n) x) (h1 : wz rz x % 16 = 1) : wz rz x / 16 < 15 ∧ (pv x = true ∧ x.1 ≠ 0 ∧ wz rz x / 16 = vz rz x) := by
  rcases h with ⟨pg, hp, q⟩ | q
  · rcases q with ⟨q, j, hj, e⟩ | ⟨q, e⟩ | ⟨q, e⟩ | ⟨q, e⟩ | ⟨q, e, e0⟩
    · have e1 : wz rz x = 16 * x.2 := by unfold wz cw; rw [if_neg (by omega), if_neg (by omega), q]; omega
      omega
    · have e1 : wz rz x = 225 := by unfold wz cw; rw [if_neg (by omega), if_neg (by omega), q, e]
      have e2 : vz rz x = 14 := by unfold vz; rw [if_neg (by omega), e]
      refine ⟨by omega, ?_, by omega, by omega⟩
      unfold pv; rw [q]; rfl
    · have e2 : wz rz x = 16 * rz x.2 + 1 := by unfold wz; rw [if_pos q]
      have e3 : vz rz x = rz x.2 := by unfold vz; rw [if_pos q]
      have := hr x.2
      refine ⟨by omega, ?_, by omega, by omega⟩
      unfold pv; rw [q]; rfl
    · have e1 : wz rz x = 16 * x.2 + 1 := by unfold wz cw; rw [if_neg (by omega), if_pos q]
      have e3 : vz rz x = x.2 := by unfold vz; rw [if_neg (by omega)]
      refine ⟨by omega, ?_, by omega, by omega⟩
      unfold pv; rw [q]; rfl
    · have e1 : wz rz x = x.1 := by unfold wz cw; rw [if_neg (by omega), if_neg (by omega), e0]; omega
      omega
  · have e1 : wz rz x = 16 * x.2 + x.1 := by unfold wz cw; rw [if_neg (by omega), if_neg (by omega)]
    omega
theorem dyL_no : ∀ (cs : List Cd), ¬ dyL rz cs = true → ∀ x ∈ cs, wz rz x ≠ 225 := by
  intro cs
  induction cs with
  | nil => intro _ x hx; cases hx
  | cons c t ih =>
    intro h x hx
    have h : ¬ (if wz rz c = 225 then true else dyL rz t) = true := h
    by_cases q : wz rz c = 225
    · rw [if_pos q] at h; exact absurd rfl h
    · rw [if_neg q] at h
      rcases List.mem_cons.mp hx with z | z
      · rw [z]; exact q
      · exact ih h x z
theorem prd_wc (m : Nat → Nat) (F : List Fa) (hm : ∀ f, f < F.length → m f = (faA F f).2.1) (hw : ∀ f, f < F.length → wcF F (f + 1) = wcF F f * ((faA F f).2.1 + 1)) : ∀ f, f ≤ F.length → prd m f = wcF F f := by
  intro f
  induction f with
  | zero => intro _; rfl
  | succ f ih =>
    intro hf
    show prd m f * (m f + 1) = _
    rw [ih (by omega), hm f (by omega), hw f (by omega)]
theorem gb_wh {w f : Nat} (hl : F.length ≤ 8) (hf : f < 32) : gb (whB F w) f = (decide (f < F.length) && decide ((faA F f).2.2.2 = w)) := by
  unfold whB
  have e : (fun f => if (faA F f).2.2.2 = w then bt f else 0) = fun j => if decide ((faA F j).2.2.2 = w) = true then bt j else 0 := by
    funext j
    by_cases q : (faA F j).2.2.2 = w
    · rw [if_pos q, if_pos (decide_eq_true q)]
    · rw [if_neg q, if_neg (by rw [decide_eq_false q]; decide)]
  rw [e, gb_bor (f := fun j => decide ((faA F j).2.2.2 = w)) hf _ (by omega)]
theorem wh_bor {w : Nat} (hl : F.length ≤ 8) : whB F w = bor (fun f => if (whB F w >>> (nI f &&& 31)) &&& 1 = 1 then bt f else 0) F.length := by
  have e : ∀ f, f < F.length → (if (faA F f).2.2.2 = w then bt f else 0) = (if (whB F w >>> (nI f &&& 31)) &&& 1 = 1 then bt f else 0) := by
    intro f hf
    have g := gb_wh (w := w) hl (show f < 32 by omega)
    rw [decide_eq_true hf, Bool.true_and] at g
    by_cases q : (faA F f).2.2.2 = w
    · rw [if_pos q, if_pos ((bit_get (by omega)).mpr (by rw [g]; exact decide_eq_true q))]
    · rw [if_neg q, if_neg (fun z => by
        have := (bit_get (by omega)).mp z
        rw [g, decide_eq_false q] at this
        exact absurd this (by decide))]
  exact bor_c F.length e
/-- a claim, as the one side goes through it -/
theorem ck_rn (x : TX T rz cs (F, G, LW, BR, sl, sd, pg)) {p c : Nat} {v r : Nat → Int32} {E1 E2 : List Cd} {so : Nat} (hp : p < G.length) (hc : c < (pgA G p).2.2.length) (hs : so ≤ 2) (sg : seg cs (cmA (pgA G p).2.2 c).1 (E1 ++ E2 ++ [(6 + so, 0), (10, 0)])) (g1 : gE rz v r E1) (g2 : gE rz v r E2) : rnT T r (T 8 (p * 6 + c)) = match ev1 rz r E1 with
    | none => none
    | some x => match ev1 rz r E2 with
      | none => none
      | some y => some (aop (nI (6 + so)) x y) := by
  obtain ⟨⟨x1, x2, x3⟩, _, ⟨_, _, x4⟩, _⟩ := x
  have e8 : T 8 (p * 6 + c) = nI (cmA (pgA G p).2.2 c).1 := (x4 p hp).2.2 c hc
  have sl := sg.le
  simp only [List.length_append, List.length_cons, List.length_nil] at sl
  unfold rnT
  rw [e8, x2, if_neg (nI_pos (by omega)), tn_nI (by omega), tn_nI (by omega)]
  exact rn_cl (by omega) (x3.sg sg) hs g1 g2 (by omega) (by omega)
theorem lkL_seg : ∀ (E : List Cd) (w : List Cd), (∀ x ∈ E, wz rz x ≠ 10) → lkL rz (E ++ (10, 0) :: w) = false → ∀ x ∈ E, ¬ (wz rz x % 16 = 1 ∧ 8 ≤ wz rz x / 16 ∧ wz rz x / 16 < 14) := by
  intro E
  induction E with
  | nil => intro w _ _ x hx; cases hx
  | cons c t ih =>
    intro w hn h x hx
    have h : (if wz rz c = 10 then false else if wz rz c % 16 = 1 ∧ 8 ≤ wz rz c / 16 ∧ wz rz c / 16 < 14 then true else lkL rz (t ++ (10, 0) :: w)) = false := h
    rw [if_neg (hn c List.mem_cons_self)] at h
    by_cases q : wz rz c % 16 = 1 ∧ 8 ≤ wz rz c / 16 ∧ wz rz c / 16 < 14
    · rw [if_pos q] at h; cases h
    · rw [if_neg q] at h
      rcases List.mem_cons.mp hx with z | z
      · rw [z]; exact q
      · exact ih w (fun y hy => hn y (List.mem_cons_of_mem _ hy)) h x z
theorem evE_c {r r' : Nat → Int32} : ∀ (E : List Cd) (st : List Int32), (∀ x ∈ E, pv x = true → x.1 ≠ 0 → r (vz rz x) = r' (vz rz x)) → evE rz r E st = evE rz r' E st := by
  intro E
  induction E with
  | nil => intro st _; rfl
  | cons c t ih =>
    intro st h
    have ee : ∀ r, evE rz r (c :: t) st = if pv c = true then evE rz r t (vlR rz r c :: st) else match st with
      | b :: a :: s => if c.1 = 5 ∧ b = 0 then none else evE rz r t (aop (nI c.1) a b :: s)
      | _ => none := fun _ => rfl
    have ht : ∀ x ∈ t, pv x = true → x.1 ≠ 0 → r (vz rz x) = r' (vz rz x) := fun x hx => h x (List.mem_cons_of_mem _ hx)
    rw [ee, ee]
    by_cases q : pv c = true
    · rw [if_pos q, if_pos q]
      have ev : vlR rz r c = vlR rz r' c := by
        unfold vlR
        by_cases z : c.1 = 0
        · rw [if_pos z, if_pos z]
        · rw [if_neg z, if_neg z]; exact h c List.mem_cons_self q z
      rw [ev]
      exact ih _ ht
    · rw [if_neg q, if_neg q]
      match st with
      | b :: a :: s =>
        dsimp only
        split
        · rfl
        · exact ih _ ht
      | [] => rfl
      | [_] => rfl
theorem ev1_c {r r' : Nat → Int32} {E : List Cd} (h : ∀ x ∈ E, pv x = true → x.1 ≠ 0 → r (vz rz x) = r' (vz rz x)) : ev1 rz r E = ev1 rz r' E := by
  unfold ev1
  rw [evE_c E [] h]
end PTX
