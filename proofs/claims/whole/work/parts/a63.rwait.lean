/-! READING: the other side; what waits, what comes out, units -/
def segO (s : List Nat) : Prop := s = [] ∨ (∃ x, s = [x] ∧ 1 ≤ clo x) ∨ ∃ x y, s = [x, y] ∧ clo x = 2 ∧ clo y = 1
def WI : Nat → List Nat → Prop
  | 0, ws => segO ws
  | ne + 1, ws => ∃ s r, ws = s ++ 40 :: r ∧ segO s ∧ WI ne r
theorem segO_len {s : List Nat} (h : segO s) : s.length ≤ 2 := by
  rcases h with e | ⟨x, e, _⟩ | ⟨x, y, e, _⟩ <;> rw [e] <;> simp
theorem WI_len : ∀ ne ws, WI ne ws → ws.length ≤ 3 * ne + 2 ∧ ne ≤ ws.length := by
  intro ne
  induction ne with
  | zero => intro ws h; exact ⟨segO_len h, Nat.zero_le _⟩
  | succ ne ih =>
    intro ws h
    obtain ⟨s, r, e, hs, hr⟩ := h
    have h1 := segO_len hs
    have h2 := ih r hr
    rw [e, List.length_append]
    show s.length + (r.length + 1) ≤ _ ∧ _ ≤ s.length + (r.length + 1)
    omega
theorem clo40 : clo 40 = 0 := rfl
theorem pop_seg1 {s r : List Nat} (h : segO s) : popW 1 (s ++ 40 :: r) = 40 :: r := by
  have e0 : popW 1 (40 :: r) = 40 :: r := by show (if 1 ≤ clo 40 then _ else _) = _; rw [clo40]; rfl
  rcases h with e | ⟨x, e, hx⟩ | ⟨x, y, e, hx, hy⟩
  · rw [e]; exact e0
  · rw [e]
    show (if 1 ≤ clo x then popW 1 (40 :: r) else _) = _
    rw [if_pos hx, e0]
  · rw [e]
    show (if 1 ≤ clo x then (if 1 ≤ clo y then popW 1 (40 :: r) else _) else _) = _
    rw [if_pos (by omega), if_pos (by omega), e0]
theorem pop_seg1' {s : List Nat} (h : segO s) : popW 1 s = [] := by
  rcases h with e | ⟨x, e, hx⟩ | ⟨x, y, e, hx, hy⟩
  · rw [e]; rfl
  · rw [e]
    show (if 1 ≤ clo x then popW 1 [] else _) = _
    rw [if_pos hx]; rfl
  · rw [e]
    show (if 1 ≤ clo x then (if 1 ≤ clo y then popW 1 [] else _) else _) = _
    rw [if_pos (by omega), if_pos (by omega)]; rfl
/-- an operator: the closer ones come out, it waits -/
theorem seg_op {s t : List Nat} {k : Nat} (ht : t = [] ∨ ∃ r, t = 40 :: r) (h : segO s) (hk : 1 ≤ clo k) : ∃ s', segO (k :: s') ∧ popW (clo k) (s ++ t) = s' ++ t := by
  have et : ∀ c, 1 ≤ c → popW c t = t := by
    intro c hc
    rcases ht with e | ⟨r, e⟩
    · rw [e]; rfl
    · rw [e]; show (if c ≤ clo 40 then _ else _) = _; rw [clo40, if_neg (by omega)]
  have k2 := clo_le k
  rcases h with e | ⟨x, e, hx⟩ | ⟨x, y, e, hx, hy⟩
  · subst e
    exact ⟨[], Or.inr (Or.inl ⟨k, rfl, hk⟩), et _ hk⟩
  · subst e
    by_cases q : clo k ≤ clo x
    · refine ⟨[], Or.inr (Or.inl ⟨k, rfl, hk⟩), ?_⟩
      show (if clo k ≤ clo x then popW (clo k) t else _) = _
      rw [if_pos q, et _ hk]
      rfl
    · refine ⟨[x], Or.inr (Or.inr ⟨k, x, rfl, by omega, by omega⟩), ?_⟩
      show (if clo k ≤ clo x then popW (clo k) t else _) = _
      rw [if_neg q]
      rfl
  · subst e
    by_cases q : clo k ≤ clo y
    · refine ⟨[], Or.inr (Or.inl ⟨k, rfl, hk⟩), ?_⟩
      show (if clo k ≤ clo x then (if clo k ≤ clo y then popW (clo k) t else _) else _) = _
      rw [if_pos (by omega), if_pos q, et _ hk]
      rfl
    · refine ⟨[y], Or.inr (Or.inr ⟨k, y, rfl, by omega, by omega⟩), ?_⟩
      show (if clo k ≤ clo x then (if clo k ≤ clo y then popW (clo k) t else _) else _) = _
      rw [if_pos (by omega), if_neg q]
      rfl
theorem WI_op {ne k : Nat} {ws : List Nat} (h : WI ne ws) (hk : 1 ≤ clo k) : WI ne (k :: popW (clo k) ws) := by
  cases ne with
  | zero =>
    obtain ⟨s', h1, h2⟩ := seg_op (t := []) (Or.inl rfl) h hk
    rw [List.append_nil, List.append_nil] at h2
    rw [h2]
    exact h1
  | succ ne =>
    obtain ⟨s, r, e, hs, hr⟩ := h
    obtain ⟨s', h1, h2⟩ := seg_op (t := 40 :: r) (Or.inr ⟨r, rfl⟩) hs hk
    rw [e, h2]
    exact ⟨k :: s', r, rfl, h1, hr⟩
theorem WI_open {ne : Nat} {ws : List Nat} (h : WI ne ws) : WI (ne + 1) (40 :: ws) := ⟨[], ws, rfl, Or.inl rfl, h⟩
theorem WI_close {ne : Nat} {ws : List Nat} (h : WI (ne + 1) ws) : ∃ r, popW 1 ws = 40 :: r ∧ WI ne r := by
  obtain ⟨s, r, e, hs, hr⟩ := h
  exact ⟨r, by rw [e]; exact pop_seg1 hs, hr⟩
theorem pop_len {c : Nat} : ∀ ws cs rs, (pop c ws cs rs).2.2.length + (popW c ws).length = rs.length + ws.length := by
  intro ws
  induction ws with
  | nil => intro cs rs; rfl
  | cons w t ih =>
    intro cs rs
    show (if c ≤ clo w then pop c t (apC cs (opc w, 0)) (rs ++ [(opc w, 0)]) else (w :: t, cs, rs)).2.2.length + (if c ≤ clo w then popW c t else w :: t).length = _
    split
    · rw [ih, ap1]
      show _ = rs.length + (t.length + 1)
      omega
    · rfl
/-- codes, names, waiting ones as the other side holds them -/
def cdR (s : Nat) (rs : List Cd) (h : XH) : Prop := xI h 69 51 = nI (420 * s + rs.length) ∧ ∀ i, i < rs.length → xI h 103 (420 * s + i) = nI (rcK (cdAt rs i)) ∧ xI h 104 (420 * s + i) = nI (rcV (cdAt rs i))
def rfR (s : Nat) (rs : List Cd) (h : XH) : Prop := xI h 69 39 = nI (rfA 0 rs).length ∧ ∀ k, k < (rfA 0 rs).length → xI h 94 k = nI (420 * s + (rfG (rfA 0 rs) k).1) ∧ xI h 95 k = nI (rfG (rfA 0 rs) k).2
def wlR (f : Nat → Int32) : List Nat → Prop
  | [] => True
  | w :: t => f t.length = nI (rkd w) ∧ wlR f t
theorem wlR_up {f : Nat → Int32} {v : Int32} : ∀ {s : List Nat} {n : Nat}, s.length ≤ n → wlR f s → wlR (up f n v) s := by
  intro s
  induction s with
  | nil => intro n _ _; trivial
  | cons b s ih =>
    intro n hn h
    exact ⟨(up_ne (by simp at hn; omega)).trans h.1, ih (by simp at hn; omega) h.2⟩
def wOp (w : Nat) : Prop := w = 40 ∨ w = 42 ∨ w = 43 ∨ w = 45 ∨ w = 47
def WR (ws : List Nat) (h : XH) : Prop := ws.length ≤ 40 ∧ xI h 69 55 = nI ws.length ∧ wlR (xI h 105) ws ∧ ∀ w ∈ ws, wOp w
section REM
variable {s o : Nat} {B : Nat → Nat} {n : Nat} {h h0 : XH} {m : Md} {a : Nat} {sf : Option (Nat × Nat)} {cs rs : List Cd} {Q : Value → XH → Prop}
theorem cdAt_l {l : List Cd} {c : Cd} {i : Nat} (hi : i < l.length) : cdAt (l ++ [c]) i = cdAt l i := by
  unfold cdAt
  rw [List.getD_eq_getElem?_getD, List.getElem?_append_left hi, ← List.getD_eq_getElem?_getD]
theorem cdAt_r {l : List Cd} {c : Cd} : cdAt (l ++ [c]) l.length = c := by
  unfold cdAt
  rw [List.getD_eq_getElem?_getD, List.getElem?_append_right (Nat.le_refl _), Nat.sub_self]
  rfl
theorem c_emit {c : Cd} {x1 x2 : Int32} {K : XH → Prop} (hs : Sh h) (s2 : s < 2) (C : cdR s rs h) (hl : rs.length < 420) (e1 : x1 = nI (rcK c)) (e2 : x2 = nI (rcV c)) (k : ∀ h1, Gs s [103, 104] [51] h h1 → cdR s (rs ++ [c]) h1 → K h1) : ClV 198 [.ref 69, .int x1, .int x2] h K := by
  obtain ⟨c1, c2⟩ := C
  have i1 : xI (xsI h 103 (420 * s + rs.length) x1) 69 51 = nI (420 * s + rs.length) := by rw [xI_n (by decide)]; exact c1
  have i2 : xI (xsI (xsI h 103 (420 * s + rs.length) x1) 104 (420 * s + rs.length) x2) 69 51 = nI (420 * s + rs.length) := by rw [xI_n (by decide)]; exact i1
  refine B_198_0 hs ?_
  rw [c1, tn_nI (show 420 * s + rs.length < 2 ^ 31 by omega), i1, tn_nI (show 420 * s + rs.length < 2 ^ 31 by omega), i2, nI_1]
  refine ⟨inb (by omega) (by decide), inb (by omega) (by decide), fun h1 eh => ⟨rfl, ?_⟩⟩
  subst eh
  refine k _ (((Gs.rf.set (by decide) (by decide)).set (by decide) (by decide)).fld (by decide)) ⟨by rw [xI_ss, ap1]; rfl, fun i hi => ?_⟩
  rw [ap1] at hi
  have j3 : xI (xsI (xsI (xsI h 103 (420 * s + rs.length) x1) 104 (420 * s + rs.length) x2) 69 51 (nI (420 * s + rs.length + 1))) 103 = up (xI h 103) (420 * s + rs.length) x1 := by rw [xI_n (by decide), xI_n (by decide), xI_s]
  have j4 : xI (xsI (xsI (xsI h 103 (420 * s + rs.length) x1) 104 (420 * s + rs.length) x2) 69 51 (nI (420 * s + rs.length + 1))) 104 = up (xI h 104) (420 * s + rs.length) x2 := by rw [xI_n (by decide), xI_s, xI_n (by decide)]
  rw [j3, j4]
  by_cases q : i = rs.length
  · subst q
    rw [up_same, up_same, cdAt_r, e1, e2]
    exact ⟨rfl, rfl⟩
  · rw [up_ne (by omega), up_ne (by omega), cdAt_l (by omega)]
    exact c2 i (by omega)
theorem opc_K {w : Nat} (hw : wOp w) (h4 : w ≠ 40) : rcK (opc w, 0) = opc w ∧ rcV (opc w, 0) = 0 ∧ 1 ≤ clo w := by
  rcases hw with e | e | e | e | e
  · exact absurd e h4
  all_goals subst e; decide
theorem l_comes {c : Nat} (hc : c = 1 ∨ c = 2) (s2 : s < 2) (ws0 : List Nat) (rs0 : List Cd) (hs : Sh h0) (kk : ∀ h1, Gs s [103, 104] [51, 55] h0 h1 → cdR s (pop c ws0 cs rs0).2.2 h1 → WR (popW c ws0) h1 → Q .null h1) :
    ∀ (ws : List Nat) (cs' rs : List Cd) (h : XH), Gs s [103, 104] [51, 55] h0 h → cdR s rs h → WR ws h → rs.length + ws.length ≤ 415 → (pop c ws0 cs rs0).2.2 = (pop c ws cs' rs).2.2 → popW c ws0 = popW c ws → Ev 199 0 [.ref 69, .int (nI (c - 1)), .null] [] h Q := by
  intro ws
  induction ws with
  | nil =>
    intro cs' rs h g C W hl e1 e2
    have w2 : xI h 69 55 = nI 0 := W.2.1
    refine B_199_0 (g.sh hs (by decide)) ?_
    rw [w2]
    exact ⟨fun _ => kk h g (by rw [e1]; exact C) (by rw [e2]; exact W), fun z => absurd (by decide) z⟩
  | cons w t ih =>
    intro cs' rs h g C W hl e1 e2
    obtain ⟨w1, w2, w3, w4⟩ := W
    have w2 : xI h 69 55 = nI (t.length + 1) := w2
    have w1 : t.length + 1 ≤ 40 := w1
    have hl : rs.length + (t.length + 1) ≤ 415 := hl
    have hw := w4 w List.mem_cons_self
    have i1 : nI (t.length + 1) - (1 : Int32) = nI t.length := by rw [show (1 : Int32) = nI 1 from rfl, pk_sub (by omega), Nat.add_sub_cancel]
    have i5 : xI h 105 t.length = nI (rkd w) := w3.1
    have stay : ¬ c ≤ clo w → Q .null h := by
      intro q
      refine kk h g ?_ ?_
      · rw [e1]
        have : pop c (w :: t) cs' rs = (w :: t, cs', rs) := by show (if c ≤ clo w then _ else _) = _; rw [if_neg q]
        rw [this]
        exact C
      · rw [e2]
        have : popW c (w :: t) = w :: t := by show (if c ≤ clo w then _ else _) = _; rw [if_neg q]
        rw [this]
        exact ⟨w1, w2, w3, w4⟩
    have s' := g.sh hs (by decide)
    have go : ∀ x : Int32, w ≠ 40 → c ≤ clo w → x = nI (opc w) → ClV 198 [.ref 69, .int x, .int 0] (xsI h 69 55 (nI t.length)) (fun h1 => Sh h1 ∧ (Ev 199 0 [.ref 69, .int (nI (c - 1)), .null] [] h1 Q)) := by
      intro x n4 q ex
      have ok := opc_K hw n4
      have gz : Gs s [103, 104] [51, 55] h0 (xsI h 69 55 (nI t.length)) := g.fld (by decide)
      have Cz : cdR s rs (xsI h 69 55 (nI t.length)) := by
        unfold cdR
        rw [xI_sd (by decide), xI_n (by decide), xI_n (by decide)]
        exact C
      refine c_emit (c := (opc w, 0)) (gz.sh hs (by decide)) s2 Cz (by omega) (by rw [ok.1]; exact ex) (by rw [ok.2.1]; rfl) (fun h1 g1 C1 => ?_)
      have gg : Gs s [103, 104] [51, 55] h0 h1 := gz.tr (g1.mono (by decide) (by decide))
      refine ⟨gg.sh hs (by decide), ih (apC cs' (opc w, 0)) (rs ++ [(opc w, 0)]) h1 gg C1 ⟨by omega, by rw [g1.f (by decide)]; exact xI_ss, by rw [g1.at (by decide) (by decide), xI_n (by decide)]; exact w3.2, fun y hy => w4 y (List.mem_cons_of_mem _ hy)⟩ (by rw [ap1]; omega) ?_ ?_⟩
      · rw [e1]
        have : pop c (w :: t) cs' rs = pop c t (apC cs' (opc w, 0)) (rs ++ [(opc w, 0)]) := by show (if c ≤ clo w then _ else _) = _; rw [if_pos q]
        rw [this]
      · rw [e2]
        show (if c ≤ clo w then _ else _) = _
        rw [if_pos q]
    refine B_199_0 s' ?_
    rw [w2, i1, tn_nI (show t.length < 2 ^ 31 by omega), i5]
    refine ⟨fun z => absurd z (nI_ge (a := 0) (b := t.length + 1) (by omega) (by omega)), fun _ => ⟨inb (by omega) (by decide), ?_⟩⟩
    rcases hw with e | e | e | e | e
    · subst e
      exact ⟨fun _ => stay (by rw [clo40]; omega), fun z => absurd (by decide : nI (rkd 40) = 6) z⟩
    · subst e
      refine ⟨fun z => absurd z (by decide), fun _ => ⟨fun z => ?_, fun z => ?_⟩⟩
      · exact ⟨fun _ => ⟨fun _ => ⟨fun y => absurd (by decide : nI (rkd 42) = 10) y, fun _ => go 4 (by decide) (by rcases hc with q | q <;> rw [q] <;> decide) (by decide)⟩, fun y => absurd (by decide : ¬ nI (rkd 42) = 9) y⟩, fun y => absurd (by decide : ¬ nI (rkd 42) = 8) y⟩
      · exact ⟨fun y => absurd y (by decide), fun _ => ⟨fun _ => ⟨fun _ => ⟨fun _ => ⟨fun y => absurd (by decide : nI (rkd 42) = 10) y, fun _ => go 4 (by decide) (by rcases hc with q | q <;> rw [q] <;> decide) (by decide)⟩, fun y => absurd (by decide : ¬ nI (rkd 42) = 9) y⟩, fun y => absurd (by decide : ¬ nI (rkd 42) = 8) y⟩, fun y => absurd (by decide : ¬ nI (rkd 42) = 9) y⟩⟩
    · subst e
      refine ⟨fun z => absurd z (by decide), fun _ => ⟨fun z => ?_, fun z => ?_⟩⟩
      · have c1 : c = 1 := by
          rcases hc with q | q
          · exact q
          · subst q; exact absurd z (by decide)
        exact ⟨fun y => absurd (by decide : nI (rkd 43) = 8) y, fun _ => go 2 (by decide) (by rw [c1]; decide) (by decide)⟩
      · have c1 : c = 2 := by
          rcases hc with q | q
          · subst q; exact absurd (by decide) z
          · exact q
        exact ⟨fun _ => stay (by rw [c1]; decide), fun y => absurd (by decide : nI (rkd 43) = 8) y⟩
    · subst e
      refine ⟨fun z => absurd z (by decide), fun _ => ⟨fun z => ?_, fun z => ?_⟩⟩
      · have c1 : c = 1 := by
          rcases hc with q | q
          · exact q
          · subst q; exact absurd z (by decide)
        exact ⟨fun _ => ⟨fun y => absurd (by decide : nI (rkd 45) = 9) y, fun _ => go 3 (by decide) (by rw [c1]; decide) (by decide)⟩, fun y => absurd (by decide : ¬ nI (rkd 45) = 8) y⟩
      · have c1 : c = 2 := by
          rcases hc with q | q
          · subst q; exact absurd (by decide) z
          · exact q
        exact ⟨fun y => absurd y (by decide), fun _ => ⟨fun y => absurd (by decide : nI (rkd 45) = 9) y, fun _ => stay (by rw [c1]; decide)⟩⟩
    · subst e
      refine ⟨fun z => absurd z (by decide), fun _ => ⟨fun z => ?_, fun z => ?_⟩⟩
      · exact ⟨fun _ => ⟨fun _ => ⟨fun _ => go 5 (by decide) (by rcases hc with q | q <;> rw [q] <;> decide) (by decide), fun y => absurd (by decide : ¬ nI (rkd 47) = 10) y⟩, fun y => absurd (by decide : ¬ nI (rkd 47) = 9) y⟩, fun y => absurd (by decide : ¬ nI (rkd 47) = 8) y⟩
      · exact ⟨fun y => absurd y (by decide), fun _ => ⟨fun _ => ⟨fun _ => ⟨fun _ => ⟨fun _ => go 5 (by decide) (by rcases hc with q | q <;> rw [q] <;> decide) (by decide), fun y => absurd (by decide : ¬ nI (rkd 47) = 10) y⟩, fun y => absurd (by decide : ¬ nI (rkd 47) = 9) y⟩, fun y => absurd (by decide : ¬ nI (rkd 47) = 8) y⟩, fun y => absurd (by decide : ¬ nI (rkd 47) = 9) y⟩⟩
theorem c_comes {c : Nat} {ws : List Nat} {K : XH → Prop} (hc : c = 1 ∨ c = 2) (s2 : s < 2) (hs : Sh h) (C : cdR s rs h) (W : WR ws h) (hl : rs.length + ws.length ≤ 415) (k : ∀ h1, Gs s [103, 104] [51, 55] h h1 → cdR s (pop c ws cs rs).2.2 h1 → WR (popW c ws) h1 → K h1) : ClV 199 [.ref 69, .int (nI (c - 1))] h K := by
  have := l_comes (Q := fun r h1 => r = .null ∧ K h1) (cs := cs) hc s2 ws rs hs (fun h1 g1 C1 W1 => ⟨rfl, k h1 g1 C1 W1⟩) ws cs rs h Gs.rf C W hl rfl rfl
  exact this
end REM
