/-! A TEXT THAT WAS READ keeps what is asked -/
def vOf (r : Nat → Int32) (p : Nat) : Nat → Int32 := fun i => if i = 14 then r (8 + p) else if i = 15 then r 14 else r i
theorem vOf_ok {r : Nat → Int32} {p : Nat} : vOk (vOf r p) r ∧ vOf r p 14 = r (8 + p) := ⟨⟨fun i hi => by unfold vOf; rw [if_neg (by omega), if_neg (by omega)], rfl⟩, rfl⟩
section PT2
variable {B : Nat → Nat} {n : Nat} {cs rs : List Cd} {F : List Fa} {G : List Pg} {LW : List Lw} {BR : List Br} {sl sd pg a : Nat} {rz : Nat → Nat} {T : Nat → Nat → Int32}
theorem TX.lob (x : TX T rz cs (F, G, LW, BR, sl, sd, pg)) (P : PI (kS B n) (vS B n) (a, none, cs, rs) (F, G, LW, BR, sl, sd, pg)) {p c : Nat} (hp : p < G.length) (hc : c < 6) : lo T p c = (decide (c < (pgA G p).2.2.length) && lkL rz (cs.drop (cmA (pgA G p).2.2 c).1)) := by
  have G6 : G.length ≤ 6 := P.2.2.1.1
  have c6 : (pgA G p).2.2.length ≤ 6 := (P.2.2.1.2 p hp).1.2.1
  have e7 : T 7 p = if p < G.length then lsBt rz cs (pgA G p).2.2 (pgA G p).2.2.length else 0 := x.2.2.2.2.2.1 p (by omega)
  rw [if_pos hp] at e7
  have g := gb_bor (f := fun c => lkL rz (cs.drop (cmA (pgA G p).2.2 c).1)) (i := c) (by omega) (pgA G p).2.2.length (by omega)
  unfold lo
  rw [e7]
  have e : ∀ y : Int32, decide (¬ (y >>> (nI c &&& 31)) &&& 1 = 0) = gb y c := by
    intro y
    cases hg : gb y c with
    | false => exact decide_eq_false (fun z => z ((bit_z (by omega)).mpr hg))
    | true => exact decide_eq_true (fun z => by have := (bit_z (by omega)).mp z; rw [hg] at this; cases this)
  rw [e]
  exact g
theorem TX.toS (x : TX T rz cs (F, G, LW, BR, sl, sd, pg)) (P : PI (kS B n) (vS B n) (a, none, cs, rs) (F, G, LW, BR, sl, sd, pg)) (hr : ∀ j, rz j < 14) (cv : cvT T) : tSet T := by
  have G6 : G.length ≤ 6 := P.2.2.1.1
  have hg : ∀ p, p < G.length → (1 ≤ (pgA G p).2.2.length ∧ (pgA G p).2.2.length ≤ 6 ∧ (pgA G p).2.1 ≤ 2) ∧ ∀ c, c < (pgA G p).2.2.length → clP (kS B n) (vS B n) p cs rs (cmA (pgA G p).2.2 c) := P.2.2.1.2
  have t1 : T 0 1 = nI G.length := x.2.2.1.1
  have t60 : ∀ p, G.length ≤ p → p < 6 → T 6 p = nI 0 := x.2.2.1.2.1
  have t6 : ∀ p, p < G.length → T 6 p = nI (pgA G p).2.2.length := fun p hp => (x.2.2.1.2.2 p hp).2.1
  have t7 : ∀ q, q < 6 → T 7 q = if q < G.length then lsBt rz cs (pgA G q).2.2 (pgA G q).2.2.length else 0 := x.2.2.2.2.2.1
  refine ⟨⟨cv.c, ⟨by rw [t1, tn_nI (by omega)], by rw [t1, tn_nI (by omega)]; exact G6⟩, fun p hp => ?_⟩, fun p hp c hc hlo => ?_, fun p c r r' hp hc hlo he => ?_⟩
  · by_cases q : p < G.length
    · have := (hg p q).1.2.1
      rw [t6 p q, tn_nI (by omega)]
      exact ⟨rfl, this⟩
    · rw [t60 p (by omega) hp]
      exact ⟨rfl, by decide⟩
  · by_cases q : p < G.length
    · have c6 := (hg p q).1.2.1
      rw [t6 p q, tn_nI (by omega)] at hlo
      rw [x.lob P q hc, decide_eq_false (by omega)]
      rfl
    · unfold lo
      rw [t7 p hp, if_neg q]
      exact decide_eq_false (fun z => z ((bit_z (by omega)).mpr gb_0))
  · by_cases q : p < G.length
    · have c6 := (hg p q).1.2.1
      rw [t6 p q, tn_nI (by omega)] at hc
      rw [x.lob P q (by omega), decide_eq_true hc, Bool.true_and] at hlo
      obtain ⟨E1, E2, so, h1, h2, h3, h4, h5, h6⟩ := (hg p q).2 c hc
      have vo := vOf_ok (r := r) (p := p)
      have vo' := vOf_ok (r := r') (p := p)
      have g1 := h5.g hr vo.1 (Or.inr vo.2)
      have g2 := h6.g hr vo.1 (Or.inr vo.2)
      have g1' := h5.g hr vo'.1 (Or.inr vo'.2)
      have g2' := h6.g hr vo'.1 (Or.inr vo'.2)
      have e1 := ck_rn x q hc h1 h3 g1 g2
      have e2 := ck_rn x q hc h1 h3 g1' g2'
      obtain ⟨u, w, ecs, hu⟩ := id h3
      have hd : cs.drop (cmA (pgA G p).2.2 c).1 = (E1 ++ E2 ++ [(6 + so, 0)]) ++ (10, 0) :: w := by
        rw [ecs, ← hu, List.drop_left]
        simp only [List.append_assoc, List.cons_append, List.nil_append]
      rw [hd] at hlo
      have wn : ∀ y ∈ E1 ++ E2 ++ [(6 + so, 0)], wz rz y ≠ 10 := by
        intro y hy z
        have ok : (pv y = true) ∨ (2 ≤ y.1 ∧ y.1 ≤ 8 ∧ y.2 = 0) := by
          rcases List.mem_append.mp hy with hy | hy
          · have c2 : cOk2 y := by
              rcases List.mem_append.mp hy with hy | hy
              · exact g1.c y hy
              · exact g2.c y hy
            rcases c2 with w | w
            · exact Or.inl w.1
            · exact Or.inr ⟨w.1, by omega, w.2.2⟩
          · rw [List.mem_singleton.mp hy]
            exact Or.inr ⟨show 2 ≤ 6 + so by omega, show 6 + so ≤ 8 by omega, rfl⟩
        rcases ok with w | w
        · have := (wz_pv (rz := rz) w).1
          omega
        · have := wz_op (rz := rz) (c := y) ⟨w.1, by omega⟩ (fun _ => w.2.2)
          omega
      have no := lkL_seg _ _ wn hlo
      have ag : ∀ y, y ∈ E1 ++ E2 → pv y = true → y.1 ≠ 0 → r (vz rz y) = r' (vz rz y) := by
        intro y hy hv h0
        have w := wz_pv (rz := rz) hv
        have := no y (List.mem_append_left _ hy)
        have m1 : wz rz y % 16 = 1 := by
          have : ¬ wz rz y % 16 = 0 := fun z => h0 (w.2.1.mp z)
          have := w.1
          omega
        refine he _ ?_
        rw [w.2.2] at this
        omega
      have s1 : ev1 rz r E1 = ev1 rz r' E1 := ev1_c (fun y hy => ag y (List.mem_append_left _ hy))
      have s2 : ev1 rz r E2 = ev1 rz r' E2 := ev1_c (fun y hy => ag y (List.mem_append_right _ hy))
      rw [s1, s2] at e1
      unfold hl
      rw [e1, e2]
    · rw [t60 p (by omega) hp] at hc
      exact absurd hc (Nat.not_lt_zero _)
theorem TX.toV (x : TX T rz cs (F, G, LW, BR, sl, sd, pg)) (P : PI (kS B n) (vS B n) (a, none, cs, rs) (F, G, LW, BR, sl, sd, pg)) (hr : ∀ j, rz j < 14) : cvT T := by
  obtain ⟨⟨x1, x2, x3⟩, _⟩ := x
  have Pc : cP (kS B n) (vS B n) a cs rs := P.1
  refine ⟨⟨by rw [x2, tn_nI (by omega)]; omega, fun i hi h1 => ?_⟩, by rw [x2]; exact nI_pos (by omega)⟩
  rw [x2, tn_nI (by omega)] at hi
  obtain ⟨e1, e2⟩ := atE_at cs 0 i x3 hi
  rw [Nat.zero_add] at e1
  rw [e1, wd_and e2] at h1
  rw [e1, wd_shr e2]
  have := okC_v hr (Pc.2.2.2.2.1 _ (cdAt_mem hi)) ((nI_eq (b := 1) (by omega) (by decide)).mp h1)
  exact ⟨_, this.1, rfl⟩
theorem TX.toA (x : TX T rz cs (F, G, LW, BR, sl, sd, pg)) (P : PI (kS B n) (vS B n) (a, none, cs, rs) (F, G, LW, BR, sl, sd, pg)) (hr : ∀ j, rz j < 14) : tA T := by
  have cv := x.toV P hr
  have st := x.toS P hr cv
  have G6 : G.length ≤ 6 := P.2.2.1.1
  have F8 : F.length ≤ 8 := P.2.1.1
  have hg : ∀ p, p < G.length → (1 ≤ (pgA G p).2.2.length ∧ (pgA G p).2.2.length ≤ 6 ∧ (pgA G p).2.1 ≤ 2) ∧ ∀ c, c < (pgA G p).2.2.length → clP (kS B n) (vS B n) p cs rs (cmA (pgA G p).2.2 c) := P.2.2.1.2
  have hf : ∀ f, f < F.length → 1 ≤ (faA F f).2.1 ∧ (faA F f).2.1 ≤ 3 ∧ (faA F f).2.2.1 ≤ (faA F f).2.1 ∧ wcF F (f + 1) = wcF F f * ((faA F f).2.1 + 1) := P.2.1.2.2 rfl
  have hs : sl ≤ 100 := P.2.2.2.2.2.1 rfl
  have Pc : cP (kS B n) (vS B n) a cs rs := P.1
  obtain ⟨⟨x1, x2, x3⟩, ⟨y0, y6, y4, y5, y1, y7⟩, ⟨z1, z2, z3⟩, l4, ⟨o2, o3⟩, s7, s8⟩ := x
  have y0 : T 0 0 = nI F.length := y0
  have y6 : T 0 6 = nI (wcF F F.length) := y6
  have y4 : T 0 4 = whB F 1 := y4
  have y5 : T 0 5 = whB F 2 := y5
  have y7 : ∀ f, f < F.length → T 1 f = nI (cl13 (faA F f).2.1) ∧ T 2 f = nI (faA F f).2.2.1 ∧ T 3 f = nI (wcF F f) := y7
  have z1 : T 0 1 = nI G.length := z1
  have z3 : ∀ p, p < G.length → T 5 p = nI (pgA G p).2.1 ∧ T 6 p = nI (pgA G p).2.2.length ∧ ∀ c, c < (pgA G p).2.2.length → T 8 (p * 6 + c) = nI (cmA (pgA G p).2.2 c).1 := z3
  have o2 : T 0 2 = nI sl := o2
  have s8 : T 0 8 = nI (if sl = 0 ∧ ¬ dyL rz cs = true then 1 else 0) := s8
  have n0 : tn (T 0 0) = F.length := by rw [y0, tn_nI (by omega)]
  have n1 : tn (T 0 1) = G.length := by rw [z1, tn_nI (by omega)]
  have m1 : ∀ f, f < F.length → T 1 f = nI (faA F f).2.1 := by
    intro f hf1
    have := hf f hf1
    have e := (y7 f hf1).1
    have ec : cl13 (faA F f).2.1 = (faA F f).2.1 := by unfold cl13; rw [if_neg (by omega)]; split <;> omega
    rw [ec] at e
    exact e
  have mo1 : ∀ f, f < F.length → mo T f = (faA F f).2.1 := by
    intro f hf1
    have := hf f hf1
    unfold mo
    rw [m1 f hf1, tn_nI (by omega)]
  have pw := prd_wc (mo T) F mo1 (fun f h1 => (hf f h1).2.2.2)
  refine ⟨st, cv, ⟨by rw [n0]; exact y0, by rw [n0]; exact F8⟩, fun f h8 e => ?_, ⟨fun p hp => ?_, fun p hp => ?_, fun f h1 => ?_⟩, ⟨sl, hs, o2⟩, ⟨?_, ?_, fun f h1 => ?_⟩, ⟨fun f h1 => ?_, ?_, ?_, ?_, fun e => ?_⟩⟩
  · obtain ⟨m, hm, em⟩ := y1 f h8
    rw [em, nI_1] at e
    have := (nI_eq (a := m + 1) (b := 0) (by omega) (by decide)).mp e
    omega
  · rw [n1] at hp
    exact ⟨_, (hg p hp).1.1, (hg p hp).1.2.1, (z3 p hp).2.1⟩
  · rw [n1] at hp
    exact ⟨_, (hg p hp).1.2.2, (z3 p hp).1⟩
  · rw [n0] at h1
    exact ⟨_, (hf f h1).1, (hf f h1).2.1, m1 f h1⟩
  · rw [n0, pw _ (Nat.le_refl _)]
    exact (wcF_le _).2
  · rw [n0, pw _ (Nat.le_refl _)]
    exact y6
  · rw [n0] at h1
    rw [pw f (by omega)]
    exact (y7 f h1).2.2
  · rw [n0] at h1
    exact ⟨_, by rw [mo1 f h1]; exact (hf f h1).2.2.1, (y7 f h1).2.1⟩
  · rw [n0, y4]
    exact wh_bor F8
  · rw [n0, y5]
    exact wh_bor F8
  · rw [s8]
    split
    · exact Or.inr rfl
    · exact Or.inl rfl
  · rw [s8] at e
    by_cases q : sl = 0 ∧ ¬ dyL rz cs = true
    · refine ⟨by rw [o2, q.1]; rfl, fun i hi h1 => ?_⟩
      rw [x2, tn_nI (by omega)] at hi
      obtain ⟨e1, e2⟩ := atE_at cs 0 i x3 hi
      rw [Nat.zero_add] at e1
      rw [e1, wd_and e2] at h1
      rw [e1, wd_shr e2]
      have w1 := (nI_eq (b := 1) (by omega) (by decide)).mp h1
      have := okC_v hr (Pc.2.2.2.2.1 _ (cdAt_mem hi)) w1
      have nd := dyL_no cs q.2 _ (cdAt_mem hi)
      exact ⟨_, by omega, rfl⟩
    · rw [if_neg q] at e
      exact absurd e (by decide)
theorem TX.toL (x : TX T rz cs (F, G, LW, BR, sl, sd, pg)) (P : PI (kS B n) (vS B n) (a, none, cs, rs) (F, G, LW, BR, sl, sd, pg)) : tL T := by
  intro p hp
  have t7 : T 7 p = if p < G.length then lsBt rz cs (pgA G p).2.2 (pgA G p).2.2.length else 0 := x.2.2.2.2.2.1 p hp
  rw [t7]
  split
  · rename_i q
    have c6 : (pgA G p).2.2.length ≤ 6 := (P.2.2.1.2 p q).1.2.1
    obtain ⟨X, hX, e⟩ := bor_X (f := fun c => lkL rz (cs.drop (cmA (pgA G p).2.2 c).1)) (pgA G p).2.2.length c6
    have : 2 ^ (pgA G p).2.2.length ≤ 2 ^ 6 := Nat.pow_le_pow_right (by decide) c6
    exact ⟨X, by omega, e⟩
  · exact ⟨0, by decide, rfl⟩
end PT2
