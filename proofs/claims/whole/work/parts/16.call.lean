/-! CALLS -/
def g_o (b0 : Nat) (ra : Nat → Nat) (r : Value) : Option Value := match r with
  | .null => none
  | v => some (g_v b0 ra v)
def g_Qc (b0 : Nat) (ra : Nat → Nat) (cA : Nat → ClassId) (dC : Nat → ClassId) (dI : Nat → Nat → Nat) (L : Nat) (xs : Nat → Int32) (r : Value) (h1 : XH) : Array Value → State → Outcome → State → Prop := fun _ st oc t => oc = .returned (g_o b0 ra r) ∧ g_n b0 ra cA dC dI L xs h1 t.heap ∧ va_F (fun q => b0 ≤ q) st t
def g_Pc (b0 : Nat) (ra : Nat → Nat) (cA : Nat → ClassId) (dC : Nat → ClassId) (dI : Nat → Nat → Nat) (L : Nat) (xs : Nat → Int32) (as : List Value) (h : XH) : Array Value → State → Prop := va_Pc (as.map (g_v b0 ra)) (fun U => g_s b0 ra cA dC dI L xs U ∧ g_n b0 ra cA dC dI L xs h U.heap)
def g_ws (x : Nat) : List Cond := Cond.code (m_y x) (m_b x) (m_l x) (m_r x) :: gtbl
def g_rm (x : Nat) (h h1 : XH) : Room := { frames := m_fr x, cells := xT h1 - xT h, slots := xS h1 - xS h, locals := m_lo x }
theorem nest_warm {s U : State} (hW : s.WarmedH U.vm) {w : Cond} (hn : x_nest w = true) (h : va_Nw w s) : va_Nw w U := by
  cases w <;> first | (cases hn; done) | exact va_Nw.warmF hW h | exact va_Nw.warmM hW h
theorem nest_tab {w : Cond} (hn : x_nest w = true) : w.onTables = true := by
  cases w <;> first | (cases hn; done) | rfl
theorem g_s_move {b0 : Nat} {ra : Nat → Nat} {cA dC : Nat → ClassId} {dI : Nat → Nat → Nat} {L : Nat} {xs : Nat → Int32} {s U : State} {H : Heap} {locs : List Loc} (hW : s.WarmedH U.vm) (hU : U.heap = H) (hS : va_S (fun q => b0 ≤ q) s.heap H locs) (G : g_s b0 ra cA dC dI L xs s) : g_s b0 ra cA dC dI L xs U := by
  obtain ⟨g1, g2, g3, g4, g5, g6, g7, ⟨f1, f2, f3, f4⟩, g8, t1, t2, ⟨adK, adV, t3, t4, t5⟩, t6, t7⟩ := G
  have hk : ∀ a : Nat, a < s.heap.size → ¬ b0 ≤ a → U.heap[a]? = s.heap[a]? := fun a h1 h2 => by rw [hU]; exact hS.2.1 a h1 h2
  have ha := hW.alike
  refine ⟨va_K.moved ha g1, (va_Z.moved ha g2).kept hk, (va_X.moved ha g3).kept (hk _ (by omega) (by omega)), (va_T.moved ha g4).kept hk, g5, g6, by rw [hU]; exact Nat.le_trans g7 hS.1, ⟨?_, ?_, ?_, ?_⟩, fun w hw hn => nest_warm hW hn (g8 w hw hn), vk_R.warm hW t1, vk_R.warm hW t2, ⟨adK, adV, (vk_S.moved ha t3).kept hk, t4, t5⟩, (va_Z.moved ha t6).kept hk, (va_Zq.moved ha t7).kept hk⟩
  · rw [ha.findClass]; exact f1
  · rw [ha.findClass]; exact f2
  · rw [ha.findClass]; exact f3
  · rw [ha.findClass]; exact f4
theorem g_s_same {b0 : Nat} {ra : Nat → Nat} {cA dC : Nat → ClassId} {dI : Nat → Nat → Nat} {L : Nat} {xs : Nat → Int32} {u U : State} (hv : U.vm = u.vm) (hh : U.heap = u.heap) (G : g_s b0 ra cA dC dI L xs u) : g_s b0 ra cA dC dI L xs U := by
  obtain ⟨g1, g2, g3, g4, g5, g6, g7, ⟨f1, f2, f3, f4⟩, g8, t1, t2, ⟨adK, adV, t3, t4, t5⟩, t6, t7⟩ := G
  have ha : u.vm.Alike U.vm := by rw [hv]; exact Vm.Alike.refl u.vm
  have hk : ∀ a : Nat, a < u.heap.size → ¬ b0 ≤ a → U.heap[a]? = u.heap[a]? := fun a _ _ => by rw [hh]
  refine ⟨va_K.moved ha g1, (va_Z.moved ha g2).kept hk, (va_X.moved ha g3).kept (by rw [hh]), (va_T.moved ha g4).kept hk, g5, g6, by rw [hh]; exact g7, ⟨?_, ?_, ?_, ?_⟩, fun w hw hn => va_Nw.same (nest_tab hn) hv.symm (g8 w hw hn), vk_R.same hv t1, vk_R.same hv t2, ⟨adK, adV, (vk_S.moved ha t3).kept hk, t4, t5⟩, (va_Z.moved ha t6).kept hk, (va_Zq.moved ha t7).kept hk⟩
  · rw [hv]; exact f1
  · rw [hv]; exact f2
  · rw [hv]; exact f3
  · rw [hv]; exact f4
theorem g_blind {b0 : Nat} {ra : Nat → Nat} {cA dC : Nat → ClassId} {dI : Nat → Nat → Nat} {L : Nat} {xs : Nat → Int32} {as : List Value} {h : XH} : FrameBlind (g_Pc b0 ra cA dC dI L xs as h) := fun a U g mk q => ⟨q.1, g_s_same (u := U) (U := U.calling g mk a) rfl rfl q.2.1, q.2.2⟩
theorem wd_m {x : Nat} (hx : x < 267) : Cond.code (m_y x) (m_b x) (m_l x) (m_r x) ∈ gtbl ∧ Cond.initialized (m_y x).cls ∈ gtbl ∧ x_ow (m_o x) = (m_y x).cls ∧ plainName (m_y x).cls = true ∧ (m_y x).cls ≠ "java/lang/invoke/MethodHandle" ∧ (m_y x).cls ≠ "java/lang/invoke/VarHandle" := by
  have h1 := List.all_eq_true.mp wd_mk_ok x (List.mem_range.mpr hx)
  have h2 := List.all_eq_true.mp wd_cd_ok x (List.mem_range.mpr hx)
  unfold wd_mk at h1
  simp only [Bool.and_eq_true, decide_eq_true_eq] at h1
  exact ⟨gt_in _ (wd_cx_eq h2) rfl, gt_in _ h1.1 rfl, h1.2.1, h1.2.2.1, h1.2.2.2.1, h1.2.2.2.2⟩
theorem g_good {x : Nat} (hx : x < 267) : GoodIn gtbl (g_ws x) := by
  intro w hw
  have hin : w ∈ gtbl := by
    rcases List.mem_cons.mp hw with rfl | h
    · exact (wd_m hx).1
    · exact h
  exact ⟨hin, good_of_word (List.mem_filter.mp hin).2⟩
section GC
variable {p : Program} {l : Launch} {e : Env} {R : Room} {s : State} {m : MethodId} {args : Array Value} {below : List Frame} {meth : Method} {c : Code} {Q : State → Prop} {H : Heap} {locs : List Loc}
variable {b0 : Nat} {ra : Nat → Nat} {cA : Nat → ClassId} {dC : Nat → ClassId} {dI : Nat → Nat → Nat} {L : Nat} {xs : Nat → Int32} {mi t0 s0 pc : Nat} {ls st : List Value} {h h1 : XH} {r : Value}
theorem g_callW {cells slots mc ms : Nat} {lsC : Array Slot} {st0 rest : List Value} {a : Array Value} (hr : va_Run p l e R s m args below meth c H locs cells slots mc ms (F0 m pc lsC st0) rest (g_Qc b0 ra cA dC dI L xs r h1 a) (fun q => b0 ≤ q)) (hS : va_S (fun q => b0 ≤ q) s.heap H locs)
    (k : ∀ (H1 : Heap) (locs1 : List Loc), g_n b0 ra cA dC dI L xs h1 H1 → va_S (fun q => b0 ≤ q) s.heap H1 locs1 → W p l e R s m args below meth c H1 locs1 (cells + mc) (slots + ms) Q (F0 m (pc + 3) lsC ((g_o b0 ra r).toList ++ rest))) : W p l e R s m args below meth c H locs cells slots Q (F0 m pc lsC st0) := by
  intro T hT X
  obtain ⟨v, st₀, t, T', L', h0, X', hL, e1, e2, ⟨hv, hn, hz, hk⟩, st⟩ := hr T hT X
  cases hv
  rw [h0] at hz hk
  obtain ⟨t2, a1, b1⟩ := k T'.heap (locs ++ L') (by rw [e1]; exact hn) ⟨Nat.le_trans hS.1 (by rw [e1]; exact hz), fun q h1 h2 => by rw [e1, hk q (Nat.lt_of_lt_of_le h1 hS.1) h2]; exact hS.2.1 q h1 h2, fun q hq => by
      rcases List.mem_append.mp hq with h | h
      · exact hS.2.2 q h
      · exact hL q h⟩ T' rfl X'
  exact ⟨t2, st t2 a1, b1⟩
theorem g_push : (x_push r st).map (g_v b0 ra) = (g_o b0 ra r).toList ++ st.map (g_v b0 ra) := by
  cases r <;> rfl
/-- a call of ours, of whichever kind -/
theorem gk_call (C : g_c mi p s m args meth c) (G : g_s b0 ra cA dC dI L xs s) (hR : m_fr mi ≤ R.frames ∧ m_lo mi ≤ R.locals) (ht : t0 ≤ xT h) (hz : s0 ≤ xS h) {i : Instr} {j x kd n ps : Nat} (hd : decode (m_b mi) pc = .ok (i, 3)) (hi : (i = .invokevirtual j ∧ kd = 0) ∨ (i = .invokestatic j ∧ kd = 1) ∨ (i = .invokespecial j ∧ kd = 2)) (hq : x_lq (m_o mi) j cp_M = some (x, kd, n, ps))
    {as rest : List Value} (hst : st = as.reverse ++ rest) (hn : as.length = m_n x) (hcat : (rest.map fun v => v.category).sum ≤ 8) (hfr : m_fr x + 1 ≤ m_fr mi) (hlo : 8 + (m_l x + 11) + m_lo x ≤ m_lo mi) (hrc : x_rcvb (kd : Int) x as h = true)
    (hM : Met l (m_y x) (g_ws x) (g_rm x h h1) (g_Pc b0 ra cA dC dI L xs as h) (g_Qc b0 ra cA dC dI L xs r h1) (xT h1 - xT h) (xS h1 - xS h) (fun q => b0 ≤ q)) (ht1 : xT h ≤ xT h1) (hs1 : xS h ≤ xS h1) (hc : xT h1 - t0 ≤ R.cells) (hsl : xS h1 - s0 ≤ R.slots)
    (k : g_K p l e R s m args below meth c b0 ra cA dC dI L xs mi t0 s0 Q (pc + 3) ls (x_push r rest) h1) : g_K p l e R s m args below meth c b0 ra cA dC dI L xs mi t0 s0 Q pc ls st h := by
  intro H locs lsC N S hl
  obtain ⟨q1, q2, q3⟩ := x_lq_mem hq
  obtain ⟨hw, -, hw2⟩ := wd_M_ok _ q1
  have hkd := List.all_eq_true.mp wd_kd_ok _ q1
  have hk3 : kd ≠ 3 := by rcases hi with ⟨-, rfl⟩ | ⟨-, rfl⟩ | ⟨-, rfl⟩ <;> decide
  have hx : x < 267 := hw2 hk3
  obtain ⟨m1, m2, m3, m4, m5, m6⟩ := wd_m hx
  unfold wd_M at hw
  dsimp only at hw
  rw [q2, q3, show m_yy x = m_y x from if_pos (by omega)] at hw
  have hstm : st.map (g_v b0 ra) = (as.map (g_v b0 ra)).reverse ++ rest.map (g_v b0 ra) := by rw [hst, List.map_append, List.map_reverse]
  have hF : CallFix p m c (m_b mi) (m_l mi) s args gtbl (x_ow (m_o mi)) := ⟨C.1, C.2.1, C.2.2.1, C.2.2.2.1, C.2.2.2.2.1⟩
  have hRR : (g_rm x h h1).frames + 1 ≤ R.frames ∧ 8 + (m_l x + 11) + (g_rm x h h1).locals ≤ R.locals := by
    show m_fr x + 1 ≤ R.frames ∧ 8 + (m_l x + 11) + m_lo x ≤ R.locals
    exact ⟨Nat.le_trans hfr hR.1, Nat.le_trans hlo hR.2⟩
  have hcc : xT h - t0 + (xT h1 - xT h) ≤ R.cells ∧ xS h - s0 + (xS h1 - xS h) ≤ R.slots := ⟨by omega, by omega⟩
  have hcat' : ((rest.map (g_v b0 ra)).map fun v => v.category).sum ≤ 8 := by rw [g_cats]; exact hcat
  have kk : ∀ (H1 : Heap) (locs1 : List Loc), g_n b0 ra cA dC dI L xs h1 H1 → va_S (fun q => b0 ≤ q) s.heap H1 locs1 → W p l e R s m args below meth c H1 locs1 (xT h - t0 + (xT h1 - xT h)) (xS h - s0 + (xS h1 - xS h)) Q (F0 m (pc + 3) lsC ((g_o b0 ra r).toList ++ rest.map (g_v b0 ra))) := by
    intro H1 locs1 N1 S1
    have := k H1 locs1 lsC N1 S1 hl
    rw [g_push, show xT h1 - t0 = xT h - t0 + (xT h1 - xT h) by omega, show xS h1 - s0 = xS h - s0 + (xS h1 - xS h) by omega] at this
    exact this
  have hpre : ∀ U : State, U.heap = H → s.WarmedH U.vm → g_Pc b0 ra cA dC dI L xs as h (as.map (g_v b0 ra)).toArray U := fun U hU hW => ⟨rfl, g_s_move hW hU S G, by rw [hU]; exact N⟩
  rw [hstm]
  rcases hi with ⟨rfl, rfl⟩ | ⟨rfl, rfl⟩ | ⟨rfl, rfl⟩
  · -- an instance's
    unfold wd_kd at hkd
    simp only [Bool.and_eq_true, decide_eq_true_eq] at hkd
    obtain ⟨d1, d2, d3, d4⟩ := hkd
    obtain ⟨b, As, rfl, hKb⟩ : ∃ b As, as = .ref b :: As ∧ xK h b = 10 + m_o x := by
      unfold x_rcvb at hrc
      rw [if_pos (by decide)] at hrc
      split at hrc
      · exact ⟨_, _, rfl, of_decide_eq_true hrc⟩
      · cases hrc
    obtain ⟨o1, o2, o3⟩ := gn_obj N hKb
    have hrec := va_recv G.1 N.1 (kl_ok (m_o x) d3).1 o3
    have hP : PreV s H (m_y x).cls (g_r b0 ra b) (g_Pc b0 ra cA dC dI L xs (.ref b :: As) h) (As.map (g_v b0 ra)) := ⟨g_blind, by rw [← m3]; exact hrec, hpre⟩
    have hnn : (parseMethodDescriptor (m_y x).desc).map (fun d => d.parameters.length) = some As.length := by
      cases hpd : parseMethodDescriptor (m_y x).desc with
      | none => rw [hpd] at d4; cases d4
      | some d =>
        rw [hpd] at d4
        have : d.parameters.length + 1 = m_n x := Option.some.inj d4
        have hl' : As.length + 1 = m_n x := hn
        show some d.parameters.length = _
        congr 1; omega
    have hsx : (((Value.ref b :: As).map (g_v b0 ra)).reverse ++ rest.map (g_v b0 ra)) = (As.map (g_v b0 ra)).reverse ++ .ref (g_r b0 ra b) :: rest.map (g_v b0 ra) := by
      rw [List.map_cons, List.reverse_cons, List.append_assoc]; rfl
    rw [hsx]
    by_cases hnz : n = 0
    · rw [if_pos hnz] at hw
      exact g_callW (va_runV (C := (m_y x).cls) (ret := m_r x) (bytes := m_b x) (maxL := m_l x) (n := As.length) hF hM ⟨callB_of As.length C.2.2.2.2.1 (g_good hx) rfl rfl rfl (C.2.2.2.2.1 _ m2) (gt_use C.2.2.2.2.1 _ hw rfl) ⟨m5, m6, hnn⟩ hRR, gt_use C.2.2.2.2.1 _ d1 rfl, gt_use C.2.2.2.2.1 _ d2 rfl⟩ hP rfl (List.length_map ..) hl.2.1 rfl (lv_room hcat') hd hcc) S kk
    · rw [if_neg hnz] at hw
      exact g_callW (va_runVN (C := (m_y x).cls) (host := "TrueInk") (ret := m_r x) (bytes := m_b x) (maxL := m_l x) (n := As.length) hF hM ⟨va_cnB As.length C.2.2.2.2.1 (g_good hx) rfl rfl rfl (G.2.2.2.2.2.2.2.2.1 _ (List.mem_of_getElem? hw) rfl) (C.2.2.2.2.1 _ m2) ⟨m5, m6, hnn⟩ hRR, gt_use C.2.2.2.2.1 _ d1 rfl, gt_use C.2.2.2.2.1 _ d2 rfl⟩ hP rfl (List.length_map ..) hl.2.1 rfl (lv_room hcat') hd hcc) S kk
  · -- a class's
    unfold wd_kd at hkd
    simp only [Bool.and_eq_true, decide_eq_true_eq] at hkd
    obtain ⟨d1, d4⟩ := hkd
    have hP : PreS s H (g_Pc b0 ra cA dC dI L xs as h) (as.map (g_v b0 ra)) := ⟨g_blind, hpre⟩
    have hnn : (parseMethodDescriptor (m_y x).desc).map (fun d => d.parameters.length) = some as.length := by rw [d4, hn]
    by_cases hnz : n = 0
    · rw [if_pos hnz] at hw
      exact g_callW (va_runS (ret := m_r x) (bytes := m_b x) (maxL := m_l x) (n := as.length) hF hM ⟨callB_of as.length C.2.2.2.2.1 (g_good hx) rfl rfl rfl (C.2.2.2.2.1 _ m2) (gt_use C.2.2.2.2.1 _ hw rfl) ⟨m5, m6, hnn⟩ hRR, gt_use C.2.2.2.2.1 _ d1 rfl⟩ hP rfl (List.length_map ..) hl.2.1 rfl (lv_room hcat') hd hcc) S kk
    · rw [if_neg hnz] at hw
      exact g_callW (va_runSN (host := "TrueInk") (ret := m_r x) (bytes := m_b x) (maxL := m_l x) (n := as.length) hF hM ⟨va_cnB as.length C.2.2.2.2.1 (g_good hx) rfl rfl rfl (G.2.2.2.2.2.2.2.2.1 _ (List.mem_of_getElem? hw) rfl) (C.2.2.2.2.1 _ m2) ⟨m5, m6, hnn⟩ hRR, gt_use C.2.2.2.2.1 _ d1 rfl, trivial⟩ hP rfl (List.length_map ..) hl.2.1 rfl (lv_room hcat') hd hcc) S kk
  · -- a constructor
    unfold wd_kd at hkd
    simp only [Bool.and_eq_true, decide_eq_true_eq] at hkd
    obtain ⟨d1, d2, d3, d4⟩ := hkd
    obtain ⟨b, As, rfl⟩ : ∃ b As, as = .ref b :: As := by
      unfold x_rcvb at hrc
      rw [if_neg (by decide), if_pos (by decide)] at hrc
      split at hrc
      · exact ⟨_, _, rfl⟩
      · cases hrc
    have hP : PreS s H (g_Pc b0 ra cA dC dI L xs (.ref b :: As) h) (.ref (g_r b0 ra b) :: As.map (g_v b0 ra)) := ⟨g_blind, hpre⟩
    have hnn : (parseMethodDescriptor (m_y x).desc).map (fun d => d.parameters.length) = some As.length := by
      cases hpd : parseMethodDescriptor (m_y x).desc with
      | none => rw [hpd] at d4; cases d4
      | some d =>
        rw [hpd] at d4
        have : d.parameters.length + 1 = m_n x := Option.some.inj d4
        have hl' : As.length + 1 = m_n x := hn
        show some d.parameters.length = _
        congr 1; omega
    have hsx : (((Value.ref b :: As).map (g_v b0 ra)).reverse ++ rest.map (g_v b0 ra)) = (As.map (g_v b0 ra)).reverse ++ .ref (g_r b0 ra b) :: rest.map (g_v b0 ra) := by
      rw [List.map_cons, List.reverse_cons, List.append_assoc]; rfl
    rw [hsx]
    have hwr : g_ws x = Cond.code (m_y x) (m_b x) (m_l x) none :: gtbl := by unfold g_ws; rw [d3]
    by_cases hnz : n = 0
    · rw [if_pos hnz] at hw
      exact g_callW (va_runI (bytes := m_b x) (maxL := m_l x) (n := As.length) hF hM ⟨callB_of As.length C.2.2.2.2.1 (g_good hx) hwr rfl rfl (C.2.2.2.2.1 _ m2) (gt_use C.2.2.2.2.1 _ hw rfl) ⟨m5, m6, hnn⟩ hRR, d2, gt_use C.2.2.2.2.1 _ d1 rfl⟩ hP rfl (List.length_map ..) hl.2.1 rfl (lv_room hcat') hd hcc) S kk
    · rw [if_neg hnz] at hw
      exact g_callW (va_runIN (host := "TrueInk") (bytes := m_b x) (maxL := m_l x) (n := As.length) hF hM ⟨va_cnB As.length C.2.2.2.2.1 (g_good hx) hwr rfl rfl (G.2.2.2.2.2.2.2.2.1 _ (List.mem_of_getElem? hw) rfl) (C.2.2.2.2.1 _ m2) ⟨m5, m6, hnn⟩ hRR, d2, gt_use C.2.2.2.2.1 _ d1 rfl⟩ hP rfl (List.length_map ..) hl.2.1 rfl (lv_room hcat') hd hcc) S kk
end GC
