/-! what is made, what is called of the machine's own, switches -/
def x_aty (k : Nat) : FieldType := if k = 1 then .int else if k = 2 then .byte else if k = 3 then .boolean else .long
section GK
variable {p : Program} {l : Launch} {e : Env} {R : Room} {s : State} {m : MethodId} {args : Array Value} {below : List Frame} {meth : Method} {c : Code} {Q : State → Prop}
variable {b0 : Nat} {ra : Nat → Nat} {cA : Nat → ClassId} {dC : Nat → ClassId} {dI : Nat → Nat → Nat} {L : Nat} {xs : Nat → Int32} {mi t0 s0 pc : Nat} {ls st : List Value} {h : XH} {H : Heap}
theorem gE_new {k n : Nat} : ∀ x, x < xT h → g_E b0 ra cA (xnew h k n) x = g_E b0 ra cA h x := by
  intro x hx
  have hne : x ≠ xT h := Nat.ne_of_lt hx
  have eI : xI (xnew h k n) x = xI h x := up_ne hne
  have eR : xR (xnew h k n) x = xR h x := up_ne hne
  have eL : xL (xnew h k n) x = xL h x := up_ne hne
  have eK : xK (xnew h k n) x = xK h x := up_ne hne
  have eN : xN (xnew h k n) x = xN h x := up_ne hne
  unfold g_E
  rw [eI, eL, eK, eN]
  have : g_F b0 ra (xnew h k n) x = g_F b0 ra h x := by
    funext i
    unfold g_F
    rw [eI, eR, eK]
  rw [this]
/-- a cell is made -/
theorem gn_new (N : g_n b0 ra cA dC dI L xs h H) {k n : Nat} {H1 : Heap} (hz : H1.size = H.size + 1) (ho : ∀ q, q < H.size → H1[q]? = H[q]?) (hat : va_at (dC, dI) kls (b0 + (xT h - 4), g_E b0 ra cA (xnew h k n) (xT h)) H1) : g_n b0 ra cA dC dI L xs (xnew h k n) H1 := by
  obtain ⟨hP, n2, h4, k0, k0n, k0i, k1, k1n, k1i, k2, k3, kz⟩ := N
  have e0 : ∀ x, x < 4 → x ≠ xT h := fun x hx => by omega
  refine ⟨?_, by rw [hz, n2]; show _ = b0 + (xT h + 1 - 4); omega, by show 4 ≤ xT h + 1; omega, ?_, ?_, ?_, ?_, ?_, ?_, ?_, ?_, ?_⟩
  · rw [g_W_push gE_new rfl h4]
    refine (hP.kept (fun k x hx => ho x.1 ((hP k x hx).lt))).app (fun k x hx => ?_)
    have hz : k < 1 := (List.getElem?_eq_some_iff.mp hx).1
    rw [show k = 0 by omega] at hx
    cases hx
    exact hat
  · rw [show xK (xnew h k n) 0 = xK h 0 from up_ne (e0 0 (by omega))]; exact k0
  · rw [show xN (xnew h k n) 0 = xN h 0 from up_ne (e0 0 (by omega))]; exact k0n
  · rw [show xI (xnew h k n) 0 = xI h 0 from up_ne (e0 0 (by omega))]; exact k0i
  · rw [show xK (xnew h k n) 1 = xK h 1 from up_ne (e0 1 (by omega))]; exact k1
  · rw [show xN (xnew h k n) 1 = xN h 1 from up_ne (e0 1 (by omega))]; exact k1n
  · rw [show xI (xnew h k n) 1 = xI h 1 from up_ne (e0 1 (by omega))]; exact k1i
  · rw [show xK (xnew h k n) 2 = xK h 2 from up_ne (e0 2 (by omega))]; exact k2
  · rw [show xK (xnew h k n) 3 = xK h 3 from up_ne (e0 3 (by omega))]; exact k3
  · intro a ha
    have ha : xT h + 1 ≤ a := ha
    rw [show xK (xnew h k n) a = xK h a from up_ne (by omega)]
    exact kz a (by omega)
theorem gS_new {locs : List Loc} (S : va_S (fun q => b0 ≤ q) s.heap H locs) {H1 : Heap} (hz : H1.size = H.size + 1) (ho : ∀ q, q < H.size → H1[q]? = H[q]?) : va_S (fun q => b0 ≤ q) s.heap H1 locs := ⟨Nat.le_trans S.1 (by omega), fun x h1 h2 => (ho x (Nat.lt_of_lt_of_le h1 S.1)).trans (S.2.1 x h1 h2), S.2.2⟩
theorem gk_newa (C : g_c mi p s m args meth c) (G : g_s b0 ra cA dC dI L xs s) {t : ArrayType} {n : Int32} {kd : Nat} (hd : decode (m_b mi) pc = .ok (.newarray t, 2)) (hkt : newarray.typeOf t = x_aty kd) (h1 : 1 ≤ kd) (h2 : kd ≤ 4) (hn : ¬ (n < 0 ∨ 60000000 < n.toNatClampNeg)) (ht : t0 ≤ xT h) (hs : s0 ≤ xS h) (hc : xT h + 1 - t0 ≤ R.cells) (hsl : xS h + n.toNatClampNeg - s0 ≤ R.slots) (k : g_K p l e R s m args below meth c b0 ra cA dC dI L xs mi t0 s0 Q (pc + 2) ls (.ref (xT h) :: st) (xnew h kd n.toNatClampNeg)) : g_K p l e R s m args below meth c b0 ra cA dC dI L xs mi t0 s0 Q pc ls (.int n :: st) h := fun H locs lsC N S hl => by
  have hw : (Cond.arrayClass (newarray.typeOf t)).before args s = true := by
    rw [hkt]
    refine C.2.2.2.2.1 _ ?_
    rcases (show kd = 1 ∨ kd = 2 ∨ kd = 3 ∨ kd = 4 by omega) with rfl | rfl | rfl | rfl
    · exact wa_in.1
    · exact wa_in.2.1
    · exact wa_in.2.2.1
    · exact wa_in.2.2.2
  have hbyt : n.toNatClampNeg * componentBytes (newarray.typeOf t) ≤ 536870912 := by
    rw [hkt]
    have hb8 : componentBytes (x_aty kd) ≤ 8 := by
      rcases (show kd = 1 ∨ kd = 2 ∨ kd = 3 ∨ kd = 4 by omega) with rfl | rfl | rfl | rfl <;> decide
    have h3 : n.toNatClampNeg ≤ 60000000 := by omega
    calc _ ≤ 60000000 * 8 := Nat.mul_le_mul h3 hb8
      _ ≤ _ := by decide
  refine va_newaK C.1 C.2.1 hw rfl hd rfl (fun q => hn (Or.inl q)) rfl hbyt (by omega) (by omega) rfl fun H1 cA' e1 z1 o1 hAr hNm => ?_
  have hsz : H.size = g_r b0 ra (xT h) := by rw [g_r, if_neg (by have := N.2.2.1; omega)]; exact N.2.1
  have hcA : cA' = cA kd := by
    rw [hkt] at hNm
    obtain ⟨-, -, -, -, -, -, -, ⟨f1, f2, f3, f4⟩, -⟩ := G
    rcases (show kd = 1 ∨ kd = 2 ∨ kd = 3 ∨ kd = 4 by omega) with rfl | rfl | rfl | rfl
    · exact Option.some.inj (hNm.symm.trans f1)
    · exact Option.some.inj (hNm.symm.trans f2)
    · exact Option.some.inj (hNm.symm.trans f3)
    · exact Option.some.inj (hNm.symm.trans f4)
  subst hcA
  have hk := k H1 locs lsC (gn_new N z1 o1 ?_) (gS_new S z1 o1) hl
  · have e1 : xT (xnew h kd n.toNatClampNeg) - t0 = xT h - t0 + 1 := by show xT h + 1 - t0 = _; omega
    have e2 : xS (xnew h kd n.toNatClampNeg) - s0 = xS h - s0 + n.toNatClampNeg := by show xS h + n.toNatClampNeg - s0 = _; omega
    rw [e1, e2] at hk
    rw [hsz]
    exact hk
  · have eK : xK (xnew h kd n.toNatClampNeg) (xT h) = kd := up_same
    have eN : xN (xnew h kd n.toNatClampNeg) (xT h) = n.toNatClampNeg := up_same
    have eI : xI (xnew h kd n.toNatClampNeg) (xT h) = fun _ => 0 := up_same
    have eL : xL (xnew h kd n.toNatClampNeg) (xT h) = fun _ => 0 := up_same
    rw [show b0 + (xT h - 4) = H.size from N.2.1.symm]
    unfold g_E
    rw [eK, if_pos (by omega), eN, eI, eL]
    rw [hkt] at e1
    rcases (show kd = 1 ∨ kd = 2 ∨ kd = 3 ∨ kd = 4 by omega) with rfl | rfl | rfl | rfl
    · exact e1
    · exact e1
    · exact e1
    · exact e1
theorem gk_new (C : g_c mi p s m args meth c) (G : g_s b0 ra cA dC dI L xs s) {j ci ps : Nat} (hd : decode (m_b mi) pc = .ok (.new j, 3)) (hq : x_lq (m_o mi) j cp_N = some (ci, ps)) (ht : t0 ≤ xT h) (hs : s0 ≤ xS h) (hc : xT h + 1 - t0 ≤ R.cells) (hsl : xS h + x_nf ci - s0 ≤ R.slots) (k : g_K p l e R s m args below meth c b0 ra cA dC dI L xs mi t0 s0 Q (pc + 3) ls (.ref (xT h) :: st) (xnew h (10 + ci) (x_nf ci))) : g_K p l e R s m args below meth c b0 ra cA dC dI L xs mi t0 s0 Q pc ls st h := fun H locs lsC N S hl => by
  obtain ⟨q1, q2, q3⟩ := x_lq_mem hq
  obtain ⟨hw, w1⟩ := wd_N_ok _ q1
  unfold wd_N at hw
  dsimp only at hw w1
  rw [q2, q3] at hw
  obtain ⟨k1, k2, k3, k4⟩ := kl_ok ci w1
  have hKn := G.1.1 ci _ k1
  refine W.newcK C.1 C.2.1 C.2.2.2.1 (gt_use C.2.2.2.2.1 _ hw rfl) (C.2.2.2.2.1 _ (wi_in ci w1).1) (C.2.2.2.2.1 _ (wi_in ci w1).2) rfl hd (by omega) (by omega) hKn.2.1 rfl fun H1 kC hkC e1 z1 o1 => ?_
  have hsz : H.size = g_r b0 ra (xT h) := by rw [g_r, if_neg (by have := N.2.2.1; omega)]; exact N.2.1
  have hk := k H1 locs lsC (gn_new N z1 o1 ?_) (gS_new S z1 o1) hl
  · have e1 : xT (xnew h (10 + ci) (x_nf ci)) - t0 = xT h - t0 + 1 := by show xT h + 1 - t0 = _; omega
    have e2 : xS (xnew h (10 + ci) (x_nf ci)) - s0 = xS h - s0 + x_nf ci := by show xS h + x_nf ci - s0 = _; omega
    rw [e1, e2] at hk
    rw [hsz]
    exact hk
  · have eK : xK (xnew h (10 + ci) (x_nf ci)) (xT h) = 10 + ci := up_same
    rw [show b0 + (xT h - 4) = H.size from N.2.1.symm]
    unfold g_E
    rw [eK, if_neg (by omega), show 10 + ci - 10 = ci by omega]
    refine ⟨_, k1, (u_born (x_ty ci) C.2.2.2.2.1 k4 hKn hkC e1 k2).to (fun j hj => ?_)⟩
    unfold vp_V
    rw [List.getD_eq_getElem?_getD, fr_at hj]
    show _ = g_F b0 ra _ _ j
    unfold g_F
    rw [eK, show 10 + ci - 10 = ci by omega, df_ty (kt_ok ci w1 j hj), show xR (xnew h (10 + ci) (x_nf ci)) (xT h) = fun _ => 0 from up_same, show xI (xnew h (10 + ci) (x_nf ci)) (xT h) = fun _ => 0 from up_same, if_pos rfl]
theorem gk_five (C : g_c mi p s m args meth c) (G : g_s b0 ra cA dC dI L xs s) {j r n ps : Nat} (hd : decode (m_b mi) pc = .ok (.getstatic j, 3)) (hq : x_lq (m_o mi) j cp_S = some (r, n, ps)) (k : g_K p l e R s m args below meth c b0 ra cA dC dI L xs mi t0 s0 Q (pc + 3) ls (.ref r :: st) h) : g_K p l e R s m args below meth c b0 ra cA dC dI L xs mi t0 s0 Q pc ls st h := fun H locs lsC N S hl => by
  obtain ⟨q1, q2, q3⟩ := x_lq_mem hq
  obtain ⟨hw, w1⟩ := wd_S_ok _ q1
  dsimp only at w1
  subst w1
  unfold wd_S at hw
  dsimp only at hw
  rw [q2, q3] at hw
  have hk := k H locs lsC N S hl
  by_cases hn : n = 0
  · rw [if_pos hn] at hw
    exact va_gets C.1 C.2.1 G.2.1 S C.2.2.2.1 (gt_use C.2.2.2.2.1 _ hw rfl) (fun x hx => hx) hd hk
  · rw [if_neg hn] at hw
    exact va_getsN C.1 C.2.1 G.2.1 S C.2.2.2.1 (va_Nw.use rfl (G.2.2.2.2.2.2.2.2.1 _ (List.mem_of_getElem? hw) rfl)) (fun x hx => hx) hd hk
theorem gk_mw (C : g_c mi p s m args meth c) {j t n ps : Nat} (hq : x_lq (m_o mi) j cp_M = some (t, 3, n, ps)) : (Cond.methodLink (x_ow (m_o mi)) j (m_yy t)).before args s = true := by
  obtain ⟨q1, q2, q3⟩ := x_lq_mem hq
  obtain ⟨hw, w1, -⟩ := wd_M_ok _ q1
  have w1 := w1 rfl
  unfold wd_M at hw
  rw [if_pos w1] at hw
  dsimp only at hw
  rw [q2, q3] at hw
  exact gt_use C.2.2.2.2.1 _ hw rfl
theorem gk_mmax (C : g_c mi p s m args meth c) {j n ps : Nat} {a b : Int32} (hR : m_fr mi ≤ R.frames ∧ m_lo mi ≤ R.locals) (ht : xT h - t0 ≤ R.cells) (hs : xS h - s0 ≤ R.slots) (hd : decode (m_b mi) pc = .ok (.invokestatic j, 3)) (hq : x_lq (m_o mi) j cp_M = some (1105, 3, n, ps)) (hst : (st.map fun v => v.category).sum ≤ 8) (k : g_K p l e R s m args below meth c b0 ra cA dC dI L xs mi t0 s0 Q (pc + 3) ls (.int (if a < b then b else a) :: st) h) : g_K p l e R s m args below meth c b0 ra cA dC dI L xs mi t0 s0 Q pc ls (.int b :: .int a :: st) h := fun H locs lsC N S hl => by
  have hr := m_room mi
  exact va_mmax C.1 C.2.1 (by rw [C.2.2.1, hl.2.1]) C.2.2.2.1 (gk_mw C hq) (C.2.2.2.2.1 _ wm_in.1.1) (C.2.2.2.2.1 _ wn_in.2.2.2.1) (C.2.2.2.2.1 _ wm_in.1.2) (by omega) (by rw [g_cats]; omega) ht hs hd (k H locs lsC N S hl)
theorem gk_mmin (C : g_c mi p s m args meth c) {j n ps : Nat} {a b : Int32} (hR : m_fr mi ≤ R.frames ∧ m_lo mi ≤ R.locals) (ht : xT h - t0 ≤ R.cells) (hs : xS h - s0 ≤ R.slots) (hd : decode (m_b mi) pc = .ok (.invokestatic j, 3)) (hq : x_lq (m_o mi) j cp_M = some (1106, 3, n, ps)) (hst : (st.map fun v => v.category).sum ≤ 8) (k : g_K p l e R s m args below meth c b0 ra cA dC dI L xs mi t0 s0 Q (pc + 3) ls (.int (if b < a then b else a) :: st) h) : g_K p l e R s m args below meth c b0 ra cA dC dI L xs mi t0 s0 Q pc ls (.int b :: .int a :: st) h := fun H locs lsC N S hl => by
  have hr := m_room mi
  exact va_mmin C.1 C.2.1 (by rw [C.2.2.1, hl.2.1]) C.2.2.2.1 (gk_mw C hq) (C.2.2.2.2.1 _ wm_in.2.1) (C.2.2.2.2.1 _ wn_in.2.2.2.1) (C.2.2.2.2.1 _ wm_in.2.2) (by omega) (by rw [g_cats]; omega) ht hs hd (k H locs lsC N S hl)
theorem gk_lmax (C : g_c mi p s m args meth c) {j n ps : Nat} {a b : Int64} (hR : m_fr mi ≤ R.frames ∧ m_lo mi ≤ R.locals) (ht : xT h - t0 ≤ R.cells) (hs : xS h - s0 ≤ R.slots) (hd : decode (m_b mi) pc = .ok (.invokestatic j, 3)) (hq : x_lq (m_o mi) j cp_M = some (1107, 3, n, ps)) (hst : (st.map fun v => v.category).sum ≤ 8) (k : g_K p l e R s m args below meth c b0 ra cA dC dI L xs mi t0 s0 Q (pc + 3) ls (.long (if b < a then a else b) :: st) h) : g_K p l e R s m args below meth c b0 ra cA dC dI L xs mi t0 s0 Q pc ls (.long b :: .long a :: st) h := fun H locs lsC N S hl => by
  have hr := m_room mi
  exact va_mmax_long C.1 C.2.1 (by rw [C.2.2.1, hl.2.1]) C.2.2.2.1 (gk_mw C hq) (C.2.2.2.2.1 _ wl_in.1.1) (C.2.2.2.2.1 _ wn_in.2.2.2.1) (C.2.2.2.2.1 _ wl_in.1.2) (by omega) (by rw [g_cats]; omega) ht hs hd (k H locs lsC N S hl)
theorem gk_lmin (C : g_c mi p s m args meth c) {j n ps : Nat} {a b : Int64} (hR : m_fr mi ≤ R.frames ∧ m_lo mi ≤ R.locals) (ht : xT h - t0 ≤ R.cells) (hs : xS h - s0 ≤ R.slots) (hd : decode (m_b mi) pc = .ok (.invokestatic j, 3)) (hq : x_lq (m_o mi) j cp_M = some (1108, 3, n, ps)) (hst : (st.map fun v => v.category).sum ≤ 8) (k : g_K p l e R s m args below meth c b0 ra cA dC dI L xs mi t0 s0 Q (pc + 3) ls (.long (if b < a then b else a) :: st) h) : g_K p l e R s m args below meth c b0 ra cA dC dI L xs mi t0 s0 Q pc ls (.long b :: .long a :: st) h := fun H locs lsC N S hl => by
  have hr := m_room mi
  exact va_mmin_long C.1 C.2.1 (by rw [C.2.2.1, hl.2.1]) C.2.2.2.1 (gk_mw C hq) (C.2.2.2.2.1 _ wl_in.2.1.1) (C.2.2.2.2.1 _ wn_in.2.2.2.1) (C.2.2.2.2.1 _ wl_in.2.1.2) (by omega) (by rw [g_cats]; omega) ht hs hd (k H locs lsC N S hl)
theorem gk_obj (C : g_c mi p s m args meth c) {j n ps a : Nat} (hR : m_fr mi ≤ R.frames ∧ m_lo mi ≤ R.locals) (hd : decode (m_b mi) pc = .ok (.invokespecial j, 3)) (hq : x_lq (m_o mi) j cp_M = some (1101, 3, n, ps)) (hst : (st.map fun v => v.category).sum ≤ 8) (k : g_K p l e R s m args below meth c b0 ra cA dC dI L xs mi t0 s0 Q (pc + 3) ls st h) : g_K p l e R s m args below meth c b0 ra cA dC dI L xs mi t0 s0 Q pc ls (.ref a :: st) h := fun H locs lsC N S hl => by
  have hr := m_room mi
  exact W.objInit C.1 C.2.1 C.2.2.2.1 (gk_mw C hq) (C.2.2.2.2.1 _ wn_in.2.2.2.2) (C.2.2.2.2.1 _ wl_in.2.2) rfl (by rw [C.2.2.1]; exact hl.2.1) rfl hd (by omega) (by rw [g_cats]; show 2 * 0 + _ + 12 ≤ _; omega) (k H locs lsC N S hl)
theorem gk_copy (C : g_c mi p s m args meth c) (G : g_s b0 ra cA dC dI L xs s) {j n ps a d : Nat} {sp dp ct : Int32} (hR : m_fr mi ≤ R.frames ∧ m_lo mi ≤ R.locals) (hd : decode (m_b mi) pc = .ok (.invokestatic j, 3)) (hq : x_lq (m_o mi) j cp_M = some (1100, 3, n, ps)) (hka : xK h a = 1) (hkd : xK h d = 1) (ha : 4 ≤ a) (hdd : 4 ≤ d) (h1 : ¬ sp < 0) (h2 : ¬ dp < 0) (h3 : ¬ ct < 0) (h4 : sp.toNatClampNeg + ct.toNatClampNeg ≤ xN h a) (h5 : dp.toNatClampNeg + ct.toNatClampNeg ≤ xN h d) (hst : (st.map fun v => v.category).sum ≤ 8) (hne : a ≠ d)
    (k : g_K p l e R s m args below meth c b0 ra cA dC dI L xs mi t0 s0 Q (pc + 3) ls st (xsA h d (va_cpy (xI h a) (xI h d) sp.toNatClampNeg dp.toNatClampNeg ct.toNatClampNeg))) : g_K p l e R s m args below meth c b0 ra cA dC dI L xs mi t0 s0 Q pc ls (.int ct :: .int dp :: .ref d :: .int sp :: .ref a :: st) h := fun H locs lsC N S hl => by
  have hr := m_room mi
  obtain ⟨n1, n2⟩ := gn_arr N hka (by omega) (by omega) ha
  obtain ⟨n3, n4⟩ := gn_arr N hkd (by omega) (by omega) hdd
  have hnw : nativeFrameWords "java/lang/System" "arraycopy" 5 ≤ 50 := by decide +kernel
  have hD : va_D (fun q => b0 ≤ q) (g_W b0 ra cA h) := g_W_D
  have nn : ∀ z : Int32, ¬ z < 0 → z.toInt = (z.toNatClampNeg : Int) := by
    intro z hz
    have hz0 : (0 : Int) ≤ z.toInt := by simpa using Int32.le_iff_toInt_le.mp (Int32.not_lt.mp hz)
    show z.toInt = ((z.toInt.toNat : Nat) : Int)
    omega
  have hE : g_E b0 ra cA (xsA h d (va_cpy (xI h a) (xI h d) sp.toNatClampNeg dp.toNatClampNeg ct.toNatClampNeg)) d = .inl (cA 1, xN h d, .inl (va_cpy (xI h a) (xI h d) sp.toNatClampNeg dp.toNatClampNeg ct.toNatClampNeg)) := by
    unfold g_E
    rw [show xK (xsA h d (va_cpy (xI h a) (xI h d) sp.toNatClampNeg dp.toNatClampNeg ct.toNatClampNeg)) d = xK h d from rfl, if_pos (by omega), if_neg (by omega), hkd, show xN (xsA h d (va_cpy (xI h a) (xI h d) sp.toNatClampNeg dp.toNatClampNeg ct.toNatClampNeg)) d = xN h d from rfl, show xI (xsA h d (va_cpy (xI h a) (xI h d) sp.toNatClampNeg dp.toNatClampNeg ct.toNatClampNeg)) d = va_cpy (xI h a) (xI h d) sp.toNatClampNeg dp.toNatClampNeg ct.toNatClampNeg from up_same]
  generalize hcp : va_cpy (xI h a) (xI h d) sp.toNatClampNeg dp.toNatClampNeg ct.toNatClampNeg = cp at k hE
  intro T hT X
  have hc0 : H[g_r b0 ra a]? = some (vp_cell (cA 1) (xN h a, .inl (xI h a))) := N.1 (a - 4) _ n2
  have hc1 : H[g_r b0 ra d]? = some (vp_cell (cA 1) (xN h d, .inl (xI h d))) := N.1 (d - 4) _ n4
  obtain ⟨-, k0, hk0, cm0, hkk0⟩ := (G.1.2 0 _ rfl).1 (xN h a) (fun j => .int (xI h a j))
  obtain ⟨-, k1, hk1, cm1, hkk1⟩ := (G.1.2 0 _ rfl).1 (xN h d) (fun j => .int (xI h d j))
  obtain ⟨vm', X', step⟩ := X.arraycopy C.1 C.2.2.2.1 (gk_mw C hq) (C.2.2.2.2.1 _ wn_in.1) (C.2.2.2.2.1 _ wn_in.2.1) (C.2.2.2.2.1 _ wn_in.2.2.1) (src := g_r b0 ra a) (dst := g_r b0 ra d) (cs := vp_cell (cA 1) (xN h a, .inl (xI h a))) (cd := vp_cell (cA 1) (xN h d, .inl (xI h d))) (srcPos := sp) (destPos := dp) (n := ct) (by rw [hT]; exact hc0) (by rw [hT]; exact hc1)
    (fun _ h => by cases h) (fun _ h => by cases h) (fun h => by cases h) (fun h => by cases h) hk0 hk1 hkk0 hkk1 (by simp [refKind]) h1 h2 h3
    (by rw [nn sp h1, nn ct h3]; show ¬ _ > ((arrV (cA 1) (xN h a) (fun j => .int (xI h a j))).slots.size : Int); rw [arrV_size]; omega)
    (by rw [nn dp h2, nn ct h3]; show ¬ _ > ((arrV (cA 1) (xN h d) (fun j => .int (xI h d j))).slots.size : Int); rw [arrV_size]; omega)
    (fun vm₁ _ i hi => by
      have e : (vp_cell (cA 1) (xN h a, .inl (xI h a))).slots.getD (sp.toNatClampNeg + i) .null = .int (xI h a (sp.toNatClampNeg + i)) := by
        show (arrV (cA 1) (xN h a) (fun j => .int (xI h a j))).slots.getD _ _ = _
        rw [Array.getD_eq_getD_getElem?, arrV_read _ _ (by omega)]
        rfl
      refine ⟨?_, ?_⟩
      · rw [e]; rfl
      · rw [e]; exact trivial)
    (g := F0 m pc lsC (.int ct :: .int dp :: .ref (g_r b0 ra d) :: .int sp :: .ref (g_r b0 ra a) :: st.map (g_v b0 ra))) rfl (by rw [C.2.2.1]; exact hl.2.1) (rest := st.map (g_v b0 ra)) rfl (by rw [C.2.1]; exact hd) (by omega) (by rw [g_cats]; show 2 * 0 + _ + _ ≤ _; omega)
  have e1 : copied (vp_cell (cA 1) (xN h a, .inl (xI h a))) (vp_cell (cA 1) (xN h d, .inl (xI h d))) sp dp ct = vp_cell (cA 1) (xN h d, .inl cp) := by rw [← hcp]; exact va_copied (fun z => .int z) (cA 1) (cA 1) (xI h a) (xI h d) h4
  rw [e1] at X' step
  have hl2 : g_r b0 ra d < H.size := (Array.getElem?_eq_some_iff.mp hc1).1
  have hheap : ((T.setVm vm').setCell (g_r b0 ra d) (vp_cell (cA 1) (xN h d, .inl cp))).heap = H.setIfInBounds (g_r b0 ra d) (vp_cell (cA 1) (xN h d, .inl cp)) := by rw [← hT]; rfl
  have oq : ∀ q : Nat, q ≠ g_r b0 ra d → (H.setIfInBounds (g_r b0 ra d) (vp_cell (cA 1) (xN h d, .inl cp)))[q]? = H[q]? := fun q hq => by simp [Array.getElem?_setIfInBounds, Ne.symm hq]
  obtain ⟨t, a1, b1⟩ := k _ _ lsC (gn_set (H1 := H.setIfInBounds (g_r b0 ra d) (vp_cell (cA 1) (xN h d, .inl cp))) N hdd gE_A rfl rfl rfl (fun x hx => up_ne hx) (by simp) (by rw [hE]; exact N.1.set hD n4 (show (H.setIfInBounds (g_r b0 ra d) _)[g_r b0 ra d]? = some _ by simp [Array.getElem?_setIfInBounds, hl2]) oq))
    ⟨by simp; exact S.1, fun q g1 g2 => by
      rw [oq q (fun e => g2 (by rw [e]; exact hD.2 (d - 4) _ n4))]
      exact S.2.1 q g1 g2, fun q hq => by
      rcases List.mem_append.mp hq with h | h
      · exact S.2.2 q h
      · obtain ⟨z, -, hz⟩ := List.mem_map.mp h
        rw [← hz]
        exact hD.2 (d - 4) _ n4⟩ hl _ hheap X'
  exact ⟨t, step t a1, b1⟩
theorem x_tsw_at {pc : Nat} {d : Nat} : ∀ (offs : List Int) (lo x : Int), x_sw (x_tsw pc lo offs) d x = if lo ≤ x ∧ x < lo + offs.length then x_pc pc (offs.getD (x - lo).toNat 0) else d := by
  intro offs
  induction offs with
  | nil => intro lo x; rw [if_neg (by simp)]; rfl
  | cons o r ih =>
    intro lo x
    unfold x_tsw x_sw
    dsimp only
    by_cases e : lo = x
    · subst e
      rw [if_pos rfl, if_pos (by simp; omega), show lo - lo = 0 by omega]; rfl
    · rw [if_neg e, ih]
      by_cases hc : lo + 1 ≤ x ∧ x < lo + 1 + r.length
      · rw [if_pos hc, if_pos (by simp; omega), show (x - lo).toNat = (x - (lo + 1)).toNat + 1 by omega]; rfl
      · rw [if_neg hc, if_neg (by simp; omega)]
end GK
