/-! puts, rows, and what is made -/
theorem nr_ref {ty : FieldType} {a : Nat} (h : g_okt ty = true) (hr : g_ref ty = true) : narrow ty (.ref a) = .ref a ∧ fits ty (.ref a) = true := by
  cases ty <;> first | (cases h; done) | (cases hr; done) | exact ⟨rfl, rfl⟩
theorem df_ty {ty : FieldType} (h : g_okt ty = true) : defaultValue ty = if g_ref ty = true then .null else .int 0 := by
  cases ty <;> first | (cases h; done) | rfl
theorem bb_01 {v : Int32} (h : v = 0 ∨ v = 1) : narrow .boolean (.int v) = .int v ∧ fits .boolean (.int v) = true ∧ vp_nar .boolean v = v := by
  rcases h with rfl | rfl
  · exact ⟨by decide, by decide, by decide⟩
  · exact ⟨by decide, by decide, by decide⟩
theorem wa_in : Cond.arrayClass .int ∈ gtbl ∧ Cond.arrayClass .byte ∈ gtbl ∧ Cond.arrayClass .boolean ∈ gtbl ∧ Cond.arrayClass .long ∈ gtbl := ⟨gt_in 245 (by decide +kernel) rfl, gt_in 243 (by decide +kernel) rfl, gt_in 1584 (by decide +kernel) rfl, gt_in 244 (by decide +kernel) rfl⟩
theorem wi_0 : Cond.instantiable (x_ow 0) (x_nf 0) ∈ gtbl ∧ Cond.initialized (x_ow 0) ∈ gtbl := ⟨gt_in 464 (by decide +kernel) rfl, gt_in 118 (by decide +kernel) rfl⟩
theorem wi_1 : Cond.instantiable (x_ow 1) (x_nf 1) ∈ gtbl ∧ Cond.initialized (x_ow 1) ∈ gtbl := ⟨gt_in 490 (by decide +kernel) rfl, gt_in 119 (by decide +kernel) rfl⟩
theorem wi_2 : Cond.instantiable (x_ow 2) (x_nf 2) ∈ gtbl ∧ Cond.initialized (x_ow 2) ∈ gtbl := ⟨gt_in 391 (by decide +kernel) rfl, gt_in 115 (by decide +kernel) rfl⟩
theorem wi_3 : Cond.instantiable (x_ow 3) (x_nf 3) ∈ gtbl ∧ Cond.initialized (x_ow 3) ∈ gtbl := ⟨gt_in 361 (by decide +kernel) rfl, gt_in 114 (by decide +kernel) rfl⟩
theorem wi_4 : Cond.instantiable (x_ow 4) (x_nf 4) ∈ gtbl ∧ Cond.initialized (x_ow 4) ∈ gtbl := ⟨gt_in 136 (by decide +kernel) rfl, gt_in 108 (by decide +kernel) rfl⟩
theorem wi_5 : Cond.instantiable (x_ow 5) (x_nf 5) ∈ gtbl ∧ Cond.initialized (x_ow 5) ∈ gtbl := ⟨gt_in 247 (by decide +kernel) rfl, gt_in 113 (by decide +kernel) rfl⟩
theorem wi_6 : Cond.instantiable (x_ow 6) (x_nf 6) ∈ gtbl ∧ Cond.initialized (x_ow 6) ∈ gtbl := ⟨gt_in 437 (by decide +kernel) rfl, gt_in 117 (by decide +kernel) rfl⟩
theorem wi_7 : Cond.instantiable (x_ow 7) (x_nf 7) ∈ gtbl ∧ Cond.initialized (x_ow 7) ∈ gtbl := ⟨gt_in 408 (by decide +kernel) rfl, gt_in 116 (by decide +kernel) rfl⟩
theorem wi_8 : Cond.instantiable (x_ow 8) (x_nf 8) ∈ gtbl ∧ Cond.initialized (x_ow 8) ∈ gtbl := ⟨gt_in 128 (by decide +kernel) rfl, gt_in 107 (by decide +kernel) rfl⟩
theorem wi_9 : Cond.instantiable (x_ow 9) (x_nf 9) ∈ gtbl ∧ Cond.initialized (x_ow 9) ∈ gtbl := ⟨gt_in 1283 (by decide +kernel) rfl, gt_in 120 (by decide +kernel) rfl⟩
theorem wi_in (ci : Nat) (h : ci < 10) : Cond.instantiable (x_ow ci) (x_nf ci) ∈ gtbl ∧ Cond.initialized (x_ow ci) ∈ gtbl := by
  match ci, h with
  | 0, _ => exact wi_0
  | 1, _ => exact wi_1
  | 2, _ => exact wi_2
  | 3, _ => exact wi_3
  | 4, _ => exact wi_4
  | 5, _ => exact wi_5
  | 6, _ => exact wi_6
  | 7, _ => exact wi_7
  | 8, _ => exact wi_8
  | 9, _ => exact wi_9
  | n + 10, h => exact absurd h (by omega)
theorem wn_in : Cond.native arraycopyName ∈ gtbl ∧ Cond.static arraycopyName ∈ gtbl ∧ Cond.initialized "java/lang/System" ∈ gtbl ∧ Cond.initialized "java/lang/Math" ∈ gtbl ∧ Cond.instanceMethod Lib.objectInit ∈ gtbl := ⟨gt_in 925 (by decide +kernel) rfl, gt_in 924 (by decide +kernel) rfl, gt_in 124 (by decide +kernel) rfl, gt_in 121 (by decide +kernel) rfl, gt_in 133 (by decide +kernel) rfl⟩
theorem wm_in : (Cond.static Lib.Math.max.name ∈ gtbl ∧ Cond.code Lib.Math.max.name Lib.Math.max.code 2 (some .int) ∈ gtbl) ∧ (Cond.static Lib.Math.min.name ∈ gtbl ∧ Cond.code Lib.Math.min.name Lib.Math.min.code 2 (some .int) ∈ gtbl) := ⟨⟨gt_in 641 (by decide +kernel) rfl, gt_in 642 (by decide +kernel) rfl⟩, gt_in 644 (by decide +kernel) rfl, gt_in 645 (by decide +kernel) rfl⟩
theorem wl_in : (Cond.static Lib.MathLoose.max_long.x ∈ gtbl ∧ Cond.code Lib.MathLoose.max_long.x Lib.MathLoose.max_long.code 4 (some .long) ∈ gtbl) ∧ (Cond.static Lib.MathLoose.min_long.x ∈ gtbl ∧ Cond.code Lib.MathLoose.min_long.x Lib.MathLoose.min_long.code 4 (some .long) ∈ gtbl) ∧ Cond.code Lib.objectInit ⟨#[0xb1]⟩ 1 none ∈ gtbl := ⟨⟨gt_in 733 (by decide +kernel) rfl, gt_in 734 (by decide +kernel) rfl⟩, ⟨gt_in 730 (by decide +kernel) rfl, gt_in 731 (by decide +kernel) rfl⟩, gt_in 134 (by decide +kernel) rfl⟩
theorem m_room (mi : Nat) : 2 ≤ m_fr mi ∧ 80 ≤ m_lo mi := by
  have h : ∀ q ∈ mtab, 2 ≤ q.2.2.2.2.2.2.1 ∧ 80 ≤ q.2.2.2.2.2.2.2 := by decide +kernel
  unfold m_fr m_lo m_at
  rw [List.getD_eq_getElem?_getD]
  cases hq : mtab[mi]? with
  | none => exact ⟨by decide, by decide⟩
  | some q => exact h q (List.mem_of_getElem? hq)
section GK
variable {p : Program} {l : Launch} {e : Env} {R : Room} {s : State} {m : MethodId} {args : Array Value} {below : List Frame} {meth : Method} {c : Code} {Q : State → Prop}
variable {b0 : Nat} {ra : Nat → Nat} {cA : Nat → ClassId} {dC : Nat → ClassId} {dI : Nat → Nat → Nat} {L : Nat} {xs : Nat → Int32} {mi t0 s0 pc : Nat} {ls st : List Value} {h : XH} {H : Heap}
theorem gF_I {a sl ci : Nat} {v : Int32} (hk : xK h a = 10 + ci) (hr : g_ref (x_ty ci sl) = false) : (List.range (x_nf ci)).map (g_F b0 ra (xsI h a sl v) a) = ((List.range (x_nf ci)).map (g_F b0 ra h a)).set sl (.int v) := by
  refine fr_set ?_ (fun i hi => ?_)
  · unfold g_F
    rw [show xK (xsI h a sl v) a = xK h a from rfl, show xK h a - 10 = ci by omega, if_neg (by rw [hr]; decide)]
    show Value.int (up h.1 a (up (h.1 a) sl v) a sl) = _
    rw [up_same, up_same]
  · unfold g_F
    rw [show xK (xsI h a sl v) a = xK h a from rfl, show xR (xsI h a sl v) a = xR h a from rfl]
    have : xI (xsI h a sl v) a i = xI h a i := by
      show up h.1 a (up (h.1 a) sl v) a i = h.1 a i
      rw [up_same, up_ne hi]
    rw [this]
theorem gF_R {a sl ci v : Nat} (hk : xK h a = 10 + ci) (hr : g_ref (x_ty ci sl) = true) (hv : v ≠ 0) : (List.range (x_nf ci)).map (g_F b0 ra (xsR h a sl v) a) = ((List.range (x_nf ci)).map (g_F b0 ra h a)).set sl (.ref (g_r b0 ra v)) := by
  refine fr_set ?_ (fun i hi => ?_)
  · have e : xR (xsR h a sl v) a sl = v := by
      show up h.2.1 a (up (h.2.1 a) sl v) a sl = v
      rw [up_same, up_same]
    unfold g_F
    rw [show xK (xsR h a sl v) a = xK h a from rfl, show xK h a - 10 = ci by omega, if_pos hr, e, if_neg hv]
  · unfold g_F
    rw [show xK (xsR h a sl v) a = xK h a from rfl, show xI (xsR h a sl v) a = xI h a from rfl]
    have : xR (xsR h a sl v) a i = xR h a i := by
      show up h.2.1 a (up (h.2.1 a) sl v) a i = h.2.1 a i
      rw [up_same, up_ne hi]
    rw [this]
theorem gk_putI (C : g_c mi p s m args meth c) (G : g_s b0 ra cA dC dI L xs s) {j ci sl ps a : Nat} {v : Int32} (hd : decode (m_b mi) pc = .ok (.putfield j, 3)) (hq : x_lq (m_o mi) j cp_F = some (ci, sl, 0, ps)) (hf : (x_T ci sl).2.2.2 = false ∨ (ci = m_o mi ∧ (m_y mi).name = "<init>")) (hk : xK h a = 10 + ci) (k : g_K p l e R s m args below meth c b0 ra cA dC dI L xs mi t0 s0 Q (pc + 3) ls st (xsI h a sl v)) : g_K p l e R s m args below meth c b0 ra cA dC dI L xs mi t0 s0 Q pc ls (.int v :: .ref a :: st) h := by
  have w3 := (gk_fw C hq).2.2.2.1 rfl
  exact gk_put C G hd hq hf hk (by rw [w3]; rfl) (by rw [w3]; rfl) gE_I rfl rfl rfl rfl (fun x hx => up_ne hx) (gF_I hk (by rw [w3]; rfl)) k
theorem gk_putZ (C : g_c mi p s m args meth c) (G : g_s b0 ra cA dC dI L xs s) {j ci sl ps a : Nat} {v : Int32} (hd : decode (m_b mi) pc = .ok (.putfield j, 3)) (hq : x_lq (m_o mi) j cp_F = some (ci, sl, 1, ps)) (hf : (x_T ci sl).2.2.2 = false ∨ (ci = m_o mi ∧ (m_y mi).name = "<init>")) (hk : xK h a = 10 + ci) (hv : v = 0 ∨ v = 1) (k : g_K p l e R s m args below meth c b0 ra cA dC dI L xs mi t0 s0 Q (pc + 3) ls st (xsI h a sl v)) : g_K p l e R s m args below meth c b0 ra cA dC dI L xs mi t0 s0 Q pc ls (.int v :: .ref a :: st) h := by
  have w3 := (gk_fw C hq).2.2.2.2.1 rfl
  exact gk_put C G hd hq hf hk (by rw [w3]; exact (bb_01 hv).1) (by rw [w3]; exact (bb_01 hv).2.1) gE_I rfl rfl rfl rfl (fun x hx => up_ne hx) (gF_I hk (by rw [w3]; rfl)) k
theorem gk_putR (C : g_c mi p s m args meth c) (G : g_s b0 ra cA dC dI L xs s) {j ci sl kd ps a v : Nat} (hd : decode (m_b mi) pc = .ok (.putfield j, 3)) (hq : x_lq (m_o mi) j cp_F = some (ci, sl, kd, ps)) (h0 : kd ≠ 0) (h1 : kd ≠ 1) (hf : (x_T ci sl).2.2.2 = false ∨ (ci = m_o mi ∧ (m_y mi).name = "<init>")) (hk : xK h a = 10 + ci) (hv : v ≠ 0) (k : g_K p l e R s m args below meth c b0 ra cA dC dI L xs mi t0 s0 Q (pc + 3) ls st (xsR h a sl v)) : g_K p l e R s m args below meth c b0 ra cA dC dI L xs mi t0 s0 Q pc ls (.ref v :: .ref a :: st) h := by
  obtain ⟨-, w1, w2, -, -, w5⟩ := gk_fw C hq
  have hr : g_ref (x_ty ci sl) = true := by
    rcases w5 with w | w | ⟨-, w⟩
    · exact absurd w h0
    · exact absurd w h1
    · exact w
  have ho := kt_ok ci w1 sl w2
  exact gk_put C G hd hq hf hk (nr_ref ho hr).1 (nr_ref ho hr).2 gE_R rfl rfl rfl rfl (fun x hx => rfl) (gF_R hk hr hv) k
theorem gk_iaload (C : g_c mi p s m args meth c) (G : g_s b0 ra cA dC dI L xs s) {a : Nat} {i : Int32} (hd : decode (m_b mi) pc = .ok (.iaload, 1)) (hk : xK h a = 1) (hi : ¬ (i < 0 ∨ xN h a ≤ i.toNatClampNeg)) (k : g_K p l e R s m args below meth c b0 ra cA dC dI L xs mi t0 s0 Q (pc + 1) ls (.int (xI h a i.toNatClampNeg) :: st) h) : g_K p l e R s m args below meth c b0 ra cA dC dI L xs mi t0 s0 Q pc ls (.int i :: .ref a :: st) h := fun H locs lsC N S hl => by
  by_cases ha : 4 ≤ a
  · obtain ⟨n1, n2⟩ := gn_arr N hk (by omega) (by omega) ha
    exact va_iald C.1 C.2.1 G.1 N.1 (a - 4) 0 n2 rfl hi hd (k H locs lsC N S hl)
  · obtain ⟨-, g2, g3, g4, g5, g6, g7, -⟩ := G
    have N' := N
    obtain ⟨-, -, h4, k0, k0n, k0i, k1, k1n, k1i, k2, k3, kz⟩ := N'
    rcases (show a = 0 ∨ a = 1 ∨ a = 2 ∨ a = 3 by omega) with rfl | rfl | rfl | rfl
    · refine va_sld (A := fun q => b0 ≤ q) C.1 C.2.1 g3 (by omega) (by show ¬ b0 ≤ ra 0; omega) S (by rw [← k0n]; exact hi) hd ?_
      have := k H locs lsC N S hl
      rw [k0i] at this
      exact this
    · have := k H locs lsC N S hl
      rw [k1i] at this
      exact va_ti (A := fun q => b0 ≤ q) C.1 C.2.1 g4 S (by rw [← k1n]; exact hi) rfl hd this
    · rw [k2] at hk; cases hk
    · rw [k3] at hk; cases hk
theorem gk_laload (C : g_c mi p s m args meth c) (G : g_s b0 ra cA dC dI L xs s) {a : Nat} {i : Int32} (hd : decode (m_b mi) pc = .ok (.laload, 1)) (hk : xK h a = 4) (hi : ¬ (i < 0 ∨ xN h a ≤ i.toNatClampNeg)) (k : g_K p l e R s m args below meth c b0 ra cA dC dI L xs mi t0 s0 Q (pc + 1) ls (.long (xL h a i.toNatClampNeg) :: st) h) : g_K p l e R s m args below meth c b0 ra cA dC dI L xs mi t0 s0 Q pc ls (.int i :: .ref a :: st) h := fun H locs lsC N S hl => by
  obtain ⟨n1, n2, n3⟩ := gn_arrL N hk
  exact va_lald C.1 C.2.1 G.1 N.1 (a - 4) 3 n3 rfl hi hd (k H locs lsC N S hl)
theorem gk_baload (C : g_c mi p s m args meth c) (G : g_s b0 ra cA dC dI L xs s) {a : Nat} {i : Int32} (hd : decode (m_b mi) pc = .ok (.baload, 1)) (hk : xK h a = 2 ∨ xK h a = 3) (hi : ¬ (i < 0 ∨ xN h a ≤ i.toNatClampNeg)) (k : g_K p l e R s m args below meth c b0 ra cA dC dI L xs mi t0 s0 Q (pc + 1) ls (.int (xI h a i.toNatClampNeg) :: st) h) : g_K p l e R s m args below meth c b0 ra cA dC dI L xs mi t0 s0 Q pc ls (.int i :: .ref a :: st) h := fun H locs lsC N S hl => by
  rcases hk with hk | hk
  · obtain ⟨n1, n2⟩ := gn_arr N hk (by omega) (by omega) (gn_4 N hk (by omega))
    exact va_bald C.1 C.2.1 G.1 N.1 (a - 4) 1 n2 rfl hi hd (k H locs lsC N S hl)
  · obtain ⟨n1, n2⟩ := gn_arr N hk (by omega) (by omega) (gn_4 N hk (by omega))
    exact va_zald C.1 C.2.1 G.1 N.1 (a - 4) 2 n2 rfl hi hd (k H locs lsC N S hl)
theorem gE_Ia {a j k : Nat} {v : Int32} (hk : xK h a = k) (hl : k < 4) : g_E b0 ra cA (xsI h a j v) a = .inl (cA k, xN h a, .inl (upd (xI h a) j v)) := by
  unfold g_E
  rw [show xK (xsI h a j v) a = xK h a from rfl, if_pos (by omega), if_neg (by omega), hk, show xN (xsI h a j v) a = xN h a from rfl]
  have e : xI (xsI h a j v) a = upd (xI h a) j v := by
    show up h.1 a (up (h.1 a) j v) a = _
    rw [up_same]
    funext q
    simp [up, upd]
  rw [e]
theorem gk_iastore (C : g_c mi p s m args meth c) (G : g_s b0 ra cA dC dI L xs s) {a : Nat} {i v : Int32} (hd : decode (m_b mi) pc = .ok (.iastore, 1)) (hk : xK h a = 1) (h4 : 4 ≤ a) (hi : ¬ (i < 0 ∨ xN h a ≤ i.toNatClampNeg)) (k : g_K p l e R s m args below meth c b0 ra cA dC dI L xs mi t0 s0 Q (pc + 1) ls st (xsI h a i.toNatClampNeg v)) : g_K p l e R s m args below meth c b0 ra cA dC dI L xs mi t0 s0 Q pc ls (.int v :: .int i :: .ref a :: st) h := fun H locs lsC N S hl => by
  obtain ⟨n1, n2⟩ := gn_arr N hk (by omega) (by omega) h4
  have hD : va_D (fun q => b0 ≤ q) (g_W b0 ra cA h) := g_W_D
  refine W.iast C.1 C.2.1 (N.1 (a - 4) _ n2) ((G.1.2 0 _ rfl).1 (xN h a) (fun j => .int (xI h a j))) (fun q => by cases q) (by show ¬ (i < 0 ∨ (arrV _ _ _).slots.size ≤ _); rw [arrV_size]; exact hi) rfl rfl hd fun H1 e z oq => ?_
  refine k H1 _ lsC (gn_set N h4 gE_I rfl rfl rfl (fun x hx => up_ne hx) z ?_) (S.put z oq (hD.2 (a - 4) _ n2)) hl
  rw [gE_Ia hk (by omega)]
  refine N.1.set hD n2 ?_ oq
  show H1[g_r b0 ra a]? = some (vp_cell _ _)
  rw [e]
  rw [vp_cell_i, vp_cell_i, arrV_store]
  congr 2
  funext q
  by_cases hq : q = i.toNatClampNeg
  · subst hq
    simp [updV, upd]
  · simp [updV, upd, hq]
theorem gk_bastore (C : g_c mi p s m args meth c) (G : g_s b0 ra cA dC dI L xs s) {a : Nat} {i v : Int32} (hd : decode (m_b mi) pc = .ok (.bastore, 1)) (hk : xK h a = 2) (hi : ¬ (i < 0 ∨ xN h a ≤ i.toNatClampNeg)) (k : g_K p l e R s m args below meth c b0 ra cA dC dI L xs mi t0 s0 Q (pc + 1) ls st (xsI h a i.toNatClampNeg v.toInt8.toInt32)) : g_K p l e R s m args below meth c b0 ra cA dC dI L xs mi t0 s0 Q pc ls (.int v :: .int i :: .ref a :: st) h := fun H locs lsC N S hl => by
  have h4 := gn_4 N hk (by omega)
  obtain ⟨n1, n2⟩ := gn_arr N hk (by omega) (by omega) h4
  have hD : va_D (fun q => b0 ≤ q) (g_W b0 ra cA h) := g_W_D
  refine W.bast C.1 C.2.1 (N.1 (a - 4) _ n2) ((G.1.2 1 _ rfl).1 (xN h a) (fun j => .int (xI h a j))) (fun q => by cases q) (by show ¬ (i < 0 ∨ (arrV _ _ _).slots.size ≤ _); rw [arrV_size]; exact hi) rfl rfl hd fun H1 e z oq => ?_
  refine k H1 _ lsC (gn_set N h4 gE_I rfl rfl rfl (fun x hx => up_ne hx) z ?_) (S.put z oq (hD.2 (a - 4) _ n2)) hl
  rw [gE_Ia hk (by omega)]
  refine N.1.set hD n2 ?_ oq
  show H1[g_r b0 ra a]? = some (vp_cell _ _)
  rw [e]
  rw [vp_cell_i, vp_cell_i, arrV_store, ← vp_nar_byte]
  congr 2
  funext q
  by_cases hq : q = i.toNatClampNeg
  · subst hq
    simp [updV, upd, vp_nar]
    try rfl
  · simp [updV, upd, hq]
theorem gk_zastore (C : g_c mi p s m args meth c) (G : g_s b0 ra cA dC dI L xs s) {a : Nat} {i v : Int32} (hd : decode (m_b mi) pc = .ok (.bastore, 1)) (hk : xK h a = 3) (hv : v = 0 ∨ v = 1) (hi : ¬ (i < 0 ∨ xN h a ≤ i.toNatClampNeg)) (k : g_K p l e R s m args below meth c b0 ra cA dC dI L xs mi t0 s0 Q (pc + 1) ls st (xsI h a i.toNatClampNeg v)) : g_K p l e R s m args below meth c b0 ra cA dC dI L xs mi t0 s0 Q pc ls (.int v :: .int i :: .ref a :: st) h := fun H locs lsC N S hl => by
  have h4 := gn_4 N hk (by omega)
  obtain ⟨n1, n2⟩ := gn_arr N hk (by omega) (by omega) h4
  have hD : va_D (fun q => b0 ≤ q) (g_W b0 ra cA h) := g_W_D
  refine W.zast C.1 C.2.1 (N.1 (a - 4) _ n2) ((G.1.2 2 _ rfl).1 (xN h a) (fun j => .int (xI h a j))) (fun q => by cases q) (by show ¬ (i < 0 ∨ (arrV _ _ _).slots.size ≤ _); rw [arrV_size]; exact hi) rfl rfl hd fun H1 e z oq => ?_
  refine k H1 _ lsC (gn_set N h4 gE_I rfl rfl rfl (fun x hx => up_ne hx) z ?_) (S.put z oq (hD.2 (a - 4) _ n2)) hl
  rw [gE_Ia hk (by omega)]
  refine N.1.set hD n2 ?_ oq
  show H1[g_r b0 ra a]? = some (vp_cell _ _)
  rw [e]
  rw [vp_cell_i, vp_cell_i, arrV_store]
  have hb := (bb_01 hv).1
  congr 2
  funext q
  by_cases hq : q = i.toNatClampNeg
  · subst hq
    simp [updV, upd, hb]
  · simp [updV, upd, hq]
theorem gk_lastore (C : g_c mi p s m args meth c) (G : g_s b0 ra cA dC dI L xs s) {a : Nat} {i : Int32} {v : Int64} (hd : decode (m_b mi) pc = .ok (.lastore, 1)) (hk : xK h a = 4) (hi : ¬ (i < 0 ∨ xN h a ≤ i.toNatClampNeg)) (k : g_K p l e R s m args below meth c b0 ra cA dC dI L xs mi t0 s0 Q (pc + 1) ls st (xsL h a i.toNatClampNeg v)) : g_K p l e R s m args below meth c b0 ra cA dC dI L xs mi t0 s0 Q pc ls (.long v :: .int i :: .ref a :: st) h := fun H locs lsC N S hl => by
  obtain ⟨h4, n1, n2⟩ := gn_arrL N hk
  have hD : va_D (fun q => b0 ≤ q) (g_W b0 ra cA h) := g_W_D
  refine W.last C.1 C.2.1 (N.1 (a - 4) _ n2) ((G.1.2 3 _ rfl).1 (xN h a) (fun j => .long (xL h a j))) (fun q => by cases q) (by show ¬ (i < 0 ∨ (arrV _ _ _).slots.size ≤ _); rw [arrV_size]; exact hi) rfl rfl hd fun H1 e z oq => ?_
  refine k H1 _ lsC (gn_set N h4 gE_L rfl rfl rfl (fun x hx => rfl) z ?_) (S.put z oq (hD.2 (a - 4) _ n2)) hl
  have hE : g_E b0 ra cA (xsL h a i.toNatClampNeg v) a = .inl (cA 4, xN h a, .inr (.inl (vp_updL (xL h a) i.toNatClampNeg v))) := by
    unfold g_E
    rw [show xK (xsL h a i.toNatClampNeg v) a = xK h a from rfl, if_pos (by omega), if_pos hk, show xN (xsL h a i.toNatClampNeg v) a = xN h a from rfl]
    have e : xL (xsL h a i.toNatClampNeg v) a = vp_updL (xL h a) i.toNatClampNeg v := by
      show up h.2.2.1 a (up (h.2.2.1 a) i.toNatClampNeg v) a = _
      rw [up_same]
      funext q
      simp [up, vp_updL]
    rw [e]
  rw [hE]
  refine N.1.set hD n2 ?_ oq
  show H1[g_r b0 ra a]? = some (vp_cell _ _)
  rw [e]
  rw [vp_cell_l, vp_cell_l, arrV_store]
  congr 2
  funext q
  by_cases hq : q = i.toNatClampNeg
  · subst hq
    simp [updV, vp_updL]
  · simp [updV, vp_updL, hq]
theorem gk_alen (C : g_c mi p s m args meth c) (G : g_s b0 ra cA dC dI L xs s) {a : Nat} (hd : decode (m_b mi) pc = .ok (.arraylength, 1)) (h1 : 1 ≤ xK h a) (h2 : xK h a ≤ 4) (k : g_K p l e R s m args below meth c b0 ra cA dC dI L xs mi t0 s0 Q (pc + 1) ls (.int (Int32.ofNat (xN h a)) :: st) h) : g_K p l e R s m args below meth c b0 ra cA dC dI L xs mi t0 s0 Q pc ls (.ref a :: st) h := fun H locs lsC N S hl => by
  by_cases ha : 4 ≤ a
  · by_cases h4 : xK h a = 4
    · obtain ⟨n1, n2, n3⟩ := gn_arrL N h4
      exact va_alen C.1 C.2.1 G.1 N.1 (a - 4) 3 n3 rfl rfl hd (k H locs lsC N S hl)
    · obtain ⟨n1, n2⟩ := gn_arr N rfl (by omega) (by omega) ha
      have ht : (g_tys cA)[xK h a - 1]? = some (cA (xK h a), (if xK h a = 1 then .int else if xK h a = 2 then .byte else .boolean)) := by
        rcases (show xK h a = 1 ∨ xK h a = 2 ∨ xK h a = 3 by omega) with q | q | q <;> rw [q] <;> rfl
      exact va_alen C.1 C.2.1 G.1 N.1 (a - 4) (xK h a - 1) n2 ht rfl hd (k H locs lsC N S hl)
  · obtain ⟨-, g2, g3, g4, g5, g6, g7, -⟩ := G
    have N' := N
    obtain ⟨-, -, h4, k0, k0n, k0i, k1, k1n, k1i, k2, k3, kz⟩ := N'
    rcases (show a = 0 ∨ a = 1 ∨ a = 2 ∨ a = 3 by omega) with rfl | rfl | rfl | rfl
    · refine va_slen (b := ra 0) (A := fun q => b0 ≤ q) C.1 C.2.1 g3 (by omega) (by show ¬ b0 ≤ ra 0; omega) S hd ?_
      have := k H locs lsC N S hl
      rw [k0n] at this
      exact this
    · have := k H locs lsC N S hl
      rw [k1n] at this
      exact va_tlen (A := fun q => b0 ≤ q) C.1 C.2.1 g4 S rfl hd this
    · rw [k2] at h1; cases h1
    · rw [k3] at h1; cases h1
end GK
