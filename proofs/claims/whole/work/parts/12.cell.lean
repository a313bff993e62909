/-! instructions on cells -/
theorem kl_ok (ci : Nat) (h : ci < 10) : kls[ci]? = some (x_ow ci, x_T ci, x_nf ci) ∧ (∀ k, k < x_nf ci → parseFieldDescriptor (x_T ci k).2.2.1 = some (x_ty ci k)) ∧ (∀ a, a < x_nf ci → ∀ b, b < x_nf ci → a ≠ b → (x_T ci a).2.1 ≠ (x_T ci b).2.1) ∧ (∀ w ∈ u_ws (x_ow ci) (x_T ci) (x_nf ci), w ∈ gtbl) := by
  match ci, h with
  | 0, _ => exact ⟨rfl, tyX0_ok, nmX0, wd_C0⟩
  | 1, _ => exact ⟨rfl, tyX1_ok, nmX1, wd_C1⟩
  | 2, _ => exact ⟨rfl, tyX2_ok, nmX2, wd_C2⟩
  | 3, _ => exact ⟨rfl, tyX3_ok, nmX3, wd_C3⟩
  | 4, _ => exact ⟨rfl, tyX4_ok, nmX4, wd_C4⟩
  | 5, _ => exact ⟨rfl, tyX5_ok, nmX5, wd_C5⟩
  | 6, _ => exact ⟨rfl, tyX6_ok, nmX6, wd_C6⟩
  | 7, _ => exact ⟨rfl, tyX7_ok, nmX7, wd_C7⟩
  | 8, _ => exact ⟨rfl, tyX8_ok, nmX8, wd_C8⟩
  | 9, _ => exact ⟨rfl, tyX9_ok, nmX9, wd_C9⟩
  | n + 10, h => exact absurd h (by omega)
theorem kt_ok : ∀ ci, ci < 10 → ∀ k, k < x_nf ci → g_okt (x_ty ci k) = true := by decide +kernel
theorem kf_ok : ∀ q ∈ cp_F, q.2.2.2.1 = 0 ∨ q.2.2.2.1 = 1 ∨ (q.2.2.2.1 = 2 ∧ g_ref (x_ty q.2.1 q.2.2.1) = true) := by decide +kernel
theorem kd_decl : ∀ ci, ci < 10 → ∀ k, k < x_nf ci → (x_T ci k).1 = x_ow ci := by decide +kernel
section GK
variable {p : Program} {l : Launch} {e : Env} {R : Room} {s : State} {m : MethodId} {args : Array Value} {below : List Frame} {meth : Method} {c : Code} {Q : State → Prop}
variable {b0 : Nat} {ra : Nat → Nat} {cA : Nat → ClassId} {dC : Nat → ClassId} {dI : Nat → Nat → Nat} {L : Nat} {xs : Nat → Int32} {mi t0 s0 pc : Nat} {ls st : List Value} {h : XH} {H : Heap}
theorem gn_obj (N : g_n b0 ra cA dC dI L xs h H) {a ci : Nat} (hk : xK h a = 10 + ci) : 4 ≤ a ∧ a < xT h ∧ (g_W b0 ra cA h)[a - 4]? = some (g_r b0 ra a, .inr (ci, (List.range (x_nf ci)).map (g_F b0 ra h a))) := by
  obtain ⟨-, -, h4, k0, -, -, k1, -, -, k2, k3, kz⟩ := N
  have hT : a < xT h := Nat.not_le.mp fun q => by rw [kz a q] at hk; omega
  have ha : 4 ≤ a := Nat.not_lt.mp fun q => by
    rcases (show a = 0 ∨ a = 1 ∨ a = 2 ∨ a = 3 by omega) with rfl | rfl | rfl | rfl
    · rw [k0] at hk; omega
    · rw [k1] at hk; omega
    · rw [k2] at hk; omega
    · rw [k3] at hk; omega
  refine ⟨ha, hT, ?_⟩
  rw [g_W_at ha hT, g_E, if_neg (by omega), show xK h a - 10 = ci by omega]
theorem gn_arr (N : g_n b0 ra cA dC dI L xs h H) {a k : Nat} (hk : xK h a = k) (h0 : 0 < k) (hl : k < 4) (ha : 4 ≤ a) : a < xT h ∧ (g_W b0 ra cA h)[a - 4]? = some (g_r b0 ra a, .inl (cA k, xN h a, .inl (xI h a))) := by
  obtain ⟨-, -, h4, k0, -, -, k1, -, -, k2, k3, kz⟩ := N
  have hT : a < xT h := Nat.not_le.mp fun q => by rw [kz a q] at hk; omega
  refine ⟨hT, ?_⟩
  rw [g_W_at ha hT, g_E, if_pos (by omega), if_neg (by omega), hk]
theorem gn_arrL (N : g_n b0 ra cA dC dI L xs h H) {a : Nat} (hk : xK h a = 4) : 4 ≤ a ∧ a < xT h ∧ (g_W b0 ra cA h)[a - 4]? = some (g_r b0 ra a, .inl (cA 4, xN h a, .inr (.inl (xL h a)))) := by
  obtain ⟨-, -, h4, k0, -, -, k1, -, -, k2, k3, kz⟩ := N
  have hT : a < xT h := Nat.not_le.mp fun q => by rw [kz a q] at hk; omega
  have ha : 4 ≤ a := Nat.not_lt.mp fun q => by
    rcases (show a = 0 ∨ a = 1 ∨ a = 2 ∨ a = 3 by omega) with rfl | rfl | rfl | rfl
    · rw [k0] at hk; omega
    · rw [k1] at hk; omega
    · rw [k2] at hk; omega
    · rw [k3] at hk; omega
  refine ⟨ha, hT, ?_⟩
  rw [g_W_at ha hT, g_E, if_pos (by omega), if_pos hk]
theorem gn_4 (N : g_n b0 ra cA dC dI L xs h H) {a k : Nat} (hk : xK h a = k) (h1 : 1 < k) : 4 ≤ a := by
  obtain ⟨-, -, h4, k0, -, -, k1, -, -, k2, k3, kz⟩ := N
  refine Nat.not_lt.mp fun q => ?_
  rcases (show a = 0 ∨ a = 1 ∨ a = 2 ∨ a = 3 by omega) with rfl | rfl | rfl | rfl
  · rw [k0] at hk; omega
  · rw [k1] at hk; omega
  · rw [k2] at hk; omega
  · rw [k3] at hk; omega
theorem fr_at {n j : Nat} {f : Nat → Value} (hj : j < n) : ((List.range n).map f)[j]? = some (f j) := by
  rw [List.getElem?_map, List.getElem?_range hj]; rfl
theorem fr_set {n j : Nat} {f f' : Nat → Value} {v : Value} (hj : f' j = v) (hne : ∀ i, i ≠ j → f' i = f i) : (List.range n).map f' = ((List.range n).map f).set j v := by
  apply List.ext_getElem?
  intro i
  rw [List.getElem?_set, List.getElem?_map, List.getElem?_map, List.length_map, List.length_range]
  by_cases hi : i < n
  · rw [List.getElem?_range hi]
    by_cases e : j = i
    · subst e; rw [if_pos rfl, if_pos hi]; show some (f' j) = _; rw [hj]
    · rw [if_neg e]; show some (f' i) = some (f i); rw [hne i (fun q => e q.symm)]
  · rw [List.getElem?_eq_none (by simp; omega)]
    by_cases e : j = i
    · subst e; rw [if_pos rfl, if_neg hi]; rfl
    · rw [if_neg e]; rfl
/-- one cell of the pure heap has changed -/
theorem gn_set (N : g_n b0 ra cA dC dI L xs h H) {h' : XH} {H1 : Heap} {a : Nat} (ha : 4 ≤ a) (hE : ∀ x, x ≠ a → g_E b0 ra cA h' x = g_E b0 ra cA h x) (hT : xT h' = xT h) (hK : xK h' = xK h) (hN : xN h' = xN h) (hI : ∀ x, x ≠ a → xI h' x = xI h x) (hz : H1.size = H.size)
    (hP : va_P (dC, dI) kls ((g_W b0 ra cA h).set (a - 4) (g_r b0 ra a, g_E b0 ra cA h' a)) H1) : g_n b0 ra cA dC dI L xs h' H1 := by
  obtain ⟨-, n2, h4, k0, k0n, k0i, k1, k1n, k1i, k2, k3, kz⟩ := N
  refine ⟨by rw [g_W_set hE hT ha]; exact hP, by rw [hz, hT]; exact n2, by rw [hT]; exact h4, by rw [hK]; exact k0, by rw [hN]; exact k0n, by rw [hI 0 (by omega)]; exact k0i, by rw [hK]; exact k1, by rw [hN]; exact k1n, by rw [hI 1 (by omega)]; exact k1i, by rw [hK]; exact k2, by rw [hK]; exact k3, by rw [hT, hK]; exact kz⟩
theorem gE_I {a j : Nat} {v : Int32} : ∀ x, x ≠ a → g_E b0 ra cA (xsI h a j v) x = g_E b0 ra cA h x := by
  intro x hx
  have e : xI (xsI h a j v) x = xI h x := by show up h.1 a _ x = h.1 x; unfold up; rw [if_neg hx]
  unfold g_E
  rw [show xK (xsI h a j v) x = xK h x from rfl, show xN (xsI h a j v) x = xN h x from rfl, show xL (xsI h a j v) x = xL h x from rfl, e]
  have : g_F b0 ra (xsI h a j v) x = g_F b0 ra h x := by
    funext i
    unfold g_F
    rw [show xK (xsI h a j v) x = xK h x from rfl, show xR (xsI h a j v) x = xR h x from rfl, e]
  rw [this]
theorem gE_R {a j : Nat} {v : Nat} : ∀ x, x ≠ a → g_E b0 ra cA (xsR h a j v) x = g_E b0 ra cA h x := by
  intro x hx
  have e : xR (xsR h a j v) x = xR h x := by show up h.2.1 a _ x = h.2.1 x; unfold up; rw [if_neg hx]
  unfold g_E
  rw [show xK (xsR h a j v) x = xK h x from rfl, show xN (xsR h a j v) x = xN h x from rfl, show xL (xsR h a j v) x = xL h x from rfl, show xI (xsR h a j v) x = xI h x from rfl]
  have : g_F b0 ra (xsR h a j v) x = g_F b0 ra h x := by
    funext i
    unfold g_F
    rw [show xK (xsR h a j v) x = xK h x from rfl, show xI (xsR h a j v) x = xI h x from rfl, e]
  rw [this]
theorem gE_L {a j : Nat} {v : Int64} : ∀ x, x ≠ a → g_E b0 ra cA (xsL h a j v) x = g_E b0 ra cA h x := by
  intro x hx
  have e : xL (xsL h a j v) x = xL h x := by show up h.2.2.1 a _ x = h.2.2.1 x; unfold up; rw [if_neg hx]
  unfold g_E
  rw [show xK (xsL h a j v) x = xK h x from rfl, show xN (xsL h a j v) x = xN h x from rfl, show xI (xsL h a j v) x = xI h x from rfl, e]
  have : g_F b0 ra (xsL h a j v) x = g_F b0 ra h x := rfl
  rw [this]
theorem gE_A {a : Nat} {f : Nat → Int32} : ∀ x, x ≠ a → g_E b0 ra cA (xsA h a f) x = g_E b0 ra cA h x := by
  intro x hx
  have e : xI (xsA h a f) x = xI h x := by show up h.1 a _ x = h.1 x; unfold up; rw [if_neg hx]
  unfold g_E
  rw [show xK (xsA h a f) x = xK h x from rfl, show xN (xsA h a f) x = xN h x from rfl, show xL (xsA h a f) x = xL h x from rfl, e]
  have : g_F b0 ra (xsA h a f) x = g_F b0 ra h x := by
    funext i
    unfold g_F
    rw [show xK (xsA h a f) x = xK h x from rfl, show xR (xsA h a f) x = xR h x from rfl, e]
  rw [this]
theorem up_same {α : Type} {f : Nat → α} {k : Nat} {v : α} : up f k v k = v := if_pos rfl
theorem up_ne {α : Type} {f : Nat → α} {k x : Nat} {v : α} (h : x ≠ k) : up f k v x = f x := if_neg h
/-- a field's word -/
theorem gk_fw (C : g_c mi p s m args meth c) {j ci sl kd ps : Nat} (hq : x_lq (m_o mi) j cp_F = some (ci, sl, kd, ps)) : (Cond.fieldLink (x_ow (m_o mi)) j (x_T ci sl).1 (x_T ci sl).2.1 (x_T ci sl).2.2.1).before args s = true ∧ ci < 10 ∧ sl < x_nf ci ∧ (kd = 0 → x_ty ci sl = .int) ∧ (kd = 1 → x_ty ci sl = .boolean) ∧ (kd = 0 ∨ kd = 1 ∨ (kd = 2 ∧ g_ref (x_ty ci sl) = true)) := by
  obtain ⟨h1, h2, h3⟩ := x_lq_mem hq
  obtain ⟨hw, w1, w2, w3, w4⟩ := wd_F_ok _ h1
  have w5 := kf_ok _ h1
  unfold wd_F at hw
  dsimp only at hw w1 w2 w3 w4 w5
  rw [h2, h3] at hw
  exact ⟨gt_use C.2.2.2.2.1 _ hw rfl, w1, w2, w3, w4, w5⟩
theorem gk_getI (C : g_c mi p s m args meth c) (G : g_s b0 ra cA dC dI L xs s) {j ci sl kd ps a : Nat} (hd : decode (m_b mi) pc = .ok (.getfield j, 3)) (hq : x_lq (m_o mi) j cp_F = some (ci, sl, kd, ps)) (hn : kd ≠ 2) (hk : xK h a = 10 + ci) (k : g_K p l e R s m args below meth c b0 ra cA dC dI L xs mi t0 s0 Q (pc + 3) ls (.int (xI h a sl) :: st) h) : g_K p l e R s m args below meth c b0 ra cA dC dI L xs mi t0 s0 Q pc ls (.ref a :: st) h := fun H locs lsC N S hl => by
  obtain ⟨hw, w1, w2, w3, w4, w5⟩ := gk_fw C hq
  obtain ⟨k1, k2, k3, k4⟩ := kl_ok ci w1
  obtain ⟨n1, n2, n3⟩ := gn_obj N hk
  refine va_get C.1 C.2.1 C.2.2.2.2.1 k4 C.2.2.2.1 G.1 N.1 (a - 4) n3 k1 sl w2 hw (fun x hx => hx) (v := .int (xI h a sl)) ?_ hd (k H locs lsC N S hl)
  rw [fr_at w2, g_F, show xK h a - 10 = ci by omega, if_neg]
  rcases w5 with rfl | rfl | ⟨rfl, -⟩
  · rw [w3 rfl]; simp [g_ref]
  · rw [w4 rfl]; simp [g_ref]
  · exact absurd rfl hn
theorem gk_getR (C : g_c mi p s m args meth c) (G : g_s b0 ra cA dC dI L xs s) {j ci sl ps a : Nat} (hd : decode (m_b mi) pc = .ok (.getfield j, 3)) (hq : x_lq (m_o mi) j cp_F = some (ci, sl, 2, ps)) (hk : xK h a = 10 + ci) (hr : xR h a sl ≠ 0) (k : g_K p l e R s m args below meth c b0 ra cA dC dI L xs mi t0 s0 Q (pc + 3) ls (.ref (xR h a sl) :: st) h) : g_K p l e R s m args below meth c b0 ra cA dC dI L xs mi t0 s0 Q pc ls (.ref a :: st) h := fun H locs lsC N S hl => by
  obtain ⟨hw, w1, w2, w3, w4, w5⟩ := gk_fw C hq
  obtain ⟨k1, k2, k3, k4⟩ := kl_ok ci w1
  obtain ⟨n1, n2, n3⟩ := gn_obj N hk
  refine va_get C.1 C.2.1 C.2.2.2.2.1 k4 C.2.2.2.1 G.1 N.1 (a - 4) n3 k1 sl w2 hw (fun x hx => hx) (v := .ref (g_r b0 ra (xR h a sl))) ?_ hd (k H locs lsC N S hl)
  rcases w5 with w | w | ⟨-, w⟩
  · cases w
  · cases w
  · rw [fr_at w2, g_F, show xK h a - 10 = ci by omega, if_pos w, if_neg hr]
/-- a field is put, final or not -/
theorem gk_put (C : g_c mi p s m args meth c) (G : g_s b0 ra cA dC dI L xs s) {j ci sl kd ps a : Nat} {v : Value} {h' : XH} (hd : decode (m_b mi) pc = .ok (.putfield j, 3)) (hq : x_lq (m_o mi) j cp_F = some (ci, sl, kd, ps)) (hf : (x_T ci sl).2.2.2 = false ∨ (ci = m_o mi ∧ (m_y mi).name = "<init>")) (hk : xK h a = 10 + ci)
    (hn : narrow (x_ty ci sl) v = v) (hfit : fits (x_ty ci sl) v = true) (hE : ∀ x, x ≠ a → g_E b0 ra cA h' x = g_E b0 ra cA h x) (hT : xT h' = xT h) (hSl : xS h' = xS h) (hK : xK h' = xK h) (hN : xN h' = xN h) (hI : ∀ x, x ≠ a → xI h' x = xI h x) (hv : (List.range (x_nf ci)).map (g_F b0 ra h' a) = ((List.range (x_nf ci)).map (g_F b0 ra h a)).set sl v)
    (k : g_K p l e R s m args below meth c b0 ra cA dC dI L xs mi t0 s0 Q (pc + 3) ls st h') : ∀ (H : Heap) (locs : List Loc) (lsC : Array Slot), g_n b0 ra cA dC dI L xs h H → va_S (fun q => b0 ≤ q) s.heap H locs → g_ls b0 ra mi lsC ls → W p l e R s m args below meth c H locs (xT h - t0) (xS h - s0) Q (F0 m pc lsC (v :: .ref (g_r b0 ra a) :: st.map (g_v b0 ra))) := by
  intro H locs lsC N S hl
  obtain ⟨hw, w1, w2, w3, w4, w5⟩ := gk_fw C hq
  obtain ⟨k1, k2, k3, k4⟩ := kl_ok ci w1
  obtain ⟨n1, n2, n3⟩ := gn_obj N hk
  have hEa : g_E b0 ra cA h' a = .inr (ci, ((List.range (x_nf ci)).map (g_F b0 ra h a)).set sl v) := by
    rw [g_E, hK, if_neg (by omega), show xK h a - 10 = ci by omega, hv]
  have kk : ∀ (H1 : Heap) (locs1 : List Loc), va_P (dC, dI) kls ((g_W b0 ra cA h).set (a - 4) (g_r b0 ra a, .inr (ci, ((List.range (x_nf ci)).map (g_F b0 ra h a)).set sl v))) H1 → va_D (fun q => b0 ≤ q) ((g_W b0 ra cA h).set (a - 4) (g_r b0 ra a, .inr (ci, ((List.range (x_nf ci)).map (g_F b0 ra h a)).set sl v))) → va_S (fun q => b0 ≤ q) s.heap H1 locs1 → H1.size = H.size → W p l e R s m args below meth c H1 locs1 (xT h - t0) (xS h - s0) Q (F0 m (pc + 3) lsC (st.map (g_v b0 ra))) := by
    intro H1 locs1 hP _ hS1 hz
    have := k H1 locs1 lsC (gn_set N n1 hE hT hK hN hI hz (by rw [hEa]; exact hP)) hS1 hl
    rw [hT, hSl] at this
    exact this
  have hap := va_apart (own := x_ow (m_o mi)) C.2.2.2.2.1 k4 (x_ty ci) k2 k3 G.1 k1
  obtain ⟨r, h1, cell, q1, q2, q3, q4⟩ := N.1 (a - 4) _ n3
  have hr : r = (x_ow ci, x_T ci, x_nf ci) := Option.some.inj (h1.symm.trans k1)
  subst hr
  obtain ⟨hS, hfc, kC, hkC, hkind⟩ := G.1.1 ci _ k1
  obtain ⟨cf, kf, fi, f, hi, hsl⟩ := hS sl w2
  have hlay := C.2.2.2.2.1 _ (k4 _ (u_in_lay w2))
  unfold u_lay at hlay
  have hst := (u_facts hfc hkC (u_lays C.2.2.2.2.1 k4 w2) hi).1
  have hD : va_D (fun q => b0 ≤ q) (g_W b0 ra cA h) := g_W_D
  have hlen : sl < ((List.range (x_nf ci)).map (g_F b0 ra h a)).length := by simp; exact w2
  by_cases hfin : (x_T ci sl).2.2.2 = false
  · rw [if_neg (by rw [hfin]; decide)] at hlay
    have h6 := u_store hfc hkC hkind hlay hi (k2 sl w2) hn hfit
    refine W.putK C.1 C.2.1 (f := f) ⟨C.2.2.2.1, hw, ⟨_, _, _, hi⟩, hst⟩ (by rw [q2]; exact h6) q1 q3 (by rw [hsl]; exact k2_hasslot (q4 sl w2)) rfl rfl hd fun H' e1 e2 e3 => ?_
    rw [hsl] at e1 ⊢
    exact kk H' _ (N.1.set hD n3 ⟨_, k1, t_OB.to (V := updV (vp_V ((List.range (x_nf ci)).map (g_F b0 ra h a))) sl v) ⟨_, e1, q2, q3, t_set q4 hap w2 v⟩ (fun j _ => vp_updV_set hlen v j)⟩ e3) (hD.set n3) (S.put e2 e3 (hD.2 (a - 4) _ n3)) e2
  · have hft : (x_T ci sl).2.2.2 = true := by simpa using hfin
    rw [if_pos hft] at hlay
    obtain ⟨f1, f2⟩ := hf.resolve_left hfin
    have hcf : m.cls = cf := by
      obtain ⟨_, _, c', _, _, _, -, -, hf', -, -, -, hown2, -⟩ := Cond.laysFinal_spec hlay
      have e1 : c' = cf := by have := hi.symm.trans hf'; simp at this; exact this.1.symm
      rw [kd_decl ci w1 sl w2, f1] at hown2
      rw [← e1]; exact Option.some.inj (C.2.2.2.1.symm.trans hown2)
    have h6 := u_fits hfc hkC hkind (Or.inr hlay) hi (k2 sl w2) hn hfit
    refine W.putFinK C.1 C.2.1 C.2.2.2.1 hw hi hst hcf (by rw [C.2.2.2.2.2.2.2]; exact f2) (by rw [q2]; exact h6) q1 q3 (by rw [hsl]; exact k2_hasslot (q4 sl w2)) rfl rfl hd fun H' e1 e2 e3 => ?_
    rw [hsl] at e1 ⊢
    exact kk H' _ (N.1.set hD n3 ⟨_, k1, t_OB.to (V := updV (vp_V ((List.range (x_nf ci)).map (g_F b0 ra h a))) sl v) ⟨_, e1, q2, q3, t_set q4 hap w2 v⟩ (fun j _ => vp_updV_set hlen v j)⟩ e3) (hD.set n3) (S.put e2 e3 (hD.2 (a - 4) _ n3)) e2
end GK
