/-! THE CLASS: how the pages settle in each of the worlds -/
abbrev GK : List (Nat × Nat) := shG.map (fun x => (x.1, x.2.1))
abbrev GI : List Nat := shG.map (fun x => x.2.2.2)
theorem gk_lt {h : XH} (s : Sh h) : ∀ q ∈ GK, q.1 < xT h := by
  have : ∀ q ∈ GK, q.1 < 124 := by decide
  have h7 := s.2.2.2.2.2.2.1
  intro q hq
  have := this q hq
  omega
theorem CM.hx {T : Nat → Nat → Int32} {c : Nat} {h h1 : XH} {S : List Nat} {G : List (Nat × Nat)} (m : CM T c h) (p : Hx S G h h1) (hS : ∀ a ∈ S, 34 ≤ a) (hG : ∀ q ∈ G, q ∈ GK) : CM T c h1 := by
  have hc := m.c2
  have h7 := m.1.2.2.2.2.2.2.1
  have hgi : ∀ a ∈ GI, 46 ≤ a := by decide
  have h34 : xR h1 34 0 = xR h 34 0 := p.2.1 34 0 (fun q => by have := hG _ q; revert this; decide) (by omega)
  refine ⟨p.1, by rw [h34]; exact m.2.1, ?_, m.2.2.2⟩
  rw [← m.2.2.1]
  funext k
  unfold tx
  by_cases hk : k ≤ 9
  · rw [if_pos hk, if_pos hk, h34, m.2.1]
    exact p.at m.1 (by omega) (fun q => by have := hS _ q; omega) hG (fun q => by have := hgi _ q; omega)
  · rw [if_neg hk, if_neg hk]
theorem Fx.gl {S : List Nat} {h h1 : XH} (f : Fx S h h1) {o j : Nat} : xR h1 o j = xR h o j := by rw [f.1]
theorem g_43 {h : XH} (s : Sh h) : xR h 43 4 = 46 ∨ 124 ≤ xR h 43 4 := (s.2.2.2.2.1 (43, 4, 1, 46) (by decide)).2.1
def WOn (T : Nat → Nat → Int32) (r : Nat → Int32) (h : XH) : Prop := xI h 43 0 = nI 1 ∧ wN T ≤ xN h (xR h 43 4) ∧ ∀ w, w < wN T → xI h (xR h 43 4) w = nI (wsh T r w)
def WOk (T : Nat → Nat → Int32) (r : Nat → Int32) (h : XH) : Prop := xI h 43 0 = nI 0 ∨ WOn T r h
theorem ar_44 {h : XH} (hs : Sh h) : Ar h 44 20 := ⟨sk_44 hs, sn_44 hs, by decide⟩
section FL
variable {T : Nat → Nat → Int32} {c : Nat} {h0 : XH} {r : Nat → Int32} {Q : Value → XH → Prop}
theorem l_fill {g : Nat} (hg : xR h0 43 4 = g) (M : CM T c h0) (hr : EqR (xI h0 39) r) (hro : rOk T r) (hlen : wN T ≤ xN h0 g) (hln : xN h0 g ≤ 65536) (kk : ∀ h1, Fx [g, 34, 35, 36, 38, 43, 44] h0 h1 → WOn T r h1 → Q .null h1) :
    ∀ (m w : Nat) (h : XH), w + m = wN T → Fx [g, 34, 35, 36, 38, 43, 44] h0 h → (∀ v, v < w → xI h g v = nI (wsh T r v)) → Ev 100 33 [.ref 43, .ref 39, .ref c, .int (nI w)] [] h Q := by
  have W2 : wN T ≤ 2000 := M.2.2.2.w.1
  have g4 : g = 46 ∨ 124 ≤ g := by rw [← hg]; exact g_43 M.1
  have hS : ∀ a ∈ [g, 34, 35, 36, 38, 43, 44], 34 ≤ a := by intro a ha; simp at ha; omega
  intro m
  induction m with
  | zero =>
    intro w h hm f hq
    have M' := M.fx f hS
    have e6 : xI h c 6 = nI (wN T) := by rw [M'.t0]; exact M.2.2.2.w.2.1
    refine B_100_33 M'.1 M'.c2 ?_
    try simp (disch := omega) only [lit, tn_nI, z_inb, nI_add, pk_mul, z_le, z_nle, z_lt, z_nlt, z_ne, z_m1, pk_sub, xI_ss, xI_sd, xI_n, eq_self, true_and, and_true, and_self, not_true_eq_false, not_false_eq_true, false_implies, true_implies, implies_true, Classical.not_not, forall_const, true_or, or_true, false_or, or_false, false_and, and_false, if_true, if_false, ite_true, ite_false, reduceIte, reduceCtorEq, e6]
    have f1 : Fx [g, 34, 35, 36, 38, 43, 44] h0 (xsI h 43 0 (nI 1)) := f.set (by simp)
    have eR : xR (xsI h 43 0 (nI 1)) 43 4 = g := by rw [f1.1]; exact hg
    refine kk _ f1 ⟨xI_ss, ?_, fun v hv => ?_⟩
    · rw [eR, f1.2.2.2.1]; exact hlen
    · rw [eR, xI_n (by omega)]; exact hq v (by omega)
  | succ m ih =>
    intro w h hm f hq
    have M' := M.fx f hS
    have e6 : xI h c 6 = nI (wN T) := by rw [M'.t0]; exact M.2.2.2.w.2.1
    refine B_100_33 M'.1 M'.c2 ?_
    try simp (disch := omega) only [lit, tn_nI, z_inb, nI_add, pk_mul, z_le, z_nle, z_lt, z_nlt, z_ne, z_m1, pk_sub, xI_ss, xI_sd, xI_n, eq_self, true_and, and_true, and_self, not_true_eq_false, not_false_eq_true, false_implies, true_implies, implies_true, Classical.not_not, forall_const, true_or, or_true, false_or, or_false, false_and, and_false, if_true, if_false, ite_true, ite_false, reduceIte, reduceCtorEq, e6]
    refine ⟨by decide, ?_⟩
    have f1 : Fx [g, 34, 35, 36, 38, 43, 44] h0 (xsA h 44 (va_cpy (xI h 39) (xI h 44) 0 0 20)) := f.setA (by simp)
    have M1 := M.fx f1 hS
    have e1 : EqR (xI (xsA h 44 (va_cpy (xI h 39) (xI h 44) 0 0 20)) 44) r := by
      rw [xI_A, f.at (a := 39) (by simp; omega)]
      exact cpy_eq.tr hr
    have q1 : ∀ v, v < w → xI (xsA h 44 (va_cpy (xI h 39) (xI h 44) 0 0 20)) g v = nI (wsh T r v) := fun v hv => by rw [xI_An (by omega)]; exact hq v hv
    generalize xsA h 44 (va_cpy (xI h 39) (xI h 44) 0 0 20) = h1 at f1 M1 e1 q1 ⊢
    refine c_ptC M1 (ar_44 M1.1) (by decide) (by omega) e1 (fun h2 f2 e2 => ?_)
    have M2 := M1.fx f2 (by decide)
    refine ⟨M2.1, c_setC M2 (ar_44 M2.1) (by decide) e2 (fun h3 f3 e3 => ?_)⟩
    have M3 := M2.fx f3 (by decide)
    have hrs := rOk_set M.2.2.2 (rOk_w (w := w) M.2.2.2 hro)
    refine ⟨M3.1, c_shC M3.1 (ar_44 M3.1) e3 hrs.1 ⟨M3.1, rfl, ?_⟩⟩
    have f4 : Fx [g, 34, 35, 36, 38, 43, 44] h0 h3 := (f1.trm f2 (fun x hx => hx) (by intro x hx; simp at hx; simp [hx])).trm f3 (fun x hx => hx) (by intro x hx; simp at hx; simp; omega)
    have eR : xR h3 43 4 = g := by rw [f4.1]; exact hg
    have eN : xN h3 g = xN h0 g := by rw [f4.2.2.2.1]
    rw [eR, eN]
    try simp (disch := omega) only [lit, tn_nI, z_inb, nI_add, pk_mul, z_le, z_nle, z_lt, z_nlt, z_ne, z_m1, pk_sub, xI_ss, xI_sd, xI_n, eq_self, true_and, and_true, and_self, not_true_eq_false, not_false_eq_true, false_implies, true_implies, implies_true, Classical.not_not, forall_const, true_or, or_true, false_or, or_false, false_and, and_false, if_true, if_false, ite_true, ite_false, reduceIte, reduceCtorEq]
    refine ih (w + 1) _ (by omega) (f4.set (by simp)) (fun v hv => ?_)
    by_cases e : v = w
    · subst e; rw [xI_ss]; rfl
    · rw [xI_sd e, f3.at (by simp; omega), f2.at (by simp; omega)]; exact q1 v (by omega)
abbrev SW : List Nat := [34, 35, 36, 38, 43, 44]
theorem c_fillC {K : XH → Prop} (M : CM T c h0) (hr : EqR (xI h0 39) r) (hro : rOk T r) (W : WOk T r h0) (rm : RmOk h0) (k : ∀ h1, Hx SW [(43, 4)] h0 h1 → WOn T r h1 → K h1) : ClV 100 [.ref 43, .ref 39] h0 K := by
  have W2 : wN T ≤ 2000 := M.2.2.2.w.1
  have e6 : xI h0 (xR h0 34 0) 6 = nI (wN T) := by rw [M.2.1, M.t0]; exact M.2.2.2.w.2.1
  refine B_100_0 M.1 ⟨fun z => ?_, fun z => ?_⟩
  · rw [e6]
    refine c_room (q := (43, 4, 1, 46)) (need := wN T) (K := fun h' => Ev 100 31 [.ref 43, .ref 39, .ref (xR h0 34 0), .null] [] h' (fun r h1 => r = .null ∧ K h1)) M.1 (by decide) rfl rm (fun n => by unfold okL; simp) (by omega) (fun h1 p hle => ?_)
    have M1 := M.hx p (by decide) (by decide)
    have hr1 : EqR (xI h1 39) r := by rw [p.at M.1 (by decide) (by decide) (by decide) (by decide)]; exact hr
    have rm1 := p.2.2.2.2.1 rm
    have hln : xN h1 (xR h1 43 4) ≤ 65536 := by
      have := rm1.2.2 (43, 4, 1, 46) (by decide)
      unfold okL at this
      simp only [gl] at this
      obtain ⟨a, ha, e⟩ : p2 (xN h1 (xR h1 43 4)) := this
      rw [e]
      exact Nat.pow_le_pow_right (n := 2) (by decide) ha
    rw [M.2.1]
    refine B_100_31 M1.1 M1.c2 (l_fill rfl M1 hr1 hro hle hln (fun h2 f W2 => ⟨rfl, k h2 ?_ W2⟩) (wN T) 0 h1 (by omega) Fx.rf (fun v hv => absurd hv (by omega)))
    have hq : Hx SW [(43, 4)] h1 h2 := by
      refine ⟨f.sh M1.1 (by have := g_43 M1.1; simp; omega), fun a j _ _ => by rw [f.1], fun a ha hS hG => ⟨f.at ?_, by rw [f.2.1]⟩, fun a _ => ⟨by rw [f.2.2.2.1], by rw [f.2.2.1]⟩, fun r => ?_, by rw [f.2.2.2.2.1]; exact Nat.le_refl _, fun q _ => Or.inl (by rw [f.1])⟩
      · have hne : a ≠ xR h1 43 4 := hG (43, 4) (by simp)
        simp at hS ⊢
        exact ⟨hne, hS⟩
      · unfold RmOk
        rw [f.2.2.2.2.1, f.2.2.2.2.2.1, gl_c f.1 f.2.2.2.1]
        exact r
    exact (p.mono (by decide) (by decide) (fun q hq => gk_lt M.1 q (by rw [List.mem_singleton.mp hq]; decide))).tr hq
  · rcases W with e | W
    · exact absurd e z
    · exact ⟨rfl, k h0 (Hx.rf M.1) W⟩
end FL
