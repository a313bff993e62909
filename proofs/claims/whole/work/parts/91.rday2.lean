/-! THE REFERENCE: a day goes by -/
def rOk (T : Nat → Nat → Int32) (r : Nat → Int32) : Prop := rSh T r ∧ (∀ f, f < tn (T 0 0) → ∃ m, m ≤ tn (T 1 f) ∧ r f = nI m) ∧ ∀ f, tn (T 0 0) ≤ f → f < 8 → r f = nI 0
theorem nI_is {x : Int32} {n : Nat} (hn : n < 2 ^ 32) (h : x.toBitVec.toNat = n) : x = nI n := Int32.toBitVec_inj.mp (BitVec.eq_of_toNat_eq (by rw [pk_tn hn]; exact h))
theorem lotF_n (a b : Int32) : ∃ n, n < 100 ∧ lotF a b = nI n := by
  unfold lotF
  have hz := pk_ushr (mix (mix a 41) b) 1 1 (by decide)
  have hb : (mix (mix a 41) b).toBitVec.toNat < 2 ^ 32 := (mix (mix a 41) b).toBitVec.isLt
  have e := nI_is (by omega) hz
  rw [e, show (100 : Int32) = nI 100 from rfl, pk_rem (by omega) (by decide) (by decide)]
  exact ⟨_, Nat.mod_lt _ (by decide), rfl⟩
theorem sl_at {T : Nat → Nat → Int32} {seed : Int32} {fr : Nat → Int32} : ∀ k f r i, f + k ≤ 8 → 8 ≤ i → sl T seed fr k f r i = r i := by
  intro k
  induction k with
  | zero => intro f r i _ _; rfl
  | succ k ih =>
    intro f r i h hi
    unfold sl
    rw [ih (f + 1) _ i (by omega) hi, up_ne (by omega)]
theorem rq_day {s r : Nat → Int32} {v : Int32} (h : rq s r) : rq (up s 15 v) (up r 14 v) := by
  intro i hi
  unfold sw
  by_cases e : i = 15
  · subst e; rfl
  · rw [up_ne e, h i hi]
    unfold sw
    by_cases e2 : i = 14
    · subst e2; rfl
    · rw [if_neg e2, if_neg e, if_neg e2, if_neg e, up_ne e2]
theorem c_mix2 {h : XH} {a b : Int32} {K : Int32 → XH → Prop} (hs : Sh h) (k : K (mix a b) h) : ClI 217 [.int a, .int b] h K := B_217_0 hs ⟨_, rfl, k⟩
theorem c_lotOf {h : XH} {f : Nat} {seed day : Int32} {K : Int32 → XH → Prop} (hs : Sh h) (e61 : xI h 69 61 = seed) (e15 : xI h 109 15 = day) (k : K (lotF seed (8 * day + nI f)) h) : ClI 216 [.ref 69, .int (nI f)] h K := by
  refine B_216_0 hs ?_
  rw [e61]
  refine c_mix2 hs ⟨hs, inb_l rfl, ?_⟩
  rw [show tn (15 : Int32) = 15 from rfl, e15]
  exact c_mix2 hs ⟨hs, _, rfl, k⟩
theorem slv_r {T : Nat → Nat → Int32} {seed day : Int32} {f m c : Nat} (hs : ∃ s, s ≤ 100 ∧ T 0 2 = nI s) (hm : T 1 f = nI m) (hm3 : m ≤ 3) (hc : c ≤ m) : slv T seed day (nI c) f = if T 0 2 ≤ lotF seed (8 * day + nI f) then nI c else if ¬ nI c = T 1 f then nI c + 1 else 0 := by
  obtain ⟨s, h1, h2⟩ := hs
  obtain ⟨n, hn, e⟩ := lotF_n seed (8 * day + nI f)
  unfold slv
  rw [h2, e, hm]
  have h0 : (0 : Int32) = nI 0 := rfl
  by_cases q : s = 0
  · subst q
    rw [if_pos (by rw [h0]; exact nI_le (Nat.le_refl _) (by decide)), if_pos (nI_le (by omega) (by omega))]
  · rw [if_neg (by rw [h0]; exact nI_ge (by omega) (by omega))]
    by_cases q2 : nI s ≤ nI n
    · rw [if_pos q2, if_pos q2]
    · rw [if_neg q2, if_neg q2]
      by_cases q3 : c = m
      · subst q3
        rw [if_pos (nI_le (Nat.le_refl _) (by omega)), if_neg (not_not_intro rfl)]
      · rw [if_neg (nI_ge (by omega) (by omega)), if_pos (fun q => q3 ((nI_eq (by omega) (by omega)).mp q))]
theorem lawV_n {T : Nat → Nat → Int32} {r : Nat → Int32} {f m : Nat} (hm : T 1 f = nI m) (hm3 : m ≤ 3) (hr : ∃ c, c ≤ m ∧ r f = nI c) : ∃ c, c ≤ m ∧ lawV T r f = nI c := by
  unfold lawV
  cases rnT T r (T 4 f) with
  | none => exact hr
  | some v =>
    dsimp only
    rw [hm, min_cl hm3]
    by_cases h0 : 0 ≤ v
    · rw [if_pos h0]
      obtain ⟨j, hj, rfl⟩ := nI_of (Int32.not_lt.mpr h0)
      by_cases h1 : j ≤ m
      · rw [if_pos (nI_le h1 (by omega))]; exact ⟨j, h1, rfl⟩
      · rw [if_neg (nI_ge (by omega) hj)]; exact ⟨m, Nat.le_refl _, rfl⟩
    · rw [if_neg h0]; exact ⟨0, by omega, rfl⟩
section DY
variable {T : Nat → Nat → Int32} {l : Nat} {r : Nat → Int32} {h0 : XH} {Q : Value → XH → Prop} {seed : Int32}
theorem l_dy1 (M : RM T l h0) (hr : rq (xI h0 109) r) (hv : vOk (xI h0 106) r) (kk : ∀ h1, Gx [107, 112] [58] h0 h1 → (∀ q, q < tn (T 0 0) → xI h1 112 q = lawV T r q) → Ev 214 38 [.ref 69, .int (nI 0)] [] h1 Q) :
    ∀ (m f : Nat) (h : XH), f + m = tn (T 0 0) → Gx [107, 112] [58] h0 h → (∀ q, q < f → xI h 112 q = lawV T r q) → Ev 214 6 [.ref 69, .int (nI f)] [] h Q := by
  have l2 := M.l2
  have f8 := M.f8
  intro m
  induction m with
  | zero =>
    intro f h hm g hq
    have M' := M.gx g (by decide) (by decide)
    have e1 := M'.nf
    have e2 := M'.2.1
    refine B_214_6 M'.1 ?_
    try simp (disch := omega) only [lit, tn_nI, z_inb, nI_add, pk_mul, z_le, z_nle, z_lt, z_nlt, z_ne, z_m1, pk_sub, xI_ss, xI_sd, xI_n, eq_self, true_and, and_true, and_self, not_true_eq_false, not_false_eq_true, false_implies, true_implies, implies_true, Classical.not_not, forall_const, true_or, or_true, false_or, or_false, false_and, and_false, if_true, if_false, ite_true, ite_false, reduceIte, reduceCtorEq, e2, e1]
    exact kk h g (fun q hq' => hq q (by omega))
  | succ m ih =>
    intro f h hm g hq
    have M' := M.gx g (by decide) (by decide)
    have e1 := M'.nf
    have e2 := M'.2.1
    have hr' : rq (xI h 109) r := by rw [g.at (by decide) (by decide)]; exact hr
    have hv' : vOk (xI h 106) r := by rw [g.at (by decide) (by decide)]; exact hv
    refine B_214_6 M'.1 ?_
    try simp (disch := omega) only [lit, tn_nI, z_inb, nI_add, pk_mul, z_le, z_nle, z_lt, z_nlt, z_ne, z_m1, pk_sub, xI_ss, xI_sd, xI_n, eq_self, true_and, and_true, and_self, not_true_eq_false, not_false_eq_true, false_implies, true_implies, implies_true, Classical.not_not, forall_const, true_or, or_true, false_or, or_false, false_and, and_false, if_true, if_false, ite_true, ite_false, reduceIte, reduceCtorEq, e2, e1]
    refine c_goesTo M' (by omega) hr' hv' (fun h1 g1 => ⟨g1.sh M'.1 (by decide), ?_⟩)
    try simp (disch := omega) only [lit, tn_nI, z_inb, nI_add, pk_mul, z_le, z_nle, z_lt, z_nlt, z_ne, z_m1, pk_sub, xI_ss, xI_sd, xI_n, eq_self, true_and, and_true, and_self, not_true_eq_false, not_false_eq_true, false_implies, true_implies, implies_true, Classical.not_not, forall_const, true_or, or_true, false_or, or_false, false_and, and_false, if_true, if_false, ite_true, ite_false, reduceIte, reduceCtorEq]
    refine ih (f + 1) _ (by omega) ((g.trm g1 (by decide) (by decide) (by decide) (by decide)).set (by decide) (by decide)) (fun q hq' => ?_)
    by_cases e : q = f
    · subst e; exact xI_ss
    · rw [xI_sd e, g1.at (by decide) (by decide)]; exact hq q (by omega)
theorem l_dy2 (M : RM T l h0) (hv : ∀ q, q < tn (T 0 0) → xI h0 112 q = lawV T r q) (hro : rOk T r) (e61 : xI h0 69 61 = seed) :
    ∀ (m f : Nat) (s : Nat → Int32) (h : XH), f + m = tn (T 0 0) → Gx [109] [] h0 h → rq (xI h 109) s → rSh T s → (∀ h1, Gx [106, 107, 109, 110, 111] [58] h0 h1 → rq (xI h1 109) (setS T (up (sl T seed (lawV T r) m f s) 14 (sl T seed (lawV T r) m f s 14 + 1))) → Q .null h1) → Ev 214 38 [.ref 69, .int (nI f)] [] h Q := by
  have l2 := M.l2
  have f8 := M.f8
  intro m
  induction m with
  | zero =>
    intro f s h hm g hr hsh kk
    have M' := M.gx g (by decide) (by decide)
    have e1 := M'.nf
    have e2 := M'.2.1
    have e3 : xI h 109 15 = s 14 := (hr 15 (by decide)).trans rfl
    refine B_214_38 M'.1 ?_
    try simp (disch := omega) only [lit, tn_nI, z_inb, nI_add, pk_mul, z_le, z_nle, z_lt, z_nlt, z_ne, z_m1, pk_sub, xI_ss, xI_sd, xI_n, eq_self, true_and, and_true, and_self, not_true_eq_false, not_false_eq_true, false_implies, true_implies, implies_true, Classical.not_not, forall_const, true_or, or_true, false_or, or_false, false_and, and_false, if_true, if_false, ite_true, ite_false, reduceIte, reduceCtorEq, e2, e1, e3]
    have g1 : Gx [109] [] h0 (xsI h 109 15 (s 14 + nI 1)) := g.set (by decide) (by decide)
    have M1 := M.gx g1 (by decide) (by decide)
    refine c_settles (r := up s 14 (s 14 + nI 1)) M1 ?_ ?_ (fun h1 g2 hr2 => ⟨g2.sh M1.1 (by decide), kk h1 (g1.trm g2 (by decide) (by decide) (by decide) (by decide)) hr2⟩)
    · rw [xI_s]; exact rq_day hr
    · exact ⟨fun p hp => by rw [up_ne (by omega)]; exact hsh.1 p hp, fun p hp h => by rw [up_ne (by omega)]; exact hsh.2 p hp h⟩
  | succ m ih =>
    intro f s h hm g hr hsh kk
    have M' := M.gx g (by decide) (by decide)
    have e1 := M'.nf
    have e2 := M'.2.1
    have e4 : xI h 112 f = lawV T r f := by rw [g.at (by decide) (by decide)]; exact hv f (by omega)
    obtain ⟨mo, m1, m3, em⟩ := M.2.2.2.n.2.2 f (by omega)
    obtain ⟨c, hc, ec⟩ := lawV_n (r := r) em m3 (by
      obtain ⟨c, h1, h2⟩ := hro.2.1 f (by omega)
      rw [em, tn_nI (by omega)] at h1
      exact ⟨c, h1, h2⟩)
    have g1 : Gx [109] [] h0 (xsI h 109 f (nI c)) := g.set (by decide) (by decide)
    have M1 := M.gx g1 (by decide) (by decide)
    have hr1 : rq (xI (xsI h 109 f (nI c)) 109) (up s f (nI c)) := rq_s hr (by omega)
    have hd1 : xI (xsI h 109 f (nI c)) 109 15 = s 14 := (hr1 15 (by decide)).trans (up_ne (by omega))
    have e61' : xI (xsI h 109 f (nI c)) 69 61 = seed := (g1.f (by decide)).trans e61
    have e92 : xI (xsI h 109 f (nI c)) 92 l = T 0 2 := M1.2.2.1.2.1.2.2.2.1
    have e80 : xI (xsI h 109 f (nI c)) 80 (8 * l + f) = nI mo := by rw [← em]; exact (M1.2.2.1.2.2.1 f (by omega)).1
    have e18 := M1.2.1
    have hq := slv_r (seed := seed) (day := s 14) M.2.2.2.s em m3 hc
    unfold sl at kk
    rw [ec, hq] at kk
    have on : ∀ (h2 : XH) (v : Int32), Gx [109] [] h0 h2 → rq (xI h2 109) (up s f v) → (∀ h1, Gx [106, 107, 109, 110, 111] [58] h0 h1 → rq (xI h1 109) (setS T (up (sl T seed (lawV T r) m (f + 1) (up s f v)) 14 (sl T seed (lawV T r) m (f + 1) (up s f v) 14 + 1))) → Q .null h1) → Ev 214 38 [.ref 69, .int (nI (f + 1))] [] h2 Q := by
      intro h2 v g2 hr2 k2
      exact ih (f + 1) (up s f v) h2 (by omega) g2 hr2 ⟨fun p hp => by rw [up_ne (by omega)]; exact hsh.1 p hp, fun p hp h => by rw [up_ne (by omega)]; exact hsh.2 p hp h⟩ k2
    refine B_214_38 M'.1 ?_
    try simp (disch := omega) only [lit, tn_nI, z_inb, nI_add, pk_mul, z_le, z_nle, z_lt, z_nlt, z_ne, z_m1, pk_sub, xI_ss, xI_sd, xI_n, eq_self, true_and, and_true, and_self, not_true_eq_false, not_false_eq_true, false_implies, true_implies, implies_true, Classical.not_not, forall_const, true_or, or_true, false_or, or_false, false_and, and_false, if_true, if_false, ite_true, ite_false, reduceIte, reduceCtorEq, e2, e1, e4, ec]
    refine c_lotOf M1.1 e61' hd1 ⟨M1.1, ?_⟩
    generalize lotF seed (8 * s 14 + nI f) = z at kk ⊢
    try simp (disch := omega) only [lit, tn_nI, z_inb, nI_add, pk_mul, z_le, z_nle, z_lt, z_nlt, z_ne, z_m1, pk_sub, xI_ss, xI_sd, xI_n, eq_self, true_and, and_true, and_self, not_true_eq_false, not_false_eq_true, false_implies, true_implies, implies_true, Classical.not_not, forall_const, true_or, or_true, false_or, or_false, false_and, and_false, if_true, if_false, ite_true, ite_false, reduceIte, reduceCtorEq, e18, e92, e80]
    refine ⟨fun y => on _ (nI c) g1 hr1 (by rw [if_pos y] at kk; exact kk), fun y => ?_⟩
    rw [if_neg y, em] at kk
    refine ⟨fun x => on _ (nI c + 1) (g1.set (by decide) (by decide)) ?_ (by rw [if_pos x] at kk; exact kk), fun x => on _ 0 (g1.set (by decide) (by decide)) ?_ (by rw [if_neg (not_not_intro x)] at kk; exact kk)⟩
    · have := rq_s (v := nI c + 1) hr1 (j := f) (by omega)
      rw [up_up] at this
      rw [← nI_add]
      exact this
    · have := rq_s (v := 0) hr1 (j := f) (by omega)
      rw [up_up] at this
      exact this
theorem c_dayGoes {K : XH → Prop} (M : RM T l h0) (hr : rq (xI h0 109) r) (hro : rOk T r) (e61 : xI h0 69 61 = seed) (k : ∀ h1, Gx [106, 107, 109, 110, 111, 112] [58] h0 h1 → rq (xI h1 109) (dayS T seed r) → K h1) : ClV 214 [.ref 69] h0 K := by
  refine B_214_0 M.1 (c_setV M.1 hr (fun h1 g1 v1 => ⟨g1.sh M.1 (by decide), ?_⟩))
  have M1 := M.gx g1 (by decide) (by decide)
  have hr1 : rq (xI h1 109) r := by rw [g1.at (by decide) (by decide)]; exact hr
  refine l_dy1 M1 hr1 v1 (fun h2 g2 h12 => ?_) (tn (T 0 0)) 0 h1 (by omega) Gx.rf (fun q hq => absurd hq (by omega))
  have M2 := M1.gx g2 (by decide) (by decide)
  have hr2 : rq (xI h2 109) r := by rw [g2.at (by decide) (by decide)]; exact hr1
  have e2 : xI h2 69 61 = seed := (g2.f (by decide)).trans ((g1.f (by decide)).trans e61)
  exact l_dy2 M2 h12 hro e2 (tn (T 0 0)) 0 r h2 (by omega) Gx.rf hr2 hro.1 (fun h3 g3 hr3 => ⟨rfl, k h3 ((g1.trm (S := [106, 107, 112]) (F := [58]) g2 (by decide) (by decide) (by decide) (by decide)).trm g3 (by decide) (by decide) (by decide) (by decide)) hr3⟩)
end DY
