/-! THE CLASS: reach, its loops -/
theorem Fx.hxG {S S' : List Nat} {G : List (Nat × Nat)} {h h1 : XH} (f : Fx S' h h1) (s : Sh h) (n1 : 1 ∉ S') (hS : ∀ a ∈ S', a ∈ S ∨ ∃ q ∈ G, a = xR h q.1 q.2) : Hx S G h h1 := by
  refine ⟨f.sh s n1, fun a j _ _ => by rw [f.1], fun a ha hs hG => ⟨f.at (fun z => ?_), by rw [f.2.1]⟩, fun a _ => ⟨by rw [f.2.2.2.1], by rw [f.2.2.1]⟩, fun r => ?_, by rw [f.2.2.2.2.1]; exact Nat.le_refl _, fun q _ => Or.inl (by rw [f.1])⟩
  · rcases hS a z with y | ⟨q, hq, e⟩
    · exact hs y
    · exact hG q hq e
  · unfold RmOk
    rw [f.2.2.2.2.1, f.2.2.2.2.2.1, gl_c f.1 f.2.2.2.1]
    exact r
/-- growing row of another field stays -/
theorem Hx.g {S : List Nat} {G : List (Nat × Nat)} {h h1 : XH} (p : Hx S G h h1) (s : Sh h) (q : Nat × Nat × Nat × Nat) (hq : q ∈ shG) (hS : ∀ a ∈ S, a < 124 ∧ a ≠ q.2.2.2) (hG : ∀ x ∈ G, x ∈ GK ∧ x ≠ (q.1, q.2.1)) : xR h1 q.1 q.2.1 = xR h q.1 q.2.1 ∧ xI h1 (xR h q.1 q.2.1) = xI h (xR h q.1 q.2.1) ∧ xL h1 (xR h q.1 q.2.1) = xL h (xR h q.1 q.2.1) ∧ xN h1 (xR h q.1 q.2.1) = xN h (xR h q.1 q.2.1) := by
  have h7 := s.2.2.2.2.2.2.1
  have hlt := sh_lt.2.2.2 q hq
  obtain ⟨-, h8, hT⟩ := s.2.2.2.2.1 q hq
  have eR := p.2.1 q.1 q.2.1 (fun z => (hG _ z).2 rfl) (by omega)
  have eI := p.2.2.1 (xR h q.1 q.2.1) hT (fun z => by have := hS _ z; omega) (fun x hx e => by
    obtain ⟨y, hy, hye⟩ := List.mem_map.mp (hG x hx).1
    refine sg_ne s hq hy (fun z => (hG x hx).2 ?_) (by rw [← hye] at e; exact e)
    rw [← hye, ← z])
  exact ⟨eR, eI.1, eI.2, (p.2.2.2.1 _ hT).1⟩
section RE
variable {T : Nat → Nat → Int32} {c : Nat} {h0 h : XH} {Q : Value → XH → Prop}
theorem cv_D (t : tA T) (hs : T 0 8 = 1) {e e' : Nat} (cv : CV T e h) : CV T e' h := ⟨cv.1, cv.2.1, fun k st hk hst q => by rw [cv.2.2 k st hk hst q, nxt_D t hs (e' := e')]⟩
theorem rm_gl (rm : RmOk h) {q : Nat × Nat × Nat × Nat} (hq : q ∈ shG) : okL q (xN h (xR h q.1 q.2.1)) := rm.2.2 q hq
theorem c_forget {K : XH → Prop} (M : CM T c h) (rm : RmOk h) (hlen : xN h (xR h 58 11) = xN h (xR h 58 12)) (k : ∀ h1, Hx [] [(58, 11), (58, 12)] h h1 → (∀ e, CV T e h1) → K h1) : ClV 128 [.ref 58] h K := by
  have W2 : wN T ≤ 2000 := M.2.2.2.w.1
  have hfin : ∀ h2, Hx [] [(58, 11), (58, 12)] h h2 → xN h2 (xR h2 58 11) = 4099 → xN h2 (xR h2 58 12) = 4099 → ClV 23 [.ref (xR h2 58 11), .int (-1)] h2 (fun h3 => Sh h3 ∧ K h3) := by
    intro h2 p n11 n12
    have s2 := p.1
    have g11 := g_58 s2 (j := 11) (v := 67) (by decide)
    have nne : xR h2 58 11 ≠ xR h2 58 12 := sg_ne s2 (q := (58, 11, 1, 67)) (q' := (58, 12, 1, 68)) (by decide) (by decide) (by decide)
    refine c_fill s2 ⟨sgk_58_11 s2, n11, by omega⟩ (by decide) (by omega) (fun h3 f3 e3 => ?_)
    refine ⟨f3.sh s2 (by simp; omega), k h3 (p.tr (f3.hxG s2 (by simp; omega) (fun a ha => Or.inr ⟨(58, 11), by simp, by simpa using ha⟩))) (fun e => ?_)⟩
    unfold CV
    rw [f3.1, f3.2.2.2.1]
    refine ⟨n11, n12, fun j st hj hst q => ?_⟩
    rw [e3] at q
    unfold filI at q
    rw [if_pos hj] at q
    have h1 := hst.1
    have hneg : (-1 : Int32) < nI st := Int32.lt_of_lt_of_le (by decide) (nI_pos' (by omega))
    rw [← q] at hneg
    exact absurd hneg (by decide)
  have o11 : xN h (xR h 58 11) = 1 ∨ xN h (xR h 58 11) = 4099 := rm_gl rm (q := (58, 11, 1, 67)) (by decide)
  have el : Int32.ofNat (xN h (xR h 58 11)) = nI (xN h (xR h 58 11)) := rfl
  have l1 : (4099 : Int32) = nI 4099 := rfl
  refine B_128_0 M.1 ?_
  rw [el, l1]
  rcases o11 with o | o
  · rw [o]
    refine ⟨fun z => absurd z (nI_ge (by decide) (by decide)), fun _ => ⟨by decide, ?_⟩⟩
    rw [tn_nI (by decide)]
    have o12 : xN h (xR h 58 12) = 1 := hlen ▸ o
    have p1 := gr_hx (n := 4099) (q := (58, 11, 1, 67)) M.1 (by decide) (by show 2 * xN h (xR h 58 11) ≤ 4099; omega) (Or.inr rfl) (by decide)
    have e1 : xsR (xnew h 1 4099) 58 11 (xT h) = xgr h (58, 11, 1, 67) 4099 := rfl
    rw [e1]
    have s1 := p1.1
    have l11 : xN (xgr h (58, 11, 1, 67) 4099) (xR (xgr h (58, 11, 1, 67) 4099) 58 11) = 4099 := by
      have := gr_len (n := 4099) M.1 (q := (58, 11, 1, 67)) (by decide) (q' := (58, 11, 1, 67)) (by decide)
      rw [if_pos rfl] at this
      exact this
    have l12 : xN (xgr h (58, 11, 1, 67) 4099) (xR (xgr h (58, 11, 1, 67) 4099) 58 12) = 1 := by
      have := gr_len (n := 4099) M.1 (q := (58, 11, 1, 67)) (by decide) (q' := (58, 12, 1, 68)) (by decide)
      rw [if_neg (by decide)] at this
      exact this.trans o12
    generalize xgr h (58, 11, 1, 67) 4099 = h1 at p1 s1 l11 l12 ⊢
    refine B_128_20 s1 ⟨by decide, ?_⟩
    rw [l1, tn_nI (by decide)]
    have p2' := gr_hx (n := 4099) (q := (58, 12, 1, 68)) s1 (by decide) (by show 2 * xN h1 (xR h1 58 12) ≤ 4099; omega) (Or.inr rfl) (by decide)
    have e2 : xsR (xnew h1 1 4099) 58 12 (xT h1) = xgr h1 (58, 12, 1, 68) 4099 := rfl
    rw [e2]
    have m12 : xN (xgr h1 (58, 12, 1, 68) 4099) (xR (xgr h1 (58, 12, 1, 68) 4099) 58 12) = 4099 := by
      have := gr_len (n := 4099) s1 (q := (58, 12, 1, 68)) (by decide) (q' := (58, 12, 1, 68)) (by decide)
      rw [if_pos rfl] at this
      exact this
    have m11 : xN (xgr h1 (58, 12, 1, 68) 4099) (xR (xgr h1 (58, 12, 1, 68) 4099) 58 11) = 4099 := by
      have := gr_len (n := 4099) s1 (q := (58, 12, 1, 68)) (by decide) (q' := (58, 11, 1, 67)) (by decide)
      rw [if_neg (by decide)] at this
      exact this.trans l11
    refine B_128_29 p2'.1 ?_
    have pp : Hx [] [(58, 11), (58, 12)] h (xgr h1 (58, 12, 1, 68) 4099) := (p1.mono (by decide) (by decide) (fun q hq => gk_lt M.1 q (by revert q; decide))).tr (p2'.mono (by decide) (by decide) (fun q hq => gk_lt s1 q (by revert q; decide)))
    exact (hfin _ pp m11 m12).mono (fun h3 z => ⟨z.1, rfl, z.2⟩)
  · rw [o]
    refine ⟨fun _ => (hfin h (Hx.rf M.1) o (hlen ▸ o)).mono (fun h3 z => ⟨z.1, rfl, z.2⟩), fun z => absurd (nI_le (Nat.le_refl _) (by decide)) z⟩
/-- within day d, worlds up to w done -/
def PW (T : Nat → Nat → Int32) (h : XH) (d w : Nat) : Prop := (∀ v, v < w → xI h (xR h 58 8) v = nI (wNow T (bD T v d))) ∧ (∀ v, w ≤ v → v < wN T → 1 ≤ d → xI h (xR h 58 8) v = nI (wNow T (bD T v (d - 1)))) ∧ (∀ d' v, d' < d → v < wN T → xI h (xR h 58 9) (d' * wN T + v) = nI (bsh T v d')) ∧ (∀ v, v < w → xI h (xR h 58 9) (d * wN T + v) = nI (bsh T v d)) ∧ (1 ≤ d ∨ 1 ≤ w → I62 T (xI h 62)) ∧ (1 ≤ d → CV T (d - 1) h)
theorem l_rin {n d g8 g9 g11 g12 : Nat} (M : CM T c h0) (rm : RmOk h0) (e8 : xR h0 58 8 = g8) (e9 : xR h0 58 9 = g9) (e11 : xR h0 58 11 = g11) (e12 : xR h0 58 12 = g12) (hd : d ≤ 30) (hl8 : wN T ≤ xN h0 g8) (hl9 : 31 * wN T ≤ xN h0 g9)
    (kk : ∀ h1, Fx [g8, g9, g11, g12, 62, 34, 35, 36, 37, 38] h0 h1 → PW T h1 d (wN T) → Ev 127 59 [.ref 58, .int (nI n), .ref c, .int (nI (wN T)), .int (nI (d + 1)), .null, .null] [] (xsI h1 58 7 (nI d)) Q) :
    ∀ (k w : Nat) (h : XH), w + k = wN T → Fx [g8, g9, g11, g12, 62, 34, 35, 36, 37, 38] h0 h → PW T h d w → Ev 127 92 [.ref 58, .int (nI n), .ref c, .int (nI (wN T)), .int (nI d), .int (nI w), .null] [] h Q := by
  have W2 : wN T ≤ 2000 := M.2.2.2.w.1
  have t := M.2.2.2
  have s0 := M.1
  have b8 : xN h0 g8 ≤ 65536 := by rw [← e8]; exact p2_le (by have := rm_gl rm (q := (58, 8, 1, 64)) (by decide); unfold okL at this; simpa using this)
  have b9 : xN h0 g9 ≤ 65536 := by rw [← e9]; exact p2_le (by have := rm_gl rm (q := (58, 9, 1, 65)) (by decide); unfold okL at this; simpa using this)
  have q8 := g_58 s0 (j := 8) (v := 64) (by decide)
  have q9 := g_58 s0 (j := 9) (v := 65) (by decide)
  have q11 := g_58 s0 (j := 11) (v := 67) (by decide)
  have q12 := g_58 s0 (j := 12) (v := 68) (by decide)
  rw [e8] at q8
  rw [e9] at q9
  rw [e11] at q11
  rw [e12] at q12
  have n89 : g8 ≠ g9 := by rw [← e8, ← e9]; exact sg_ne s0 (q := (58, 8, 1, 64)) (q' := (58, 9, 1, 65)) (by decide) (by decide) (by decide)
  have n811 : g8 ≠ g11 := by rw [← e8, ← e11]; exact sg_ne s0 (q := (58, 8, 1, 64)) (q' := (58, 11, 1, 67)) (by decide) (by decide) (by decide)
  have n812 : g8 ≠ g12 := by rw [← e8, ← e12]; exact sg_ne s0 (q := (58, 8, 1, 64)) (q' := (58, 12, 1, 68)) (by decide) (by decide) (by decide)
  have n911 : g9 ≠ g11 := by rw [← e9, ← e11]; exact sg_ne s0 (q := (58, 9, 1, 65)) (q' := (58, 11, 1, 67)) (by decide) (by decide) (by decide)
  have n912 : g9 ≠ g12 := by rw [← e9, ← e12]; exact sg_ne s0 (q := (58, 9, 1, 65)) (q' := (58, 12, 1, 68)) (by decide) (by decide) (by decide)
  have hS : ∀ a ∈ [g8, g9, g11, g12, 62, 34, 35, 36, 37, 38], 34 ≤ a := by intro a ha; simp at ha; omega
  have ix : ∀ d w v, w < wN T → v < wN T → d * wN T + w = d * wN T + v → w = v := by intro d w v _ _ e; omega
  have ixd : ∀ d' w v, d' < d → w < wN T → v < wN T → d' * wN T + w ≠ d * wN T + v := by
    intro d' w v h1 h2 h3 e
    have : (d' + 1) * wN T ≤ d * wN T := Nat.mul_le_mul_right _ h1
    rw [Nat.add_mul, Nat.one_mul] at this
    omega
  have ib : ∀ d' v, d' ≤ 30 → v < wN T → d' * wN T + v < 31 * wN T := by
    intro d' v h1 h2
    have : (d' + 1) * wN T ≤ 31 * wN T := Nat.mul_le_mul_right _ (by omega)
    rw [Nat.add_mul, Nat.one_mul] at this
    omega
  intro k
  induction k with
  | zero =>
    intro w h hk f P
    have M' := M.fx f hS
    refine B_127_92 M'.1 M'.c2 ?_
    try simp (disch := omega) only [lit, tn_nI, z_inb, nI_add, pk_mul, z_le, z_nle, z_lt, z_nlt, z_ne, z_m1, pk_sub, xI_ss, xI_sd, xI_n, eq_self, true_and, and_true, and_self, not_true_eq_false, not_false_eq_true, false_implies, true_implies, implies_true, Classical.not_not, forall_const, true_or, or_true, false_or, or_false, false_and, and_false, if_true, if_false, ite_true, ite_false, reduceIte, reduceCtorEq]
    rw [show w = wN T by omega] at P
    exact kk h f P
  | succ k ih =>
    intro w h hk f P
    have hw : w < wN T := by omega
    have M' := M.fx f hS
    have r8 : xR h 58 8 = g8 := by rw [f.1]; exact e8
    have r9 : xR h 58 9 = g9 := by rw [f.1]; exact e9
    have r11 : xR h 58 11 = g11 := by rw [f.1]; exact e11
    have r12 : xR h 58 12 = g12 := by rw [f.1]; exact e12
    have hN : xN h = xN h0 := f.2.2.2.1
    obtain ⟨P1, P2, P3, P4, P5, P6⟩ := P
    rw [r8] at P1 P2
    rw [r9] at P3 P4
    -- the two writes at the end of a world
    have fin : ∀ (h2 : XH), Fx [g8, g9, g11, g12, 62, 34, 35, 36, 37, 38] h0 h2 → (∀ v, v ≠ w → xI h2 g8 v = xI h g8 v) → xI h2 g8 w = nI (wNow T (bD T w d)) → (∀ i, i ≠ d * wN T + w → xI h2 g9 i = xI h g9 i) → xI h2 g9 (d * wN T + w) = nI (bsh T w d) → I62 T (xI h2 62) → (1 ≤ d → CV T (d - 1) h2) → Ev 127 209 [.ref 58, .int (nI n), .ref c, .int (nI (wN T)), .int (nI d), .int (nI w), .null] [] h2 Q := by
      intro h2 f2 a1 a2 a3 a4 a5 a6
      have M2 := M.fx f2 hS
      have s8 : xR h2 58 8 = g8 := by rw [f2.1]; exact e8
      have s9 : xR h2 58 9 = g9 := by rw [f2.1]; exact e9
      refine B_127_209 M2.1 M2.c2 ?_
      rw [nI_1]
      refine ih (w + 1) h2 (by omega) f2 ?_
      unfold PW
      rw [s8, s9]
      refine ⟨fun v hv => ?_, fun v h1 h2 h3 => ?_, fun d' v h1 h2 => ?_, fun v hv => ?_, fun _ => a5, a6⟩
      · by_cases z : v = w
        · subst z; exact a2
        · rw [a1 v z]; exact P1 v (by omega)
      · rw [a1 v (by omega)]; exact P2 v (by omega) h2 h3
      · rw [a3 _ (ixd d' v w h1 h2 hw)]; exact P3 d' v h1 h2
      · by_cases z : v = w
        · subst z; exact a4
        · rw [a3 _ (by omega)]; exact P4 v (by omega)
    refine B_127_92 M'.1 M'.c2 ?_
    rw [r8, r9, hN, tn_nI (show w < 2 ^ 31 by omega)]
    refine ⟨fun z => absurd z (nI_ge (by omega) (by omega)), fun _ => ⟨fun z => ?_, fun z => ?_⟩⟩
    · have hd1 : 1 ≤ d := by
        rcases Nat.eq_zero_or_pos d with y | y
        · subst y; exact absurd rfl z
        · exact y
      have hb1 := ib (d - 1) w (by omega) hw
      have hb2 := ib d w hd hw
      have ea : (nI d - 1) * nI (wN T) + nI w = nI ((d - 1) * wN T + w) := by
        rw [show (1 : Int32) = nI 1 from rfl, pk_sub hd1, pk_mul, nI_add]
      have eb : nI d * nI (wN T) + nI w = nI (d * wN T + w) := by rw [pk_mul, nI_add]
      have ec : nI d - 1 = nI (d - 1) := pk_sub hd1
      have e8w := P2 w (Nat.le_refl _) hw hd1
      have e9w := P3 (d - 1) w (by omega) hw
      rw [ea, eb, ec, tn_nI (show (d - 1) * wN T + w < 2 ^ 31 by omega), tn_nI (show d * wN T + w < 2 ^ 31 by omega), e8w, e9w, show (15625 : Int32) = nI 15625 from rfl, pk_mul, nI_add]
      have est : wNow T (bD T w (d - 1)) * 15625 + bsh T w (d - 1) = stn T (bD T w (d - 1)) := rfl
      rw [est]
      obtain ⟨ok1, -, -⟩ := bD_ok t w (d - 1)
      refine ⟨inb (by omega) (by omega), inb (by omega) (by omega), c_dayFrom M' (by omega) (P5 (Or.inl hd1)) (P6 hd1) (stn_ok t ok1) (fun h1 f1 i62 cv1 => ?_)⟩
      rw [r11, r12] at f1
      have fA : Fx [g8, g9, g11, g12, 62, 34, 35, 36, 37, 38] h0 h1 := f.trm f1 (fun a ha => ha) (by simp)
      have M1 := M.fx fA hS
      have nb := nxt_b t w (d - 1)
      rw [Nat.sub_add_cancel hd1] at nb
      obtain ⟨okd, -, -⟩ := bD_ok t w d
      obtain ⟨sl1, sl2, sl3, sl4⟩ := stn_lt t okd
      have s8 : xR h1 58 8 = g8 := by rw [fA.1]; exact e8
      have s9 : xR h1 58 9 = g9 := by rw [fA.1]; exact e9
      have hN1 : xN h1 = xN h0 := fA.2.2.2.1
      have hsl : stn T (bD T w d) < 2 ^ 31 := by omega
      rw [nb, s8, s9, pk_rem (d := 15625) hsl (by decide) (by decide), pk_div hsl (by decide) (by decide), sl2, sl3]
      refine ⟨M1.1, by rw [hN1]; exact inb (by omega) (by omega), ?_, ?_⟩
      · rw [show xN (xsI h1 g8 w (nI (wNow T (bD T w d)))) = xN h0 from hN1]; exact inb (by omega) (by omega)
      · refine fin _ ((fA.set (by simp)).set (by simp)) (fun v hv => ?_) ?_ (fun i hi => ?_) ?_ ?_ (fun _ => ?_)
        · rw [xI_n n89, xI_sd hv, f1.at (by simp; omega)]
        · rw [xI_n n89, xI_ss]
        · rw [xI_sd hi, xI_n (Ne.symm n89), f1.at (by simp; omega)]
        · rw [xI_ss]; rfl
        · rw [xI_n (by omega), xI_n (by omega)]; exact i62
        · have c11 : xR h1 58 11 = g11 := by rw [fA.1]; exact e11
          have c12 : xR h1 58 12 = g12 := by rw [fA.1]; exact e12
          unfold CV at cv1 ⊢
          rw [c11, c12] at cv1
          rw [show xR (xsI (xsI h1 g8 w (nI (wNow T (bD T w d)))) g9 (d * wN T + w) (nI (num (rdg (bD T w d)) 6))) = xR h1 from rfl, c11, c12, xI_n (Ne.symm n911), xI_n (Ne.symm n912), xI_n (Ne.symm n811), xI_n (Ne.symm n812)]
          exact cv1
    · have hd0 : d = 0 := by
        have z := Classical.not_not.mp z
        exact (nI_eq (b := 0) (by omega) (by decide)).mp z
      subst hd0
      refine c_begin M'.1 (ar_62 M'.1) (by decide) (by rw [M'.2.2.1]; exact t.1) (by rw [M'.2.2.1]; exact t.2.2.1) (by rw [M'.2.2.1]; exact t.2.2.2.1) (fun h1 f1 e1 => ?_)
      rw [M'.2.2.1] at e1
      have eb : EqR (xI h1 62) (bR T w) := by
        rw [e1]
        refine (begR_S t.cv).tr ?_
        unfold begS bR
        rw [ptF_w t.n (by omega)]
        exact EqR.rf
      obtain ⟨okb, o14, o15⟩ := bR_ok t w
      have fA : Fx [g8, g9, g11, g12, 62, 34, 35, 36, 37, 38] h0 h1 := f.trm f1 (fun a ha => ha) (by simp)
      have M1 := M.fx fA hS
      have s8 : xR h1 58 8 = g8 := by rw [fA.1]; exact e8
      have s9 : xR h1 58 9 = g9 := by rw [fA.1]; exact e9
      have hN1 : xN h1 = xN h0 := fA.2.2.2.1
      rw [s8, s9, hN1]
      refine ⟨M1.1, inb (by omega) (by omega), ?_⟩
      have fB : Fx [g8, g9, g11, g12, 62, 34, 35, 36, 37, 38] h0 (xsI h1 g8 w (nI w)) := fA.set (by simp)
      have MB := M.fx fB hS
      have e62 : EqR (xI (xsI h1 g8 w (nI w)) 62) (bR T w) := by rw [xI_n (by omega)]; exact eb
      refine c_shC MB.1 (ar_62 MB.1) e62 okb.1 ⟨MB.1, by exact s9, ?_⟩
      have s9' : xR (xsI h1 g8 w (nI w)) 58 9 = g9 := s9
      rw [s9', show xN (xsI h1 g8 w (nI w)) = xN h0 from hN1]
      refine ⟨inb (by omega) (by omega), ?_⟩
      refine fin _ (fB.set (by simp)) (fun v hv => ?_) ?_ (fun i hi => ?_) ?_ ?_ (fun q => absurd q (by decide))
      · rw [xI_n n89, xI_sd hv, f1.at (by simp; omega)]
      · rw [xI_n n89, xI_ss]
        show nI w = nI (wNow T (bR T w))
        rw [wNow_b t hw]
      · rw [Nat.zero_mul, Nat.zero_add] at hi
        rw [xI_sd hi, xI_n (Ne.symm n89), f1.at (by simp; omega)]
      · rw [Nat.zero_mul, Nat.zero_add, xI_ss]; rfl
      · intro i hi
        rw [xI_n (by omega), e62 i (by omega)]
        rcases hi with hi | hi
        · exact okb.2.2 i hi.1 hi.2
        · subst hi; exact o15
end RE
