/-! A PAGE'S NEXT SHADE -/
theorem and1 (y : Int32) : y &&& 1 = 1 ↔ ¬ y &&& 1 = 0 := by
  obtain ⟨j, hj, e⟩ := pk_andE y (m := 1) 1 (by decide)
  have hj : j < 2 := hj
  rw [e]
  rcases (show j = 0 ∨ j = 1 by omega) with rfl | rfl
  · exact ⟨fun q => absurd q (by decide), fun q => absurd rfl q⟩
  · exact ⟨fun _ => by decide, fun _ => rfl⟩
theorem sm32 : ∀ c, c < 32 → ((nI c &&& 31).toBitVec.smod 32).toNat = c := by decide +kernel
theorem shr_0 {x : Int32} {c d : Nat} (hc : c < 32) (hd : d < 32) (hcd : c ≤ d) (h : x >>> (nI c &&& 31) = 0) : x >>> (nI d &&& 31) = 0 := by
  have h1 : (x >>> (nI c &&& 31)).toInt = x.toInt >>> c := pk_shr x _ c (sm32 c hc)
  have h2 : (x >>> (nI d &&& 31)).toInt = x.toInt >>> d := pk_shr x _ d (sm32 d hd)
  rw [h] at h1
  apply Int32.toInt_inj.mp
  rw [h2, show d = c + (d - c) by omega, Int.shiftRight_add, ← h1]
  simp
/-- of the first n claims: how many are true -/
def tc (T : Nat → Nat → Int32) (r : Nat → Int32) (p : Nat) : Nat → Int32
  | 0 => 0
  | c + 1 => if hl T r p c = true then tc T r p c + 1 else tc T r p c
/-- loose ones that are true, k of them from c on, added -/
def lr (T : Nat → Nat → Int32) (r : Nat → Int32) (p : Nat) : Nat → Nat → Int32 → Int32
  | 0, _, acc => acc
  | k + 1, c, acc => lr T r p k (c + 1) (if lo T p c = true ∧ hl T r p c = true then acc + 1 else acc)
theorem lr_0 {T : Nat → Nat → Int32} {r : Nat → Int32} {p : Nat} : ∀ (k c : Nat) (acc : Int32), (∀ d, c ≤ d → d < c + k → lo T p d = false) → lr T r p k c acc = acc := by
  intro k
  induction k with
  | zero => intro c acc _; rfl
  | succ k ih =>
    intro c acc h
    unfold lr
    rw [if_neg (fun q => by rw [h c (Nat.le_refl _) (by omega)] at q; exact absurd q.1 (by decide))]
    exact ih (c + 1) acc (fun d h1 h2 => h d (by omega) (by omega))
theorem l_an {h0 : XH} {row p : Nat} {Q : Value → XH → Prop} (hs0 : Sh h0) (r0 : Ar h0 row 20) (hrow : row ≠ 34 ∧ row ≠ 35) (ht : tOk (tx h0)) (hp : p < 6) :
    ∀ (k c : Nat) (acc : Int32) (h : XH), c + k = 6 → Fx [34, 35] h0 h → (∀ h1, Fx [34, 35] h0 h1 → Q (.int (shB (tx h0) p (lr (tx h0) (xI h0 row) p k c acc))) h1) → Ev 59 35 [.ref 34, .int (nI p), .ref row, .int acc, .int (tx h0 7 p), .int (nI c)] [] h Q := by
  have hnr : row ∉ [34, 35] := by simp [hrow.1, hrow.2]
  have done : ∀ (acc : Int32) (h : XH), Fx [34, 35] h0 h → (∀ h1, Fx [34, 35] h0 h1 → Q (.int (shB (tx h0) p acc)) h1) → ClI 60 [.ref 34, .int (nI p), .int acc] h (fun v h1 => Sh h1 ∧ Ar h1 row 20 ∧ Q (.int v) h1) := by
    intro acc h fx k
    refine c_shadeBy (fx.sh hs0 (by decide)) hp ?_
    rw [tx_fx hs0 fx (by decide)]
    exact ⟨fx.sh hs0 (by decide), fx.ar r0, k h fx⟩
  intro k
  induction k with
  | zero =>
    intro c acc h hn fx kk
    have hs := fx.sh hs0 (by decide)
    exact B_59_35 hs (fx.ar r0) ⟨fun _ => done acc h fx kk, fun _ => ⟨fun _ => done acc h fx kk, fun z => absurd (by rw [show c = 6 by omega]; decide) z⟩⟩
  | succ k ih =>
    intro c acc h hn fx kk
    have hs := fx.sh hs0 (by decide)
    have hT := tx_fx hs0 fx (by decide)
    refine B_59_35 hs (fx.ar r0) ⟨fun z0 => done acc h fx ?_, fun _ => ⟨fun z => absurd z (nI_ge (a := c) (b := 6) (by omega) (by decide)), fun _ => ⟨fun zl => ?_, fun zl => ?_⟩⟩⟩
    · rw [lr_0 (k + 1) c acc (fun d h1 h2 => ?_)] at kk
      · exact kk
      · unfold lo
        rw [shr_0 (by omega) (by omega) h1 z0]
        decide
    · rw [nI_1]
      have hlo : lo (tx h0) p c = false := decide_eq_false (fun q => zl ((and1 _).mpr q))
      refine ih (c + 1) acc h (by omega) fx ?_
      unfold lr at kk
      rw [if_neg (fun q => by rw [hlo] at q; exact absurd q.1 (by decide))] at kk
      exact kk
    · have hlo : lo (tx h0) p c = true := decide_eq_true ((and1 _).mp (Decidable.not_not.mp zl))
      rw [ix6, tn_nI (show p * 6 + c < 2 ^ 31 by omega), show xI h (xR h 34 0 + 8) (p * 6 + c) = tx h 8 (p * 6 + c) from rfl, hT]
      refine ⟨inb (by omega) (by decide), c_run hs (fx.ar r0) hrow (cd_T (by rw [hT]; exact ht.1)) (fun h1 f => ?_)⟩
      have fx1 : Fx [34, 35] h0 h1 := fx.tr f
      have hs1 := fx1.sh hs0 (by decide)
      rw [rnA_T, hT, fx.at hnr]
      unfold lr at kk
      have hno : hl (tx h0) (xI h0 row) p c = false → Ev 59 35 [.ref 34, .int (nI p), .ref row, .int acc, .int (tx h0 7 p), .int (nI c + 1)] [] h1 Q := by
        intro hh
        rw [nI_1]
        rw [if_neg (fun q => by rw [hh] at q; exact absurd q.2 (by decide))] at kk
        exact ih (c + 1) acc h1 (by omega) fx1 kk
      refine ⟨fun q => ⟨hs1, fx1.ar r0, fun _ => hno (by unfold hl; rw [q]), fun z => absurd rfl z⟩, fun v q e => ⟨hs1, fx1.ar r0, fun z => absurd z (by decide), fun _ => ⟨fun z => hno (by unfold hl; rw [q]; rw [e] at z; simp [z]), fun z => ?_⟩⟩⟩
      have hh : hl (tx h0) (xI h0 row) p c = true := by unfold hl; rw [q]; rw [e] at z; simp [z]
      rw [nI_1]
      rw [if_pos ⟨hlo, hh⟩] at kk
      exact ih (c + 1) (acc + 1) h1 (by omega) fx1 kk
/-- loose ones that are true, of the first n -/
def lt' (T : Nat → Nat → Int32) (r : Nat → Int32) (p : Nat) : Nat → Int32
  | 0 => 0
  | c + 1 => if lo T p c = true ∧ hl T r p c = true then lt' T r p c + 1 else lt' T r p c
theorem lr_lt {T : Nat → Nat → Int32} {r : Nat → Int32} {p : Nat} {a : Int32} : ∀ (k c : Nat), lr T r p k c (a + lt' T r p c) = a + lt' T r p (c + k) := by
  intro k
  induction k with
  | zero => intro c; rfl
  | succ k ih =>
    intro c
    have e : (if lo T p c = true ∧ hl T r p c = true then a + lt' T r p c + 1 else a + lt' T r p c) = a + lt' T r p (c + 1) := by
      show _ = a + (if lo T p c = true ∧ hl T r p c = true then lt' T r p c + 1 else lt' T r p c)
      by_cases q : lo T p c = true ∧ hl T r p c = true
      · rw [if_pos q, if_pos q, Int32.add_assoc]
      · rw [if_neg q, if_neg q]
    unfold lr
    rw [e, ih (c + 1), show c + 1 + k = c + (k + 1) by omega]
theorem lt_stop {T : Nat → Nat → Int32} {r : Nat → Int32} {p n : Nat} : ∀ k, (∀ c, n ≤ c → c < n + k → lo T p c = false) → lt' T r p (n + k) = lt' T r p n := by
  intro k
  induction k with
  | zero => intro _; rfl
  | succ k ih =>
    intro h
    show (if lo T p (n + k) = true ∧ hl T r p (n + k) = true then lt' T r p (n + k) + 1 else lt' T r p (n + k)) = _
    rw [if_neg (fun q => by rw [h (n + k) (by omega) (by omega)] at q; exact absurd q.1 (by decide))]
    exact ih (fun c h1 h2 => h c h1 (by omega))
theorem fm_lt {T : Nat → Nat → Int32} {r : Nat → Int32} {p : Nat} : ∀ n, fm T r p n + lt' T r p n = tc T r p n := by
  intro n
  induction n with
  | zero => rfl
  | succ c ih =>
    show (if lo T p c = false ∧ hl T r p c = true then fm T r p c + 1 else fm T r p c) + (if lo T p c = true ∧ hl T r p c = true then lt' T r p c + 1 else lt' T r p c) = (if hl T r p c = true then tc T r p c + 1 else tc T r p c)
    rw [← ih]
    cases h1 : lo T p c <;> cases h2 : hl T r p c <;> simp
    · rw [Int32.add_assoc, Int32.add_comm 1, Int32.add_assoc]
    · rw [Int32.add_assoc]
/-- claims that look at shades are among those that there are -/
def tLo (T : Nat → Nat → Int32) : Prop := ∀ p, p < 6 → ∀ c, c < 6 → tn (T 6 p) ≤ c → lo T p c = false
theorem lr_tc {T : Nat → Nat → Int32} {r : Nat → Int32} {p : Nat} (ht : tOk T) (hl' : tLo T) (hp : p < 6) : lr T r p 6 0 (fm T r p (tn (T 6 p))) = tc T r p (tn (T 6 p)) := by
  have h6 := (ht.2.2 p hp).2
  have e1 := lr_lt (T := T) (r := r) (p := p) (a := fm T r p (tn (T 6 p))) 6 0
  rw [show fm T r p (tn (T 6 p)) + lt' T r p 0 = fm T r p (tn (T 6 p)) from Int32.add_zero _] at e1
  rw [e1, ← fm_lt (tn (T 6 p)), Nat.zero_add]
  have e2 := lt_stop (T := T) (r := r) (p := p) (n := tn (T 6 p)) (6 - tn (T 6 p)) (fun c h1 h2 => hl' p hp c (by omega) h1)
  rw [show tn (T 6 p) + (6 - tn (T 6 p)) = 6 by omega] at e2
  rw [e2]
/-- a page's shade by a step -/
def shNx (T : Nat → Nat → Int32) (r : Nat → Int32) (p : Nat) : Int32 := if (r 15 >>> (nI p &&& 31)) &&& 1 = 1 then 0 else shB T p (tc T r p (tn (T 6 p)))
theorem c_shadeAnew {h : XH} {row p : Nat} {K : Int32 → XH → Prop} (hs : Sh h) (r : Ar h row 20) (hrow : row ≠ 34 ∧ row ≠ 35) (ht : tOk (tx h)) (hl' : tLo (tx h)) (hp : p < 6) (hf : xI h 38 p = fm (tx h) (xI h row) p (tn (tx h 6 p))) (k : ∀ h1, Fx [34, 35] h h1 → K (shNx (tx h) (xI h row) p) h1) : ClI 59 [.ref 34, .int (nI p), .ref row] h K := by
  refine B_59_0 hs r ?_
  rw [tn_nI (show p < 2 ^ 31 by omega), show tn (15 : Int32) = 15 from rfl, hf, show xI h (xR h 34 0 + 7) p = tx h 7 p from rfl]
  unfold shNx at k
  refine ⟨inb_l rfl, fun z => ⟨inb hp (by decide), inb hp (by decide), ?_⟩, fun z => ⟨_, rfl, ?_⟩⟩
  · refine l_an hs r hrow ht hp 6 0 _ h (by decide) Fx.rf (fun h1 f => ⟨_, rfl, ?_⟩)
    have k1 := k h1 f
    rw [if_neg z] at k1
    rw [lr_tc ht hl' hp]
    exact k1
  · have k1 := k h Fx.rf
    rw [if_pos (Decidable.not_not.mp z)] at k1
    exact k1
