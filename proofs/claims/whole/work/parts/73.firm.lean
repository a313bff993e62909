/-! FIRM CLAIMS, and a page's next shade -/
theorem up_up {α : Type} {f : Nat → α} {k : Nat} {v w : α} : up (up f k v) k w = up f k w := by
  funext x
  unfold up
  by_cases h : x = k
  · rw [if_pos h, if_pos h]
  · rw [if_neg h, if_neg h, if_neg h]
/-- numbers of a text that was read -/
def tOk (T : Nat → Nat → Int32) : Prop := cdT T ∧ (T 0 1 = nI (tn (T 0 1)) ∧ tn (T 0 1) ≤ 6) ∧ ∀ p, p < 6 → T 6 p = nI (tn (T 6 p)) ∧ tn (T 6 p) ≤ 6
/-- claim c of page p looks at shades -/
def lo (T : Nat → Nat → Int32) (p c : Nat) : Bool := decide (¬ (T 7 p >>> (nI c &&& 31)) &&& 1 = 0)
/-- of the first n claims of a page: how many are true and don't look at shades -/
def fm (T : Nat → Nat → Int32) (r : Nat → Int32) (p : Nat) : Nat → Int32
  | 0 => 0
  | c + 1 => if lo T p c = false ∧ hl T r p c = true then fm T r p c + 1 else fm T r p c
theorem fm_s {T : Nat → Nat → Int32} {r : Nat → Int32} {p c : Nat} : fm T r p (c + 1) = if lo T p c = false ∧ hl T r p c = true then fm T r p c + 1 else fm T r p c := rfl
theorem l_ff1 {h0 : XH} {row p : Nat} {Q : Value → XH → Prop} {A : Nat → Int32} (hs0 : Sh h0) (hrow : row ≠ 34 ∧ row ≠ 35 ∧ row ≠ 38) (ht : tOk (tx h0)) (hp : p < 6) (kk : ∀ h1, Fx [34, 35, 38] h0 h1 → xI h1 38 = up A p (fm (tx h0) (xI h0 row) p (tn (tx h0 6 p))) → Ev 56 2 [.ref 34, .ref row, .int (nI (p + 1)), .null, .null] [] h1 Q) :
    ∀ (n c : Nat) (h : XH), c + n = tn (tx h0 6 p) → Ar h row 20 → Fx [34, 35, 38] h0 h → xI h 38 = up A p (fm (tx h0) (xI h0 row) p c) → Ev 56 22 [.ref 34, .ref row, .int (nI p), .int (nI c), .null] [] h Q := by
  have hnr : row ∉ [34, 35, 38] := by simp [hrow.1, hrow.2.1, hrow.2.2]
  have h6 := ht.2.2 p hp
  intro n
  induction n with
  | zero =>
    intro c h hn ra fx h38
    have hs := fx.sh hs0 (by decide)
    refine B_56_22 hs ra ?_
    rw [tn_nI (show p < 2 ^ 31 by omega), show xI h (xR h 34 0 + 6) p = tx h 6 p from rfl, tx_fx hs0 fx (by decide), h6.1]
    refine ⟨inb hp (by decide), fun _ => ?_, fun z => absurd (nI_le (by omega) (by omega)) z⟩
    rw [nI_1]
    have : c = tn (tx h0 6 p) := by omega
    exact kk h fx (by rw [h38, this])
  | succ n ih =>
    intro c h hn ra fx h38
    have hs := fx.sh hs0 (by decide)
    have hc6 : c < 6 := by omega
    have hT := tx_fx hs0 fx (by decide)
    refine B_56_22 hs ra ?_
    rw [tn_nI (show p < 2 ^ 31 by omega), show xI h (xR h 34 0 + 6) p = tx h 6 p from rfl, show xI h (xR h 34 0 + 7) p = tx h 7 p from rfl, hT, h6.1]
    refine ⟨inb hp (by decide), fun z => absurd z (nI_ge (by omega) (by omega)), fun _ => ⟨inb hp (by decide), fun zl => ⟨fun _ => ?_, fun y => absurd rfl y⟩, fun zl => ⟨fun y => absurd y (by decide), fun _ => ?_⟩⟩⟩
    · rw [nI_1]
      refine ih (c + 1) h (by omega) ra fx ?_
      rw [h38]
      rw [fm_s, if_neg (fun q => by unfold lo at q; rw [decide_eq_true zl] at q; exact absurd q.1 (by decide))]
    · have hlo : lo (tx h0) p c = false := decide_eq_false zl
      rw [ix6, tn_nI (show p * 6 + c < 2 ^ 31 by omega), show xI h (xR h 34 0 + 8) (p * 6 + c) = tx h 8 (p * 6 + c) from rfl, hT]
      refine ⟨inb (by omega) (by decide), c_run hs ra ⟨hrow.1, hrow.2.1⟩ (cd_T (by rw [hT]; exact ht.1)) (fun h1 f => ?_)⟩
      have fx1 : Fx [34, 35, 38] h0 h1 := fx.tr (f.mono (by decide))
      have hs1 := fx1.sh hs0 (by decide)
      have ra1 := f.ar ra
      have h381 : xI h1 38 = up A p (fm (tx h0) (xI h0 row) p c) := (f.at (by decide)).trans h38
      rw [rnA_T, hT, fx.at hnr]
      have hno : hl (tx h0) (xI h0 row) p c = false → Ev 56 22 [.ref 34, .ref row, .int (nI p), .int (nI c + 1), .null] [] h1 Q := by
        intro hh
        rw [nI_1]
        refine ih (c + 1) h1 (by omega) ra1 fx1 ?_
        rw [h381]
        rw [fm_s, if_neg (fun q => by rw [hh] at q; exact absurd q.2 (by decide))]
      refine ⟨fun q => ⟨hs1, ra1, fun _ => hno (by unfold hl; rw [q]), fun z => absurd rfl z⟩, fun v q e => ⟨hs1, ra1, fun z => absurd z (by decide), fun _ => ⟨fun z => hno (by unfold hl; rw [q]; rw [e] at z; simp [z]), fun z => ⟨inb hp (by decide), inb hp (by decide), ?_⟩⟩⟩⟩
      rw [nI_1]
      refine ih (c + 1) _ (by omega) (f.ar ra) (fx1.set (by decide)) ?_
      rw [xI_s, h381, up_same, up_up]
      have hh : hl (tx h0) (xI h0 row) p c = true := by unfold hl; rw [q]; rw [e] at z; simp [z]
      rw [fm_s, if_pos ⟨hlo, hh⟩]
theorem l_ff2 {h0 : XH} {row : Nat} {Q : Value → XH → Prop} (hs0 : Sh h0) (r0 : Ar h0 row 20) (hrow : row ≠ 34 ∧ row ≠ 35 ∧ row ≠ 38) (ht : tOk (tx h0)) (kk : ∀ h1, Fx [34, 35, 38] h0 h1 → (∀ p, p < tn (tx h0 0 1) → xI h1 38 p = fm (tx h0) (xI h0 row) p (tn (tx h0 6 p))) → Q .null h1) :
    ∀ (n p : Nat) (h : XH), p + n = tn (tx h0 0 1) → Fx [34, 35, 38] h0 h → (∀ q, q < p → xI h 38 q = fm (tx h0) (xI h0 row) q (tn (tx h0 6 q))) → Ev 56 2 [.ref 34, .ref row, .int (nI p), .null, .null] [] h Q := by
  have h1 := ht.2.1
  intro n
  induction n with
  | zero =>
    intro p h hn fx hq
    have hs := fx.sh hs0 (by decide)
    refine B_56_2 hs (fx.ar r0) ?_
    rw [show xI h (xR h 34 0) 1 = tx h 0 1 from rfl, tx_fx hs0 fx (by decide), h1.1]
    exact ⟨fun _ => kk h fx (fun q hq' => hq q (by omega)), fun z => absurd (nI_le (by omega) (by omega)) z⟩
  | succ n ih =>
    intro p h hn fx hq
    have hs := fx.sh hs0 (by decide)
    refine B_56_2 hs (fx.ar r0) ?_
    rw [show xI h (xR h 34 0) 1 = tx h 0 1 from rfl, tx_fx hs0 fx (by decide), h1.1]
    refine ⟨fun z => absurd z (nI_ge (by omega) (by omega)), fun _ => ⟨inb (by omega) (by decide), ?_⟩⟩
    rw [tn_nI (show p < 2 ^ 31 by omega)]
    refine l_ff1 (A := xI h 38) hs0 hrow ht (by omega) (fun h2 fx2 h38 => ih (p + 1) h2 (by omega) fx2 (fun q hq' => ?_)) (tn (tx h0 6 p)) 0 _ (by omega) ((fx.set (by decide)).ar r0) (fx.set (by decide)) xI_s
    rw [h38]
    by_cases e : q = p
    · subst e; exact up_same
    · rw [up_ne e]; exact hq q (by omega)
theorem c_findFirm {h : XH} {row : Nat} {K : XH → Prop} (hs : Sh h) (r : Ar h row 20) (hrow : row ≠ 34 ∧ row ≠ 35 ∧ row ≠ 38) (ht : tOk (tx h)) (k : ∀ h1, Fx [34, 35, 38] h h1 → (∀ p, p < tn (tx h 0 1) → xI h1 38 p = fm (tx h) (xI h row) p (tn (tx h 6 p))) → K h1) : ClV 56 [.ref 34, .ref row] h K :=
  B_56_0 hs r (l_ff2 hs r hrow ht (fun h1 f q => ⟨rfl, k h1 f q⟩) (tn (tx h 0 1)) 0 h (by omega) Fx.rf (fun q hq => absurd hq (by omega)))
