/-! A ROW FILLED; A BEGINNING; true claims of a page -/
def filI (v : Int32) (n : Nat) (r : Nat → Int32) : Nat → Int32 := fun i => if i < n then v else r i
theorem l_fl {h0 : XH} {a n : Nat} {v : Int32} {Q : Value → XH → Prop} (hs0 : Sh h0) (r0 : Ar h0 a n) (hn : n < 2 ^ 31) (ha : a ≠ 1) : ∀ (k i : Nat) (h : XH), i + k = n → Fx [a] h0 h → (∀ j, j < i → xI h a j = v) → (∀ j, i ≤ j → xI h a j = xI h0 a j) → (∀ h1, Fx [a] h0 h1 → xI h1 a = filI v n (xI h0 a) → Q .null h1) → Ev 23 5 [.ref a, .int v, .int (nI i), .int (nI n)] [] h Q := by
  intro k
  induction k with
  | zero =>
    intro i h hk fx h1 h2 kk
    refine B_23_5 (fx.sh hs0 (by simp; omega)) (fx.ar r0) ⟨fun _ => kk h fx ?_, fun z => absurd (nI_le (by omega) (by omega)) z⟩
    funext j
    unfold filI
    by_cases hj : j < n
    · rw [if_pos hj]; exact h1 j (by omega)
    · rw [if_neg hj]; exact h2 j (by omega)
  | succ k ih =>
    intro i h hk fx h1 h2 kk
    refine B_23_5 (fx.sh hs0 (by simp; omega)) (fx.ar r0) ⟨fun z => absurd z (nI_ge (by omega) (by omega)), fun _ => ⟨inb (by omega) hn, ?_⟩⟩
    rw [tn_nI (show i < 2 ^ 31 by omega), nI_1]
    refine ih (i + 1) _ (by omega) (fx.set (by simp)) (fun j hj => ?_) (fun j hj => ?_) kk
    · rw [xI_s]
      by_cases e : j = i
      · subst e; exact up_same
      · rw [up_ne e]; exact h1 j (by omega)
    · rw [xI_s, up_ne (by omega)]; exact h2 j (by omega)
theorem c_fill {h : XH} {a n : Nat} {v : Int32} {K : XH → Prop} (hs : Sh h) (r : Ar h a n) (hn : n < 2 ^ 31) (ha : a ≠ 1) (k : ∀ h1, Fx [a] h h1 → xI h1 a = filI v n (xI h a) → K h1) : ClV 23 [.ref a, .int v] h K :=
  B_23_0 hs r (l_fl hs r hn ha n 0 h (by omega) Fx.rf (fun j hj => absurd hj (by omega)) (fun j _ => rfl) (fun h1 f e => ⟨rfl, k h1 f e⟩))
/-- the row of a beginning in a world -/
def begR (T : Nat → Nat → Int32) (b : Nat → Int32) (w : Int32) (r : Nat → Int32) : Nat → Int32 := setR T b (ptF T (tn (T 0 0)) 0 w (filI 0 20 r))
theorem c_begin {h : XH} {row : Nat} {w : Int32} {K : XH → Prop} (hs : Sh h) (r : Ar h row 20) (hrow : 39 ≤ row) (ht : tSet (tx h)) (hf : fOk (tx h)) (hm : mOk (tx h)) (k : ∀ h1, Fx [row, 34, 35, 36, 38] h h1 → xI h1 row = begR (tx h) (xI h 36) w (xI h row) → K h1) : ClV 53 [.ref 34, .ref row, .int w] h K := by
  refine B_53_0 hs r (c_fill hs r (by decide) (by omega) (fun h1 f1 e1 => ?_))
  have hs1 := f1.sh hs (by simp; omega)
  have hS : ∀ a ∈ [row], 34 ≤ a := by simp; omega
  have hT1 : tx h1 = tx h := tx_fx hs f1 hS
  have hT1' : txS h1 (xR h1 34 0) = tx h := hT1
  refine ⟨hs1, f1.ar r, c_putFacts hs1 (ss_p hs1) (f1.ar r) ⟨by decide, by decide⟩ (by omega) (by rw [hT1']; exact hf) (by rw [hT1']; exact hm) (fun h2 f2 e2 => ?_)⟩
  have f12 := f1.tr f2
  have hs2 := f12.sh hs (by simp; omega)
  have hT2 : tx h2 = tx h := tx_fx hs f12 hS
  refine ⟨hs2, f12.ar r, c_settle hs2 (f12.ar r) hrow (by rw [hT2]; exact ht) (fun h3 f3 e3 => ⟨f3.sh hs2 (by simp; omega), f3.ar (f12.ar r), rfl, k h3 ((f12.mono (by simp)).tr f3) ?_⟩)⟩
  rw [e3, hT2, e2, hT1', e1, f12.at (by simp; omega)]
  rfl
theorem l_tc {h0 : XH} {row p : Nat} {Q : Value → XH → Prop} (hs0 : Sh h0) (r0 : Ar h0 row 20) (hrow : row ≠ 34 ∧ row ≠ 35) (ht : tOk (tx h0)) (hp : p < 6) (kk : ∀ h1, Fx [34, 35] h0 h1 → Q (.int (tc (tx h0) (xI h0 row) p (tn (tx h0 6 p)))) h1) :
    ∀ (n c : Nat) (h : XH), c + n = tn (tx h0 6 p) → Fx [34, 35] h0 h → Ev 73 5 [.ref 34, .int (nI p), .ref row, .int (tc (tx h0) (xI h0 row) p c), .int (nI c)] [] h Q := by
  have hnr : row ∉ [34, 35] := by simp [hrow.1, hrow.2]
  have h6 := ht.2.2 p hp
  intro n
  induction n with
  | zero =>
    intro c h hn fx
    have hs := fx.sh hs0 (by decide)
    refine B_73_5 hs (fx.ar r0) ?_
    rw [tn_nI (show p < 2 ^ 31 by omega), show xI h (xR h 34 0 + 6) p = tx h 6 p from rfl, tx_fx hs0 fx (by decide), h6.1]
    refine ⟨inb hp (by decide), fun _ => ?_, fun z => absurd (nI_le (by omega) (by omega)) z⟩
    have : c = tn (tx h0 6 p) := by omega
    rw [this]
    exact kk h fx
  | succ n ih =>
    intro c h hn fx
    have hs := fx.sh hs0 (by decide)
    have hT := tx_fx hs0 fx (by decide)
    refine B_73_5 hs (fx.ar r0) ?_
    rw [tn_nI (show p < 2 ^ 31 by omega), show xI h (xR h 34 0 + 6) p = tx h 6 p from rfl, hT, h6.1]
    refine ⟨inb hp (by decide), fun z => absurd z (nI_ge (by omega) (by omega)), fun _ => c_holds hs (fx.ar r0) hrow (by rw [hT]; exact ht.1) hp (by omega) (fun h1 f => ⟨f.sh hs (by decide), f.ar (fx.ar r0), fun z => ?_, fun z => ?_⟩)⟩
    · rw [hT, fx.at hnr] at z
      have hh : ¬ hl (tx h0) (xI h0 row) p c = true := fun q => by rw [if_pos q] at z; exact absurd z (by decide)
      have e : tc (tx h0) (xI h0 row) p c = tc (tx h0) (xI h0 row) p (c + 1) := by show _ = (if hl (tx h0) (xI h0 row) p c = true then tc (tx h0) (xI h0 row) p c + 1 else tc (tx h0) (xI h0 row) p c); rw [if_neg hh]
      rw [nI_1, e]
      exact ih (c + 1) h1 (by omega) (fx.tr f)
    · rw [hT, fx.at hnr] at z
      have hh : hl (tx h0) (xI h0 row) p c = true := by
        cases q : hl (tx h0) (xI h0 row) p c with
        | true => rfl
        | false => rw [q] at z; exact absurd rfl z
      have e : tc (tx h0) (xI h0 row) p c + 1 = tc (tx h0) (xI h0 row) p (c + 1) := by show _ = (if hl (tx h0) (xI h0 row) p c = true then tc (tx h0) (xI h0 row) p c + 1 else tc (tx h0) (xI h0 row) p c); rw [if_pos hh]
      rw [nI_1, e]
      exact ih (c + 1) h1 (by omega) (fx.tr f)
theorem c_trueClaims {h : XH} {row p : Nat} {K : Int32 → XH → Prop} (hs : Sh h) (r : Ar h row 20) (hrow : row ≠ 34 ∧ row ≠ 35) (ht : tOk (tx h)) (hp : p < 6) (k : ∀ h1, Fx [34, 35] h h1 → K (tc (tx h) (xI h row) p (tn (tx h 6 p))) h1) : ClI 73 [.ref 34, .int (nI p), .ref row] h K :=
  B_73_0 hs r (l_tc hs r hrow ht hp (fun h1 f => ⟨_, rfl, k h1 f⟩) (tn (tx h 6 p)) 0 h (by omega) Fx.rf)
