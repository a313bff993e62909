/-! A DAY -/
def lawV (T : Nat → Nat → Int32) (r : Nat → Int32) (f : Nat) : Int32 := match rnT T r (T 4 f) with
  | none => r f
  | some v => if 0 < (if v < T 1 f then v else T 1 f) then (if v < T 1 f then v else T 1 f) else 0
def slv (T : Nat → Nat → Int32) (seed day v : Int32) (f : Nat) : Int32 := if T 0 2 ≤ 0 then v else if T 0 2 ≤ lotF seed (8 * day + nI f) then v else if T 1 f ≤ v then 0 else v + 1
def sl (T : Nat → Nat → Int32) (seed : Int32) (fr : Nat → Int32) : Nat → Nat → (Nat → Int32) → (Nat → Int32)
  | 0, _, r => r
  | k + 1, f, r => sl T seed fr k (f + 1) (up r f (slv T seed (r 14) (fr f) f))
theorem l_d1 {h0 : XH} {row : Nat} {seed : Int32} {Q : Value → XH → Prop} (hs0 : Sh h0) (r0 : Ar h0 row 20) (hrow : 39 ≤ row) (hc : cdT (tx h0)) (hf : fOk (tx h0)) (kk : ∀ h1, Fx [34, 35, 37] h0 h1 → (∀ f, f < tn (tx h0 0 0) → xI h1 37 f = lawV (tx h0) (xI h0 row) f) → Ev 79 94 [.ref 34, .ref row, .int seed, .int 0, .null] [] h1 Q) :
    ∀ (n f : Nat) (h : XH), f + n = tn (tx h0 0 0) → Fx [34, 35, 37] h0 h → (∀ q, q < f → xI h 37 q = lawV (tx h0) (xI h0 row) q) → Ev 79 2 [.ref 34, .ref row, .int seed, .int (nI f), .null] [] h Q := by
  have h8 := hf.2
  have hnr : row ∉ [34, 35, 37] := by simp; omega
  intro n
  induction n with
  | zero =>
    intro f h hn fx hq
    have hs := fx.sh hs0 (by decide)
    refine B_79_2 hs (fx.ar r0) ?_
    rw [show xI h (xR h 34 0) 0 = tx h 0 0 from rfl, tx_fx hs0 fx (by decide), hf.1]
    exact ⟨fun _ => kk h fx (fun q hq' => hq q (by omega)), fun z => absurd (nI_le (by omega) (by omega)) z⟩
  | succ n ih =>
    intro f h hn fx hq
    have hs := fx.sh hs0 (by decide)
    have hT := tx_fx hs0 fx (by decide)
    have hib8 : InB (nI f) 8 := inb (by omega) (by decide)
    have hib20 : InB (nI f) 20 := inb (by omega) (by decide)
    have put : ∀ (h1 : XH) (v : Int32), Fx [34, 35, 37] h0 h1 → xI h1 37 = xI h 37 → v = lawV (tx h0) (xI h0 row) f → Ev 79 2 [.ref 34, .ref row, .int seed, .int (nI f + 1), .null] [] (xsI h1 37 f v) Q := by
      intro h1 v fx1 e hv
      rw [nI_1]
      refine ih (f + 1) _ (by omega) (fx1.set (by decide)) (fun q hq' => ?_)
      rw [xI_s, e]
      by_cases eq : q = f
      · subst eq; rw [up_same, hv]
      · rw [up_ne eq]; exact hq q (by omega)
    have no : ∀ (h1 : XH), Fx [34, 35, 37] h0 h1 → xI h1 37 = xI h 37 → rnT (tx h0) (xI h0 row) (tx h0 4 f) = none → Ev 79 46 [.ref 34, .ref row, .int seed, .int (nI f), .null] [] h1 Q := by
      intro h1 fx1 e hno
      refine B_79_46 (fx1.sh hs0 (by decide)) (fx1.ar r0) ⟨fun _ => ⟨hib20, hib8, ?_⟩, fun z => absurd rfl z⟩
      rw [tn_nI (show f < 2 ^ 31 by omega), fx1.at hnr]
      exact put h1 _ fx1 e (by unfold lawV; rw [hno])
    refine B_79_2 hs (fx.ar r0) ?_
    rw [tn_nI (show f < 2 ^ 31 by omega), show xI h (xR h 34 0) 0 = tx h 0 0 from rfl, show xI h (xR h 34 0 + 4) f = tx h 4 f from rfl, hT, hf.1]
    refine ⟨fun z => absurd z (nI_ge (by omega) (by omega)), fun _ => ⟨hib8, fun z => no h fx rfl (by unfold rnT; rw [if_pos z]), fun z => ⟨hib8, c_run hs (fx.ar r0) ⟨by omega, by omega⟩ (cd_T (by rw [hT]; exact hc)) (fun h1 g => ?_)⟩⟩⟩
    have fx1 : Fx [34, 35, 37] h0 h1 := fx.tr (g.mono (by decide))
    have hs1 := fx1.sh hs0 (by decide)
    have e37 : xI h1 37 = xI h 37 := g.at (by decide)
    rw [rnA_T, hT, fx.at hnr]
    refine ⟨fun q => ⟨hs1, fx1.ar r0, fun _ => no h1 fx1 e37 q, fun y => absurd rfl y⟩, fun v q e => ⟨hs1, fx1.ar r0, fun y => absurd y (by decide), fun _ => ⟨fun y => absurd y (by decide), fun _ => ⟨hib8, hib8, fun h3 e3 => ?_⟩⟩⟩⟩
    rw [e3]
    refine put h1 _ fx1 e37 ?_
    rw [show xI h1 (xR h1 34 0 + 1) f = tx h1 1 f from rfl, tx_fx hs0 fx1 (by decide), e]
    unfold lawV
    rw [q]
