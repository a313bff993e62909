/-! A DAY -/
def lawV (T : Nat → Nat → Int32) (r : Nat → Int32) (f : Nat) : Int32 := match rnT T r (T 4 f) with
  | none => r f
  | some v => if 0 < (if v < T 1 f then v else T 1 f) then (if v < T 1 f then v else T 1 f) else 0
def slv (T : Nat → Nat → Int32) (seed day v : Int32) (f : Nat) : Int32 := if T 0 2 ≤ 0 then v else if T 0 2 ≤ lotF seed (8 * day + nI f) then v else if T 1 f ≤ v then 0 else v + 1
def sl (T : Nat → Nat → Int32) (seed : Int32) (fr : Nat → Int32) : Nat → Nat → (Nat → Int32) → (Nat → Int32)
  | 0, _, r => r
  | k + 1, f, r => sl T seed fr k (f + 1) (up r f (slv T seed (r 14) (fr f) f))
theorem l_d1 {h0 : XH} {row : Nat} {seed : Int32} {Q : Value → XH → Prop} (hs0 : Sh h0) (r0 : Ar h0 row 20) (hrow : 39 ≤ row) (hc : cdT (tx h0)) (hf : fOk (tx h0)) (kk : ∀ h1, Fx [34, 35, 37] h0 h1 → (∀ f, f < tn (tx h0 0 0) → xI h1 37 f = lawV (tx h0) (xI h0 row) f) → Ev 79 94 [.ref 34, .ref row, .int seed, .int 0, .null] [] h1 Q) :
    ∀ (n f : Nat) (h : XH), f + n = tn (tx h0 0 0) → Fx [34, 35, 37] h0 h → (∀ q, q < f → xI h 37 q = lawV (tx h0) (xI h0 row) q) → Ev 79 2 [.ref 34, .ref row, .int seed, .int (nI f), .null] [] h Q := by
  have h8 := hf.2
  have hnr : row ∉ [34, 35, 37] := by simp; omega
  intro n
  induction n with
  | zero =>
    intro f h hn fx hq
    have hs := fx.sh hs0 (by decide)
    refine B_79_2 hs (fx.ar r0) ?_
    rw [show xI h (xR h 34 0) 0 = tx h 0 0 from rfl, tx_fx hs0 fx (by decide), hf.1]
    exact ⟨fun _ => kk h fx (fun q hq' => hq q (by omega)), fun z => absurd (nI_le (by omega) (by omega)) z⟩
  | succ n ih =>
    intro f h hn fx hq
    have hs := fx.sh hs0 (by decide)
    have hT := tx_fx hs0 fx (by decide)
    have hib8 : InB (nI f) 8 := inb (by omega) (by decide)
    have hib20 : InB (nI f) 20 := inb (by omega) (by decide)
    have put : ∀ (h1 : XH) (v : Int32), Fx [34, 35, 37] h0 h1 → xI h1 37 = xI h 37 → v = lawV (tx h0) (xI h0 row) f → Ev 79 2 [.ref 34, .ref row, .int seed, .int (nI f + 1), .null] [] (xsI h1 37 f v) Q := by
      intro h1 v fx1 e hv
      rw [nI_1]
      refine ih (f + 1) _ (by omega) (fx1.set (by decide)) (fun q hq' => ?_)
      rw [xI_s, e]
      by_cases eq : q = f
      · subst eq; rw [up_same, hv]
      · rw [up_ne eq]; exact hq q (by omega)
    have no : ∀ (h1 : XH), Fx [34, 35, 37] h0 h1 → xI h1 37 = xI h 37 → rnT (tx h0) (xI h0 row) (tx h0 4 f) = none → Ev 79 46 [.ref 34, .ref row, .int seed, .int (nI f), .null] [] h1 Q := by
      intro h1 fx1 e hno
      refine B_79_46 (fx1.sh hs0 (by decide)) (fx1.ar r0) ⟨fun _ => ⟨hib20, hib8, ?_⟩, fun z => absurd rfl z⟩
      rw [tn_nI (show f < 2 ^ 31 by omega), fx1.at hnr]
      exact put h1 _ fx1 e (by unfold lawV; rw [hno])
    refine B_79_2 hs (fx.ar r0) ?_
    rw [tn_nI (show f < 2 ^ 31 by omega), show xI h (xR h 34 0) 0 = tx h 0 0 from rfl, show xI h (xR h 34 0 + 4) f = tx h 4 f from rfl, hT, hf.1]
    refine ⟨fun z => absurd z (nI_ge (by omega) (by omega)), fun _ => ⟨hib8, fun z => no h fx rfl (by unfold rnT; rw [if_pos z]), fun z => ⟨hib8, c_run hs (fx.ar r0) ⟨by omega, by omega⟩ (cd_T (by rw [hT]; exact hc)) (fun h1 g => ?_)⟩⟩⟩
    have fx1 : Fx [34, 35, 37] h0 h1 := fx.tr (g.mono (by decide))
    have hs1 := fx1.sh hs0 (by decide)
    have e37 : xI h1 37 = xI h 37 := g.at (by decide)
    rw [rnA_T, hT, fx.at hnr]
    refine ⟨fun q => ⟨hs1, fx1.ar r0, fun _ => no h1 fx1 e37 q, fun y => absurd rfl y⟩, fun v q e => ⟨hs1, fx1.ar r0, fun y => absurd y (by decide), fun _ => ⟨fun y => absurd y (by decide), fun _ => ⟨hib8, hib8, fun h3 e3 => ?_⟩⟩⟩⟩
    rw [e3]
    refine put h1 _ fx1 e37 ?_
    rw [show xI h1 (xR h1 34 0 + 1) f = tx h1 1 f from rfl, tx_fx hs0 fx1 (by decide), e]
    unfold lawV
    rw [q]
/-- the row a day on -/
def dayR (T : Nat → Nat → Int32) (seed : Int32) (b r : Nat → Int32) : Nat → Int32 := setR T b (up (sl T seed (lawV T r) (tn (T 0 0)) 0 r) 14 (sl T seed (lawV T r) (tn (T 0 0)) 0 r 14 + 1))
theorem l_d2 {h0 : XH} {row : Nat} {seed : Int32} {Q : Value → XH → Prop} {v : Nat → Int32} (hs0 : Sh h0) (r0 : Ar h0 row 20) (hrow : 39 ≤ row) (ht : tSet (tx h0)) (hf : fOk (tx h0)) :
    ∀ (n f : Nat) (r : Nat → Int32) (h : XH), f + n = tn (tx h0 0 0) → Fx [row, 34, 35, 37] h0 h → xI h row = r → (∀ q, q < tn (tx h0 0 0) → xI h 37 q = v q) → (∀ h1, Fx [row, 34, 35, 36, 37, 38] h0 h1 → xI h1 row = setR (tx h0) (xI h0 36) (up (sl (tx h0) seed v n f r) 14 (sl (tx h0) seed v n f r 14 + 1)) → Q .null h1) → Ev 79 94 [.ref 34, .ref row, .int seed, .int (nI f), .null] [] h Q := by
  have h8 := hf.2
  have hS : ∀ a ∈ [row, 34, 35, 37], 34 ≤ a := by simp; omega
  intro n
  induction n with
  | zero =>
    intro f r h hn fx hr h37 kk
    have hs := fx.sh hs0 (by simp; omega)
    have ra := fx.ar r0
    refine B_79_94 hs ra ?_
    rw [show xI h (xR h 34 0) 0 = tx h 0 0 from rfl, tx_fx hs0 fx hS, hf.1]
    refine ⟨fun _ => ⟨inb_l rfl, inb_l rfl, ?_⟩, fun z => absurd (nI_le (by omega) (by omega)) z⟩
    rw [show tn (14 : Int32) = 14 from rfl]
    have fx1 : Fx [row, 34, 35, 37] h0 (xsI h row 14 (xI h row 14 + 1)) := fx.set (by simp)
    have hs1 := fx1.sh hs0 (by simp; omega)
    have hT1 : tx (xsI h row 14 (xI h row 14 + 1)) = tx h0 := tx_fx hs0 fx1 hS
    refine c_settle hs1 (fx1.ar r0) hrow (by rw [hT1]; exact ht) (fun h1 g e => ⟨g.sh hs1 (by simp; omega), g.ar (fx1.ar r0), kk h1 ((fx1.mono (by simp)).tr (g.mono (by simp))) ?_⟩)
    have e36 : xI (xsI h row 14 (xI h row 14 + 1)) 36 = xI h0 36 := fx1.at (by simp; omega)
    rw [e, hT1, e36, xI_s, hr]
    rfl
  | succ n ih =>
    intro f r h hn fx hr h37 kk
    have hs := fx.sh hs0 (by simp; omega)
    have ra := fx.ar r0
    have hib8 : InB (nI f) 8 := inb (by omega) (by decide)
    have hib20 : InB (nI f) 20 := inb (by omega) (by decide)
    have fx1 : Fx [row, 34, 35, 37] h0 (xsI h row f (v f)) := fx.set (by simp)
    have hs1 := fx1.sh hs0 (by simp; omega)
    have hT1 : tx (xsI h row f (v f)) = tx h0 := tx_fx hs0 fx1 hS
    have ra1 := fx1.ar r0
    have e14 : up r f (v f) 14 = r 14 := up_ne (by omega)
    have on : ∀ (h1 : XH) (w : Int32), Fx [row, 34, 35, 37] h0 h1 → xI h1 row = up r f w → xI h1 37 = xI h 37 → w = slv (tx h0) seed (r 14) (v f) f → Ev 79 180 [.ref 34, .ref row, .int seed, .int (nI f), .null] [] h1 Q := by
      intro h1 w g e e37 hw
      refine B_79_180 (g.sh hs0 (by simp; omega)) (g.ar r0) ?_
      rw [nI_1]
      refine ih (f + 1) (up r f w) h1 (by omega) g e (fun q hq => by rw [e37]; exact h37 q hq) ?_
      rw [hw]
      exact kk
    refine B_79_94 hs ra ?_
    rw [tn_nI (show f < 2 ^ 31 by omega), h37 f (by omega), show xI h (xR h 34 0) 0 = tx h 0 0 from rfl, tx_fx hs0 fx hS, hf.1, show tn (14 : Int32) = 14 from rfl]
    rw [show xI (xsI h row f (v f)) (xR h 34 0) 2 = tx (xsI h row f (v f)) 0 2 from rfl, hT1, show xI (xsI h row f (v f)) row 14 = r 14 by rw [xI_s, hr, e14]]
    have er : xI (xsI h row f (v f)) row = up r f (v f) := by rw [xI_s, hr]
    have e37 : xI (xsI h row f (v f)) 37 = xI h 37 := xI_n (by omega)
    refine ⟨fun z => absurd z (nI_ge (by omega) (by omega)), fun _ => ⟨hib8, hib20, fun z => on _ (v f) fx1 er e37 (by unfold slv; rw [if_pos z]), fun z => ⟨inb_l rfl, c_lot hs1 ⟨hs1, ra1, ?_⟩⟩⟩⟩
    rw [show xI (xsI h row f (v f)) (xR (xsI h row f (v f)) 34 0) 2 = tx (xsI h row f (v f)) 0 2 from rfl, show xI (xsI h row f (v f)) (xR (xsI h row f (v f)) 34 0 + 1) f = tx (xsI h row f (v f)) 1 f from rfl, hT1, e37, h37 f (by omega)]
    refine ⟨fun y => on _ (v f) fx1 er e37 (by unfold slv; rw [if_neg z, if_pos y]), fun y => ⟨hib8, hib8, fun x => ⟨hib20, on _ 0 (fx1.set (by simp)) ?_ ?_ (by unfold slv; rw [if_neg z, if_neg y, if_pos x])⟩, fun x => ⟨hib8, hib20, on _ (v f + 1) (fx1.set (by simp)) ?_ ?_ (by unfold slv; rw [if_neg z, if_neg y, if_neg x])⟩⟩⟩
    · rw [xI_s, er, up_up]
    · rw [xI_n (by omega)]; exact e37
    · rw [xI_s, er, up_up]
    · rw [xI_n (by omega)]; exact e37
theorem c_oneDay {h : XH} {row : Nat} {seed : Int32} {K : XH → Prop} (hs : Sh h) (r : Ar h row 20) (hrow : 39 ≤ row) (ht : tSet (tx h)) (hf : fOk (tx h)) (k : ∀ h1, Fx [row, 34, 35, 36, 37, 38] h h1 → xI h1 row = dayR (tx h) seed (xI h 36) (xI h row) → K h1) : ClV 79 [.ref 34, .ref row, .int seed] h K := by
  refine B_79_0 hs r (l_d1 hs r hrow ht.1.1 hf (fun h1 g e => ?_) (tn (tx h 0 0)) 0 h (by omega) Fx.rf (fun q hq => absurd hq (by omega)))
  exact l_d2 (v := lawV (tx h) (xI h row)) hs r hrow ht hf (tn (tx h 0 0)) 0 (xI h row) h1 (by omega) (g.mono (by simp)) (g.at (by simp; omega)) e (fun h2 g2 e2 => ⟨rfl, k h2 g2 e2⟩)
