/-! A PAGE'S NEXT SHADE -/
theorem and1 (y : Int32) : y &&& 1 = 1 ↔ ¬ y &&& 1 = 0 := by
  obtain ⟨j, hj, e⟩ := pk_andE y (m := 1) 1 (by decide)
  have hj : j < 2 := hj
  rw [e]
  rcases (show j = 0 ∨ j = 1 by omega) with rfl | rfl
  · exact ⟨fun q => absurd q (by decide), fun q => absurd rfl q⟩
  · exact ⟨fun _ => by decide, fun _ => rfl⟩
theorem sm32 : ∀ c, c < 32 → ((nI c &&& 31).toBitVec.smod 32).toNat = c := by decide +kernel
theorem shr_0 {x : Int32} {c d : Nat} (hc : c < 32) (hd : d < 32) (hcd : c ≤ d) (h : x >>> (nI c &&& 31) = 0) : x >>> (nI d &&& 31) = 0 := by
  have h1 : (x >>> (nI c &&& 31)).toInt = x.toInt >>> c := pk_shr x _ c (sm32 c hc)
  have h2 : (x >>> (nI d &&& 31)).toInt = x.toInt >>> d := pk_shr x _ d (sm32 d hd)
  rw [h] at h1
  apply Int32.toInt_inj.mp
  rw [h2, show d = c + (d - c) by omega, Int.shiftRight_add, ← h1]
  simp
/-- of the first n claims: how many are true -/
def tc (T : Nat → Nat → Int32) (r : Nat → Int32) (p : Nat) : Nat → Int32
  | 0 => 0
  | c + 1 => if hl T r p c = true then tc T r p c + 1 else tc T r p c
/-- loose ones that are true, k of them from c on, added -/
def lr (T : Nat → Nat → Int32) (r : Nat → Int32) (p : Nat) : Nat → Nat → Int32 → Int32
  | 0, _, acc => acc
  | k + 1, c, acc => lr T r p k (c + 1) (if lo T p c = true ∧ hl T r p c = true then acc + 1 else acc)
theorem lr_0 {T : Nat → Nat → Int32} {r : Nat → Int32} {p : Nat} : ∀ (k c : Nat) (acc : Int32), (∀ d, c ≤ d → d < c + k → lo T p d = false) → lr T r p k c acc = acc := by
  intro k
  induction k with
  | zero => intro c acc _; rfl
  | succ k ih =>
    intro c acc h
    unfold lr
    rw [if_neg (fun q => by rw [h c (Nat.le_refl _) (by omega)] at q; exact absurd q.1 (by decide))]
    exact ih (c + 1) acc (fun d h1 h2 => h d (by omega) (by omega))
theorem l_an {h0 : XH} {row p : Nat} {Q : Value → XH → Prop} (hs0 : Sh h0) (r0 : Ar h0 row 20) (hrow : row ≠ 34 ∧ row ≠ 35) (ht : tOk (tx h0)) (hp : p < 6) :
    ∀ (k c : Nat) (acc : Int32) (h : XH), c + k = 6 → Fx [34, 35] h0 h → (∀ h1, Fx [34, 35] h0 h1 → Q (.int (shB (tx h0) p (lr (tx h0) (xI h0 row) p k c acc))) h1) → Ev 59 35 [.ref 34, .int (nI p), .ref row, .int acc, .int (tx h0 7 p), .int (nI c)] [] h Q := by
  have hnr : row ∉ [34, 35] := by simp [hrow.1, hrow.2]
  have done : ∀ (acc : Int32) (h : XH), Fx [34, 35] h0 h → (∀ h1, Fx [34, 35] h0 h1 → Q (.int (shB (tx h0) p acc)) h1) → ClI 60 [.ref 34, .int (nI p), .int acc] h (fun v h1 => Sh h1 ∧ Ar h1 row 20 ∧ Q (.int v) h1) := by
    intro acc h fx k
    refine c_shadeBy (fx.sh hs0 (by decide)) hp ?_
    rw [tx_fx hs0 fx (by decide)]
    exact ⟨fx.sh hs0 (by decide), fx.ar r0, k h fx⟩
  intro k
  induction k with
  | zero =>
    intro c acc h hn fx kk
    have hs := fx.sh hs0 (by decide)
    exact B_59_35 hs (fx.ar r0) ⟨fun _ => done acc h fx kk, fun _ => ⟨fun _ => done acc h fx kk, fun z => absurd (by rw [show c = 6 by omega]; decide) z⟩⟩
  | succ k ih =>
    intro c acc h hn fx kk
    have hs := fx.sh hs0 (by decide)
    have hT := tx_fx hs0 fx (by decide)
    refine B_59_35 hs (fx.ar r0) ⟨fun z0 => done acc h fx ?_, fun _ => ⟨fun z => absurd z (nI_ge (a := c) (b := 6) (by omega) (by decide)), fun _ => ⟨fun zl => ?_, fun zl => ?_⟩⟩⟩
    · rw [lr_0 (k + 1) c acc (fun d h1 h2 => ?_)] at kk
      · exact kk
      · unfold lo
        rw [shr_0 (by omega) (by omega) h1 z0]
        decide
    · rw [nI_1]
      have hlo : lo (tx h0) p c = false := decide_eq_false (fun q => zl ((and1 _).mpr q))
      refine ih (c + 1) acc h (by omega) fx ?_
      unfold lr at kk
      rw [if_neg (fun q => by rw [hlo] at q; exact absurd q.1 (by decide))] at kk
      exact kk
    · have hlo : lo (tx h0) p c = true := decide_eq_true ((and1 _).mp (Decidable.not_not.mp zl))
      rw [ix6, tn_nI (show p * 6 + c < 2 ^ 31 by omega), show xI h (xR h 34 0 + 8) (p * 6 + c) = tx h 8 (p * 6 + c) from rfl, hT]
      refine ⟨inb (by omega) (by decide), c_run hs (fx.ar r0) hrow (cd_T (by rw [hT]; exact ht.1)) (fun h1 f => ?_)⟩
      have fx1 : Fx [34, 35] h0 h1 := fx.tr f
      have hs1 := fx1.sh hs0 (by decide)
      rw [rnA_T, hT, fx.at hnr]
      unfold lr at kk
      have hno : hl (tx h0) (xI h0 row) p c = false → Ev 59 35 [.ref 34, .int (nI p), .ref row, .int acc, .int (tx h0 7 p), .int (nI c + 1)] [] h1 Q := by
        intro hh
        rw [nI_1]
        rw [if_neg (fun q => by rw [hh] at q; exact absurd q.2 (by decide))] at kk
        exact ih (c + 1) acc h1 (by omega) fx1 kk
      refine ⟨fun q => ⟨hs1, fx1.ar r0, fun _ => hno (by unfold hl; rw [q]), fun z => absurd rfl z⟩, fun v q e => ⟨hs1, fx1.ar r0, fun z => absurd z (by decide), fun _ => ⟨fun z => hno (by unfold hl; rw [q]; rw [e] at z; simp [z]), fun z => ?_⟩⟩⟩
      have hh : hl (tx h0) (xI h0 row) p c = true := by unfold hl; rw [q]; rw [e] at z; simp [z]
      rw [nI_1]
      rw [if_pos ⟨hlo, hh⟩] at kk
      exact ih (c + 1) (acc + 1) h1 (by omega) fx1 kk
