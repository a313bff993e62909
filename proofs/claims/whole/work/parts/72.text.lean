/-! THE TEXT IN USE, as the class holds it: row 0 its numbers (0 facts, 1 pages, 2 slips, 3 seed, 4 mine, 5 yours, 6 worlds, 7 codes, 8 steady), 1 most, 2 told, 3 counts, 4 law, 5 shading, 6 claims, 7 loose, 8 claim, 9 codes -/
def tx (h : XH) : Nat → Nat → Int32 := fun k => if k ≤ 9 then xI h (xR h 34 0 + k) else fun _ => 0
theorem tx_fx {S : List Nat} {h h1 : XH} (hs : Sh h) (f : Fx S h h1) (hS : ∀ a ∈ S, 34 ≤ a) : tx h1 = tx h := by
  funext k
  unfold tx
  rw [f.1]
  by_cases hk : k ≤ 9
  · rw [if_pos hk, if_pos hk, f.at (fun q => by have := hS _ q; rcases ss_p hs with e | e <;> omega)]
  · rw [if_neg hk, if_neg hk]
def rnT (T : Nat → Nat → Int32) (row : Nat → Int32) (x : Int32) : Option Int32 := if x < 0 then none else rn (T 9) (tn (T 0 7)) row (tn (T 0 7) + 1) (tn x) []
def cdT (T : Nat → Nat → Int32) : Prop := cdW (T 9) (tn (T 0 7)) ∧ ¬ T 0 7 < 0
theorem rnA_T {h : XH} {row : Nat → Int32} {x : Int32} : rnA h row x = rnT (tx h) row x := rfl
theorem cd_T {h : XH} (c : cdT (tx h)) : cdOk h := c
/-- whether claim c of page p is true -/
def hl (T : Nat → Nat → Int32) (r : Nat → Int32) (p c : Nat) : Bool := match rnT T r (T 8 (p * 6 + c)) with
  | some v => decide (¬ v = 0)
  | none => false
/-- whether it has sense -/
def hlS (T : Nat → Nat → Int32) (r : Nat → Int32) (p c : Nat) : Bool := (rnT T r (T 8 (p * 6 + c))).isSome
theorem ix6 {p c : Nat} : nI p * 6 + nI c = nI (p * 6 + c) := by
  rw [show (6 : Int32) = nI 6 from rfl, pk_mul, nI_add]
theorem c_holds {h : XH} {row p c : Nat} {K : Int32 → XH → Prop} (hs : Sh h) (r : Ar h row 20) (hrow : row ≠ 34 ∧ row ≠ 35) (hc : cdT (tx h)) (hp : p < 6) (hcc : c < 6) (k : ∀ h1, Fx [34, 35] h h1 → K (if hl (tx h) (xI h row) p c = true then 1 else 0) h1) : ClI 74 [.ref 34, .int (nI p), .int (nI c), .ref row] h K := by
  refine B_74_0 hs r ?_
  rw [ix6, tn_nI (by omega)]
  refine ⟨inb (by omega) (by decide), c_run hs r hrow hc (fun h1 f => ?_)⟩
  have k1 := k h1 f
  unfold hl at k1
  have e8 : xI h (xR h 34 0 + 8) (p * 6 + c) = tx h 8 (p * 6 + c) := rfl
  rw [e8, rnA_T]
  refine ⟨fun q => ⟨f.sh hs (by decide), f.ar r, fun _ => ⟨_, rfl, ?_⟩, fun z => absurd rfl z⟩, fun v q e => ⟨f.sh hs (by decide), f.ar r, fun z => absurd z (by decide), fun _ => ⟨fun z => ⟨_, rfl, ?_⟩, fun z => ⟨_, rfl, ?_⟩⟩⟩⟩
  · rw [q] at k1; exact k1
  · rw [q] at k1; rw [e] at z; simpa [z] using k1
  · rw [q] at k1; rw [e] at z; simpa [z] using k1
/-- a shade by how many claims hold -/
def shB (T : Nat → Nat → Int32) (p : Nat) (x : Int32) : Int32 := if T 5 p = 0 then (if ¬ x = T 6 p then 0 else 4) else if T 5 p = 1 then (if x ≤ 0 then 0 else 4) else (if T 6 p ≤ 0 then 0 else 4 * x / T 6 p)
theorem c_shadeBy {h : XH} {p : Nat} {x2 : Int32} {K : Int32 → XH → Prop} (hs : Sh h) (hp : p < 6) (k : K (shB (tx h) p x2) h) : ClI 60 [.ref 34, .int (nI p), .int x2] h K := by
  refine B_60_0 hs ?_
  rw [tn_nI (by omega)]
  have e5 : xI h (xR h 34 0 + 5) p = tx h 5 p := rfl
  have e6 : xI h (xR h 34 0 + 6) p = tx h 6 p := rfl
  rw [e5, e6]
  unfold shB at k
  have hib : InB (nI p) 6 := inb hp (by decide)
  refine ⟨hib, hib, fun z => ?_, fun z => ?_⟩
  · rw [if_pos z] at k
    exact ⟨fun y => ⟨_, rfl, by rw [if_pos y] at k; exact k⟩, fun y => ⟨_, rfl, by rw [if_neg y] at k; exact k⟩⟩
  · rw [if_neg z] at k
    refine ⟨fun y => ?_, fun y => ?_⟩
    · rw [if_pos y] at k
      exact ⟨fun w => ⟨_, rfl, by rw [if_pos w] at k; exact k⟩, fun w => ⟨_, rfl, by rw [if_neg w] at k; exact k⟩⟩
    · rw [if_neg y] at k
      exact ⟨fun w => ⟨_, rfl, by rw [if_pos w] at k; exact k⟩, fun w => ⟨fun q => w (by rw [q]; decide), _, rfl, by rw [if_neg w] at k; exact k⟩⟩
