/-! pages that do not have one shade from a step on to another -/
def unI (b : Nat → Int32) (fr s : Nat) : Nat → Nat → Int32 → Int32
  | 0, _, acc => acc
  | k + 1, p, acc => unI b fr s k (p + 1) (if shI (b s) p = shI (b fr) p then acc else acc ||| (1 <<< (nI p &&& 31)))
def unO (b : Nat → Int32) (P fr : Nat) : Nat → Nat → Int32 → Int32
  | 0, _, acc => acc
  | n + 1, s, acc => unO b P fr n (s + 1) (unI b fr s P 0 acc)
theorem l_ui {h : XH} {fr s to P : Nat} {Q : Value → XH → Prop} (hs : Sh h) (hP : tx h 0 1 = nI P ∧ P ≤ 6) (hfr : fr < 301) (hs3 : s < 301) : ∀ (k p : Nat) (acc : Int32), p + k = P → Ev 63 7 [.ref 34, .int (nI fr), .int (nI to), .int (unI (xI h 36) fr s k p acc), .int (nI (s + 1)), .null] [] h Q → Ev 63 16 [.ref 34, .int (nI fr), .int (nI to), .int acc, .int (nI s), .int (nI p)] [] h Q := by
  intro k
  induction k with
  | zero =>
    intro p acc hk hq
    refine B_63_16 hs ?_
    rw [show xI h (xR h 34 0) 1 = tx h 0 1 from rfl, hP.1, nI_1]
    exact ⟨fun _ => hq, fun z => absurd (nI_le (by omega) (by omega)) z⟩
  | succ k ih =>
    intro p acc hk hq
    refine B_63_16 hs ?_
    rw [show xI h (xR h 34 0) 1 = tx h 0 1 from rfl, hP.1, tn_nI (show s < 2 ^ 31 by omega)]
    refine ⟨fun z => absurd z (nI_ge (by omega) (by omega)), fun _ => ⟨inb hs3 (by decide), c_shadeIn hs (by omega) ⟨hs, inb hfr (by decide), ?_⟩⟩⟩
    rw [tn_nI (show fr < 2 ^ 31 by omega)]
    unfold unI at hq
    refine c_shadeIn hs (by omega) ⟨hs, fun z => ?_, fun z => ?_⟩
    · rw [nI_1]
      rw [if_pos z] at hq
      exact ih (p + 1) acc (by omega) hq
    · rw [nI_1]
      rw [if_neg z] at hq
      exact ih (p + 1) _ (by omega) hq
theorem l_uo {h : XH} {fr to P : Nat} {Q : Value → XH → Prop} (hs : Sh h) (hP : tx h 0 1 = nI P ∧ P ≤ 6) (hfr : fr < 301) (hto : to ≤ 301) : ∀ (n s : Nat) (acc : Int32), s + n = to → Q (.int (unO (xI h 36) P fr n s acc)) h → Ev 63 7 [.ref 34, .int (nI fr), .int (nI to), .int acc, .int (nI s), .null] [] h Q := by
  intro n
  induction n with
  | zero =>
    intro s acc hk hq
    exact B_63_7 hs ⟨fun _ => hq, fun z => absurd (nI_le (by omega) (by omega)) z⟩
  | succ n ih =>
    intro s acc hk hq
    refine B_63_7 hs ⟨fun z => absurd z (nI_ge (by omega) (by omega)), fun _ => ?_⟩
    exact l_ui hs hP hfr (by omega) P 0 acc (by omega) (ih (s + 1) _ (by omega) hq)
theorem c_unlikePages {h : XH} {fr to P : Nat} {K : Int32 → XH → Prop} (hs : Sh h) (hP : tx h 0 1 = nI P ∧ P ≤ 6) (hft : fr < to) (hto : to ≤ 301) (k : K (unO (xI h 36) P fr (to - (fr + 1)) (fr + 1) 0) h) : ClI 63 [.ref 34, .int (nI fr), .int (nI to)] h K := by
  refine B_63_0 hs ?_
  rw [nI_1]
  exact l_uo hs hP (by omega) hto (to - (fr + 1)) (fr + 1) 0 (by omega) ⟨_, rfl, k⟩
/-- all shades by a step, as a number: pages from the last to the first -/
def stN (T : Nat → Nat → Int32) (r : Nat → Int32) : Nat → Int32 → Int32
  | 0, acc => acc
  | p + 1, acc => stN T r p (acc * 5 + shNx T r p)
