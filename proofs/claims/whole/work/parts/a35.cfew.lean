/-! FEWEST: the class, the telling -/
theorem dm5 {a : Nat} (ha : a < 2 ^ 31) : nI a / 5 = nI (a / 5) := pk_div (d := 5) ha (by decide) (by decide)
theorem rm5 {a : Nat} (ha : a < 2 ^ 31) : nI a - nI a / 5 * 5 = nI (a % 5) := by
  rw [dm5 ha, show (5 : Int32) = nI 5 from rfl, pk_mul, z_rem]
theorem key_n {T : Nat → Nat → Int32} {n X w p : Nat} (hp : p ≤ 6) (h : X / 2 ^ p = 0) : key T n X w = num (mk T n X w) p := by
  have e : p + (6 - p) = 6 := by omega
  have q := num_more (d := mk T n X w) (n := p) (6 - p) (fun i hi _ => ?_)
  · rw [e] at q; exact q
  · have hX : X < 2 ^ p := by
      have := Nat.lt_mul_div_succ X (show 0 < 2 ^ p from Nat.pow_pos (by decide))
      rw [h] at this
      omega
    unfold mk
    rw [if_neg (bX_big hX hi)]
section CFW
variable {T : Nat → Nat → Int32} {c m : Nat} {q : Nat → Nat × Nat × Nat} {h0 h : XH} {Q : Value → XH → Prop} {n X : Nat}
theorem l_ckey {w : Nat} {x2 x3 x4 : Int32} (hs : Sh h) (hX : X < 64) (hb : bsh T w n < 15625) (kt : InB (nI (key T n X w)) (xN h (xR h 58 10)) ∧ (((¬ (xI h (xR h 58 10) (tn (nI (key T n X w)))) = nI X) → InB (nI (key T n X w)) (xN h (xR h 58 10)) ∧ (Ev 153 14 [.ref 58, .int (nI X), .int x2, .int x3, .int (x4 + 1), .null, .null, .null] [] (xsI h (xR h 58 10) (tn (nI (key T n X w))) (nI X)) Q)) ∧ (¬ (¬ (xI h (xR h 58 10) (tn (nI (key T n X w)))) = nI X) → Q (.int 0) h))) : ∀ j p, p + j = 6 → Ev 153 39 [.ref 58, .int (nI X), .int x2, .int x3, .int x4, .int (nI (bsh T w n / 5 ^ p)), .int (nI (num (mk T n X w) p)), .int (nI p)] [] h Q := by
  intro j
  induction j with
  | zero =>
    intro p hp
    have e : p = 6 := by omega
    subst e
    exact B_153_39 hs ⟨fun _ => kt, fun _ => ⟨fun _ => kt, fun z => absurd (by decide) z⟩⟩
  | succ j ih =>
    intro p hp
    have hle : bsh T w n / 5 ^ p ≤ bsh T w n := Nat.div_le_self _ _
    have hdX : X / 2 ^ p ≤ X := Nat.div_le_self _ _
    have e5 : bsh T w n / 5 ^ (p + 1) = bsh T w n / 5 ^ p / 5 := by rw [Nat.pow_succ, Nat.div_div_eq_div_mul]
    have i1 := ih (p + 1) (by omega)
    rw [e5, show num (mk T n X w) (p + 1) = num (mk T n X w) p + mk T n X w p * 5 ^ p from rfl] at i1
    refine B_153_39 hs ⟨fun z => ?_, fun z => ⟨fun y => absurd y (show ¬ nI 6 ≤ nI p from nI_ge (by omega) (by omega)), fun _ => ⟨fun b => ?_, fun b => ?_⟩⟩⟩
    · rw [bit_n (by omega) (by omega)] at z
      have z' : X / 2 ^ p = 0 := (nI_eq (b := 0) (by omega) (by decide)).mp z
      rw [← key_n (T := T) (n := n) (w := w) (by omega) z']
      exact kt
    · have hm : mk T n X w p = 0 := by unfold mk; rw [if_neg (fun y => b ((bX_iff (by omega) (by omega)).mpr y))]
      rw [hm, Nat.zero_mul, Nat.add_zero] at i1
      rw [dm5 (by omega), nI_1]
      exact i1
    · have hm : mk T n X w p = bsh T w n / 5 ^ p % 5 := by unfold mk; rw [if_pos ((bX_iff (by omega) (by omega)).mp (Classical.not_not.mp b))]; rfl
      rw [hm] at i1
      rw [rm5 (by omega), tn_nI (show p < 2 ^ 31 by omega), hs.2.2.2.2.2.2.2.1.2.2, five_n p (by omega), pk_mul, nI_add, dm5 (by omega), nI_1]
      exact ⟨inb (by omega) (by decide), i1⟩
theorem l_parts {g9 g10 d : Nat} (A : CG T c m q h0) (Bn : BOn T h0 d) (hnd : n ≤ d) (hX : X < 64) (e9 : xR h0 58 9 = g9) (e10 : xR h0 58 10 = g10) (l10 : 15625 ≤ xN h0 g10) (b10 : xN h0 g10 ≤ 65536) (h00 : ∀ s, s < 15625 → xI h0 g10 s ≠ nI X) (kk : ∀ h1, Fx [g10] h0 h1 → (∀ s, s < 15625 → xI h1 g10 s = xI h0 g10 s ∨ xI h1 g10 s = nI X) → (pA T n X → Q (.int 1) h1) ∧ (¬ pA T n X → Q (.int 0) h1)) : ∀ (k w : Nat) (h : XH), w + k = wN T → Fx [g10] h0 h → (∀ s, s < 15625 → xI h g10 s = xI h0 g10 s ∨ xI h g10 s = nI X) → (∀ s, s < 15625 → (xI h g10 s = nI X ↔ ∃ v, v < w ∧ key T n X v = s)) → (∀ u v, u < v → v < w → key T n X u ≠ key T n X v) → Ev 153 14 [.ref 58, .int (nI X), .int (nI n), .int (nI (wN T)), .int (nI w), .null, .null, .null] [] h Q := by
  have W2 : wN T ≤ 2000 := A.1.2.2.2.w.1
  have t := A.1.2.2.2
  have s0 := A.1.1
  have d30 := Bn.1
  have b9 := rm_9 A.2.1
  rw [e9] at b9
  have l9 := Bn.2.2.2.1
  rw [e9] at l9
  have g4 := g_58 s0 (j := 10) (v := 66) (by decide)
  rw [e10] at g4
  have n910 : g9 ≠ g10 := by rw [← e9, ← e10]; exact sg_ne s0 (q := (58, 9, 1, 65)) (q' := (58, 10, 1, 66)) (by decide) (by decide) (by decide)
  intro k
  induction k with
  | zero =>
    intro w h hk f ho hq hd
    have e : w = wN T := by omega
    subst e
    exact B_153_14 (f.sh s0 (by simp; omega)) ⟨fun _ => (kk h f ho).1 (fun u v a b => hd u v a b), fun z => absurd (Int32.le_refl _) z⟩
  | succ k ih =>
    intro w h hk f ho hq hd
    have hs := f.sh s0 (by simp; omega)
    have r9 : xR h 58 9 = g9 := by rw [f.1]; exact e9
    have r10 : xR h 58 10 = g10 := by rw [f.1]; exact e10
    have hN : xN h = xN h0 := f.2.2.2.1
    have hlt := bsh_lt t w n
    have ev : xI h g9 (n * wN T + w) = nI (bsh T w n) := by rw [f.at (by simp; omega), ← e9]; exact Bn.2.2.2.2.2.1 n w hnd (by omega)
    have hib : n * wN T + w < 31 * wN T := by
      have : (n + 1) * wN T ≤ 31 * wN T := Nat.mul_le_mul_right _ (by omega)
      rw [Nat.add_mul, Nat.one_mul] at this
      omega
    have hk5 : key T n X w < 15625 := key_lt
    refine B_153_14 hs ?_
    have ei : nI n * nI (wN T) + nI w = nI (n * wN T + w) := by rw [pk_mul, nI_add]
    rw [r9, hN, ei, tn_nI (show n * wN T + w < 2 ^ 31 by omega), ev]
    refine ⟨fun z => absurd z (nI_ge (by omega) (by omega)), fun _ => ⟨inb (by omega) (by omega), ?_⟩⟩
    have hib2 : InB (nI (key T n X w)) (xN h0 g10) := inb (by omega) (by omega)
    have fin := l_ckey (T := T) (Q := Q) (n := n) (X := X) (w := w) (x2 := nI n) (x3 := nI (wN T)) (x4 := nI w) hs hX hlt ?_ 6 0 rfl
    · rw [show bsh T w n / 5 ^ 0 = bsh T w n from Nat.div_one _] at fin
      exact fin
    · rw [r10, hN, tn_nI (show key T n X w < 2 ^ 31 by omega), nI_1]
      refine ⟨hib2, fun z => ⟨hib2, ?_⟩, fun z => ?_⟩
      · refine ih (w + 1) _ (by omega) (f.set (by simp)) (fun s hs' => ?_) (fun s hs' => ?_) (fun u v a b => ?_)
        · by_cases y : s = key T n X w
          · subst y; rw [xI_ss]; exact Or.inr rfl
          · rw [xI_sd y]; exact ho s hs'
        · by_cases y : s = key T n X w
          · subst y
            rw [xI_ss]
            exact ⟨fun _ => ⟨w, by omega, rfl⟩, fun _ => rfl⟩
          · rw [xI_sd y, hq s hs']
            constructor
            · rintro ⟨v, hv, e⟩; exact ⟨v, by omega, e⟩
            · rintro ⟨v, hv, e⟩
              refine ⟨v, ?_, e⟩
              by_cases e' : v = w
              · subst e'; exact absurd e.symm y
              · omega
        · by_cases e : v = w
          · subst e
            exact fun e => z ((hq _ hk5).mpr ⟨u, a, e⟩)
          · exact hd u v a (by omega)
      · obtain ⟨v, hv, e⟩ := (hq _ hk5).mp (Classical.not_not.mp z)
        exact (kk h f ho).2 (fun p => p v w hv (by omega) e)
theorem c_parts {g10 d : Nat} {K : Int32 → XH → Prop} (A : CG T c m q h) (Bn : BOn T h d) (hnd : n ≤ d) (hX : X < 64) (e10 : xR h 58 10 = g10) (l10 : 15625 ≤ xN h g10) (b10 : xN h g10 ≤ 65536) (h00 : ∀ s, s < 15625 → xI h g10 s ≠ nI X) (k : ∀ h1, Fx [g10] h h1 → (∀ s, s < 15625 → xI h1 g10 s = xI h g10 s ∨ xI h1 g10 s = nI X) → (pA T n X → K 1 h1) ∧ (¬ pA T n X → K 0 h1)) : ClI 153 [.ref 58, .int (nI X), .int (nI n)] h K := by
  have e6 : xI h (xR h 34 0) 6 = nI (wN T) := by rw [A.1.2.1, A.1.t0]; exact A.1.2.2.2.w.2.1
  refine B_153_0 A.1.1 ?_
  rw [e6]
  refine l_parts A Bn hnd hX rfl e10 l10 b10 h00 (fun h1 f ho => ?_) (wN T) 0 h (by omega) Fx.rf (fun s hs => Or.inl rfl) (fun s hs => ⟨fun e => absurd e (h00 s hs), fun ⟨v, hv, _⟩ => absurd hv (by omega)⟩) (fun u v _ b => absurd b (by omega))
  have k2 := k h1 f ho
  exact ⟨fun p => ⟨_, rfl, k2.1 p⟩, fun p => ⟨_, rfl, k2.2 p⟩⟩
end CFW
