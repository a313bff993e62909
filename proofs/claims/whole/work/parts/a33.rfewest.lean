/-! FEWEST: bits counted, and the reference -/
def jbc (x0 : Int32) : Int32 := (((((((x0 - (((x0 : Int32).toUInt32 >>> ((1 : Int32).toUInt32 &&& Int32.toUInt32 31)).toInt32 &&& 1431655765)) &&& 858993459) + ((((x0 - (((x0 : Int32).toUInt32 >>> ((1 : Int32).toUInt32 &&& Int32.toUInt32 31)).toInt32 &&& 1431655765)) : Int32).toUInt32 >>> ((2 : Int32).toUInt32 &&& Int32.toUInt32 31)).toInt32 &&& 858993459)) + (((((x0 - (((x0 : Int32).toUInt32 >>> ((1 : Int32).toUInt32 &&& Int32.toUInt32 31)).toInt32 &&& 1431655765)) &&& 858993459) + ((((x0 - (((x0 : Int32).toUInt32 >>> ((1 : Int32).toUInt32 &&& Int32.toUInt32 31)).toInt32 &&& 1431655765)) : Int32).toUInt32 >>> ((2 : Int32).toUInt32 &&& Int32.toUInt32 31)).toInt32 &&& 858993459)) : Int32).toUInt32 >>> ((4 : Int32).toUInt32 &&& Int32.toUInt32 31)).toInt32) &&& 252645135) + (((((((x0 - (((x0 : Int32).toUInt32 >>> ((1 : Int32).toUInt32 &&& Int32.toUInt32 31)).toInt32 &&& 1431655765)) &&& 858993459) + ((((x0 - (((x0 : Int32).toUInt32 >>> ((1 : Int32).toUInt32 &&& Int32.toUInt32 31)).toInt32 &&& 1431655765)) : Int32).toUInt32 >>> ((2 : Int32).toUInt32 &&& Int32.toUInt32 31)).toInt32 &&& 858993459)) + (((((x0 - (((x0 : Int32).toUInt32 >>> ((1 : Int32).toUInt32 &&& Int32.toUInt32 31)).toInt32 &&& 1431655765)) &&& 858993459) + ((((x0 - (((x0 : Int32).toUInt32 >>> ((1 : Int32).toUInt32 &&& Int32.toUInt32 31)).toInt32 &&& 1431655765)) : Int32).toUInt32 >>> ((2 : Int32).toUInt32 &&& Int32.toUInt32 31)).toInt32 &&& 858993459)) : Int32).toUInt32 >>> ((4 : Int32).toUInt32 &&& Int32.toUInt32 31)).toInt32) &&& 252645135) : Int32).toUInt32 >>> ((8 : Int32).toUInt32 &&& Int32.toUInt32 31)).toInt32) + ((((((((x0 - (((x0 : Int32).toUInt32 >>> ((1 : Int32).toUInt32 &&& Int32.toUInt32 31)).toInt32 &&& 1431655765)) &&& 858993459) + ((((x0 - (((x0 : Int32).toUInt32 >>> ((1 : Int32).toUInt32 &&& Int32.toUInt32 31)).toInt32 &&& 1431655765)) : Int32).toUInt32 >>> ((2 : Int32).toUInt32 &&& Int32.toUInt32 31)).toInt32 &&& 858993459)) + (((((x0 - (((x0 : Int32).toUInt32 >>> ((1 : Int32).toUInt32 &&& Int32.toUInt32 31)).toInt32 &&& 1431655765)) &&& 858993459) + ((((x0 - (((x0 : Int32).toUInt32 >>> ((1 : Int32).toUInt32 &&& Int32.toUInt32 31)).toInt32 &&& 1431655765)) : Int32).toUInt32 >>> ((2 : Int32).toUInt32 &&& Int32.toUInt32 31)).toInt32 &&& 858993459)) : Int32).toUInt32 >>> ((4 : Int32).toUInt32 &&& Int32.toUInt32 31)).toInt32) &&& 252645135) + (((((((x0 - (((x0 : Int32).toUInt32 >>> ((1 : Int32).toUInt32 &&& Int32.toUInt32 31)).toInt32 &&& 1431655765)) &&& 858993459) + ((((x0 - (((x0 : Int32).toUInt32 >>> ((1 : Int32).toUInt32 &&& Int32.toUInt32 31)).toInt32 &&& 1431655765)) : Int32).toUInt32 >>> ((2 : Int32).toUInt32 &&& Int32.toUInt32 31)).toInt32 &&& 858993459)) + (((((x0 - (((x0 : Int32).toUInt32 >>> ((1 : Int32).toUInt32 &&& Int32.toUInt32 31)).toInt32 &&& 1431655765)) &&& 858993459) + ((((x0 - (((x0 : Int32).toUInt32 >>> ((1 : Int32).toUInt32 &&& Int32.toUInt32 31)).toInt32 &&& 1431655765)) : Int32).toUInt32 >>> ((2 : Int32).toUInt32 &&& Int32.toUInt32 31)).toInt32 &&& 858993459)) : Int32).toUInt32 >>> ((4 : Int32).toUInt32 &&& Int32.toUInt32 31)).toInt32) &&& 252645135) : Int32).toUInt32 >>> ((8 : Int32).toUInt32 &&& Int32.toUInt32 31)).toInt32) : Int32).toUInt32 >>> ((16 : Int32).toUInt32 &&& Int32.toUInt32 31)).toInt32) &&& 63
theorem jbc_e : ∀ X, X < 64 → jbc (nI X) = nI (bc X) := by decide +kernel
theorem c_bitCount {h : XH} {X : Nat} {K : Int32 → XH → Prop} (hs : Sh h) (hX : X < 64) (k : K (nI (bc X)) h) : ClI 91 [.int (nI X)] h K := by
  refine B_91_0 hs ⟨_, rfl, ?_⟩
  have k1 : K (jbc (nI X)) h := by rw [jbc_e X hX]; exact k
  exact k1
theorem cnt_X {X p : Nat} : cnt (bX X) (p + 1) = cnt (bX X) p + X / 2 ^ p % 2 := by
  have h2 : X / 2 ^ p % 2 < 2 := Nat.mod_lt _ (by decide)
  show (if bX X p then cnt (bX X) p + 1 else cnt (bX X) p) = _
  by_cases e : X / 2 ^ p % 2 = 1
  · rw [if_pos (show bX X p = true from decide_eq_true e), e]
  · rw [if_neg (show ¬ bX X p = true from fun z => e (of_decide_eq_true z))]
    omega
theorem l_bits {h : XH} {X : Nat} {Q : Value → XH → Prop} (hs : Sh h) (hX : X < 64) (k : Q (.int (nI (bc X))) h) : ∀ j p, p + j = 6 → Ev 255 4 [.int (nI X), .int (nI (cnt (bX X) p)), .int (nI p)] [] h Q := by
  intro j
  induction j with
  | zero =>
    intro p hp
    have e : p = 6 := by omega
    subst e
    refine B_255_4 hs ⟨fun _ => k, fun z => absurd (by decide) z⟩
  | succ j ih =>
    intro p hp
    have hc := cnt_le (f := bX X) p
    refine B_255_4 hs ⟨fun z => absurd z (show ¬ nI 6 ≤ nI p from nI_ge (by omega) (by omega)), fun _ => ?_⟩
    · rw [bit_1 (by omega) (by omega)]
      have i1 := ih (p + 1) (by omega)
      rw [cnt_X] at i1
      have h2 : X / 2 ^ p % 2 < 2 := Nat.mod_lt _ (by decide)
      try simp (disch := omega) only [lit, tn_nI, z_inb, nI_add, pk_mul, z_le, z_nle, z_lt, z_nlt, z_ne, z_m1, pk_sub, xI_ss, xI_sd, xI_n, eq_self, true_and, and_true, and_self, not_true_eq_false, not_false_eq_true, false_implies, true_implies, implies_true, Classical.not_not, forall_const, true_or, or_true, false_or, or_false, false_and, and_false, if_true, if_false, ite_true, ite_false, reduceIte, reduceCtorEq]
      exact i1
theorem c_bits {h : XH} {X : Nat} {K : Int32 → XH → Prop} (hs : Sh h) (hX : X < 64) (k : K (nI (bc X)) h) : ClI 255 [.int (nI X)] h K :=
  B_255_0 hs (l_bits hs hX ⟨_, rfl, k⟩ 6 0 rfl)
theorem fo_no {f : Nat → Nat} {s : Nat} : ∀ n, fo f s n = none → ∀ i, i < n → f i ≠ s := by
  intro n
  induction n with
  | zero => intro _ i hi; omega
  | succ n ih =>
    intro h i hi
    unfold fo at h
    cases hf : fo f s n with
    | some u => rw [hf] at h; cases h
    | none =>
      rw [hf] at h
      dsimp only at h
      split at h
      · cases h
      · rename_i hne
        by_cases e : i = n
        · subst e; exact hne
        · exact ih hf i (by omega)
theorem fo_is {f : Nat → Nat} {s : Nat} : ∀ n v, fo f s n = some v → f v = s := by
  intro n
  induction n with
  | zero => intro v h; cases h
  | succ n ih =>
    intro v h
    unfold fo at h
    cases hf : fo f s n with
    | some u => rw [hf] at h; cases h; exact ih v hf
    | none =>
      rw [hf] at h
      dsimp only at h
      split at h
      · rename_i he; cases h; exact he
      · cases h
def rk (X : Nat) (d : Nat → Nat) : Nat → Nat
  | 0 => 0
  | p + 1 => 5 * rk X d p + (if bX X p then d p else 0)
theorem rk_lt {X : Nat} {d : Nat → Nat} (hd : ∀ p, d p < 5) : ∀ p, rk X d p < 5 ^ p := by
  intro p
  induction p with
  | zero => show (0 : Nat) < 1; omega
  | succ p ih =>
    unfold rk
    rw [Nat.pow_succ]
    have := hd p
    split <;> omega
theorem rk_eq {X : Nat} {d e : Nat → Nat} (hd : ∀ p, d p < 5) (he : ∀ p, e p < 5) : ∀ p, rk X d p = rk X e p ↔ ∀ i, i < p → bX X i = true → d i = e i := by
  intro p
  induction p with
  | zero => exact ⟨fun _ i hi => absurd hi (by omega), fun _ => rfl⟩
  | succ p ih =>
    have h1 := hd p
    have h2 := he p
    unfold rk
    by_cases hp : bX X p = true
    · rw [if_pos hp, if_pos hp]
      constructor
      · intro h i hi hb
        by_cases z : i = p
        · subst z; omega
        · exact ih.mp (by omega) i (by omega) hb
      · intro h
        have a := ih.mpr (fun i hi hb => h i (by omega) hb)
        have b := h p (by omega) hp
        omega
    · rw [if_neg hp, if_neg hp]
      constructor
      · intro h i hi hb
        by_cases z : i = p
        · subst z; exact absurd hb hp
        · exact ih.mp (by omega) i (by omega) hb
      · intro h
        have a := ih.mpr (fun i hi hb => h i (by omega) hb)
        omega
theorem bX_big {X P p : Nat} (hX : X < 2 ^ P) (hp : P ≤ p) : ¬ bX X p = true := by
  unfold bX
  rw [decide_eq_true_iff]
  have : X < 2 ^ p := Nat.lt_of_lt_of_le hX (Nat.pow_le_pow_right (by decide) hp)
  rw [Nat.div_eq_of_lt this]
  decide
def rkw (T : Nat → Nat → Int32) (n X w : Nat) : Nat := rk X (dg (bsh T w n)) (tn (T 0 1))
section RFW
variable {T : Nat → Nat → Int32} {l : Nat} {h0 h : XH} {Q : Value → XH → Prop} {n X : Nat}
theorem rkw_key {v w : Nat} (hP : tn (T 0 1) ≤ 6) (hX : X < 2 ^ tn (T 0 1)) : rkw T n X v = rkw T n X w ↔ key T n X v = key T n X w := by
  rw [key_eq]
  unfold rkw
  rw [rk_eq (fun p => Nat.lt_succ_of_le dg_le) (fun p => Nat.lt_succ_of_le dg_le)]
  constructor
  · intro h p hp hb
    by_cases z : p < tn (T 0 1)
    · exact h p z hb
    · exact absurd hb (bX_big hX (by omega))
  · intro h p hp hb
    exact h p (by omega) hb
theorem rkw_lt {w : Nat} (hP : tn (T 0 1) ≤ 6) : rkw T n X w < 15625 := Nat.lt_of_lt_of_le (rk_lt (fun p => Nat.lt_succ_of_le dg_le) _) (Nat.pow_le_pow_right (by decide) hP : 5 ^ tn (T 0 1) ≤ 5 ^ 6)
theorem l_tell {w : Nat} (M : RM T l h) (hw : w < wN T) (hX : X < 64) (h15 : xI h 115 w = nI (bsh T w n)) (k : Ev 256 24 [.ref 69, .int (nI X), .int (nI w), .int (nI (rkw T n X w)), .int (nI (tn (T 0 1)))] [] h Q) : ∀ j p, p + j = tn (T 0 1) → Ev 256 24 [.ref 69, .int (nI X), .int (nI w), .int (nI (rk X (dg (bsh T w n)) p)), .int (nI p)] [] h Q := by
  have p6 := M.p6
  have l2 := M.l2
  have e18 := M.2.1
  have e1 := M.np
  have W2 := M.wn.2
  have hlt := bsh_lt M.2.2.2 w n
  intro j
  induction j with
  | zero =>
    intro p hp
    have e : p = tn (T 0 1) := by omega
    rw [e]
    exact k
  | succ j ih =>
    intro p hp
    have hr := rk_lt (X := X) (d := dg (bsh T w n)) (fun p => Nat.lt_succ_of_le dg_le) p
    have hr2 : 5 ^ p ≤ 5 ^ 6 := Nat.pow_le_pow_right (by decide) (by omega)
    have hr3 : rk X (dg (bsh T w n)) p < 15625 := Nat.lt_of_lt_of_le hr hr2
    have hd : dg (bsh T w n) p ≤ 4 := dg_le
    have i1 := ih (p + 1) (by omega)
    unfold rk at i1
    refine B_256_24 M.1 ?_
    rw [e18, tn_nI (show l < 2 ^ 31 by omega), e1]
    refine ⟨inb (by omega) (by decide), fun z => absurd z (nI_ge (by omega) (by omega)), fun _ => ⟨fun z => ?_, fun z => ?_⟩⟩
    · rw [if_neg (fun y => z ((bX_iff (by omega) (by omega)).mpr y))] at i1
      try simp (disch := omega) only [lit, tn_nI, z_inb, nI_add, pk_mul, z_le, z_nle, z_lt, z_nlt, z_ne, z_m1, pk_sub, xI_ss, xI_sd, xI_n, eq_self, true_and, and_true, and_self, not_true_eq_false, not_false_eq_true, false_implies, true_implies, implies_true, Classical.not_not, forall_const, true_or, or_true, false_or, or_false, false_and, and_false, if_true, if_false, ite_true, ite_false, reduceIte, reduceCtorEq]
      exact i1
    · rw [if_pos ((bX_iff (by omega) (by omega)).mp (Classical.not_not.mp z))] at i1
      rw [tn_nI (show w < 2 ^ 31 by omega), h15]
      refine ⟨inb (by omega) (by decide), c_dgR M.1 (by omega) (by omega) ⟨M.1, ?_⟩⟩
      try simp (disch := omega) only [lit, tn_nI, z_inb, nI_add, pk_mul, z_le, z_nle, z_lt, z_nlt, z_ne, z_m1, pk_sub, xI_ss, xI_sd, xI_n, eq_self, true_and, and_true, and_self, not_true_eq_false, not_false_eq_true, false_implies, true_implies, implies_true, Classical.not_not, forall_const, true_or, or_true, false_or, or_false, false_and, and_false, if_true, if_false, ite_true, ite_false, reduceIte, reduceCtorEq]
      exact i1
theorem l_tells (M : RM T l h0) (hX : X < 2 ^ tn (T 0 1)) (h15 : ∀ w, w < wN T → xI h0 115 w = nI (bsh T w n)) (kk : ∀ h1, Gx [117] [] h0 h1 → (pA T n X → Q (.int (nI 1)) h1) ∧ (¬ pA T n X → Q (.int (nI 0)) h1)) : ∀ (k w : Nat) (h : XH), w + k = wN T → Gx [117] [] h0 h → (∀ s, s < 15625 → xI h 117 s = foI (rkw T n X) s w) → (∀ u v, u < v → v < w → key T n X u ≠ key T n X v) → Ev 256 6 [.ref 69, .int (nI X), .int (nI w), .null, .null] [] h Q := by
  have W2 := M.wn.2
  have l2 := M.l2
  have p6 := M.p6
  have hX6 : X < 64 := Nat.lt_of_lt_of_le hX (Nat.pow_le_pow_right (by decide) p6 : 2 ^ tn (T 0 1) ≤ 2 ^ 6)
  intro k
  induction k with
  | zero =>
    intro w h hk g hq hd
    have M' := M.gx g (by decide) (by decide)
    have e18 := M'.2.1
    have e6 := M'.wn.1
    have e : w = wN T := by omega
    subst e
    refine B_256_6 M'.1 ?_
    rw [e18, tn_nI (show l < 2 ^ 31 by omega), e6]
    refine ⟨inb (by omega) (by decide), fun _ => (kk h g).1 (fun u v a b => hd u v a b), fun z => absurd (Int32.le_refl _) z⟩
  | succ k ih =>
    intro w h hk g hq hd
    have M' := M.gx g (by decide) (by decide)
    have e18 := M'.2.1
    have e6 := M'.wn.1
    have e1 := M'.np
    have ev : xI h 115 w = nI (bsh T w n) := by rw [g.at (by decide) (by decide)]; exact h15 w (by omega)
    have hrk : rkw T n X w < 15625 := rkw_lt p6
    have hib2 : InB (nI (rkw T n X w)) 15625 := inb (by omega) (by decide)
    refine B_256_6 M'.1 ?_
    rw [e18, tn_nI (show l < 2 ^ 31 by omega), e6]
    refine ⟨inb (by omega) (by decide), fun z => absurd z (nI_ge (by omega) (by omega)), fun _ => ?_⟩
    refine l_tell (n := n) M' (by omega) hX6 ev ?_ (tn (T 0 1)) 0 (by omega)
    refine B_256_24 M'.1 ?_
    rw [e18, tn_nI (show l < 2 ^ 31 by omega), e1, tn_nI (show rkw T n X w < 2 ^ 31 by omega), hq _ hrk]
    refine ⟨inb (by omega) (by decide), fun _ => ⟨hib2, ?_⟩, fun z => absurd (Int32.le_refl _) z⟩
    cases hf : fo (rkw T n X) (rkw T n X w) w with
    | none =>
      have efo : foI (rkw T n X) (rkw T n X w) w = -1 := by unfold foI; rw [hf]
      rw [efo]
      refine ⟨fun _ => ⟨hib2, ?_⟩, fun z => absurd (by decide) z⟩
      rw [nI_1]
      refine ih (w + 1) _ (by omega) (g.set (by decide) (by decide)) (fun s hs' => ?_) (fun u v a b => ?_)
      · rw [foI_s hf]
        by_cases y : s = rkw T n X w
        · subst y; rw [xI_ss, if_pos rfl]
        · rw [xI_sd y, if_neg y]; exact hq s hs'
      · by_cases e : v = w
        · subst e
          exact fun q => fo_no _ hf u a ((rkw_key p6 hX).mpr q)
        · exact hd u v a (by omega)
    | some v =>
      have hv := fo_lt _ _ hf
      have he := fo_is _ _ hf
      have efo : foI (rkw T n X) (rkw T n X w) w = nI v := by unfold foI; rw [hf]
      rw [efo]
      exact ⟨fun z => absurd z (nI_pos (by omega)), fun _ => (kk h g).2 (fun q => q v w hv (by omega) ((rkw_key p6 hX).mp he))⟩
theorem c_tells {K : Int32 → XH → Prop} (M : RM T l h) (hX : X < 2 ^ tn (T 0 1)) (h15 : ∀ w, w < wN T → xI h 115 w = nI (bsh T w n)) (k : ∀ h1, Gx [117] [] h h1 → (pA T n X → K (nI 1) h1) ∧ (¬ pA T n X → K (nI 0) h1)) : ClI 256 [.ref 69, .int (nI X)] h K := by
  refine B_256_0 M.1 (c_clears M.1 (fun h1 g1 e1 => ⟨g1.sh M.1 (by decide), ?_⟩))
  have M1 := M.gx g1 (by decide) (by decide)
  refine l_tells M1 hX (fun w hw => by rw [g1.at (by decide) (by decide)]; exact h15 w hw) (fun h2 g2 => ?_) (wN T) 0 h1 (by omega) Gx.rf (fun s hs => e1 s hs) (fun u v _ b => absurd b (by omega))
  have k2 := k h2 (g1.trm (S := [117]) (F := []) g2 (by decide) (by decide) (by decide) (by decide))
  exact ⟨fun q => ⟨_, rfl, k2.1 q⟩, fun q => ⟨_, rfl, k2.2 q⟩⟩
end RFW
