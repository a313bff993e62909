/-! THE LAW: from its beginning to its end -/
section LAW
variable {L : Nat} {xs : Nat → Int32} {Q : Value → XH → Prop}
theorem Cs_all {h : XH} {i : Nat} (j : JJ xs L h) (hi : i + 6 ≤ L) (hL : L ≤ 3072) (nxt : ∀ h, JJ xs L h → Ev 267 1279 [.ref 0, .ref 4, .ref 69, .int (nI i)] [] h Q) : ∀ p ∈ tgs, Ev 267 p [.ref 0, .ref 4, .ref 69, .int (nI i)] [] h Q := by
  intro p hp
  simp only [tgs, List.mem_cons, List.not_mem_nil, or_false] at hp
  rcases hp with rfl | rfl | rfl | rfl | rfl | rfl | rfl | rfl | rfl | rfl | rfl | rfl | rfl | rfl | rfl | rfl | rfl | rfl | rfl | rfl | rfl | rfl | rfl | rfl | rfl | rfl | rfl | rfl | rfl | rfl | rfl | rfl | rfl | rfl | rfl | rfl | rfl | rfl
  · exact Cs_0 j hi hL nxt
  · exact Cs_1 j hi hL nxt
  · exact Cs_2 j hi hL nxt
  · exact Cs_3 j hi hL nxt
  · exact Cs_4 j hi hL nxt
  · exact Cs_5 j hi hL nxt
  · exact Cs_6 j hi hL nxt
  · exact Cs_7 j hi hL nxt
  · exact Cs_8 j hi hL nxt
  · exact Cs_9 j hi hL nxt
  · exact Cs_10 j hi hL nxt
  · exact Cs_11 j hi hL nxt
  · exact Cs_12 j hi hL nxt
  · exact Cs_13 j hi hL nxt
  · exact Cs_14 j hi hL nxt
  · exact Cs_15 j hi hL nxt
  · exact Cs_16 j hi hL nxt
  · exact Cs_17 j hi hL nxt
  · exact Cs_18 j hi hL nxt
  · exact Cs_19 j hi hL nxt
  · exact Cs_20 j hi hL nxt
  · exact Cs_21 j hi hL nxt
  · exact Cs_22 j hi hL nxt
  · exact Cs_23 j hi hL nxt
  · exact Cs_24 j hi hL nxt
  · exact Cs_25 j hi hL nxt
  · exact Cs_26 j hi hL nxt
  · exact Cs_27 j hi hL nxt
  · exact Cs_28 j hi hL nxt
  · exact Cs_29 j hi hL nxt
  · exact Cs_30 j hi hL nxt
  · exact Cs_31 j hi hL nxt
  · exact Cs_32 j hi hL nxt
  · exact Cs_33 j hi hL nxt
  · exact Cs_34 j hi hL nxt
  · exact Cs_35 j hi hL nxt
  · exact Cs_36 j hi hL nxt
  · exact nxt h j
theorem l_wlaw (hL : L ≤ 3072) (ke : ∀ h, JJ xs L h → Q (.int 1) h) : ∀ (k i : Nat) (h : XH), L ≤ i + 6 * k → i ≤ L → JJ xs L h → Ev 267 18 [.ref 0, .ref 4, .ref 69, .int (nI i)] [] h Q := by
  intro k
  induction k with
  | zero =>
    intro i h hk hi j
    have j' := j
    obtain ⟨T, c, l, r, n, f, hb, hf, sn, q, tl, b, pl, I, R, O, sc⟩ := j'
    exact Lw_head sc hL hi (fun _ => ke h j) (fun z => absurd z (by omega))
  | succ k ih =>
    intro i h hk hi j
    have j' := j
    obtain ⟨T, c, l, r, n, f, hb, hf, sn, q, tl, b, pl, I, R, O, sc⟩ := j'
    refine Lw_head sc hL hi (fun _ => ke h j) (fun z => Cs_all j z hL (fun h1 j1 => ?_))
    refine e_inc (ls' := [.ref 0, .ref 4, .ref 69, .int (nI (i + 6))]) o_267_1279 rfl (nI_add i 6) rfl ?_
    refine e_go o_267_1282 ?_
    exact ih (i + 6) h1 (by omega) z j1
/-- room: rows that grow are at most so long -/
theorem rm_le {h : XH} (rm : RmOk h) : xS h ≤ 7302250 ∧ xT h ≤ 600004 := by
  obtain ⟨r1, r2, r3⟩ := rm
  have b2 : ∀ q ∈ shG, gl h q ≤ if q.1 = 49 then 245 else if q.2.1 = 11 ∨ q.2.1 = 12 then 4099 else 65536 := by
    intro q hq
    have := r3 q hq
    unfold okL at this
    split at this
    · rename_i z; rw [if_pos z]; omega
    · rename_i z
      rw [if_neg z]
      split at this
      · rename_i z2; rw [if_pos z2]; omega
      · rename_i z2
        rw [if_neg z2]
        obtain ⟨e, he, e2⟩ := this
        rw [e2]
        exact Nat.pow_le_pow_right (by decide) he
  have k : ∀ (l : List (Nat × Nat × Nat × Nat)) (g : Nat × Nat × Nat × Nat → Nat), (∀ q ∈ l, gl h q ≤ g q) → (l.map (gl h)).sum ≤ (l.map g).sum := by
    intro l g
    induction l with
    | nil => intro _; exact Nat.le_refl _
    | cons q t ih =>
      intro hl
      have h1 := hl q List.mem_cons_self
      have h2 := ih (fun x hx => hl x (List.mem_cons_of_mem _ hx))
      rw [List.map_cons, List.map_cons, List.sum_cons, List.sum_cons]
      omega
  have hs := k shG _ b2
  have hv : (shG.map (fun q : Nat × Nat × Nat × Nat => if q.1 = 49 then 245 else if q.2.1 = 11 ∨ q.2.1 = 12 then 4099 else 65536)).sum = 401659 := by decide +kernel
  rw [hv] at hs
  omega
theorem x_whole (hL : L ≤ 3072) : Ev 267 0 [.ref 0, .null, .null, .null] [] (h_ini L xs) (fun v h' => v = .int 1 ∧ RmOk h') := by
  refine s_new (t := 4) o_267_0 rfl (fun h1 e1 => ?_)
  subst e1
  refine e_dup o_267_3 rfl ?_
  refine e_clV (as := [.ref 4]) (rest := [.ref 4]) (K := fun h1 => h1 = cH L xs) o_267_4 rfl rfl (x_okd cl_267_0 ml_0 (Nat.le_of_ble_eq_true rfl) (Nat.le_of_ble_eq_true rfl)) rfl (K_0 ⟨rfl, rfl⟩) ?_
  rintro h1 rfl
  refine e_as (ls' := [.ref 0, .ref 4, .null, .null]) o_267_7 (Nat.le_of_ble_eq_true rfl) rfl ?_
  refine s_new (t := 69) o_267_8 rfl (fun h1 e1 => ?_)
  subst e1
  refine e_dup o_267_11 rfl ?_
  refine e_clV (as := [.ref 69]) (rest := [.ref 69]) (K := fun h1 => JJ xs L h1) o_267_12 rfl rfl (x_okd cl_267_158 ml_158 (Nat.le_of_ble_eq_true rfl) (Nat.le_of_ble_eq_true rfl)) rfl (K_158a (K_158b (K_158c (c_new2 (f := fun _ _ => 0) (hf := fun _ _ => 0) (q := fun _ => (0, 0, 0)) (b := fun _ => 0) (fun h I R e0 eN eK => ⟨rfl, ?_⟩))))) ?_
  · refine ⟨T0, 14, 0, _, 0, _, _, _, 0, _, 0, _, _, I, R, ⟨rOk_set T0_A (rOk_t T0_A), fun k hk => absurd hk (Nat.not_lt_zero _), fun s _ z => (by cases z), fun _ => 0, fun _ => show 0 < 256 by decide, fun i hi => absurd hi (Nat.not_lt_zero _)⟩, ?_, ?_, ?_⟩
    · rw [eK, rc_sim.1]; exact rc_K0
    · rw [eN]; exact rc_c0.2.1
    · rw [e0]; exact rc_c0.1
  · intro h1 j
    refine e_as (ls' := [.ref 0, .ref 4, .ref 69, .null]) o_267_15 (Nat.le_of_ble_eq_true rfl) rfl ?_
    refine e_c 0 o_267_16 rfl ?_
    refine e_is (ls' := [.ref 0, .ref 4, .ref 69, .int 0]) o_267_17 (Nat.le_of_ble_eq_true rfl) rfl ?_
    exact l_wlaw hL (fun h j => ⟨rfl, by obtain ⟨T, c, l, r, n, f, hb, hf, sn, q, tl, b, pl, I, R, O, sc⟩ := j; exact I.1.2.2.1⟩) L 0 h1 (by omega) (Nat.zero_le _) j
end LAW
