/-! READING: an expression of the one side -/
section CEY
variable {it : Nat} {B : Nat → Nat} {n : Nat} {h h0 : XH} {m : Md} {a : Nat} {sf : Option (Nat × Nat)} {cs rs : List Cd} {Q : Value → XH → Prop}
theorem c_takeE {x : Int32} {e : Nat × Nat} {K : Int32 → XH → Prop} (r : RC it B n (.error e) h) (k : K (nI 0) h) : ClI 26 [.ref 6, .int x] h K := by
  refine B_26_0 r.sh r.i2 r.r ?_
  obtain ⟨e1, e2, e3, e4, e5, e6, e7⟩ := r.2
  have ne : ¬ nI e.1 = (0 : Int32) := fun q => by have := (nI_eq (a := e.1) (b := 0) (by omega) (by decide)).mp q; omega
  rw [e4]
  exact ⟨fun _ => ⟨fun _ => ⟨fun z => absurd z ne, fun _ => ⟨_, rfl, k⟩⟩, fun z => absurd ne z⟩, fun z => absurd ne z⟩
theorem l_xerr {e : Nat × Nat} {lw x2 x3 x4 : Int32} (r : RC it B n (.error e) h) (kk : Q .null h) : Ev 34 12 [.ref 6, .int lw, .int x2, .int x3, .int x4, .null] [] h Q := by
  have e4 : xI h 6 1 = nI e.1 := r.2.2.2.2.1
  have e1 : 1 ≤ e.1 := r.2.1
  have e2 : e.1 < 20 := r.2.2.1
  have ne : ¬ xI h 6 1 = (0 : Int32) := fun q => by rw [e4] at q; have := (nI_eq (a := e.1) (b := 0) (by omega) (by decide)).mp q; omega
  exact B_34_12 r.sh r.i2 r.r ⟨fun _ => B_34_180 r.sh r.i2 r.r kk, fun _ => ⟨fun _ => B_34_180 r.sh r.i2 r.r kk, fun z => absurd ne z⟩⟩
theorem l_x167e {e : Nat × Nat} {lw x2 x3 x4 x5 : Int32} (r : RC it B n (.error e) h) (kk : Q .null h) : Ev 34 167 [.ref 6, .int lw, .int x2, .int x3, .int x4, .int x5] [] h Q :=
  B_34_167 r.sh r.i2 r.r (c_takeE r ⟨r.sh, r.r, l_xerr r kk⟩)
theorem tl_len {ws : List Nat} (hw : ws.length ≤ 32) : (if (0 : Int32) < nI ws.length - 1 then nI ws.length - 1 else 0) = nI ws.tail.length := by
  cases ws with
  | nil => decide
  | cons x t =>
    have hw : t.length + 1 ≤ 32 := hw
    have i1 : nI (x :: t).length - (1 : Int32) = nI t.length := by
      show nI (t.length + 1) - (1 : Int32) = _
      rw [show (1 : Int32) = nI 1 from rfl, pk_sub (by omega), Nat.add_sub_cancel]
    rw [i1]
    show _ = nI t.length
    by_cases q : t.length = 0
    · rw [q]; decide
    · exact if_pos (nI_lt (a := 0) (by omega) (by omega))
theorem wl_tl {f : Nat → Int32} {ws : List Nat} (h : wl_is f ws) : wl_is f ws.tail := by
  cases ws with
  | nil => trivial
  | cons x t => exact h.2
theorem popW_in {c : Nat} : ∀ ws : List Nat, ∀ w ∈ popW c ws, w ∈ ws := by
  intro ws
  induction ws with
  | nil => intro w hw; exact hw
  | cons x t ih =>
    intro w hw
    have hw : w ∈ (if c ≤ clo x then popW c t else x :: t) := hw
    split at hw
    · exact List.mem_cons_of_mem _ (ih w hw)
    · exact hw
theorem l_expr {law : Bool} {pg : Nat} {lw : Int32} {M : Md} (hB : ∀ i, B i < 256) (hpg : pg ≤ 6) (hlw : lw = if law = true then 1 else 0) (kk : ∀ h1, EW it h0 h1 → RC it B n M h1 → Q .null h1) :
    ∀ (f ne : Nat) (due : Bool) (ws : List Nat) (a : Nat) (sf : Option (Nat × Nat)) (cs rs : List Cd) (h : XH), f ≤ 401 → ne ≤ 6 → EW it h0 h → RC it B n (.ok (a, sf, cs, rs)) h → WT ws h → xI h 6 6 = nI pg → M = xpr (kS B n) (pS B n) (vS B n) law pg f ne due ws (a, sf, cs, rs) → Ev 34 12 [.ref 6, .int lw, .int (nI ne), .int (nI (if due = true then 1 else 0)), .int (nI (401 - f)), .null] [] h Q := by
  intro f
  induction f with
  | zero =>
    intro ne due ws a sf cs rs h hf hne fx r w e66 eM
    have eM : M = .ok (a, sf, cs, rs) := eM
    refine B_34_12 r.sh r.i2 r.r ⟨fun _ => B_34_180 r.sh r.i2 r.r (kk h fx (by rw [eM]; exact r)), fun z => absurd (nI_lt (a := 400) (b := 401) (by decide) (by decide)) z⟩
  | succ f ih =>
    intro ne due ws a sf cs rs h hf hne fx r w e66 eM
    have hit := r.i2
    have k9 := r.k
    have e1 : xI h 6 1 = nI 0 := r.2.1
    have e5 : xI h 6 5 = nI a := r.2.2.2.1
    have kl := kS_lt (n := n) hB a
    have e : ∀ y, y < 256 → (nI (kS B n a) = nI y ↔ kS B n a = y) := fun y hy => nI_eq (by omega) (by omega)
    have fin : ∀ (er : Nat × Nat) (h' : XH), EW it h0 h' → RC it B n (.error er) h' → M = .error er → Q .null h' := fun er h' f' r' em => kk h' f' (by rw [em]; exact r')
    have tk : ∀ (ne' : Nat) (due' : Bool) (ws' : List Nat) (sf' : Option (Nat × Nat)) (cs' rs' : List Cd) (h' : XH), ne' ≤ 6 → EW it h0 h' → RC it B n (.ok (a, sf', cs', rs')) h' → WT ws' h' → xI h' 6 6 = nI pg → 2 ≤ kS B n a → (M = if a < 400 then xpr (kS B n) (pS B n) (vS B n) law pg f ne' due' ws' (a + 1, sf', cs', rs') else .error (2, pS B n a)) → Ev 34 167 [.ref 6, .int lw, .int (nI ne'), .int (nI (if due' = true then 1 else 0)), .int (nI (401 - (f + 1))), .int (nI (kS B n a))] [] h' Q := by
      intro ne' due' ws' sf' cs' rs' h' hne' f' r' w' e66' k2 em
      have es : tkS (kS B n) (pS B n) (kS B n a) (.ok (a, sf', cs', rs')) = if a < 400 then .ok (a + 1, sf', cs', rs') else .error (2, pS B n a) := by
        show (if kS B n a = kS B n a then _ else _) = _
        rw [if_pos rfl]
      refine B_34_167 r'.sh r'.i2 r'.r (c_take hB kl k2 r' (fun h1 c ec f1 r1 => ⟨r1.sh, r1.r, ?_⟩) (fun h1 er ec f1 r1 => ⟨r1.sh, r1.r, ?_⟩))
      · rw [es] at ec r1
        by_cases a4 : a < 400
        · rw [if_pos a4] at r1 em
          rw [nI_1, show 401 - (f + 1) + 1 = 401 - f by omega]
          exact ih ne' due' ws' (a + 1) sf' cs' rs' h1 (by omega) hne' (f'.tr f1.w) r1 (w'.ex hit f1) (by rw [f1.2.1 6 (by decide)]; exact e66') em
        · rw [if_neg a4] at ec; cases ec
      · rw [es] at ec r1
        by_cases a4 : a < 400
        · rw [if_pos a4] at ec; cases ec
        · rw [if_neg a4] at r1 em
          exact l_xerr r1 (fin _ h1 (f'.tr f1.w) r1 em)
    have n4 : ¬ (400 : Int32) < nI (401 - (f + 1)) := nI_nlt (a := 400) (b := 401 - (f + 1)) (by omega) (by decide)
    have eM : M = if due = true ∧ kS B n a = 40 then (if ne < 6 then (if a < 400 then xpr (kS B n) (pS B n) (vS B n) law pg f (ne + 1) true (pu ws 40) (a + 1, sf, cs, rs) else .error (2, pS B n a)) else .error (2, pS B n a))
      else if due = true then (match unS (kS B n) (pS B n) (vS B n) law pg (.ok (a, sf, cs, rs)) with
        | .error e => .error e
        | .ok (_, sf', cs', rs') => if a < 400 then xpr (kS B n) (pS B n) (vS B n) law pg f ne false ws (a + 1, sf', cs', rs') else .error (2, pS B n a))
      else if 0 < clo (kS B n a) then (if a < 400 then xpr (kS B n) (pS B n) (vS B n) law pg f ne true (pu (pop (clo (kS B n a)) ws cs rs).1 (kS B n a)) (a + 1, sf, (pop (clo (kS B n a)) ws cs rs).2.1, (pop (clo (kS B n a)) ws cs rs).2.2) else .error (2, pS B n a))
      else if kS B n a = 41 ∧ 0 < ne then (if a < 400 then xpr (kS B n) (pS B n) (vS B n) law pg f (ne - 1) false (pop 1 ws cs rs).1.tail (a + 1, sf, (pop 1 ws cs rs).2.1, (pop 1 ws cs rs).2.2) else .error (2, pS B n a))
      else if 0 < ne then .error (1, pS B n a)
      else .ok (a, sf, (pop 1 ws cs rs).2.1, (pop 1 ws cs rs).2.2) := eM
    refine B_34_12 r.sh r.i2 r.r ?_
    rw [e1, e5, tn_nI (show a < 2 ^ 31 by omega), k9.1]
    refine ⟨fun z => absurd z n4, fun _ => ⟨fun z => absurd rfl z, fun _ => ⟨inb (by omega) (by decide), ?_⟩⟩⟩
    cases due with
    | true =>
      have unit : ¬ kS B n a = 40 → Ev 34 72 [.ref 6, .int lw, .int (nI ne), .int (nI (if true = true then 1 else 0)), .int (nI (401 - (f + 1))), .int (nI (kS B n a))] [] h Q := by
        intro k40
        rw [if_neg (fun q => k40 q.2), if_pos rfl] at eM
        refine B_34_72 r.sh r.i2 r.r ⟨fun z => absurd z (by decide), fun _ => ?_⟩
        subst hlw
        refine c_unit hB hpg r e66 (fun h1 f1 r1 => ⟨r1.sh, r1.r, ?_⟩)
        have w1 := w.ex hit f1
        have e61 : xI h1 6 6 = nI pg := by rw [f1.2.1 6 (by decide)]; exact e66
        have ue : unS (kS B n) (pS B n) (vS B n) law pg (.ok (a, sf, cs, rs)) = match unC (kS B n) (vS B n) pg a with
          | none => .error (1, pS B n a)
          | some c => .ok (a, if law = true ∧ kS B n a = 114 then sfO sf (some (6, pS B n a)) else sf, apC cs c, rs ++ [c]) := rfl
        have k2 : ∀ c, unC (kS B n) (vS B n) pg a = some c → 2 ≤ kS B n a := fun c hc => by
          unfold unC at hc
          split at hc
          · omega
          · split at hc
            · omega
            · split at hc
              · omega
              · split at hc
                · omega
                · cases hc
        cases hu : unC (kS B n) (vS B n) pg a with
        | none =>
          rw [hu] at ue
          rw [ue] at r1 eM
          exact l_x167e r1 (fin _ h1 (fx.tr f1.w) r1 eM)
        | some c =>
          rw [hu] at ue
          rw [ue] at r1 eM
          exact tk ne false ws _ _ _ h1 hne (fx.tr f1.w) r1 w1 e61 (k2 c hu) eM
      refine ⟨fun z => absurd z (by decide), fun _ => ⟨fun z => unit (fun q => z (by rw [q]; rfl)), fun z => ?_⟩⟩
      have k40 := (e 40 (by decide)).mp (Classical.not_not.mp z)
      rw [if_pos ⟨rfl, k40⟩] at eM
      refine ⟨fun y => ?_, fun y => ?_⟩
      · have n6 : ne < 6 := (nI_ltI (b := 6) (by omega) (by decide)).mp y
        rw [if_pos n6] at eM
        refine B_34_60 r.sh r.i2 r.r (c_letW kl r w (fun h1 f1 r1 w1 => ⟨r1.sh, r1.r, ?_⟩))
        rw [nI_1]
        rw [k40] at w1
        exact tk (ne + 1) true (pu ws 40) sf cs rs h1 (by omega) (fx.tr f1) r1 w1 (by rw [f1.2.1 6 (by decide)]; exact e66) (by omega) eM
      · have n6 : ¬ ne < 6 := fun q => y (nI_lt (b := 6) q (by decide))
        rw [if_neg n6] at eM
        refine c_blame (x := 2) (by decide) r (fun h1 f1 r1 => ⟨r1.sh, r1.r, ?_⟩)
        refine B_34_60 r1.sh r1.i2 r1.r (c_letW kl r1 (w.ex hit f1) (fun h2 f2 r2 w2 => ⟨r2.sh, r2.r, ?_⟩))
        exact l_x167e r2 (fin _ h2 ((fx.tr f1.w).tr f2) r2 eM)
    | false =>
      rw [if_neg (fun q => by cases q.1), if_neg (by decide)] at eM
      refine ⟨fun _ => ?_, fun z => absurd rfl z⟩
      refine B_34_72 r.sh r.i2 r.r ⟨fun _ => c_clo r.sh kl ⟨r.sh, r.r, fun z => ?_, fun z => ?_⟩, fun z => absurd rfl z⟩
      · have c0 : ¬ 0 < clo (kS B n a) := fun q => nI_ge (a := 0) (b := clo (kS B n a)) q (by have := clo_le (kS B n a); omega) z
        rw [if_neg c0] at eM
        have close : ¬ (kS B n a = 41 ∧ 0 < ne) → Ev 34 152 [.ref 6, .null, .int (nI ne), .null, .null, .null] [] h Q := by
          intro nq
          rw [if_neg nq] at eM
          refine B_34_152 r.sh r.i2 r.r ⟨fun y => ?_, fun y => ?_⟩
          · have n0 : ¬ 0 < ne := fun q => nI_ge (a := 0) (b := ne) q (by omega) y
            rw [if_neg n0] at eM
            refine B_34_161 r.sh r.i2 r.r (c_popC (c := 1) (by decide) r w (fun h1 f1 r1 w1 => ⟨r1.sh, r1.r, kk h1 (fx.tr f1) ?_⟩))
            rw [eM]
            exact r1
          · have n0 : 0 < ne := by
              apply Classical.byContradiction
              intro q
              exact y (nI_le (a := ne) (b := 0) (by omega) (by decide))
            rw [if_pos n0] at eM
            refine c_blame (x := 1) (by decide) r (fun h1 f1 r1 => ⟨r1.sh, r1.r, ?_⟩)
            refine B_34_161 r1.sh r1.i2 r1.r (c_popC (c := 1) (by decide) r1 (w.ex hit f1) (fun h2 f2 r2 w2 => ⟨r2.sh, r2.r, kk h2 ((fx.tr f1.w).tr f2) ?_⟩))
            rw [eM]
            exact r2
        refine ⟨fun y => close (fun q => y (by rw [q.1]; rfl)), fun y => ⟨fun x => close (fun q => nI_ge (a := 0) (b := ne) q.2 (by omega) x), fun x => ?_⟩⟩
        have k41 := (e 41 (by decide)).mp (Classical.not_not.mp y)
        have n0 : 0 < ne := by
          apply Classical.byContradiction
          intro q
          exact x (nI_le (a := ne) (b := 0) (by omega) (by decide))
        rw [if_pos ⟨k41, n0⟩] at eM
        refine c_popC (c := 1) (by decide) r w (fun h1 f1 r1 w1 => ⟨r1.sh, r1.r, ?_⟩)
        obtain ⟨u1, u2, u3, u4⟩ := w1
        rw [u2, tl_len u1, show nI ne + (-1) = nI (ne - 1) from z_m1 (by omega)]
        rw [pop_W] at eM
        refine tk (ne - 1) false (popW 1 ws).tail sf _ _ _ (by omega) ((fx.tr f1).f67 hit) (RC.w7 r1) ⟨?_, xI_ss, by rw [xI_n (by decide)]; exact wl_tl u3, fun y hy => u4 y (List.mem_of_mem_tail hy)⟩ (by rw [xI_sd (by decide), f1.2.1 6 (by decide)]; exact e66) (by omega) eM
        rw [List.length_tail]
        omega
      · have c0 : 0 < clo (kS B n a) := by
          apply Classical.byContradiction
          intro q
          exact z (nI_le (a := clo (kS B n a)) (b := 0) (by omega) (by decide))
        rw [if_pos c0, pop_W] at eM
        have k2 : 2 ≤ kS B n a := by
          apply Classical.byContradiction
          intro q
          unfold clo at c0
          rw [if_neg (by omega), if_neg (by omega), if_neg (by omega), if_neg (by omega)] at c0
          omega
        refine c_clo r.sh kl ⟨r.sh, r.r, c_popC (c := clo (kS B n a)) ⟨c0, clo_le _⟩ r w (fun h1 f1 r1 w1 => ⟨r1.sh, r1.r, c_letW kl r1 w1 (fun h2 f2 r2 w2 => ⟨r2.sh, r2.r, ?_⟩)⟩)⟩
        exact tk ne true _ sf _ _ h2 hne ((fx.tr f1).tr f2) r2 w2 (by rw [f2.2.1 6 (by decide), f1.2.1 6 (by decide)]; exact e66) k2 eM
theorem c_expr {law : Bool} {pg : Nat} {K : XH → Prop} (hB : ∀ i, B i < 256) (hpg : pg ≤ 6) (r : RC it B n m h) (e66 : xI h 6 6 = nI pg) (k : ∀ h1, EW it h h1 → RC it B n (exS (kS B n) (pS B n) (vS B n) law pg m) h1 → K h1) : ClV 34 [.ref 6, .int (if law = true then 1 else 0)] h K := by
  have hit := r.i2
  have f7 : EW it h (xsI h 6 7 (nI 0)) := EW.rf.f67 hit
  have r7 : RC it B n m (xsI h 6 7 (nI 0)) := RC.w7 r
  refine B_34_0 r.sh r.i2 r.r ?_
  match m, r, r7, k with
  | .error e, r, r7, k => exact l_xerr r7 ⟨rfl, k _ f7 r7⟩
  | .ok (a, sf, cs, rs), r, r7, k =>
    exact l_expr (h0 := h) (law := law) (pg := pg) (M := exS (kS B n) (pS B n) (vS B n) law pg (.ok (a, sf, cs, rs))) hB hpg rfl (fun h1 f1 r1 => ⟨rfl, k h1 f1 r1⟩) 401 0 true [] a sf cs rs _ (by decide) (by decide) f7 r7 ⟨by decide, xI_ss, trivial, fun w hw => by cases hw⟩ (by rw [xI_sd (by decide)]; exact e66) rfl
end CEY
