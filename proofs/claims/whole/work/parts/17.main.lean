/-! THE PURE MACHINE'S RUNS ARE THE MACHINE'S -/
section GM
variable {p : Program} {l : Launch} {e : Env} {R : Room} {s : State} {m : MethodId} {args : Array Value} {below : List Frame} {meth : Method} {c : Code} {Q : State → Prop}
variable {b0 : Nat} {ra : Nat → Nat} {cA : Nat → ClassId} {dC : Nat → ClassId} {dI : Nat → Nat → Nat} {L : Nat} {xs : Nat → Int32} {mi t0 s0 pc : Nat} {ls st : List Value} {h : XH}
theorem g_step (C : g_c mi p s m args meth c) (G : g_s b0 ra cA dC dI L xs s) (hR : m_fr mi ≤ R.frames ∧ m_lo mi ≤ R.locals) (ht : t0 ≤ xT h) (hz : s0 ≤ xS h) {code : Nat} {imm : Int} {x y nx pc' : Nat} {sw : List (Int × Nat)} {ls' st' : List Value} {h' : XH} (hc : xT h' - t0 ≤ R.cells) (hsl : xS h' - s0 ≤ R.slots) (hop : x_ops mi pc = some (code, imm, x, y, nx, sw)) (hn : code ≠ 40 ∨ ∃ j len, decode (m_b mi) pc = .ok (.getstatic j, len)) (hcode : code < 50) (hs : x_step code imm x y nx sw x_nf ls st h = some (pc', ls', st', h')) (k : g_K p l e R s m args below meth c b0 ra cA dC dI L xs mi t0 s0 Q pc' ls' st' h') : g_K p l e R s m args below meth c b0 ra cA dC dI L xs mi t0 s0 Q pc ls st h := by
  unfold x_ops at hop
  split at hop
  · rename_i q hd
    obtain ⟨i, len⟩ := q
    dsimp only at hop
    have hn' : code ≠ 40 ∨ ∃ j, i = .getstatic j := by
      rcases hn with q | ⟨j, len', q⟩
      · exact Or.inl q
      · rw [hd] at q
        cases q
        exact Or.inr ⟨j, rfl⟩
    cases i
    case iconst => exact gs_iconst C G hR ht hz hc hsl hd hop hn' hcode hs k
    case bipush => exact gs_bipush C G hR ht hz hc hsl hd hop hn' hcode hs k
    case sipush => exact gs_sipush C G hR ht hz hc hsl hd hop hn' hcode hs k
    case iload_n => exact gs_iload_n C G hR ht hz hc hsl hd hop hn' hcode hs k
    case iload => exact gs_iload C G hR ht hz hc hsl hd hop hn' hcode hs k
    case aload_n => exact gs_aload_n C G hR ht hz hc hsl hd hop hn' hcode hs k
    case aload => exact gs_aload C G hR ht hz hc hsl hd hop hn' hcode hs k
    case lload_n => exact gs_lload_n C G hR ht hz hc hsl hd hop hn' hcode hs k
    case lload => exact gs_lload C G hR ht hz hc hsl hd hop hn' hcode hs k
    case istore_n => exact gs_istore_n C G hR ht hz hc hsl hd hop hn' hcode hs k
    case istore => exact gs_istore C G hR ht hz hc hsl hd hop hn' hcode hs k
    case astore_n => exact gs_astore_n C G hR ht hz hc hsl hd hop hn' hcode hs k
    case astore => exact gs_astore C G hR ht hz hc hsl hd hop hn' hcode hs k
    case lstore_n => exact gs_lstore_n C G hR ht hz hc hsl hd hop hn' hcode hs k
    case lstore => exact gs_lstore C G hR ht hz hc hsl hd hop hn' hcode hs k
    case iadd => exact gs_iadd C G hR ht hz hc hsl hd hop hn' hcode hs k
    case isub => exact gs_isub C G hR ht hz hc hsl hd hop hn' hcode hs k
    case imul => exact gs_imul C G hR ht hz hc hsl hd hop hn' hcode hs k
    case iand => exact gs_iand C G hR ht hz hc hsl hd hop hn' hcode hs k
    case ior => exact gs_ior C G hR ht hz hc hsl hd hop hn' hcode hs k
    case ixor => exact gs_ixor C G hR ht hz hc hsl hd hop hn' hcode hs k
    case ishl => exact gs_ishl C G hR ht hz hc hsl hd hop hn' hcode hs k
    case ishr => exact gs_ishr C G hR ht hz hc hsl hd hop hn' hcode hs k
    case iushr => exact gs_iushr C G hR ht hz hc hsl hd hop hn' hcode hs k
    case ladd => exact gs_ladd C G hR ht hz hc hsl hd hop hn' hcode hs k
    case lsub => exact gs_lsub C G hR ht hz hc hsl hd hop hn' hcode hs k
    case lmul => exact gs_lmul C G hR ht hz hc hsl hd hop hn' hcode hs k
    case land => exact gs_land C G hR ht hz hc hsl hd hop hn' hcode hs k
    case lor => exact gs_lor C G hR ht hz hc hsl hd hop hn' hcode hs k
    case lshl => exact gs_lshl C G hR ht hz hc hsl hd hop hn' hcode hs k
    case lushr => exact gs_lushr C G hR ht hz hc hsl hd hop hn' hcode hs k
    case i2l => exact gs_i2l C G hR ht hz hc hsl hd hop hn' hcode hs k
    case l2i => exact gs_l2i C G hR ht hz hc hsl hd hop hn' hcode hs k
    case i2b => exact gs_i2b C G hR ht hz hc hsl hd hop hn' hcode hs k
    case i2c => exact gs_i2c C G hR ht hz hc hsl hd hop hn' hcode hs k
    case lcmp => exact gs_lcmp C G hR ht hz hc hsl hd hop hn' hcode hs k
    case idiv => exact gs_idiv C G hR ht hz hc hsl hd hop hn' hcode hs k
    case irem => exact gs_irem C G hR ht hz hc hsl hd hop hn' hcode hs k
    case lconst => exact gs_lconst C G hR ht hz hc hsl hd hop hn' hcode hs k
    case ldc => exact gs_ldc C G hR ht hz hc hsl hd hop hn' hcode hs k
    case ldc_w => exact gs_ldc_w C G hR ht hz hc hsl hd hop hn' hcode hs k
    case goto => exact gs_goto C G hR ht hz hc hsl hd hop hn' hcode hs k
    case if_icmp => exact gs_if_icmp C G hR ht hz hc hsl hd hop hn' hcode hs k
    case ifCond => exact gs_ifCond C G hR ht hz hc hsl hd hop hn' hcode hs k
    case dup => exact gs_dup C G hR ht hz hc hsl hd hop hn' hcode hs k
    case pop => exact gs_pop C G hR ht hz hc hsl hd hop hn' hcode hs k
    case dup2 => exact gs_dup2 C G hR ht hz hc hsl hd hop hn' hcode hs k
    case getfield => exact gs_getfield C G hR ht hz hc hsl hd hop hn' hcode hs k
    case putfield => exact gs_putfield C G hR ht hz hc hsl hd hop hn' hcode hs k
    case iaload => exact gs_iaload C G hR ht hz hc hsl hd hop hn' hcode hs k
    case laload => exact gs_laload C G hR ht hz hc hsl hd hop hn' hcode hs k
    case baload => exact gs_baload C G hR ht hz hc hsl hd hop hn' hcode hs k
    case lastore => exact gs_lastore C G hR ht hz hc hsl hd hop hn' hcode hs k
    case iastore => exact gs_iastore C G hR ht hz hc hsl hd hop hn' hcode hs k
    case bastore => exact gs_bastore C G hR ht hz hc hsl hd hop hn' hcode hs k
    case new => exact gs_new C G hR ht hz hc hsl hd hop hn' hcode hs k
    case getstatic => exact gs_getstatic C G hR ht hz hc hsl hd hop hn' hcode hs k
    case invokestatic => exact gs_invokestatic C G hR ht hz hc hsl hd hop hn' hcode hs k
    case invokespecial => exact gs_invokespecial C G hR ht hz hc hsl hd hop hn' hcode hs k
    case invokevirtual => exact gs_invokevirtual C G hR ht hz hc hsl hd hop hn' hcode hs k
    case tableswitch => exact gs_tableswitch C G hR ht hz hc hsl hd hop hn' hcode hs k
    case lookupswitch => exact gs_lookupswitch C G hR ht hz hc hsl hd hop hn' hcode hs k
    case iinc => exact gs_iinc C G hR ht hz hc hsl hd hop hn' hcode hs k
    case ldc2_w => exact gs_ldc2 C G hR ht hz hc hsl hd hop hn' hcode hs k
    case arraylength => exact gs_alen C G hR ht hz hc hsl hd hop hn' hcode hs k
    case newarray t =>
      cases t
      case int => exact gs_newarray_int C G hR ht hz hc hsl hd hop hn' hcode hs k
      case byte => exact gs_newarray_byte C G hR ht hz hc hsl hd hop hn' hcode hs k
      case boolean => exact gs_newarray_boolean C G hR ht hz hc hsl hd hop hn' hcode hs k
      case long => exact gs_newarray_long C G hR ht hz hc hsl hd hop hn' hcode hs k
      all_goals (cases hop)
    case ireturn => unfold x_tr at hop; dsimp only at hop; split at hop <;> first | (obtain ⟨_, e⟩ := x_op_some hop; cases e; exact absurd hcode (by decide)) | (cases hop; done)
    case lreturn => unfold x_tr at hop; dsimp only at hop; split at hop <;> first | (obtain ⟨_, e⟩ := x_op_some hop; cases e; exact absurd hcode (by decide)) | (cases hop; done)
    case areturn => unfold x_tr at hop; dsimp only at hop; split at hop <;> first | (obtain ⟨_, e⟩ := x_op_some hop; cases e; exact absurd hcode (by decide)) | (cases hop; done)
    case return_ => unfold x_tr at hop; dsimp only at hop; split at hop <;> first | (obtain ⟨_, e⟩ := x_op_some hop; cases e; exact absurd hcode (by decide)) | (cases hop; done)
    all_goals (cases hop)
  · cases hop
theorem x_fget_c {q : Option (Nat × Nat × Nat × Nat)} {n' code x y nx : Nat} {imm : Int} {sw : List (Int × Nat)} (hop : x_fget q n' = some (code, imm, x, y, nx, sw)) : code = 26 ∨ code = 27 := by
  unfold x_fget at hop
  split at hop
  · rename_i ci j k ps
    by_cases hk : k = 2
    · rw [if_pos hk] at hop; cases hop; exact Or.inr rfl
    · rw [if_neg hk] at hop; cases hop; exact Or.inl rfl
  · cases hop
theorem x_fput_c {oc : Nat} {nm : String} {q : Option (Nat × Nat × Nat × Nat)} {n' code x y nx : Nat} {imm : Int} {sw : List (Int × Nat)} (hop : x_fput oc nm q n' = some (code, imm, x, y, nx, sw)) : code = 28 ∨ code = 29 ∨ code = 30 := by
  unfold x_fput at hop
  split at hop
  · rename_i ci j k ps
    split at hop
    · by_cases hk : k = 0
      · rw [if_pos hk] at hop; cases hop; exact Or.inl rfl
      · rw [if_neg hk] at hop
        by_cases hk : k = 1
        · rw [if_pos hk] at hop; cases hop; exact Or.inr (Or.inl rfl)
        · rw [if_neg hk] at hop; cases hop; exact Or.inr (Or.inr rfl)
    · cases hop
  · cases hop
theorem x_call_50 {k : Nat} {q : Option (Nat × Nat × Nat × Nat)} {n' x y nx : Nat} {imm : Int} {sw : List (Int × Nat)} (hop : x_call k q n' = some (50, imm, x, y, nx, sw)) : nx = n' ∧ y = m_n x ∧ imm = (k : Int) ∧ ∃ n ps, q = some (x, k, n, ps) := by
  unfold x_call at hop
  split at hop
  · rename_i t kd n ps
    by_cases hk : kd = 3
    · rw [if_pos hk] at hop
      repeat' split at hop
      all_goals (cases hop)
    · rw [if_neg hk] at hop
      split at hop
      · rename_i hkk
        cases hop
        subst hkk
        exact ⟨rfl, rfl, rfl, n, ps, rfl⟩
      · cases hop
  · cases hop
theorem x_tr_call {oc : Nat} {nm : String} {rt : Option FieldType} {i : Instr} {len x y nx : Nat} {imm : Int} {sw : List (Int × Nat)} (hop : x_tr oc nm rt pc i len = some (50, imm, x, y, nx, sw)) : len = 3 ∧ nx = pc + 3 ∧ y = m_n x ∧ ∃ (j kd n ps : Nat), ((i = .invokevirtual j ∧ kd = 0) ∨ (i = .invokestatic j ∧ kd = 1) ∨ (i = .invokespecial j ∧ kd = 2)) ∧ imm = (kd : Int) ∧ x_lq oc j cp_M = some (x, kd, n, ps) := by
  unfold x_tr at hop
  cases i
  case invokevirtual j =>
    dsimp only at hop
    split at hop
    · obtain ⟨h1, h2, h3, n, ps, h4⟩ := x_call_50 hop
      exact ⟨by assumption, h1, h2, j, 0, n, ps, Or.inl ⟨rfl, rfl⟩, h3, h4⟩
    · cases hop
  case invokestatic j =>
    dsimp only at hop
    split at hop
    · obtain ⟨h1, h2, h3, n, ps, h4⟩ := x_call_50 hop
      exact ⟨by assumption, h1, h2, j, 1, n, ps, Or.inr (Or.inl ⟨rfl, rfl⟩), h3, h4⟩
    · cases hop
  case invokespecial j =>
    dsimp only at hop
    split at hop
    · obtain ⟨h1, h2, h3, n, ps, h4⟩ := x_call_50 hop
      exact ⟨by assumption, h1, h2, j, 2, n, ps, Or.inr (Or.inr ⟨rfl, rfl⟩), h3, h4⟩
    · cases hop
  all_goals (dsimp only at hop)
  all_goals first
    | (cases hop; done)
    | (obtain ⟨_, e⟩ := x_op_some hop; cases e; done)
    | (obtain ⟨_, _, e⟩ := x_jmp_some hop; cases e; done)
    | (split at hop; (rcases x_fget_c hop with e | e <;> cases e); (cases hop))
    | (split at hop; (rcases x_fput_c hop with e | e | e <;> cases e); (cases hop))
    | ((repeat' (split at hop)); all_goals first | (cases hop; done) | (obtain ⟨_, e⟩ := x_op_some hop; cases e; done))
theorem x_tr_ret {oc : Nat} {nm : String} {rt : Option FieldType} {i : Instr} {len x y nx : Nat} {imm : Int} {sw : List (Int × Nat)} (hop : x_tr oc nm rt pc i len = some (60, imm, x, y, nx, sw)) : len = 1 ∧ ((i = .ireturn ∧ rt = some .int ∧ x = 1) ∨ (i = .ireturn ∧ rt = some .boolean ∧ x = 2) ∨ (i = .lreturn ∧ rt = some .long ∧ x = 3) ∨ (i = .areturn ∧ (∃ t, rt = some (.array t)) ∧ x = 4) ∨ (i = .return_ ∧ rt = none ∧ x = 0)) := by
  unfold x_tr at hop
  cases i
  case ireturn =>
    dsimp only at hop
    split at hop
    · obtain ⟨q, e⟩ := x_op_some hop; cases e; exact ⟨of_decide_eq_true q, Or.inl ⟨rfl, rfl, rfl⟩⟩
    · obtain ⟨q, e⟩ := x_op_some hop; cases e; exact ⟨of_decide_eq_true q, Or.inr (Or.inl ⟨rfl, rfl, rfl⟩)⟩
    · cases hop
  case lreturn =>
    dsimp only at hop
    split at hop
    · obtain ⟨q, e⟩ := x_op_some hop; cases e; exact ⟨of_decide_eq_true q, Or.inr (Or.inr (Or.inl ⟨rfl, rfl, rfl⟩))⟩
    · cases hop
  case areturn =>
    dsimp only at hop
    split at hop
    · obtain ⟨q, e⟩ := x_op_some hop; cases e; exact ⟨of_decide_eq_true q, Or.inr (Or.inr (Or.inr (Or.inl ⟨rfl, ⟨_, rfl⟩, rfl⟩)))⟩
    · cases hop
  case return_ =>
    dsimp only at hop
    split at hop
    · obtain ⟨q, e⟩ := x_op_some hop; cases e; exact ⟨of_decide_eq_true q, Or.inr (Or.inr (Or.inr (Or.inr ⟨rfl, rfl, rfl⟩)))⟩
    · cases hop
  all_goals (dsimp only at hop)
  all_goals first
    | (cases hop; done)
    | (obtain ⟨_, e⟩ := x_op_some hop; cases e; done)
    | (obtain ⟨_, _, e⟩ := x_jmp_some hop; cases e; done)
    | (split at hop; (rcases x_fget_c hop with e | e <;> cases e); (cases hop))
    | (split at hop; (rcases x_fput_c hop with e | e | e <;> cases e); (cases hop))
    | (unfold x_call at hop; (repeat' (split at hop)); all_goals (cases hop))
    | ((repeat' (split at hop)); all_goals first | (cases hop; done) | (obtain ⟨_, e⟩ := x_op_some hop; cases e; done))
end GM
theorem x_ret_h {x : Nat} {st : List Value} {h h' : XH} {r : Value} (hr : x_ret x st h = some (r, h')) : h' = h := by
  unfold x_ret at hr
  repeat' split at hr
  all_goals first
    | (cases hr; done)
    | (cases hr; rfl)
theorem x_ret_0 {st : List Value} {h h' : XH} {r : Value} (hr : x_ret 0 st h = some (r, h')) : st = [] ∧ r = .null := by
  unfold x_ret at hr
  split at hr
  all_goals first
    | (exfalso; omega)
    | (cases hr; exact ⟨rfl, rfl⟩)
    | (cases hr; done)
    | (split at hr; all_goals (cases hr))
theorem x_ret_1 {st : List Value} {h h' : XH} {r : Value} (hr : x_ret 1 st h = some (r, h')) : ∃ v, st = [.int v] ∧ r = .int v := by
  unfold x_ret at hr
  split at hr
  all_goals first
    | (exfalso; omega)
    | (cases hr; exact ⟨_, rfl, rfl⟩)
    | (cases hr; done)
    | (split at hr; all_goals (cases hr))
theorem x_ret_2 {st : List Value} {h h' : XH} {r : Value} (hr : x_ret 2 st h = some (r, h')) : ∃ v, (v = 0 ∨ v = 1) ∧ st = [.int v] ∧ r = .int v := by
  unfold x_ret at hr
  split at hr
  all_goals first
    | (exfalso; omega)
    | (cases hr; done)
    | (split at hr
       · cases hr; exact ⟨_, by assumption, rfl, rfl⟩
       · cases hr)
theorem x_ret_3 {st : List Value} {h h' : XH} {r : Value} (hr : x_ret 3 st h = some (r, h')) : ∃ v, st = [.long v] ∧ r = .long v := by
  unfold x_ret at hr
  split at hr
  all_goals first
    | (exfalso; omega)
    | (cases hr; exact ⟨_, rfl, rfl⟩)
    | (cases hr; done)
    | (split at hr; all_goals (cases hr))
theorem x_ret_4 {st : List Value} {h h' : XH} {r : Value} (hr : x_ret 4 st h = some (r, h')) : ∃ v, st = [.ref v] ∧ r = .ref v := by
  unfold x_ret at hr
  split at hr
  all_goals first
    | (exfalso; omega)
    | (cases hr; exact ⟨_, rfl, rfl⟩)
    | (cases hr; done)
    | (split at hr; all_goals (cases hr))
theorem x_run_mono : ∀ (n : Nat) {mi pc : Nat} {ls st : List Value} {h h' : XH} {r : Value}, x_run n mi pc ls st h = some (r, h') → xT h ≤ xT h' ∧ xS h ≤ xS h' := by
  intro n
  induction n with
  | zero => intro mi pc ls st h h' r hr; cases hr
  | succ n ih =>
    intro mi pc ls st h h' r hr
    unfold x_run at hr
    split at hr
    · cases hr
    · split at hr
      · rw [x_ret_h hr]; exact ⟨Nat.le_refl _, Nat.le_refl _⟩
      · split at hr
        · split at hr
          · split at hr
            · rename_i h1 hc
              have a := ih hc
              have b := ih hr
              exact ⟨Nat.le_trans a.1 b.1, Nat.le_trans a.2 b.2⟩
            · cases hr
          · cases hr
        · split at hr
          · split at hr
            · exact ih hr
            · cases hr
          · split at hr
            · rename_i hs
              have a := x_mono hs
              have b := ih hr
              exact ⟨Nat.le_trans a.1 b.1, Nat.le_trans a.2 b.2⟩
            · cases hr
/-- what is asked of the two texts: as the machine's rows would have it (proved apart) -/
def g_px (l : Launch) : Prop := ∀ (p : Program) (e : Env) (R : Room) (s : State) (m : MethodId) (args : Array Value) (below : List Frame) (meth : Method) (c : Code) (Q : State → Prop) (b0 : Nat) (ra : Nat → Nat) (cA dC : Nat → ClassId) (dI : Nat → Nat → Nat) (L : Nat) (xs : Nat → Int32) (mi t0 s0 pc : Nat) (ls st st' : List Value) (h : XH) (code : Nat) (imm : Int) (x y nx : Nat) (sw : List (Int × Nat)),
  g_c mi p s m args meth c → g_s b0 ra cA dC dI L xs s → (m_fr mi ≤ R.frames ∧ m_lo mi ≤ R.locals) → xT h - t0 ≤ R.cells → xS h - s0 ≤ R.slots → x_ops mi pc = some (code, imm, x, y, nx, sw) →
  ((code = 40 ∧ st' = .ref x :: st ∧ ¬ ∃ j len, decode (m_b mi) pc = .ok (.getstatic j, len)) ∨ (code = 51 ∧ x_prim x st h = some st')) →
  g_K p l e R s m args below meth c b0 ra cA dC dI L xs mi t0 s0 Q nx ls st' h → g_K p l e R s m args below meth c b0 ra cA dC dI L xs mi t0 s0 Q pc ls st h
/-- n steps of the pure machine -/
def g_ok (l : Launch) (n : Nat) : Prop := ∀ (mi pc : Nat) (ls st : List Value) (h : XH) (r : Value) (h' : XH), x_run n mi pc ls st h = some (r, h') → ∀ (p : Program) (e : Env) (R : Room) (s : State) (m : MethodId) (args : Array Value) (below : List Frame) (meth : Method) (c : Code) (Q : State → Prop) (b0 : Nat) (ra : Nat → Nat) (cA dC : Nat → ClassId) (dI : Nat → Nat → Nat) (L : Nat) (xs : Nat → Int32) (t0 s0 : Nat),
  g_c mi p s m args meth c → g_s b0 ra cA dC dI L xs s → (m_fr mi ≤ R.frames ∧ m_lo mi ≤ R.locals) → t0 ≤ xT h → s0 ≤ xS h → xT h' - t0 ≤ R.cells → xS h' - s0 ≤ R.slots →
  (∀ (pc : Nat) (ls st : List Value) (imm : Int) (x y nx : Nat) (sw : List (Int × Nat)), x_ops mi pc = some (60, imm, x, y, nx, sw) → x_ret x st h' = some (r, h') → g_K p l e R s m args below meth c b0 ra cA dC dI L xs mi t0 s0 Q pc ls st h') →
  g_K p l e R s m args below meth c b0 ra cA dC dI L xs mi t0 s0 Q pc ls st h
theorem lv_args_fl {b0 : Nat} {ra : Nat → Nat} : ∀ (as : List Value) (k i : Nat) (v : Value), (x_fl as)[i]? = some v → v ≠ .null → (k + i, g_v b0 ra v) ∈ lv_args k (as.map (g_v b0 ra)) := by
  intro as
  induction as with
  | nil => intro k i v hv; simp [x_fl] at hv
  | cons a r ih =>
    intro k i v hv hn
    have hfl : x_fl (a :: r) = (if a.category = 2 then [a, .null] else [a]) ++ x_fl r := by simp [x_fl]
    rw [hfl] at hv
    rw [List.map_cons]
    unfold lv_args
    rw [g_cat]
    by_cases hc : a.category = 2
    · rw [if_pos hc] at hv ⊢
      match i, hv with
      | 0, hv => cases hv; exact List.mem_cons_self
      | 1, hv => cases hv; exact absurd rfl hn
      | i + 2, hv =>
        have := ih (k + 2) i v hv hn
        rw [show k + 2 + i = k + (i + 2) by omega] at this
        exact List.mem_cons_of_mem _ this
    · rw [if_neg hc] at hv ⊢
      match i, hv with
      | 0, hv => cases hv; exact List.mem_cons_self
      | i + 1, hv =>
        have := ih (k + 1) i v hv hn
        rw [show k + 1 + i = k + (i + 1) by omega] at this
        exact List.mem_cons_of_mem _ this
theorem x_fl_len {b0 : Nat} {ra : Nat → Nat} : ∀ (as : List Value), (lg_sl (as.map (g_v b0 ra))).length = (x_fl as).length := by
  intro as
  induction as with
  | nil => rfl
  | cons a r ih =>
    have h1 : lg_sl ((a :: r).map (g_v b0 ra)) = (if (g_v b0 ra a).category = 2 then [.val (g_v b0 ra a), .second] else [.val (g_v b0 ra a)]) ++ lg_sl (r.map (g_v b0 ra)) := by simp [lg_sl]
    have h2 : x_fl (a :: r) = (if a.category = 2 then [a, .null] else [a]) ++ x_fl r := by simp [x_fl]
    rw [h1, h2, List.length_append, List.length_append, ih, g_cat]
    by_cases hc : a.category = 2
    · rw [if_pos hc, if_pos hc]; rfl
    · rw [if_neg hc, if_neg hc]; rfl
theorem g_ls_ini {b0 : Nat} {ra : Nat → Nat} {x : Nat} {as : List Value} (hlen : (x_fl as).length ≤ m_l x) : g_ls b0 ra x ((lg_sl (as.map (g_v b0 ra)) ++ List.replicate (m_l x - (lg_sl (as.map (g_v b0 ra))).length) Slot.unset).toArray) (x_ini x as) := by
  have he := lv_entry (as.map (g_v b0 ra)) (n := m_l x) (by rw [x_fl_len]; exact hlen)
  refine ⟨by simp [x_ini]; omega, he.1, he.2.1, fun q hq => he.2.2 q ?_⟩
  obtain ⟨i, w⟩ := q
  obtain ⟨v, hv, hn, rfl⟩ := g_pr_mem.mp hq
  unfold x_ini at hv
  by_cases hi : i < (x_fl as).length
  · rw [List.getElem?_append_left hi] at hv
    have := lv_args_fl (b0 := b0) (ra := ra) as 0 i v hv hn
    rw [Nat.zero_add] at this
    exact this
  · rw [List.getElem?_append_right (by omega), List.getElem?_replicate] at hv
    have := (ite_some hv).2
    exact absurd this.symm hn
/-- a method's contract, out of a run of the pure machine -/
theorem g_met {l : Launch} {n : Nat} (hok : g_ok l n) {x : Nat} {as : List Value} {h h1 : XH} {r : Value} (hrun : x_run n x 0 (x_ini x as) [] h = some (r, h1)) (hx : x < 267) (hlen : (x_fl as).length ≤ m_l x) (b0 : Nat) (ra : Nat → Nat) (cA dC : Nat → ClassId) (dI : Nat → Nat → Nat) (L : Nat) (xs : Nat → Int32) :
    Met l (m_y x) (g_ws x) (g_rm x h h1) (g_Pc b0 ra cA dC dI L xs as h) (g_Qc b0 ra cA dC dI L xs r h1) (xT h1 - xT h) (xS h1 - xS h) (fun q => b0 ≤ q) := by
  obtain ⟨m1, m2, m3, m4, m5, m6⟩ := wd_m hx
  have hmono := x_run_mono n hrun
  refine Met.ofW (cc := m_b x) (maxL := m_l x) (ret := m_r x) m4 rfl ?_
  intro p e s m args below meth c s₁ B hml hv
  obtain ⟨rfl, G, N⟩ := hv
  have hts := atoms_spec (ws := g_ws x) B.pre
  have hown : s.vm.findClass (m_y x).cls = some m.cls := findClass_of_methodNamed B.named
  have hlk : meth.locks = false := B.notSynchronized
  have C : g_c x p s m (as.map (g_v b0 ra)).toArray meth c := ⟨B.exec, B.bytes, hml, by rw [m3]; exact hown, fun w hw => hts w (List.mem_cons_of_mem _ hw), hlk, B.returns, (name_of_methodNamed B.named B.method).1⟩
  rw [lg_entry_eq]
  have K := hok x 0 (x_ini x as) [] h r h1 hrun p e (g_rm x h h1) s m (as.map (g_v b0 ra)).toArray below meth c (MQ below (g_Qc b0 ra cA dC dI L xs r h1) (as.map (g_v b0 ra)).toArray s (xT h1 - xT h) (xS h1 - xS h) (fun q => b0 ≤ q)) b0 ra cA dC dI L xs (xT h) (xS h) C G ⟨Nat.le_refl _, Nat.le_refl _⟩ (Nat.le_refl _) (Nat.le_refl _) (Nat.le_refl _) (Nat.le_refl _) ?_
  · have K2 := K s.heap [] _ N va_S.rf (g_ls_ini hlen)
    rw [Nat.sub_self, Nat.sub_self] at K2
    exact K2
  · intro pc ls st imm x' y nx sw hop hret H locs lsC N1 S1 hl
    unfold x_ops at hop
    split at hop
    · rename_i q hd
      obtain ⟨i, len⟩ := q
      dsimp only at hop
      obtain ⟨rfl, hi⟩ := x_tr_ret hop
      have hq : ∀ t : State, t.heap = H → g_n b0 ra cA dC dI L xs h1 t.heap ∧ va_F (fun q => b0 ≤ q) s t := fun t ht => ⟨by rw [ht]; exact N1, S1.F ht⟩
      rcases hi with ⟨rfl, hr, rfl⟩ | ⟨rfl, hr, rfl⟩ | ⟨rfl, hr, rfl⟩ | ⟨rfl, ⟨t', hr⟩, rfl⟩ | ⟨rfl, hr, rfl⟩
      · obtain ⟨v, rfl, rfl⟩ := x_ret_1 hret
        exact W.iret C.1 C.2.1 (C.2.2.2.2.2.2.1.trans hr) (fun t ht _ => ⟨rfl, hq t ht⟩) S1.2.2 hd hlk
      · obtain ⟨v, hv, rfl, rfl⟩ := x_ret_2 hret
        exact W.zret C.1 C.2.1 (C.2.2.2.2.2.2.1.trans hr) (bb_01 hv).1 (fun t ht _ => ⟨rfl, hq t ht⟩) S1.2.2 hd hlk
      · obtain ⟨v, rfl, rfl⟩ := x_ret_3 hret
        exact W.lret C.1 C.2.1 (C.2.2.2.2.2.2.1.trans hr) (fun t ht _ => ⟨rfl, hq t ht⟩) S1.2.2 hd hlk
      · obtain ⟨v, rfl, rfl⟩ := x_ret_4 hret
        exact W.aret C.1 C.2.1 (C.2.2.2.2.2.2.1.trans hr) (Or.inr ⟨_, rfl⟩) (Or.inr ⟨_, rfl⟩) (fun t ht _ => ⟨rfl, hq t ht⟩) S1.2.2 hd hlk
      · obtain ⟨rfl, rfl⟩ := x_ret_0 hret
        exact W.vret C.1 C.2.1 (C.2.2.2.2.2.2.1.trans hr) (fun t ht _ => ⟨rfl, hq t ht⟩) S1.2.2 hd hlk
    · cases hop
theorem g_all {l : Launch} (hX : g_px l) : ∀ n, g_ok l n := by
  intro n
  induction n with
  | zero => intro mi pc ls st h r h' hrun; cases hrun
  | succ n ih =>
    intro mi pc ls st h r h' hrun p e R s m args below meth c Q b0 ra cA dC dI L xs t0 s0 C G hR ht hz hc hsl hret
    unfold x_run at hrun
    split at hrun
    · cases hrun
    · rename_i code imm x y nx sw hop
      split at hrun
      · rename_i h60
        subst h60
        have e := x_ret_h hrun
        subst e
        exact hret pc ls st imm x y nx sw hop hrun
      · split at hrun
        · rename_i h50
          subst h50
          split at hrun
          · rename_i hcond
            split at hrun
            · rename_i r1 h1 hcall
              obtain ⟨c1, c2, c3, c4, c5, c6⟩ := hcond
              have mo1 := x_run_mono n hcall
              have mo2 := x_run_mono n hrun
              have ik := ih mi nx ls (x_push r1 (st.drop y)) h1 r h' hrun p e R s m args below meth c Q b0 ra cA dC dI L xs t0 s0 C G hR (Nat.le_trans ht mo1.1) (Nat.le_trans hz mo1.2) hc hsl hret
              unfold x_ops at hop
              split at hop
              · rename_i q hd
                obtain ⟨i, len⟩ := q
                dsimp only at hop
                obtain ⟨rfl, rfl, rfl, j, kd, nn, ps, hi, rfl, hq⟩ := x_tr_call hop
                have hk3 : kd ≠ 3 := by rcases hi with ⟨-, rfl⟩ | ⟨-, rfl⟩ | ⟨-, rfl⟩ <;> decide
                have hx : x < 267 := (wd_M_ok _ (x_lq_mem hq).1).2.2 hk3
                have hM := g_met ih hcall hx c5 b0 ra cA dC dI L xs
                refine gk_call C G hR ht hz hd hi hq (as := (st.take (m_n x)).reverse) (rest := st.drop (m_n x)) ?_ ?_ c2 c3 c4 c6 hM mo1.1 mo1.2 (by omega) (by omega) ik
                · rw [List.reverse_reverse, List.take_append_drop]
                · rw [List.length_reverse, List.length_take]; omega
              · cases hop
            · cases hrun
          · cases hrun
        · split at hrun
          · rename_i h51
            subst h51
            split at hrun
            · rename_i st' hpr
              have mo2 := x_run_mono n hrun
              have ik := ih mi nx ls st' h r h' hrun p e R s m args below meth c Q b0 ra cA dC dI L xs t0 s0 C G hR ht hz hc hsl hret
              exact hX p e R s m args below meth c Q b0 ra cA dC dI L xs mi t0 s0 pc ls st st' h 51 imm x y nx sw C G hR (by omega) (by omega) hop (Or.inr ⟨rfl, hpr⟩) ik
            · cases hrun
          · rename_i h60 h50 h51
            split at hrun
            · rename_i pc' ls' st' h1 hstep
              have mo1 := x_mono hstep
              have mo2 := x_run_mono n hrun
              have ik := ih mi pc' ls' st' h1 r h' hrun p e R s m args below meth c Q b0 ra cA dC dI L xs t0 s0 C G hR (Nat.le_trans ht mo1.1) (Nat.le_trans hz mo1.2) hc hsl hret
              have hlt : code < 50 := by
                rcases Nat.lt_or_ge code 50 with q | q
                · exact q
                · exfalso
                  unfold x_step at hstep
                  split at hstep
                  all_goals first | (cases hstep; done) | omega
              by_cases hg : ∃ j len, decode (m_b mi) pc = .ok (.getstatic j, len)
              · exact g_step C G hR ht hz (by omega) (by omega) hop (Or.inr hg) hlt hstep ik
              · by_cases h40 : code = 40
                · subst h40
                  simp only [x_step] at hstep
                  cases hstep
                  exact hX p e R s m args below meth c Q b0 ra cA dC dI L xs mi t0 s0 pc ls st _ h 40 imm x y _ sw C G hR (by omega) (by omega) hop (Or.inl ⟨rfl, rfl, hg⟩) ik
                · exact g_step C G hR ht hz (by omega) (by omega) hop (Or.inl h40) hlt hstep ik
            · cases hrun

