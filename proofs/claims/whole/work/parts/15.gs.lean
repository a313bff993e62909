/-! EVERY INSTRUCTION but calls, returns and what is asked of the two texts -/
theorem x_mono {code : Nat} {imm : Int} {x y nx : Nat} {sw : List (Int × Nat)} {nf : Nat → Nat} {ls st ls' st' : List Value} {h h' : XH} {pc' : Nat} (hs : x_step code imm x y nx sw nf ls st h = some (pc', ls', st', h')) : xT h ≤ xT h' ∧ xS h ≤ xS h' := by
  unfold x_step at hs
  repeat' split at hs
  all_goals first
    | (cases hs; done)
    | (cases hs; exact ⟨Nat.le_refl _, Nat.le_refl _⟩)
    | (cases hs; exact ⟨Nat.le_succ _, Nat.le_add_right _ _⟩)
theorem x_lsw_eq {pc : Nat} {dd x : Int} : ∀ (l : List (Int × Int)), x_sw (l.map fun q => (q.1, x_pc pc q.2)) (x_pc pc dd) x = x_pc pc (Op.lookupswitch.offset l dd x) := by
  intro l
  induction l with
  | nil => unfold Op.lookupswitch.offset; rfl
  | cons q r ih =>
    obtain ⟨a, b⟩ := q
    unfold Op.lookupswitch.offset
    rw [List.map_cons]
    unfold x_sw
    dsimp only
    by_cases e : a = x
    · rw [if_pos e]
      simp [e]
    · rw [if_neg e, ih]
      simp [e]
theorem x_lsw {pc : Nat} {dd x : Int} : ∀ (l : List (Int × Int)), (∀ q ∈ l, 0 ≤ (pc : Int) + q.2) → (pc : Int) + dd = ((x_pc pc dd : Nat) : Int) → (pc : Int) + Op.lookupswitch.offset l dd x = ((x_pc pc (Op.lookupswitch.offset l dd x) : Nat) : Int) := by
  intro l
  induction l with
  | nil => intro _ hd; unfold Op.lookupswitch.offset; exact hd
  | cons q r ih =>
    intro hq hd
    obtain ⟨a, b⟩ := q
    unfold Op.lookupswitch.offset
    by_cases e : a = x
    · have := hq (a, b) List.mem_cons_self
      simp only [e]
      simp
      exact (Int.toNat_of_nonneg this).symm
    · simp only [e]
      simp
      exact ih (fun q h => hq q (List.mem_cons_of_mem _ h)) hd
section GS
variable {p : Program} {l : Launch} {e : Env} {R : Room} {s : State} {m : MethodId} {args : Array Value} {below : List Frame} {meth : Method} {c : Code} {Q : State → Prop}
variable {b0 : Nat} {ra : Nat → Nat} {cA : Nat → ClassId} {dC : Nat → ClassId} {dI : Nat → Nat → Nat} {L : Nat} {xs : Nat → Int32} {mi t0 s0 pc : Nat} {ls st : List Value} {h : XH}
theorem gs_iconst (C : g_c mi p s m args meth c) (G : g_s b0 ra cA dC dI L xs s) (hR : m_fr mi ≤ R.frames ∧ m_lo mi ≤ R.locals) (ht : t0 ≤ xT h) (hz : s0 ≤ xS h) {n : Int} {len code : Nat} {imm : Int} {x y nx pc' : Nat} {sw : List (Int × Nat)} {ls' st' : List Value} {h' : XH} (hc : xT h' - t0 ≤ R.cells) (hsl : xS h' - s0 ≤ R.slots) (hd : decode (m_b mi) pc = .ok (.iconst n, len)) (hop : x_tr (m_o mi) (m_y mi).name (m_r mi) pc (.iconst n) len = some (code, imm, x, y, nx, sw)) (hn : code ≠ 40 ∨ ∃ jz, (.iconst n : Instr) = .getstatic jz) (hcode : code < 50) (hs : x_step code imm x y nx sw x_nf ls st h = some (pc', ls', st', h')) (k : g_K p l e R s m args below meth c b0 ra cA dC dI L xs mi t0 s0 Q pc' ls' st' h') : g_K p l e R s m args below meth c b0 ra cA dC dI L xs mi t0 s0 Q pc ls st h := by
  obtain ⟨hlen, ho⟩ := x_op_some hop
  have hlen := of_decide_eq_true hlen
  subst hlen
  cases ho
  simp only [x_step] at hs
  cases hs
  exact gk_iconst C hd k
theorem gs_bipush (C : g_c mi p s m args meth c) (G : g_s b0 ra cA dC dI L xs s) (hR : m_fr mi ≤ R.frames ∧ m_lo mi ≤ R.locals) (ht : t0 ≤ xT h) (hz : s0 ≤ xS h) {n : Int} {len code : Nat} {imm : Int} {x y nx pc' : Nat} {sw : List (Int × Nat)} {ls' st' : List Value} {h' : XH} (hc : xT h' - t0 ≤ R.cells) (hsl : xS h' - s0 ≤ R.slots) (hd : decode (m_b mi) pc = .ok (.bipush n, len)) (hop : x_tr (m_o mi) (m_y mi).name (m_r mi) pc (.bipush n) len = some (code, imm, x, y, nx, sw)) (hn : code ≠ 40 ∨ ∃ jz, (.bipush n : Instr) = .getstatic jz) (hcode : code < 50) (hs : x_step code imm x y nx sw x_nf ls st h = some (pc', ls', st', h')) (k : g_K p l e R s m args below meth c b0 ra cA dC dI L xs mi t0 s0 Q pc' ls' st' h') : g_K p l e R s m args below meth c b0 ra cA dC dI L xs mi t0 s0 Q pc ls st h := by
  obtain ⟨hlen, ho⟩ := x_op_some hop
  have hlen := of_decide_eq_true hlen
  subst hlen
  cases ho
  simp only [x_step] at hs
  cases hs
  exact gk_bipush C hd k
theorem gs_sipush (C : g_c mi p s m args meth c) (G : g_s b0 ra cA dC dI L xs s) (hR : m_fr mi ≤ R.frames ∧ m_lo mi ≤ R.locals) (ht : t0 ≤ xT h) (hz : s0 ≤ xS h) {n : Int} {len code : Nat} {imm : Int} {x y nx pc' : Nat} {sw : List (Int × Nat)} {ls' st' : List Value} {h' : XH} (hc : xT h' - t0 ≤ R.cells) (hsl : xS h' - s0 ≤ R.slots) (hd : decode (m_b mi) pc = .ok (.sipush n, len)) (hop : x_tr (m_o mi) (m_y mi).name (m_r mi) pc (.sipush n) len = some (code, imm, x, y, nx, sw)) (hn : code ≠ 40 ∨ ∃ jz, (.sipush n : Instr) = .getstatic jz) (hcode : code < 50) (hs : x_step code imm x y nx sw x_nf ls st h = some (pc', ls', st', h')) (k : g_K p l e R s m args below meth c b0 ra cA dC dI L xs mi t0 s0 Q pc' ls' st' h') : g_K p l e R s m args below meth c b0 ra cA dC dI L xs mi t0 s0 Q pc ls st h := by
  obtain ⟨hlen, ho⟩ := x_op_some hop
  have hlen := of_decide_eq_true hlen
  subst hlen
  cases ho
  simp only [x_step] at hs
  cases hs
  exact gk_sipush C hd k
theorem gs_iload_n (C : g_c mi p s m args meth c) (G : g_s b0 ra cA dC dI L xs s) (hR : m_fr mi ≤ R.frames ∧ m_lo mi ≤ R.locals) (ht : t0 ≤ xT h) (hz : s0 ≤ xS h) {j : Fin 4} {len code : Nat} {imm : Int} {x y nx pc' : Nat} {sw : List (Int × Nat)} {ls' st' : List Value} {h' : XH} (hc : xT h' - t0 ≤ R.cells) (hsl : xS h' - s0 ≤ R.slots) (hd : decode (m_b mi) pc = .ok (.iload_n j, len)) (hop : x_tr (m_o mi) (m_y mi).name (m_r mi) pc (.iload_n j) len = some (code, imm, x, y, nx, sw)) (hn : code ≠ 40 ∨ ∃ jz, (.iload_n j : Instr) = .getstatic jz) (hcode : code < 50) (hs : x_step code imm x y nx sw x_nf ls st h = some (pc', ls', st', h')) (k : g_K p l e R s m args below meth c b0 ra cA dC dI L xs mi t0 s0 Q pc' ls' st' h') : g_K p l e R s m args below meth c b0 ra cA dC dI L xs mi t0 s0 Q pc ls st h := by
  obtain ⟨hlen, ho⟩ := x_op_some hop
  have hlen := of_decide_eq_true hlen
  subst hlen
  cases ho
  simp only [x_step] at hs
  split at hs
  · rename_i v hv
    cases hs
    exact gk_iload_n C hd hv k
  · cases hs
theorem gs_iload (C : g_c mi p s m args meth c) (G : g_s b0 ra cA dC dI L xs s) (hR : m_fr mi ≤ R.frames ∧ m_lo mi ≤ R.locals) (ht : t0 ≤ xT h) (hz : s0 ≤ xS h) {j : Nat} {len code : Nat} {imm : Int} {x y nx pc' : Nat} {sw : List (Int × Nat)} {ls' st' : List Value} {h' : XH} (hc : xT h' - t0 ≤ R.cells) (hsl : xS h' - s0 ≤ R.slots) (hd : decode (m_b mi) pc = .ok (.iload j, len)) (hop : x_tr (m_o mi) (m_y mi).name (m_r mi) pc (.iload j) len = some (code, imm, x, y, nx, sw)) (hn : code ≠ 40 ∨ ∃ jz, (.iload j : Instr) = .getstatic jz) (hcode : code < 50) (hs : x_step code imm x y nx sw x_nf ls st h = some (pc', ls', st', h')) (k : g_K p l e R s m args below meth c b0 ra cA dC dI L xs mi t0 s0 Q pc' ls' st' h') : g_K p l e R s m args below meth c b0 ra cA dC dI L xs mi t0 s0 Q pc ls st h := by
  obtain ⟨hlen, ho⟩ := x_op_some hop
  have hlen := of_decide_eq_true hlen
  subst hlen
  cases ho
  simp only [x_step] at hs
  split at hs
  · rename_i v hv
    cases hs
    exact gk_iload C hd hv k
  · cases hs
theorem gs_aload_n (C : g_c mi p s m args meth c) (G : g_s b0 ra cA dC dI L xs s) (hR : m_fr mi ≤ R.frames ∧ m_lo mi ≤ R.locals) (ht : t0 ≤ xT h) (hz : s0 ≤ xS h) {j : Fin 4} {len code : Nat} {imm : Int} {x y nx pc' : Nat} {sw : List (Int × Nat)} {ls' st' : List Value} {h' : XH} (hc : xT h' - t0 ≤ R.cells) (hsl : xS h' - s0 ≤ R.slots) (hd : decode (m_b mi) pc = .ok (.aload_n j, len)) (hop : x_tr (m_o mi) (m_y mi).name (m_r mi) pc (.aload_n j) len = some (code, imm, x, y, nx, sw)) (hn : code ≠ 40 ∨ ∃ jz, (.aload_n j : Instr) = .getstatic jz) (hcode : code < 50) (hs : x_step code imm x y nx sw x_nf ls st h = some (pc', ls', st', h')) (k : g_K p l e R s m args below meth c b0 ra cA dC dI L xs mi t0 s0 Q pc' ls' st' h') : g_K p l e R s m args below meth c b0 ra cA dC dI L xs mi t0 s0 Q pc ls st h := by
  obtain ⟨hlen, ho⟩ := x_op_some hop
  have hlen := of_decide_eq_true hlen
  subst hlen
  cases ho
  simp only [x_step] at hs
  split at hs
  · rename_i v hv
    cases hs
    exact gk_aload_n C hd hv k
  · cases hs
theorem gs_aload (C : g_c mi p s m args meth c) (G : g_s b0 ra cA dC dI L xs s) (hR : m_fr mi ≤ R.frames ∧ m_lo mi ≤ R.locals) (ht : t0 ≤ xT h) (hz : s0 ≤ xS h) {j : Nat} {len code : Nat} {imm : Int} {x y nx pc' : Nat} {sw : List (Int × Nat)} {ls' st' : List Value} {h' : XH} (hc : xT h' - t0 ≤ R.cells) (hsl : xS h' - s0 ≤ R.slots) (hd : decode (m_b mi) pc = .ok (.aload j, len)) (hop : x_tr (m_o mi) (m_y mi).name (m_r mi) pc (.aload j) len = some (code, imm, x, y, nx, sw)) (hn : code ≠ 40 ∨ ∃ jz, (.aload j : Instr) = .getstatic jz) (hcode : code < 50) (hs : x_step code imm x y nx sw x_nf ls st h = some (pc', ls', st', h')) (k : g_K p l e R s m args below meth c b0 ra cA dC dI L xs mi t0 s0 Q pc' ls' st' h') : g_K p l e R s m args below meth c b0 ra cA dC dI L xs mi t0 s0 Q pc ls st h := by
  obtain ⟨hlen, ho⟩ := x_op_some hop
  have hlen := of_decide_eq_true hlen
  subst hlen
  cases ho
  simp only [x_step] at hs
  split at hs
  · rename_i v hv
    cases hs
    exact gk_aload C hd hv k
  · cases hs
theorem gs_lload_n (C : g_c mi p s m args meth c) (G : g_s b0 ra cA dC dI L xs s) (hR : m_fr mi ≤ R.frames ∧ m_lo mi ≤ R.locals) (ht : t0 ≤ xT h) (hz : s0 ≤ xS h) {j : Fin 4} {len code : Nat} {imm : Int} {x y nx pc' : Nat} {sw : List (Int × Nat)} {ls' st' : List Value} {h' : XH} (hc : xT h' - t0 ≤ R.cells) (hsl : xS h' - s0 ≤ R.slots) (hd : decode (m_b mi) pc = .ok (.lload_n j, len)) (hop : x_tr (m_o mi) (m_y mi).name (m_r mi) pc (.lload_n j) len = some (code, imm, x, y, nx, sw)) (hn : code ≠ 40 ∨ ∃ jz, (.lload_n j : Instr) = .getstatic jz) (hcode : code < 50) (hs : x_step code imm x y nx sw x_nf ls st h = some (pc', ls', st', h')) (k : g_K p l e R s m args below meth c b0 ra cA dC dI L xs mi t0 s0 Q pc' ls' st' h') : g_K p l e R s m args below meth c b0 ra cA dC dI L xs mi t0 s0 Q pc ls st h := by
  obtain ⟨hlen, ho⟩ := x_op_some hop
  have hlen := of_decide_eq_true hlen
  subst hlen
  cases ho
  simp only [x_step] at hs
  split at hs
  · rename_i v hv
    cases hs
    exact gk_lload_n C hd hv k
  · cases hs
theorem gs_lload (C : g_c mi p s m args meth c) (G : g_s b0 ra cA dC dI L xs s) (hR : m_fr mi ≤ R.frames ∧ m_lo mi ≤ R.locals) (ht : t0 ≤ xT h) (hz : s0 ≤ xS h) {j : Nat} {len code : Nat} {imm : Int} {x y nx pc' : Nat} {sw : List (Int × Nat)} {ls' st' : List Value} {h' : XH} (hc : xT h' - t0 ≤ R.cells) (hsl : xS h' - s0 ≤ R.slots) (hd : decode (m_b mi) pc = .ok (.lload j, len)) (hop : x_tr (m_o mi) (m_y mi).name (m_r mi) pc (.lload j) len = some (code, imm, x, y, nx, sw)) (hn : code ≠ 40 ∨ ∃ jz, (.lload j : Instr) = .getstatic jz) (hcode : code < 50) (hs : x_step code imm x y nx sw x_nf ls st h = some (pc', ls', st', h')) (k : g_K p l e R s m args below meth c b0 ra cA dC dI L xs mi t0 s0 Q pc' ls' st' h') : g_K p l e R s m args below meth c b0 ra cA dC dI L xs mi t0 s0 Q pc ls st h := by
  obtain ⟨hlen, ho⟩ := x_op_some hop
  have hlen := of_decide_eq_true hlen
  subst hlen
  cases ho
  simp only [x_step] at hs
  split at hs
  · rename_i v hv
    cases hs
    exact gk_lload C hd hv k
  · cases hs
theorem gs_istore_n (C : g_c mi p s m args meth c) (G : g_s b0 ra cA dC dI L xs s) (hR : m_fr mi ≤ R.frames ∧ m_lo mi ≤ R.locals) (ht : t0 ≤ xT h) (hz : s0 ≤ xS h) {j : Fin 4} {len code : Nat} {imm : Int} {x y nx pc' : Nat} {sw : List (Int × Nat)} {ls' st' : List Value} {h' : XH} (hc : xT h' - t0 ≤ R.cells) (hsl : xS h' - s0 ≤ R.slots) (hd : decode (m_b mi) pc = .ok (.istore_n j, len)) (hop : x_tr (m_o mi) (m_y mi).name (m_r mi) pc (.istore_n j) len = some (code, imm, x, y, nx, sw)) (hn : code ≠ 40 ∨ ∃ jz, (.istore_n j : Instr) = .getstatic jz) (hcode : code < 50) (hs : x_step code imm x y nx sw x_nf ls st h = some (pc', ls', st', h')) (k : g_K p l e R s m args below meth c b0 ra cA dC dI L xs mi t0 s0 Q pc' ls' st' h') : g_K p l e R s m args below meth c b0 ra cA dC dI L xs mi t0 s0 Q pc ls st h := by
  obtain ⟨hlen, ho⟩ := x_op_some hop
  have hlen := of_decide_eq_true hlen
  subst hlen
  cases ho
  simp only [x_step] at hs
  split at hs
  · split at hs
    · rename_i hv
      cases hs
      exact gk_istore_n C hd hv k
    · cases hs
  · cases hs
theorem gs_istore (C : g_c mi p s m args meth c) (G : g_s b0 ra cA dC dI L xs s) (hR : m_fr mi ≤ R.frames ∧ m_lo mi ≤ R.locals) (ht : t0 ≤ xT h) (hz : s0 ≤ xS h) {j : Nat} {len code : Nat} {imm : Int} {x y nx pc' : Nat} {sw : List (Int × Nat)} {ls' st' : List Value} {h' : XH} (hc : xT h' - t0 ≤ R.cells) (hsl : xS h' - s0 ≤ R.slots) (hd : decode (m_b mi) pc = .ok (.istore j, len)) (hop : x_tr (m_o mi) (m_y mi).name (m_r mi) pc (.istore j) len = some (code, imm, x, y, nx, sw)) (hn : code ≠ 40 ∨ ∃ jz, (.istore j : Instr) = .getstatic jz) (hcode : code < 50) (hs : x_step code imm x y nx sw x_nf ls st h = some (pc', ls', st', h')) (k : g_K p l e R s m args below meth c b0 ra cA dC dI L xs mi t0 s0 Q pc' ls' st' h') : g_K p l e R s m args below meth c b0 ra cA dC dI L xs mi t0 s0 Q pc ls st h := by
  obtain ⟨hlen, ho⟩ := x_op_some hop
  have hlen := of_decide_eq_true hlen
  subst hlen
  cases ho
  simp only [x_step] at hs
  split at hs
  · split at hs
    · rename_i hv
      cases hs
      exact gk_istore C hd hv k
    · cases hs
  · cases hs
theorem gs_astore_n (C : g_c mi p s m args meth c) (G : g_s b0 ra cA dC dI L xs s) (hR : m_fr mi ≤ R.frames ∧ m_lo mi ≤ R.locals) (ht : t0 ≤ xT h) (hz : s0 ≤ xS h) {j : Fin 4} {len code : Nat} {imm : Int} {x y nx pc' : Nat} {sw : List (Int × Nat)} {ls' st' : List Value} {h' : XH} (hc : xT h' - t0 ≤ R.cells) (hsl : xS h' - s0 ≤ R.slots) (hd : decode (m_b mi) pc = .ok (.astore_n j, len)) (hop : x_tr (m_o mi) (m_y mi).name (m_r mi) pc (.astore_n j) len = some (code, imm, x, y, nx, sw)) (hn : code ≠ 40 ∨ ∃ jz, (.astore_n j : Instr) = .getstatic jz) (hcode : code < 50) (hs : x_step code imm x y nx sw x_nf ls st h = some (pc', ls', st', h')) (k : g_K p l e R s m args below meth c b0 ra cA dC dI L xs mi t0 s0 Q pc' ls' st' h') : g_K p l e R s m args below meth c b0 ra cA dC dI L xs mi t0 s0 Q pc ls st h := by
  obtain ⟨hlen, ho⟩ := x_op_some hop
  have hlen := of_decide_eq_true hlen
  subst hlen
  cases ho
  simp only [x_step] at hs
  split at hs
  · split at hs
    · rename_i hv
      cases hs
      exact gk_astore_n C hd hv k
    · cases hs
  · cases hs
theorem gs_astore (C : g_c mi p s m args meth c) (G : g_s b0 ra cA dC dI L xs s) (hR : m_fr mi ≤ R.frames ∧ m_lo mi ≤ R.locals) (ht : t0 ≤ xT h) (hz : s0 ≤ xS h) {j : Nat} {len code : Nat} {imm : Int} {x y nx pc' : Nat} {sw : List (Int × Nat)} {ls' st' : List Value} {h' : XH} (hc : xT h' - t0 ≤ R.cells) (hsl : xS h' - s0 ≤ R.slots) (hd : decode (m_b mi) pc = .ok (.astore j, len)) (hop : x_tr (m_o mi) (m_y mi).name (m_r mi) pc (.astore j) len = some (code, imm, x, y, nx, sw)) (hn : code ≠ 40 ∨ ∃ jz, (.astore j : Instr) = .getstatic jz) (hcode : code < 50) (hs : x_step code imm x y nx sw x_nf ls st h = some (pc', ls', st', h')) (k : g_K p l e R s m args below meth c b0 ra cA dC dI L xs mi t0 s0 Q pc' ls' st' h') : g_K p l e R s m args below meth c b0 ra cA dC dI L xs mi t0 s0 Q pc ls st h := by
  obtain ⟨hlen, ho⟩ := x_op_some hop
  have hlen := of_decide_eq_true hlen
  subst hlen
  cases ho
  simp only [x_step] at hs
  split at hs
  · split at hs
    · rename_i hv
      cases hs
      exact gk_astore C hd hv k
    · cases hs
  · cases hs
theorem gs_lstore_n (C : g_c mi p s m args meth c) (G : g_s b0 ra cA dC dI L xs s) (hR : m_fr mi ≤ R.frames ∧ m_lo mi ≤ R.locals) (ht : t0 ≤ xT h) (hz : s0 ≤ xS h) {j : Fin 4} {len code : Nat} {imm : Int} {x y nx pc' : Nat} {sw : List (Int × Nat)} {ls' st' : List Value} {h' : XH} (hc : xT h' - t0 ≤ R.cells) (hsl : xS h' - s0 ≤ R.slots) (hd : decode (m_b mi) pc = .ok (.lstore_n j, len)) (hop : x_tr (m_o mi) (m_y mi).name (m_r mi) pc (.lstore_n j) len = some (code, imm, x, y, nx, sw)) (hn : code ≠ 40 ∨ ∃ jz, (.lstore_n j : Instr) = .getstatic jz) (hcode : code < 50) (hs : x_step code imm x y nx sw x_nf ls st h = some (pc', ls', st', h')) (k : g_K p l e R s m args below meth c b0 ra cA dC dI L xs mi t0 s0 Q pc' ls' st' h') : g_K p l e R s m args below meth c b0 ra cA dC dI L xs mi t0 s0 Q pc ls st h := by
  obtain ⟨hlen, ho⟩ := x_op_some hop
  have hlen := of_decide_eq_true hlen
  subst hlen
  cases ho
  simp only [x_step] at hs
  split at hs
  · split at hs
    · rename_i hv
      cases hs
      exact gk_lstore_n C hd hv k
    · cases hs
  · cases hs
theorem gs_lstore (C : g_c mi p s m args meth c) (G : g_s b0 ra cA dC dI L xs s) (hR : m_fr mi ≤ R.frames ∧ m_lo mi ≤ R.locals) (ht : t0 ≤ xT h) (hz : s0 ≤ xS h) {j : Nat} {len code : Nat} {imm : Int} {x y nx pc' : Nat} {sw : List (Int × Nat)} {ls' st' : List Value} {h' : XH} (hc : xT h' - t0 ≤ R.cells) (hsl : xS h' - s0 ≤ R.slots) (hd : decode (m_b mi) pc = .ok (.lstore j, len)) (hop : x_tr (m_o mi) (m_y mi).name (m_r mi) pc (.lstore j) len = some (code, imm, x, y, nx, sw)) (hn : code ≠ 40 ∨ ∃ jz, (.lstore j : Instr) = .getstatic jz) (hcode : code < 50) (hs : x_step code imm x y nx sw x_nf ls st h = some (pc', ls', st', h')) (k : g_K p l e R s m args below meth c b0 ra cA dC dI L xs mi t0 s0 Q pc' ls' st' h') : g_K p l e R s m args below meth c b0 ra cA dC dI L xs mi t0 s0 Q pc ls st h := by
  obtain ⟨hlen, ho⟩ := x_op_some hop
  have hlen := of_decide_eq_true hlen
  subst hlen
  cases ho
  simp only [x_step] at hs
  split at hs
  · split at hs
    · rename_i hv
      cases hs
      exact gk_lstore C hd hv k
    · cases hs
  · cases hs
theorem gs_iinc (C : g_c mi p s m args meth c) (G : g_s b0 ra cA dC dI L xs s) (hR : m_fr mi ≤ R.frames ∧ m_lo mi ≤ R.locals) (ht : t0 ≤ xT h) (hz : s0 ≤ xS h) {j : Nat} {n : Int} {len code : Nat} {imm : Int} {x y nx pc' : Nat} {sw : List (Int × Nat)} {ls' st' : List Value} {h' : XH} (hc : xT h' - t0 ≤ R.cells) (hsl : xS h' - s0 ≤ R.slots) (hd : decode (m_b mi) pc = .ok (.iinc j n, len)) (hop : x_tr (m_o mi) (m_y mi).name (m_r mi) pc (.iinc j n) len = some (code, imm, x, y, nx, sw)) (hn : code ≠ 40 ∨ ∃ jz, (.iinc j n : Instr) = .getstatic jz) (hcode : code < 50) (hs : x_step code imm x y nx sw x_nf ls st h = some (pc', ls', st', h')) (k : g_K p l e R s m args below meth c b0 ra cA dC dI L xs mi t0 s0 Q pc' ls' st' h') : g_K p l e R s m args below meth c b0 ra cA dC dI L xs mi t0 s0 Q pc ls st h := by
  obtain ⟨hlen, ho⟩ := x_op_some hop
  have hlen := of_decide_eq_true hlen
  subst hlen
  cases ho
  simp only [x_step] at hs
  split at hs
  · rename_i v hv
    cases hs
    exact gk_iinc C hd hv k
  · cases hs
theorem gs_iadd (C : g_c mi p s m args meth c) (G : g_s b0 ra cA dC dI L xs s) (hR : m_fr mi ≤ R.frames ∧ m_lo mi ≤ R.locals) (ht : t0 ≤ xT h) (hz : s0 ≤ xS h) {len code : Nat} {imm : Int} {x y nx pc' : Nat} {sw : List (Int × Nat)} {ls' st' : List Value} {h' : XH} (hc : xT h' - t0 ≤ R.cells) (hsl : xS h' - s0 ≤ R.slots) (hd : decode (m_b mi) pc = .ok (.iadd, len)) (hop : x_tr (m_o mi) (m_y mi).name (m_r mi) pc (.iadd) len = some (code, imm, x, y, nx, sw)) (hn : code ≠ 40 ∨ ∃ jz, (.iadd : Instr) = .getstatic jz) (hcode : code < 50) (hs : x_step code imm x y nx sw x_nf ls st h = some (pc', ls', st', h')) (k : g_K p l e R s m args below meth c b0 ra cA dC dI L xs mi t0 s0 Q pc' ls' st' h') : g_K p l e R s m args below meth c b0 ra cA dC dI L xs mi t0 s0 Q pc ls st h := by
  obtain ⟨hlen, ho⟩ := x_op_some hop
  have hlen := of_decide_eq_true hlen
  subst hlen
  cases ho
  simp only [x_step] at hs
  split at hs
  · cases hs
    exact gk_iadd C hd k
  · cases hs
theorem gs_isub (C : g_c mi p s m args meth c) (G : g_s b0 ra cA dC dI L xs s) (hR : m_fr mi ≤ R.frames ∧ m_lo mi ≤ R.locals) (ht : t0 ≤ xT h) (hz : s0 ≤ xS h) {len code : Nat} {imm : Int} {x y nx pc' : Nat} {sw : List (Int × Nat)} {ls' st' : List Value} {h' : XH} (hc : xT h' - t0 ≤ R.cells) (hsl : xS h' - s0 ≤ R.slots) (hd : decode (m_b mi) pc = .ok (.isub, len)) (hop : x_tr (m_o mi) (m_y mi).name (m_r mi) pc (.isub) len = some (code, imm, x, y, nx, sw)) (hn : code ≠ 40 ∨ ∃ jz, (.isub : Instr) = .getstatic jz) (hcode : code < 50) (hs : x_step code imm x y nx sw x_nf ls st h = some (pc', ls', st', h')) (k : g_K p l e R s m args below meth c b0 ra cA dC dI L xs mi t0 s0 Q pc' ls' st' h') : g_K p l e R s m args below meth c b0 ra cA dC dI L xs mi t0 s0 Q pc ls st h := by
  obtain ⟨hlen, ho⟩ := x_op_some hop
  have hlen := of_decide_eq_true hlen
  subst hlen
  cases ho
  simp only [x_step] at hs
  split at hs
  · cases hs
    exact gk_isub C hd k
  · cases hs
theorem gs_imul (C : g_c mi p s m args meth c) (G : g_s b0 ra cA dC dI L xs s) (hR : m_fr mi ≤ R.frames ∧ m_lo mi ≤ R.locals) (ht : t0 ≤ xT h) (hz : s0 ≤ xS h) {len code : Nat} {imm : Int} {x y nx pc' : Nat} {sw : List (Int × Nat)} {ls' st' : List Value} {h' : XH} (hc : xT h' - t0 ≤ R.cells) (hsl : xS h' - s0 ≤ R.slots) (hd : decode (m_b mi) pc = .ok (.imul, len)) (hop : x_tr (m_o mi) (m_y mi).name (m_r mi) pc (.imul) len = some (code, imm, x, y, nx, sw)) (hn : code ≠ 40 ∨ ∃ jz, (.imul : Instr) = .getstatic jz) (hcode : code < 50) (hs : x_step code imm x y nx sw x_nf ls st h = some (pc', ls', st', h')) (k : g_K p l e R s m args below meth c b0 ra cA dC dI L xs mi t0 s0 Q pc' ls' st' h') : g_K p l e R s m args below meth c b0 ra cA dC dI L xs mi t0 s0 Q pc ls st h := by
  obtain ⟨hlen, ho⟩ := x_op_some hop
  have hlen := of_decide_eq_true hlen
  subst hlen
  cases ho
  simp only [x_step] at hs
  split at hs
  · cases hs
    exact gk_imul C hd k
  · cases hs
theorem gs_iand (C : g_c mi p s m args meth c) (G : g_s b0 ra cA dC dI L xs s) (hR : m_fr mi ≤ R.frames ∧ m_lo mi ≤ R.locals) (ht : t0 ≤ xT h) (hz : s0 ≤ xS h) {len code : Nat} {imm : Int} {x y nx pc' : Nat} {sw : List (Int × Nat)} {ls' st' : List Value} {h' : XH} (hc : xT h' - t0 ≤ R.cells) (hsl : xS h' - s0 ≤ R.slots) (hd : decode (m_b mi) pc = .ok (.iand, len)) (hop : x_tr (m_o mi) (m_y mi).name (m_r mi) pc (.iand) len = some (code, imm, x, y, nx, sw)) (hn : code ≠ 40 ∨ ∃ jz, (.iand : Instr) = .getstatic jz) (hcode : code < 50) (hs : x_step code imm x y nx sw x_nf ls st h = some (pc', ls', st', h')) (k : g_K p l e R s m args below meth c b0 ra cA dC dI L xs mi t0 s0 Q pc' ls' st' h') : g_K p l e R s m args below meth c b0 ra cA dC dI L xs mi t0 s0 Q pc ls st h := by
  obtain ⟨hlen, ho⟩ := x_op_some hop
  have hlen := of_decide_eq_true hlen
  subst hlen
  cases ho
  simp only [x_step] at hs
  split at hs
  · cases hs
    exact gk_iand C hd k
  · cases hs
theorem gs_ior (C : g_c mi p s m args meth c) (G : g_s b0 ra cA dC dI L xs s) (hR : m_fr mi ≤ R.frames ∧ m_lo mi ≤ R.locals) (ht : t0 ≤ xT h) (hz : s0 ≤ xS h) {len code : Nat} {imm : Int} {x y nx pc' : Nat} {sw : List (Int × Nat)} {ls' st' : List Value} {h' : XH} (hc : xT h' - t0 ≤ R.cells) (hsl : xS h' - s0 ≤ R.slots) (hd : decode (m_b mi) pc = .ok (.ior, len)) (hop : x_tr (m_o mi) (m_y mi).name (m_r mi) pc (.ior) len = some (code, imm, x, y, nx, sw)) (hn : code ≠ 40 ∨ ∃ jz, (.ior : Instr) = .getstatic jz) (hcode : code < 50) (hs : x_step code imm x y nx sw x_nf ls st h = some (pc', ls', st', h')) (k : g_K p l e R s m args below meth c b0 ra cA dC dI L xs mi t0 s0 Q pc' ls' st' h') : g_K p l e R s m args below meth c b0 ra cA dC dI L xs mi t0 s0 Q pc ls st h := by
  obtain ⟨hlen, ho⟩ := x_op_some hop
  have hlen := of_decide_eq_true hlen
  subst hlen
  cases ho
  simp only [x_step] at hs
  split at hs
  · cases hs
    exact gk_ior C hd k
  · cases hs
theorem gs_ixor (C : g_c mi p s m args meth c) (G : g_s b0 ra cA dC dI L xs s) (hR : m_fr mi ≤ R.frames ∧ m_lo mi ≤ R.locals) (ht : t0 ≤ xT h) (hz : s0 ≤ xS h) {len code : Nat} {imm : Int} {x y nx pc' : Nat} {sw : List (Int × Nat)} {ls' st' : List Value} {h' : XH} (hc : xT h' - t0 ≤ R.cells) (hsl : xS h' - s0 ≤ R.slots) (hd : decode (m_b mi) pc = .ok (.ixor, len)) (hop : x_tr (m_o mi) (m_y mi).name (m_r mi) pc (.ixor) len = some (code, imm, x, y, nx, sw)) (hn : code ≠ 40 ∨ ∃ jz, (.ixor : Instr) = .getstatic jz) (hcode : code < 50) (hs : x_step code imm x y nx sw x_nf ls st h = some (pc', ls', st', h')) (k : g_K p l e R s m args below meth c b0 ra cA dC dI L xs mi t0 s0 Q pc' ls' st' h') : g_K p l e R s m args below meth c b0 ra cA dC dI L xs mi t0 s0 Q pc ls st h := by
  obtain ⟨hlen, ho⟩ := x_op_some hop
  have hlen := of_decide_eq_true hlen
  subst hlen
  cases ho
  simp only [x_step] at hs
  split at hs
  · cases hs
    exact gk_ixor C hd k
  · cases hs
theorem gs_ishl (C : g_c mi p s m args meth c) (G : g_s b0 ra cA dC dI L xs s) (hR : m_fr mi ≤ R.frames ∧ m_lo mi ≤ R.locals) (ht : t0 ≤ xT h) (hz : s0 ≤ xS h) {len code : Nat} {imm : Int} {x y nx pc' : Nat} {sw : List (Int × Nat)} {ls' st' : List Value} {h' : XH} (hc : xT h' - t0 ≤ R.cells) (hsl : xS h' - s0 ≤ R.slots) (hd : decode (m_b mi) pc = .ok (.ishl, len)) (hop : x_tr (m_o mi) (m_y mi).name (m_r mi) pc (.ishl) len = some (code, imm, x, y, nx, sw)) (hn : code ≠ 40 ∨ ∃ jz, (.ishl : Instr) = .getstatic jz) (hcode : code < 50) (hs : x_step code imm x y nx sw x_nf ls st h = some (pc', ls', st', h')) (k : g_K p l e R s m args below meth c b0 ra cA dC dI L xs mi t0 s0 Q pc' ls' st' h') : g_K p l e R s m args below meth c b0 ra cA dC dI L xs mi t0 s0 Q pc ls st h := by
  obtain ⟨hlen, ho⟩ := x_op_some hop
  have hlen := of_decide_eq_true hlen
  subst hlen
  cases ho
  simp only [x_step] at hs
  split at hs
  · cases hs
    exact gk_ishl C hd k
  · cases hs
theorem gs_ishr (C : g_c mi p s m args meth c) (G : g_s b0 ra cA dC dI L xs s) (hR : m_fr mi ≤ R.frames ∧ m_lo mi ≤ R.locals) (ht : t0 ≤ xT h) (hz : s0 ≤ xS h) {len code : Nat} {imm : Int} {x y nx pc' : Nat} {sw : List (Int × Nat)} {ls' st' : List Value} {h' : XH} (hc : xT h' - t0 ≤ R.cells) (hsl : xS h' - s0 ≤ R.slots) (hd : decode (m_b mi) pc = .ok (.ishr, len)) (hop : x_tr (m_o mi) (m_y mi).name (m_r mi) pc (.ishr) len = some (code, imm, x, y, nx, sw)) (hn : code ≠ 40 ∨ ∃ jz, (.ishr : Instr) = .getstatic jz) (hcode : code < 50) (hs : x_step code imm x y nx sw x_nf ls st h = some (pc', ls', st', h')) (k : g_K p l e R s m args below meth c b0 ra cA dC dI L xs mi t0 s0 Q pc' ls' st' h') : g_K p l e R s m args below meth c b0 ra cA dC dI L xs mi t0 s0 Q pc ls st h := by
  obtain ⟨hlen, ho⟩ := x_op_some hop
  have hlen := of_decide_eq_true hlen
  subst hlen
  cases ho
  simp only [x_step] at hs
  split at hs
  · cases hs
    exact gk_ishr C hd k
  · cases hs
theorem gs_iushr (C : g_c mi p s m args meth c) (G : g_s b0 ra cA dC dI L xs s) (hR : m_fr mi ≤ R.frames ∧ m_lo mi ≤ R.locals) (ht : t0 ≤ xT h) (hz : s0 ≤ xS h) {len code : Nat} {imm : Int} {x y nx pc' : Nat} {sw : List (Int × Nat)} {ls' st' : List Value} {h' : XH} (hc : xT h' - t0 ≤ R.cells) (hsl : xS h' - s0 ≤ R.slots) (hd : decode (m_b mi) pc = .ok (.iushr, len)) (hop : x_tr (m_o mi) (m_y mi).name (m_r mi) pc (.iushr) len = some (code, imm, x, y, nx, sw)) (hn : code ≠ 40 ∨ ∃ jz, (.iushr : Instr) = .getstatic jz) (hcode : code < 50) (hs : x_step code imm x y nx sw x_nf ls st h = some (pc', ls', st', h')) (k : g_K p l e R s m args below meth c b0 ra cA dC dI L xs mi t0 s0 Q pc' ls' st' h') : g_K p l e R s m args below meth c b0 ra cA dC dI L xs mi t0 s0 Q pc ls st h := by
  obtain ⟨hlen, ho⟩ := x_op_some hop
  have hlen := of_decide_eq_true hlen
  subst hlen
  cases ho
  simp only [x_step] at hs
  split at hs
  · cases hs
    exact gk_iushr C hd k
  · cases hs
theorem gs_ladd (C : g_c mi p s m args meth c) (G : g_s b0 ra cA dC dI L xs s) (hR : m_fr mi ≤ R.frames ∧ m_lo mi ≤ R.locals) (ht : t0 ≤ xT h) (hz : s0 ≤ xS h) {len code : Nat} {imm : Int} {x y nx pc' : Nat} {sw : List (Int × Nat)} {ls' st' : List Value} {h' : XH} (hc : xT h' - t0 ≤ R.cells) (hsl : xS h' - s0 ≤ R.slots) (hd : decode (m_b mi) pc = .ok (.ladd, len)) (hop : x_tr (m_o mi) (m_y mi).name (m_r mi) pc (.ladd) len = some (code, imm, x, y, nx, sw)) (hn : code ≠ 40 ∨ ∃ jz, (.ladd : Instr) = .getstatic jz) (hcode : code < 50) (hs : x_step code imm x y nx sw x_nf ls st h = some (pc', ls', st', h')) (k : g_K p l e R s m args below meth c b0 ra cA dC dI L xs mi t0 s0 Q pc' ls' st' h') : g_K p l e R s m args below meth c b0 ra cA dC dI L xs mi t0 s0 Q pc ls st h := by
  obtain ⟨hlen, ho⟩ := x_op_some hop
  have hlen := of_decide_eq_true hlen
  subst hlen
  cases ho
  simp only [x_step] at hs
  split at hs
  · cases hs
    exact gk_ladd C hd k
  · cases hs
theorem gs_lsub (C : g_c mi p s m args meth c) (G : g_s b0 ra cA dC dI L xs s) (hR : m_fr mi ≤ R.frames ∧ m_lo mi ≤ R.locals) (ht : t0 ≤ xT h) (hz : s0 ≤ xS h) {len code : Nat} {imm : Int} {x y nx pc' : Nat} {sw : List (Int × Nat)} {ls' st' : List Value} {h' : XH} (hc : xT h' - t0 ≤ R.cells) (hsl : xS h' - s0 ≤ R.slots) (hd : decode (m_b mi) pc = .ok (.lsub, len)) (hop : x_tr (m_o mi) (m_y mi).name (m_r mi) pc (.lsub) len = some (code, imm, x, y, nx, sw)) (hn : code ≠ 40 ∨ ∃ jz, (.lsub : Instr) = .getstatic jz) (hcode : code < 50) (hs : x_step code imm x y nx sw x_nf ls st h = some (pc', ls', st', h')) (k : g_K p l e R s m args below meth c b0 ra cA dC dI L xs mi t0 s0 Q pc' ls' st' h') : g_K p l e R s m args below meth c b0 ra cA dC dI L xs mi t0 s0 Q pc ls st h := by
  obtain ⟨hlen, ho⟩ := x_op_some hop
  have hlen := of_decide_eq_true hlen
  subst hlen
  cases ho
  simp only [x_step] at hs
  split at hs
  · cases hs
    exact gk_lsub C hd k
  · cases hs
theorem gs_lmul (C : g_c mi p s m args meth c) (G : g_s b0 ra cA dC dI L xs s) (hR : m_fr mi ≤ R.frames ∧ m_lo mi ≤ R.locals) (ht : t0 ≤ xT h) (hz : s0 ≤ xS h) {len code : Nat} {imm : Int} {x y nx pc' : Nat} {sw : List (Int × Nat)} {ls' st' : List Value} {h' : XH} (hc : xT h' - t0 ≤ R.cells) (hsl : xS h' - s0 ≤ R.slots) (hd : decode (m_b mi) pc = .ok (.lmul, len)) (hop : x_tr (m_o mi) (m_y mi).name (m_r mi) pc (.lmul) len = some (code, imm, x, y, nx, sw)) (hn : code ≠ 40 ∨ ∃ jz, (.lmul : Instr) = .getstatic jz) (hcode : code < 50) (hs : x_step code imm x y nx sw x_nf ls st h = some (pc', ls', st', h')) (k : g_K p l e R s m args below meth c b0 ra cA dC dI L xs mi t0 s0 Q pc' ls' st' h') : g_K p l e R s m args below meth c b0 ra cA dC dI L xs mi t0 s0 Q pc ls st h := by
  obtain ⟨hlen, ho⟩ := x_op_some hop
  have hlen := of_decide_eq_true hlen
  subst hlen
  cases ho
  simp only [x_step] at hs
  split at hs
  · cases hs
    exact gk_lmul C hd k
  · cases hs
theorem gs_land (C : g_c mi p s m args meth c) (G : g_s b0 ra cA dC dI L xs s) (hR : m_fr mi ≤ R.frames ∧ m_lo mi ≤ R.locals) (ht : t0 ≤ xT h) (hz : s0 ≤ xS h) {len code : Nat} {imm : Int} {x y nx pc' : Nat} {sw : List (Int × Nat)} {ls' st' : List Value} {h' : XH} (hc : xT h' - t0 ≤ R.cells) (hsl : xS h' - s0 ≤ R.slots) (hd : decode (m_b mi) pc = .ok (.land, len)) (hop : x_tr (m_o mi) (m_y mi).name (m_r mi) pc (.land) len = some (code, imm, x, y, nx, sw)) (hn : code ≠ 40 ∨ ∃ jz, (.land : Instr) = .getstatic jz) (hcode : code < 50) (hs : x_step code imm x y nx sw x_nf ls st h = some (pc', ls', st', h')) (k : g_K p l e R s m args below meth c b0 ra cA dC dI L xs mi t0 s0 Q pc' ls' st' h') : g_K p l e R s m args below meth c b0 ra cA dC dI L xs mi t0 s0 Q pc ls st h := by
  obtain ⟨hlen, ho⟩ := x_op_some hop
  have hlen := of_decide_eq_true hlen
  subst hlen
  cases ho
  simp only [x_step] at hs
  split at hs
  · cases hs
    exact gk_land C hd k
  · cases hs
theorem gs_lor (C : g_c mi p s m args meth c) (G : g_s b0 ra cA dC dI L xs s) (hR : m_fr mi ≤ R.frames ∧ m_lo mi ≤ R.locals) (ht : t0 ≤ xT h) (hz : s0 ≤ xS h) {len code : Nat} {imm : Int} {x y nx pc' : Nat} {sw : List (Int × Nat)} {ls' st' : List Value} {h' : XH} (hc : xT h' - t0 ≤ R.cells) (hsl : xS h' - s0 ≤ R.slots) (hd : decode (m_b mi) pc = .ok (.lor, len)) (hop : x_tr (m_o mi) (m_y mi).name (m_r mi) pc (.lor) len = some (code, imm, x, y, nx, sw)) (hn : code ≠ 40 ∨ ∃ jz, (.lor : Instr) = .getstatic jz) (hcode : code < 50) (hs : x_step code imm x y nx sw x_nf ls st h = some (pc', ls', st', h')) (k : g_K p l e R s m args below meth c b0 ra cA dC dI L xs mi t0 s0 Q pc' ls' st' h') : g_K p l e R s m args below meth c b0 ra cA dC dI L xs mi t0 s0 Q pc ls st h := by
  obtain ⟨hlen, ho⟩ := x_op_some hop
  have hlen := of_decide_eq_true hlen
  subst hlen
  cases ho
  simp only [x_step] at hs
  split at hs
  · cases hs
    exact gk_lor C hd k
  · cases hs
theorem gs_lshl (C : g_c mi p s m args meth c) (G : g_s b0 ra cA dC dI L xs s) (hR : m_fr mi ≤ R.frames ∧ m_lo mi ≤ R.locals) (ht : t0 ≤ xT h) (hz : s0 ≤ xS h) {len code : Nat} {imm : Int} {x y nx pc' : Nat} {sw : List (Int × Nat)} {ls' st' : List Value} {h' : XH} (hc : xT h' - t0 ≤ R.cells) (hsl : xS h' - s0 ≤ R.slots) (hd : decode (m_b mi) pc = .ok (.lshl, len)) (hop : x_tr (m_o mi) (m_y mi).name (m_r mi) pc (.lshl) len = some (code, imm, x, y, nx, sw)) (hn : code ≠ 40 ∨ ∃ jz, (.lshl : Instr) = .getstatic jz) (hcode : code < 50) (hs : x_step code imm x y nx sw x_nf ls st h = some (pc', ls', st', h')) (k : g_K p l e R s m args below meth c b0 ra cA dC dI L xs mi t0 s0 Q pc' ls' st' h') : g_K p l e R s m args below meth c b0 ra cA dC dI L xs mi t0 s0 Q pc ls st h := by
  obtain ⟨hlen, ho⟩ := x_op_some hop
  have hlen := of_decide_eq_true hlen
  subst hlen
  cases ho
  simp only [x_step] at hs
  split at hs
  · cases hs
    exact gk_lshl C hd k
  · cases hs
theorem gs_lushr (C : g_c mi p s m args meth c) (G : g_s b0 ra cA dC dI L xs s) (hR : m_fr mi ≤ R.frames ∧ m_lo mi ≤ R.locals) (ht : t0 ≤ xT h) (hz : s0 ≤ xS h) {len code : Nat} {imm : Int} {x y nx pc' : Nat} {sw : List (Int × Nat)} {ls' st' : List Value} {h' : XH} (hc : xT h' - t0 ≤ R.cells) (hsl : xS h' - s0 ≤ R.slots) (hd : decode (m_b mi) pc = .ok (.lushr, len)) (hop : x_tr (m_o mi) (m_y mi).name (m_r mi) pc (.lushr) len = some (code, imm, x, y, nx, sw)) (hn : code ≠ 40 ∨ ∃ jz, (.lushr : Instr) = .getstatic jz) (hcode : code < 50) (hs : x_step code imm x y nx sw x_nf ls st h = some (pc', ls', st', h')) (k : g_K p l e R s m args below meth c b0 ra cA dC dI L xs mi t0 s0 Q pc' ls' st' h') : g_K p l e R s m args below meth c b0 ra cA dC dI L xs mi t0 s0 Q pc ls st h := by
  obtain ⟨hlen, ho⟩ := x_op_some hop
  have hlen := of_decide_eq_true hlen
  subst hlen
  cases ho
  simp only [x_step] at hs
  split at hs
  · cases hs
    exact gk_lushr C hd k
  · cases hs
theorem gs_i2l (C : g_c mi p s m args meth c) (G : g_s b0 ra cA dC dI L xs s) (hR : m_fr mi ≤ R.frames ∧ m_lo mi ≤ R.locals) (ht : t0 ≤ xT h) (hz : s0 ≤ xS h) {len code : Nat} {imm : Int} {x y nx pc' : Nat} {sw : List (Int × Nat)} {ls' st' : List Value} {h' : XH} (hc : xT h' - t0 ≤ R.cells) (hsl : xS h' - s0 ≤ R.slots) (hd : decode (m_b mi) pc = .ok (.i2l, len)) (hop : x_tr (m_o mi) (m_y mi).name (m_r mi) pc (.i2l) len = some (code, imm, x, y, nx, sw)) (hn : code ≠ 40 ∨ ∃ jz, (.i2l : Instr) = .getstatic jz) (hcode : code < 50) (hs : x_step code imm x y nx sw x_nf ls st h = some (pc', ls', st', h')) (k : g_K p l e R s m args below meth c b0 ra cA dC dI L xs mi t0 s0 Q pc' ls' st' h') : g_K p l e R s m args below meth c b0 ra cA dC dI L xs mi t0 s0 Q pc ls st h := by
  obtain ⟨hlen, ho⟩ := x_op_some hop
  have hlen := of_decide_eq_true hlen
  subst hlen
  cases ho
  simp only [x_step] at hs
  split at hs
  · cases hs
    exact gk_i2l C hd k
  · cases hs
theorem gs_l2i (C : g_c mi p s m args meth c) (G : g_s b0 ra cA dC dI L xs s) (hR : m_fr mi ≤ R.frames ∧ m_lo mi ≤ R.locals) (ht : t0 ≤ xT h) (hz : s0 ≤ xS h) {len code : Nat} {imm : Int} {x y nx pc' : Nat} {sw : List (Int × Nat)} {ls' st' : List Value} {h' : XH} (hc : xT h' - t0 ≤ R.cells) (hsl : xS h' - s0 ≤ R.slots) (hd : decode (m_b mi) pc = .ok (.l2i, len)) (hop : x_tr (m_o mi) (m_y mi).name (m_r mi) pc (.l2i) len = some (code, imm, x, y, nx, sw)) (hn : code ≠ 40 ∨ ∃ jz, (.l2i : Instr) = .getstatic jz) (hcode : code < 50) (hs : x_step code imm x y nx sw x_nf ls st h = some (pc', ls', st', h')) (k : g_K p l e R s m args below meth c b0 ra cA dC dI L xs mi t0 s0 Q pc' ls' st' h') : g_K p l e R s m args below meth c b0 ra cA dC dI L xs mi t0 s0 Q pc ls st h := by
  obtain ⟨hlen, ho⟩ := x_op_some hop
  have hlen := of_decide_eq_true hlen
  subst hlen
  cases ho
  simp only [x_step] at hs
  split at hs
  · cases hs
    exact gk_l2i C hd k
  · cases hs
theorem gs_i2b (C : g_c mi p s m args meth c) (G : g_s b0 ra cA dC dI L xs s) (hR : m_fr mi ≤ R.frames ∧ m_lo mi ≤ R.locals) (ht : t0 ≤ xT h) (hz : s0 ≤ xS h) {len code : Nat} {imm : Int} {x y nx pc' : Nat} {sw : List (Int × Nat)} {ls' st' : List Value} {h' : XH} (hc : xT h' - t0 ≤ R.cells) (hsl : xS h' - s0 ≤ R.slots) (hd : decode (m_b mi) pc = .ok (.i2b, len)) (hop : x_tr (m_o mi) (m_y mi).name (m_r mi) pc (.i2b) len = some (code, imm, x, y, nx, sw)) (hn : code ≠ 40 ∨ ∃ jz, (.i2b : Instr) = .getstatic jz) (hcode : code < 50) (hs : x_step code imm x y nx sw x_nf ls st h = some (pc', ls', st', h')) (k : g_K p l e R s m args below meth c b0 ra cA dC dI L xs mi t0 s0 Q pc' ls' st' h') : g_K p l e R s m args below meth c b0 ra cA dC dI L xs mi t0 s0 Q pc ls st h := by
  obtain ⟨hlen, ho⟩ := x_op_some hop
  have hlen := of_decide_eq_true hlen
  subst hlen
  cases ho
  simp only [x_step] at hs
  split at hs
  · cases hs
    exact gk_i2b C hd k
  · cases hs
theorem gs_i2c (C : g_c mi p s m args meth c) (G : g_s b0 ra cA dC dI L xs s) (hR : m_fr mi ≤ R.frames ∧ m_lo mi ≤ R.locals) (ht : t0 ≤ xT h) (hz : s0 ≤ xS h) {len code : Nat} {imm : Int} {x y nx pc' : Nat} {sw : List (Int × Nat)} {ls' st' : List Value} {h' : XH} (hc : xT h' - t0 ≤ R.cells) (hsl : xS h' - s0 ≤ R.slots) (hd : decode (m_b mi) pc = .ok (.i2c, len)) (hop : x_tr (m_o mi) (m_y mi).name (m_r mi) pc (.i2c) len = some (code, imm, x, y, nx, sw)) (hn : code ≠ 40 ∨ ∃ jz, (.i2c : Instr) = .getstatic jz) (hcode : code < 50) (hs : x_step code imm x y nx sw x_nf ls st h = some (pc', ls', st', h')) (k : g_K p l e R s m args below meth c b0 ra cA dC dI L xs mi t0 s0 Q pc' ls' st' h') : g_K p l e R s m args below meth c b0 ra cA dC dI L xs mi t0 s0 Q pc ls st h := by
  obtain ⟨hlen, ho⟩ := x_op_some hop
  have hlen := of_decide_eq_true hlen
  subst hlen
  cases ho
  simp only [x_step] at hs
  split at hs
  · cases hs
    exact gk_i2c C hd k
  · cases hs
theorem gs_lcmp (C : g_c mi p s m args meth c) (G : g_s b0 ra cA dC dI L xs s) (hR : m_fr mi ≤ R.frames ∧ m_lo mi ≤ R.locals) (ht : t0 ≤ xT h) (hz : s0 ≤ xS h) {len code : Nat} {imm : Int} {x y nx pc' : Nat} {sw : List (Int × Nat)} {ls' st' : List Value} {h' : XH} (hc : xT h' - t0 ≤ R.cells) (hsl : xS h' - s0 ≤ R.slots) (hd : decode (m_b mi) pc = .ok (.lcmp, len)) (hop : x_tr (m_o mi) (m_y mi).name (m_r mi) pc (.lcmp) len = some (code, imm, x, y, nx, sw)) (hn : code ≠ 40 ∨ ∃ jz, (.lcmp : Instr) = .getstatic jz) (hcode : code < 50) (hs : x_step code imm x y nx sw x_nf ls st h = some (pc', ls', st', h')) (k : g_K p l e R s m args below meth c b0 ra cA dC dI L xs mi t0 s0 Q pc' ls' st' h') : g_K p l e R s m args below meth c b0 ra cA dC dI L xs mi t0 s0 Q pc ls st h := by
  obtain ⟨hlen, ho⟩ := x_op_some hop
  have hlen := of_decide_eq_true hlen
  subst hlen
  cases ho
  simp only [x_step] at hs
  split at hs
  · cases hs
    exact gk_lcmp C hd k
  · cases hs
theorem gs_idiv (C : g_c mi p s m args meth c) (G : g_s b0 ra cA dC dI L xs s) (hR : m_fr mi ≤ R.frames ∧ m_lo mi ≤ R.locals) (ht : t0 ≤ xT h) (hz : s0 ≤ xS h) {len code : Nat} {imm : Int} {x y nx pc' : Nat} {sw : List (Int × Nat)} {ls' st' : List Value} {h' : XH} (hc : xT h' - t0 ≤ R.cells) (hsl : xS h' - s0 ≤ R.slots) (hd : decode (m_b mi) pc = .ok (.idiv, len)) (hop : x_tr (m_o mi) (m_y mi).name (m_r mi) pc (.idiv) len = some (code, imm, x, y, nx, sw)) (hn : code ≠ 40 ∨ ∃ jz, (.idiv : Instr) = .getstatic jz) (hcode : code < 50) (hs : x_step code imm x y nx sw x_nf ls st h = some (pc', ls', st', h')) (k : g_K p l e R s m args below meth c b0 ra cA dC dI L xs mi t0 s0 Q pc' ls' st' h') : g_K p l e R s m args below meth c b0 ra cA dC dI L xs mi t0 s0 Q pc ls st h := by
  obtain ⟨hlen, ho⟩ := x_op_some hop
  have hlen := of_decide_eq_true hlen
  subst hlen
  cases ho
  simp only [x_step] at hs
  split at hs
  · split at hs
    · cases hs
    · rename_i hv
      cases hs
      exact gk_idiv C hd hv k
  · cases hs
theorem gs_irem (C : g_c mi p s m args meth c) (G : g_s b0 ra cA dC dI L xs s) (hR : m_fr mi ≤ R.frames ∧ m_lo mi ≤ R.locals) (ht : t0 ≤ xT h) (hz : s0 ≤ xS h) {len code : Nat} {imm : Int} {x y nx pc' : Nat} {sw : List (Int × Nat)} {ls' st' : List Value} {h' : XH} (hc : xT h' - t0 ≤ R.cells) (hsl : xS h' - s0 ≤ R.slots) (hd : decode (m_b mi) pc = .ok (.irem, len)) (hop : x_tr (m_o mi) (m_y mi).name (m_r mi) pc (.irem) len = some (code, imm, x, y, nx, sw)) (hn : code ≠ 40 ∨ ∃ jz, (.irem : Instr) = .getstatic jz) (hcode : code < 50) (hs : x_step code imm x y nx sw x_nf ls st h = some (pc', ls', st', h')) (k : g_K p l e R s m args below meth c b0 ra cA dC dI L xs mi t0 s0 Q pc' ls' st' h') : g_K p l e R s m args below meth c b0 ra cA dC dI L xs mi t0 s0 Q pc ls st h := by
  obtain ⟨hlen, ho⟩ := x_op_some hop
  have hlen := of_decide_eq_true hlen
  subst hlen
  cases ho
  simp only [x_step] at hs
  split at hs
  · split at hs
    · cases hs
    · rename_i hv
      cases hs
      exact gk_irem C hd hv k
  · cases hs
theorem gs_lconst (C : g_c mi p s m args meth c) (G : g_s b0 ra cA dC dI L xs s) (hR : m_fr mi ≤ R.frames ∧ m_lo mi ≤ R.locals) (ht : t0 ≤ xT h) (hz : s0 ≤ xS h) {j : Fin 2} {len code : Nat} {imm : Int} {x y nx pc' : Nat} {sw : List (Int × Nat)} {ls' st' : List Value} {h' : XH} (hc : xT h' - t0 ≤ R.cells) (hsl : xS h' - s0 ≤ R.slots) (hd : decode (m_b mi) pc = .ok (.lconst j, len)) (hop : x_tr (m_o mi) (m_y mi).name (m_r mi) pc (.lconst j) len = some (code, imm, x, y, nx, sw)) (hn : code ≠ 40 ∨ ∃ jz, (.lconst j : Instr) = .getstatic jz) (hcode : code < 50) (hs : x_step code imm x y nx sw x_nf ls st h = some (pc', ls', st', h')) (k : g_K p l e R s m args below meth c b0 ra cA dC dI L xs mi t0 s0 Q pc' ls' st' h') : g_K p l e R s m args below meth c b0 ra cA dC dI L xs mi t0 s0 Q pc ls st h := by
  obtain ⟨hlen, ho⟩ := x_op_some hop
  have hlen := of_decide_eq_true hlen
  subst hlen
  cases ho
  simp only [x_step] at hs
  cases hs
  exact gk_lconst C hd k
theorem gs_ldc2 (C : g_c mi p s m args meth c) (G : g_s b0 ra cA dC dI L xs s) (hR : m_fr mi ≤ R.frames ∧ m_lo mi ≤ R.locals) (ht : t0 ≤ xT h) (hz : s0 ≤ xS h) {j : Nat} {len code : Nat} {imm : Int} {x y nx pc' : Nat} {sw : List (Int × Nat)} {ls' st' : List Value} {h' : XH} (hc : xT h' - t0 ≤ R.cells) (hsl : xS h' - s0 ≤ R.slots) (hd : decode (m_b mi) pc = .ok (.ldc2_w j, len)) (hop : x_tr (m_o mi) (m_y mi).name (m_r mi) pc (.ldc2_w j) len = some (code, imm, x, y, nx, sw)) (hn : code ≠ 40 ∨ ∃ jz, (.ldc2_w j : Instr) = .getstatic jz) (hcode : code < 50) (hs : x_step code imm x y nx sw x_nf ls st h = some (pc', ls', st', h')) (k : g_K p l e R s m args below meth c b0 ra cA dC dI L xs mi t0 s0 Q pc' ls' st' h') : g_K p l e R s m args below meth c b0 ra cA dC dI L xs mi t0 s0 Q pc ls st h := by
  unfold x_tr at hop
  dsimp only at hop
  split at hop
  · rename_i v ps hq
    obtain ⟨hlen, ho⟩ := x_op_some hop
    have hlen := of_decide_eq_true hlen
    subst hlen
    cases ho
    simp only [x_step] at hs
    cases hs
    exact gk_ldc2 C hd hq k
  · cases hop
theorem gs_ldc (C : g_c mi p s m args meth c) (G : g_s b0 ra cA dC dI L xs s) (hR : m_fr mi ≤ R.frames ∧ m_lo mi ≤ R.locals) (ht : t0 ≤ xT h) (hz : s0 ≤ xS h) {j : Nat} {len code : Nat} {imm : Int} {x y nx pc' : Nat} {sw : List (Int × Nat)} {ls' st' : List Value} {h' : XH} (hc : xT h' - t0 ≤ R.cells) (hsl : xS h' - s0 ≤ R.slots) (hd : decode (m_b mi) pc = .ok (.ldc j, len)) (hop : x_tr (m_o mi) (m_y mi).name (m_r mi) pc (.ldc j) len = some (code, imm, x, y, nx, sw)) (hn : code ≠ 40 ∨ ∃ jz, (.ldc j : Instr) = .getstatic jz) (hcode : code < 50) (hs : x_step code imm x y nx sw x_nf ls st h = some (pc', ls', st', h')) (k : g_K p l e R s m args below meth c b0 ra cA dC dI L xs mi t0 s0 Q pc' ls' st' h') : g_K p l e R s m args below meth c b0 ra cA dC dI L xs mi t0 s0 Q pc ls st h := by
  unfold x_tr at hop
  dsimp only at hop
  split at hop
  · rename_i v ps hq
    obtain ⟨hlen, ho⟩ := x_op_some hop
    have hlen := of_decide_eq_true hlen
    subst hlen
    cases ho
    simp only [x_step] at hs
    cases hs
    exact gk_ldc C hd hq k
  · split at hop
    · obtain ⟨hlen, ho⟩ := x_op_some hop
      cases ho
      rcases hn with q | ⟨_, q⟩
      · exact absurd rfl q
      · cases q
    · cases hop
theorem gs_ldc_w (C : g_c mi p s m args meth c) (G : g_s b0 ra cA dC dI L xs s) (hR : m_fr mi ≤ R.frames ∧ m_lo mi ≤ R.locals) (ht : t0 ≤ xT h) (hz : s0 ≤ xS h) {j : Nat} {len code : Nat} {imm : Int} {x y nx pc' : Nat} {sw : List (Int × Nat)} {ls' st' : List Value} {h' : XH} (hc : xT h' - t0 ≤ R.cells) (hsl : xS h' - s0 ≤ R.slots) (hd : decode (m_b mi) pc = .ok (.ldc_w j, len)) (hop : x_tr (m_o mi) (m_y mi).name (m_r mi) pc (.ldc_w j) len = some (code, imm, x, y, nx, sw)) (hn : code ≠ 40 ∨ ∃ jz, (.ldc_w j : Instr) = .getstatic jz) (hcode : code < 50) (hs : x_step code imm x y nx sw x_nf ls st h = some (pc', ls', st', h')) (k : g_K p l e R s m args below meth c b0 ra cA dC dI L xs mi t0 s0 Q pc' ls' st' h') : g_K p l e R s m args below meth c b0 ra cA dC dI L xs mi t0 s0 Q pc ls st h := by
  unfold x_tr at hop
  dsimp only at hop
  split at hop
  · rename_i v ps hq
    obtain ⟨hlen, ho⟩ := x_op_some hop
    have hlen := of_decide_eq_true hlen
    subst hlen
    cases ho
    simp only [x_step] at hs
    cases hs
    exact gk_ldcw C hd hq k
  · split at hop
    · obtain ⟨hlen, ho⟩ := x_op_some hop
      cases ho
      rcases hn with q | ⟨_, q⟩
      · exact absurd rfl q
      · cases q
    · cases hop
theorem gs_goto (C : g_c mi p s m args meth c) (G : g_s b0 ra cA dC dI L xs s) (hR : m_fr mi ≤ R.frames ∧ m_lo mi ≤ R.locals) (ht : t0 ≤ xT h) (hz : s0 ≤ xS h) {off : Int} {len code : Nat} {imm : Int} {x y nx pc' : Nat} {sw : List (Int × Nat)} {ls' st' : List Value} {h' : XH} (hc : xT h' - t0 ≤ R.cells) (hsl : xS h' - s0 ≤ R.slots) (hd : decode (m_b mi) pc = .ok (.goto off, len)) (hop : x_tr (m_o mi) (m_y mi).name (m_r mi) pc (.goto off) len = some (code, imm, x, y, nx, sw)) (hn : code ≠ 40 ∨ ∃ jz, (.goto off : Instr) = .getstatic jz) (hcode : code < 50) (hs : x_step code imm x y nx sw x_nf ls st h = some (pc', ls', st', h')) (k : g_K p l e R s m args below meth c b0 ra cA dC dI L xs mi t0 s0 Q pc' ls' st' h') : g_K p l e R s m args below meth c b0 ra cA dC dI L xs mi t0 s0 Q pc ls st h := by
  unfold x_tr at hop
  dsimp only at hop
  obtain ⟨hlen, htg, ho⟩ := x_jmp_some hop
  have hlen := of_decide_eq_true hlen
  subst hlen
  cases ho
  simp only [x_step] at hs
  cases hs
  exact gk_goto C hd htg k
theorem gs_if_icmp (C : g_c mi p s m args meth c) (G : g_s b0 ra cA dC dI L xs s) (hR : m_fr mi ≤ R.frames ∧ m_lo mi ≤ R.locals) (ht : t0 ≤ xT h) (hz : s0 ≤ xS h) {q : _} {off : Int} {len code : Nat} {imm : Int} {x y nx pc' : Nat} {sw : List (Int × Nat)} {ls' st' : List Value} {h' : XH} (hc : xT h' - t0 ≤ R.cells) (hsl : xS h' - s0 ≤ R.slots) (hd : decode (m_b mi) pc = .ok (.if_icmp q off, len)) (hop : x_tr (m_o mi) (m_y mi).name (m_r mi) pc (.if_icmp q off) len = some (code, imm, x, y, nx, sw)) (hn : code ≠ 40 ∨ ∃ jz, (.if_icmp q off : Instr) = .getstatic jz) (hcode : code < 50) (hs : x_step code imm x y nx sw x_nf ls st h = some (pc', ls', st', h')) (k : g_K p l e R s m args below meth c b0 ra cA dC dI L xs mi t0 s0 Q pc' ls' st' h') : g_K p l e R s m args below meth c b0 ra cA dC dI L xs mi t0 s0 Q pc ls st h := by
  unfold x_tr at hop
  dsimp only at hop
  obtain ⟨hlen, htg, ho⟩ := x_jmp_some hop
  have hlen := of_decide_eq_true hlen
  subst hlen
  cases q
  case eq => cases ho; simp only [x_step] at hs; split at hs; (cases hs; exact gk_icmp_eq C hd htg k); (cases hs)
  case ne => cases ho; simp only [x_step] at hs; split at hs; (cases hs; exact gk_icmp_ne C hd htg k); (cases hs)
  case lt => cases ho; simp only [x_step] at hs; split at hs; (cases hs; exact gk_icmp_lt C hd htg k); (cases hs)
  case ge => cases ho; simp only [x_step] at hs; split at hs; (cases hs; exact gk_icmp_ge C hd htg k); (cases hs)
  case gt => cases ho; simp only [x_step] at hs; split at hs; (cases hs; exact gk_icmp_gt C hd htg k); (cases hs)
  case le => cases ho; simp only [x_step] at hs; split at hs; (cases hs; exact gk_icmp_le C hd htg k); (cases hs)
theorem gs_ifCond (C : g_c mi p s m args meth c) (G : g_s b0 ra cA dC dI L xs s) (hR : m_fr mi ≤ R.frames ∧ m_lo mi ≤ R.locals) (ht : t0 ≤ xT h) (hz : s0 ≤ xS h) {q : _} {off : Int} {len code : Nat} {imm : Int} {x y nx pc' : Nat} {sw : List (Int × Nat)} {ls' st' : List Value} {h' : XH} (hc : xT h' - t0 ≤ R.cells) (hsl : xS h' - s0 ≤ R.slots) (hd : decode (m_b mi) pc = .ok (.ifCond q off, len)) (hop : x_tr (m_o mi) (m_y mi).name (m_r mi) pc (.ifCond q off) len = some (code, imm, x, y, nx, sw)) (hn : code ≠ 40 ∨ ∃ jz, (.ifCond q off : Instr) = .getstatic jz) (hcode : code < 50) (hs : x_step code imm x y nx sw x_nf ls st h = some (pc', ls', st', h')) (k : g_K p l e R s m args below meth c b0 ra cA dC dI L xs mi t0 s0 Q pc' ls' st' h') : g_K p l e R s m args below meth c b0 ra cA dC dI L xs mi t0 s0 Q pc ls st h := by
  unfold x_tr at hop
  dsimp only at hop
  obtain ⟨hlen, htg, ho⟩ := x_jmp_some hop
  have hlen := of_decide_eq_true hlen
  subst hlen
  cases q
  case eq => cases ho; simp only [x_step] at hs; split at hs; (cases hs; exact gk_if_eq C hd htg k); (cases hs)
  case ne => cases ho; simp only [x_step] at hs; split at hs; (cases hs; exact gk_if_ne C hd htg k); (cases hs)
  case lt => cases ho; simp only [x_step] at hs; split at hs; (cases hs; exact gk_if_lt C hd htg k); (cases hs)
  case ge => cases ho; simp only [x_step] at hs; split at hs; (cases hs; exact gk_if_ge C hd htg k); (cases hs)
  case gt => cases ho; simp only [x_step] at hs; split at hs; (cases hs; exact gk_if_gt C hd htg k); (cases hs)
  case le => cases ho; simp only [x_step] at hs; split at hs; (cases hs; exact gk_if_le C hd htg k); (cases hs)
theorem gs_dup (C : g_c mi p s m args meth c) (G : g_s b0 ra cA dC dI L xs s) (hR : m_fr mi ≤ R.frames ∧ m_lo mi ≤ R.locals) (ht : t0 ≤ xT h) (hz : s0 ≤ xS h) {len code : Nat} {imm : Int} {x y nx pc' : Nat} {sw : List (Int × Nat)} {ls' st' : List Value} {h' : XH} (hc : xT h' - t0 ≤ R.cells) (hsl : xS h' - s0 ≤ R.slots) (hd : decode (m_b mi) pc = .ok (.dup, len)) (hop : x_tr (m_o mi) (m_y mi).name (m_r mi) pc (.dup) len = some (code, imm, x, y, nx, sw)) (hn : code ≠ 40 ∨ ∃ jz, (.dup : Instr) = .getstatic jz) (hcode : code < 50) (hs : x_step code imm x y nx sw x_nf ls st h = some (pc', ls', st', h')) (k : g_K p l e R s m args below meth c b0 ra cA dC dI L xs mi t0 s0 Q pc' ls' st' h') : g_K p l e R s m args below meth c b0 ra cA dC dI L xs mi t0 s0 Q pc ls st h := by
  obtain ⟨hlen, ho⟩ := x_op_some hop
  have hlen := of_decide_eq_true hlen
  subst hlen
  cases ho
  simp only [x_step] at hs
  split at hs
  · split at hs
    · rename_i hv
      cases hs
      exact gk_dup C hd hv k
    · cases hs
  · cases hs
theorem gs_pop (C : g_c mi p s m args meth c) (G : g_s b0 ra cA dC dI L xs s) (hR : m_fr mi ≤ R.frames ∧ m_lo mi ≤ R.locals) (ht : t0 ≤ xT h) (hz : s0 ≤ xS h) {len code : Nat} {imm : Int} {x y nx pc' : Nat} {sw : List (Int × Nat)} {ls' st' : List Value} {h' : XH} (hc : xT h' - t0 ≤ R.cells) (hsl : xS h' - s0 ≤ R.slots) (hd : decode (m_b mi) pc = .ok (.pop, len)) (hop : x_tr (m_o mi) (m_y mi).name (m_r mi) pc (.pop) len = some (code, imm, x, y, nx, sw)) (hn : code ≠ 40 ∨ ∃ jz, (.pop : Instr) = .getstatic jz) (hcode : code < 50) (hs : x_step code imm x y nx sw x_nf ls st h = some (pc', ls', st', h')) (k : g_K p l e R s m args below meth c b0 ra cA dC dI L xs mi t0 s0 Q pc' ls' st' h') : g_K p l e R s m args below meth c b0 ra cA dC dI L xs mi t0 s0 Q pc ls st h := by
  obtain ⟨hlen, ho⟩ := x_op_some hop
  have hlen := of_decide_eq_true hlen
  subst hlen
  cases ho
  simp only [x_step] at hs
  split at hs
  · split at hs
    · rename_i hv
      cases hs
      exact gk_pop C hd hv k
    · cases hs
  · cases hs
theorem gs_dup2 (C : g_c mi p s m args meth c) (G : g_s b0 ra cA dC dI L xs s) (hR : m_fr mi ≤ R.frames ∧ m_lo mi ≤ R.locals) (ht : t0 ≤ xT h) (hz : s0 ≤ xS h) {len code : Nat} {imm : Int} {x y nx pc' : Nat} {sw : List (Int × Nat)} {ls' st' : List Value} {h' : XH} (hc : xT h' - t0 ≤ R.cells) (hsl : xS h' - s0 ≤ R.slots) (hd : decode (m_b mi) pc = .ok (.dup2, len)) (hop : x_tr (m_o mi) (m_y mi).name (m_r mi) pc (.dup2) len = some (code, imm, x, y, nx, sw)) (hn : code ≠ 40 ∨ ∃ jz, (.dup2 : Instr) = .getstatic jz) (hcode : code < 50) (hs : x_step code imm x y nx sw x_nf ls st h = some (pc', ls', st', h')) (k : g_K p l e R s m args below meth c b0 ra cA dC dI L xs mi t0 s0 Q pc' ls' st' h') : g_K p l e R s m args below meth c b0 ra cA dC dI L xs mi t0 s0 Q pc ls st h := by
  obtain ⟨hlen, ho⟩ := x_op_some hop
  have hlen := of_decide_eq_true hlen
  subst hlen
  cases ho
  simp only [x_step] at hs
  split at hs
  · split at hs
    · rename_i hv
      cases hs
      exact gk_dup2 C hd hv.1 hv.2 k
    · cases hs
  · cases hs
theorem gs_getfield (C : g_c mi p s m args meth c) (G : g_s b0 ra cA dC dI L xs s) (hR : m_fr mi ≤ R.frames ∧ m_lo mi ≤ R.locals) (ht : t0 ≤ xT h) (hz : s0 ≤ xS h) {j : Nat} {len code : Nat} {imm : Int} {x y nx pc' : Nat} {sw : List (Int × Nat)} {ls' st' : List Value} {h' : XH} (hc : xT h' - t0 ≤ R.cells) (hsl : xS h' - s0 ≤ R.slots) (hd : decode (m_b mi) pc = .ok (.getfield j, len)) (hop : x_tr (m_o mi) (m_y mi).name (m_r mi) pc (.getfield j) len = some (code, imm, x, y, nx, sw)) (hn : code ≠ 40 ∨ ∃ jz, (.getfield j : Instr) = .getstatic jz) (hcode : code < 50) (hs : x_step code imm x y nx sw x_nf ls st h = some (pc', ls', st', h')) (k : g_K p l e R s m args below meth c b0 ra cA dC dI L xs mi t0 s0 Q pc' ls' st' h') : g_K p l e R s m args below meth c b0 ra cA dC dI L xs mi t0 s0 Q pc ls st h := by
  unfold x_tr at hop
  dsimp only at hop
  split at hop
  · rename_i hlen
    subst hlen
    unfold x_fget at hop
    split at hop
    · rename_i ci sl kd ps hq
      by_cases hk : kd = 2
      · subst hk
        cases hop
        rw [if_pos rfl] at hs
        simp only [x_step] at hs
        split at hs
        · split at hs
          · rename_i hv
            cases hs
            exact gk_getR C G hd hq hv.1 hv.2 k
          · cases hs
        · cases hs
      · rw [if_neg hk] at hop
        cases hop
        simp only [x_step] at hs
        split at hs
        · split at hs
          · rename_i hv
            cases hs
            exact gk_getI C G hd hq hk hv k
          · cases hs
        · cases hs
    · cases hop
  · cases hop
theorem gs_putfield (C : g_c mi p s m args meth c) (G : g_s b0 ra cA dC dI L xs s) (hR : m_fr mi ≤ R.frames ∧ m_lo mi ≤ R.locals) (ht : t0 ≤ xT h) (hz : s0 ≤ xS h) {j : Nat} {len code : Nat} {imm : Int} {x y nx pc' : Nat} {sw : List (Int × Nat)} {ls' st' : List Value} {h' : XH} (hc : xT h' - t0 ≤ R.cells) (hsl : xS h' - s0 ≤ R.slots) (hd : decode (m_b mi) pc = .ok (.putfield j, len)) (hop : x_tr (m_o mi) (m_y mi).name (m_r mi) pc (.putfield j) len = some (code, imm, x, y, nx, sw)) (hn : code ≠ 40 ∨ ∃ jz, (.putfield j : Instr) = .getstatic jz) (hcode : code < 50) (hs : x_step code imm x y nx sw x_nf ls st h = some (pc', ls', st', h')) (k : g_K p l e R s m args below meth c b0 ra cA dC dI L xs mi t0 s0 Q pc' ls' st' h') : g_K p l e R s m args below meth c b0 ra cA dC dI L xs mi t0 s0 Q pc ls st h := by
  unfold x_tr at hop
  dsimp only at hop
  split at hop
  · rename_i hlen
    subst hlen
    unfold x_fput at hop
    split at hop
    · rename_i ci sl kd ps hq
      split at hop
      · rename_i hf
        by_cases h0 : kd = 0
        · subst h0
          cases hop
          rw [if_pos rfl] at hs
          simp only [x_step] at hs
          split at hs
          · split at hs
            · rename_i hv
              cases hs
              exact gk_putI C G hd hq hf hv k
            · cases hs
          · cases hs
        · rw [if_neg h0] at hop
          by_cases h1 : kd = 1
          · subst h1
            cases hop
            rw [if_pos rfl] at hs
            simp only [x_step] at hs
            split at hs
            · split at hs
              · rename_i hv
                cases hs
                exact gk_putZ C G hd hq hf hv.1 hv.2 k
              · cases hs
            · cases hs
          · rw [if_neg h1] at hop
            cases hop
            simp only [x_step] at hs
            split at hs
            · split at hs
              · rename_i hv
                cases hs
                exact gk_putR C G hd hq h0 h1 hf hv.1 hv.2 k
              · cases hs
            · cases hs
      · cases hop
    · cases hop
  · cases hop
theorem gs_iaload (C : g_c mi p s m args meth c) (G : g_s b0 ra cA dC dI L xs s) (hR : m_fr mi ≤ R.frames ∧ m_lo mi ≤ R.locals) (ht : t0 ≤ xT h) (hz : s0 ≤ xS h) {len code : Nat} {imm : Int} {x y nx pc' : Nat} {sw : List (Int × Nat)} {ls' st' : List Value} {h' : XH} (hc : xT h' - t0 ≤ R.cells) (hsl : xS h' - s0 ≤ R.slots) (hd : decode (m_b mi) pc = .ok (.iaload, len)) (hop : x_tr (m_o mi) (m_y mi).name (m_r mi) pc (.iaload) len = some (code, imm, x, y, nx, sw)) (hn : code ≠ 40 ∨ ∃ jz, (.iaload : Instr) = .getstatic jz) (hcode : code < 50) (hs : x_step code imm x y nx sw x_nf ls st h = some (pc', ls', st', h')) (k : g_K p l e R s m args below meth c b0 ra cA dC dI L xs mi t0 s0 Q pc' ls' st' h') : g_K p l e R s m args below meth c b0 ra cA dC dI L xs mi t0 s0 Q pc ls st h := by
  obtain ⟨hlen, ho⟩ := x_op_some hop
  have hlen := of_decide_eq_true hlen
  subst hlen
  cases ho
  simp only [x_step] at hs
  split at hs
  · split at hs
    · rename_i hv
      cases hs
      exact gk_iaload C G hd hv.1 hv.2 k
    · cases hs
  · cases hs
theorem gs_laload (C : g_c mi p s m args meth c) (G : g_s b0 ra cA dC dI L xs s) (hR : m_fr mi ≤ R.frames ∧ m_lo mi ≤ R.locals) (ht : t0 ≤ xT h) (hz : s0 ≤ xS h) {len code : Nat} {imm : Int} {x y nx pc' : Nat} {sw : List (Int × Nat)} {ls' st' : List Value} {h' : XH} (hc : xT h' - t0 ≤ R.cells) (hsl : xS h' - s0 ≤ R.slots) (hd : decode (m_b mi) pc = .ok (.laload, len)) (hop : x_tr (m_o mi) (m_y mi).name (m_r mi) pc (.laload) len = some (code, imm, x, y, nx, sw)) (hn : code ≠ 40 ∨ ∃ jz, (.laload : Instr) = .getstatic jz) (hcode : code < 50) (hs : x_step code imm x y nx sw x_nf ls st h = some (pc', ls', st', h')) (k : g_K p l e R s m args below meth c b0 ra cA dC dI L xs mi t0 s0 Q pc' ls' st' h') : g_K p l e R s m args below meth c b0 ra cA dC dI L xs mi t0 s0 Q pc ls st h := by
  obtain ⟨hlen, ho⟩ := x_op_some hop
  have hlen := of_decide_eq_true hlen
  subst hlen
  cases ho
  simp only [x_step] at hs
  split at hs
  · split at hs
    · rename_i hv
      cases hs
      exact gk_laload C G hd hv.1 hv.2 k
    · cases hs
  · cases hs
theorem gs_baload (C : g_c mi p s m args meth c) (G : g_s b0 ra cA dC dI L xs s) (hR : m_fr mi ≤ R.frames ∧ m_lo mi ≤ R.locals) (ht : t0 ≤ xT h) (hz : s0 ≤ xS h) {len code : Nat} {imm : Int} {x y nx pc' : Nat} {sw : List (Int × Nat)} {ls' st' : List Value} {h' : XH} (hc : xT h' - t0 ≤ R.cells) (hsl : xS h' - s0 ≤ R.slots) (hd : decode (m_b mi) pc = .ok (.baload, len)) (hop : x_tr (m_o mi) (m_y mi).name (m_r mi) pc (.baload) len = some (code, imm, x, y, nx, sw)) (hn : code ≠ 40 ∨ ∃ jz, (.baload : Instr) = .getstatic jz) (hcode : code < 50) (hs : x_step code imm x y nx sw x_nf ls st h = some (pc', ls', st', h')) (k : g_K p l e R s m args below meth c b0 ra cA dC dI L xs mi t0 s0 Q pc' ls' st' h') : g_K p l e R s m args below meth c b0 ra cA dC dI L xs mi t0 s0 Q pc ls st h := by
  obtain ⟨hlen, ho⟩ := x_op_some hop
  have hlen := of_decide_eq_true hlen
  subst hlen
  cases ho
  simp only [x_step] at hs
  split at hs
  · split at hs
    · rename_i hv
      cases hs
      exact gk_baload C G hd hv.1 hv.2 k
    · cases hs
  · cases hs
theorem gs_lastore (C : g_c mi p s m args meth c) (G : g_s b0 ra cA dC dI L xs s) (hR : m_fr mi ≤ R.frames ∧ m_lo mi ≤ R.locals) (ht : t0 ≤ xT h) (hz : s0 ≤ xS h) {len code : Nat} {imm : Int} {x y nx pc' : Nat} {sw : List (Int × Nat)} {ls' st' : List Value} {h' : XH} (hc : xT h' - t0 ≤ R.cells) (hsl : xS h' - s0 ≤ R.slots) (hd : decode (m_b mi) pc = .ok (.lastore, len)) (hop : x_tr (m_o mi) (m_y mi).name (m_r mi) pc (.lastore) len = some (code, imm, x, y, nx, sw)) (hn : code ≠ 40 ∨ ∃ jz, (.lastore : Instr) = .getstatic jz) (hcode : code < 50) (hs : x_step code imm x y nx sw x_nf ls st h = some (pc', ls', st', h')) (k : g_K p l e R s m args below meth c b0 ra cA dC dI L xs mi t0 s0 Q pc' ls' st' h') : g_K p l e R s m args below meth c b0 ra cA dC dI L xs mi t0 s0 Q pc ls st h := by
  obtain ⟨hlen, ho⟩ := x_op_some hop
  have hlen := of_decide_eq_true hlen
  subst hlen
  cases ho
  simp only [x_step] at hs
  split at hs
  · split at hs
    · rename_i hv
      cases hs
      exact gk_lastore C G hd hv.1 hv.2 k
    · cases hs
  · cases hs
theorem gs_iastore (C : g_c mi p s m args meth c) (G : g_s b0 ra cA dC dI L xs s) (hR : m_fr mi ≤ R.frames ∧ m_lo mi ≤ R.locals) (ht : t0 ≤ xT h) (hz : s0 ≤ xS h) {len code : Nat} {imm : Int} {x y nx pc' : Nat} {sw : List (Int × Nat)} {ls' st' : List Value} {h' : XH} (hc : xT h' - t0 ≤ R.cells) (hsl : xS h' - s0 ≤ R.slots) (hd : decode (m_b mi) pc = .ok (.iastore, len)) (hop : x_tr (m_o mi) (m_y mi).name (m_r mi) pc (.iastore) len = some (code, imm, x, y, nx, sw)) (hn : code ≠ 40 ∨ ∃ jz, (.iastore : Instr) = .getstatic jz) (hcode : code < 50) (hs : x_step code imm x y nx sw x_nf ls st h = some (pc', ls', st', h')) (k : g_K p l e R s m args below meth c b0 ra cA dC dI L xs mi t0 s0 Q pc' ls' st' h') : g_K p l e R s m args below meth c b0 ra cA dC dI L xs mi t0 s0 Q pc ls st h := by
  obtain ⟨hlen, ho⟩ := x_op_some hop
  have hlen := of_decide_eq_true hlen
  subst hlen
  cases ho
  simp only [x_step] at hs
  split at hs
  · split at hs
    · rename_i hv
      cases hs
      exact gk_iastore C G hd hv.1 hv.2.1 hv.2.2 k
    · cases hs
  · cases hs
theorem gs_bastore (C : g_c mi p s m args meth c) (G : g_s b0 ra cA dC dI L xs s) (hR : m_fr mi ≤ R.frames ∧ m_lo mi ≤ R.locals) (ht : t0 ≤ xT h) (hz : s0 ≤ xS h) {len code : Nat} {imm : Int} {x y nx pc' : Nat} {sw : List (Int × Nat)} {ls' st' : List Value} {h' : XH} (hc : xT h' - t0 ≤ R.cells) (hsl : xS h' - s0 ≤ R.slots) (hd : decode (m_b mi) pc = .ok (.bastore, len)) (hop : x_tr (m_o mi) (m_y mi).name (m_r mi) pc (.bastore) len = some (code, imm, x, y, nx, sw)) (hn : code ≠ 40 ∨ ∃ jz, (.bastore : Instr) = .getstatic jz) (hcode : code < 50) (hs : x_step code imm x y nx sw x_nf ls st h = some (pc', ls', st', h')) (k : g_K p l e R s m args below meth c b0 ra cA dC dI L xs mi t0 s0 Q pc' ls' st' h') : g_K p l e R s m args below meth c b0 ra cA dC dI L xs mi t0 s0 Q pc ls st h := by
  obtain ⟨hlen, ho⟩ := x_op_some hop
  have hlen := of_decide_eq_true hlen
  subst hlen
  cases ho
  simp only [x_step] at hs
  split at hs
  · split at hs
    · rename_i hv
      cases hs
      exact gk_bastore C G hd hv.1 hv.2 k
    · split at hs
      · rename_i hv
        cases hs
        exact gk_zastore C G hd hv.1 hv.2.1 hv.2.2 k
      · cases hs
  · cases hs
theorem gs_alen (C : g_c mi p s m args meth c) (G : g_s b0 ra cA dC dI L xs s) (hR : m_fr mi ≤ R.frames ∧ m_lo mi ≤ R.locals) (ht : t0 ≤ xT h) (hz : s0 ≤ xS h) {len code : Nat} {imm : Int} {x y nx pc' : Nat} {sw : List (Int × Nat)} {ls' st' : List Value} {h' : XH} (hc : xT h' - t0 ≤ R.cells) (hsl : xS h' - s0 ≤ R.slots) (hd : decode (m_b mi) pc = .ok (.arraylength, len)) (hop : x_tr (m_o mi) (m_y mi).name (m_r mi) pc (.arraylength) len = some (code, imm, x, y, nx, sw)) (hn : code ≠ 40 ∨ ∃ jz, (.arraylength : Instr) = .getstatic jz) (hcode : code < 50) (hs : x_step code imm x y nx sw x_nf ls st h = some (pc', ls', st', h')) (k : g_K p l e R s m args below meth c b0 ra cA dC dI L xs mi t0 s0 Q pc' ls' st' h') : g_K p l e R s m args below meth c b0 ra cA dC dI L xs mi t0 s0 Q pc ls st h := by
  obtain ⟨hlen, ho⟩ := x_op_some hop
  have hlen := of_decide_eq_true hlen
  subst hlen
  cases ho
  simp only [x_step] at hs
  split at hs
  · split at hs
    · rename_i hv
      cases hs
      exact gk_alen C G hd hv.1 hv.2 k
    · cases hs
  · cases hs
theorem gs_newarray_int (C : g_c mi p s m args meth c) (G : g_s b0 ra cA dC dI L xs s) (hR : m_fr mi ≤ R.frames ∧ m_lo mi ≤ R.locals) (ht : t0 ≤ xT h) (hz : s0 ≤ xS h) {len code : Nat} {imm : Int} {x y nx pc' : Nat} {sw : List (Int × Nat)} {ls' st' : List Value} {h' : XH} (hc : xT h' - t0 ≤ R.cells) (hsl : xS h' - s0 ≤ R.slots) (hd : decode (m_b mi) pc = .ok (.newarray .int, len)) (hop : x_tr (m_o mi) (m_y mi).name (m_r mi) pc (.newarray .int) len = some (code, imm, x, y, nx, sw)) (hn : code ≠ 40 ∨ ∃ jz, (.newarray .int : Instr) = .getstatic jz) (hcode : code < 50) (hs : x_step code imm x y nx sw x_nf ls st h = some (pc', ls', st', h')) (k : g_K p l e R s m args below meth c b0 ra cA dC dI L xs mi t0 s0 Q pc' ls' st' h') : g_K p l e R s m args below meth c b0 ra cA dC dI L xs mi t0 s0 Q pc ls st h := by
  obtain ⟨hlen, ho⟩ := x_op_some hop
  have hlen := of_decide_eq_true hlen
  subst hlen
  cases ho
  simp only [x_step] at hs
  split at hs
  · split at hs
    · cases hs
    · rename_i hv
      cases hs
      exact gk_newa (kd := 1) C G hd rfl (by omega) (by omega) hv ht hz hc hsl k
  · cases hs
theorem gs_newarray_byte (C : g_c mi p s m args meth c) (G : g_s b0 ra cA dC dI L xs s) (hR : m_fr mi ≤ R.frames ∧ m_lo mi ≤ R.locals) (ht : t0 ≤ xT h) (hz : s0 ≤ xS h) {len code : Nat} {imm : Int} {x y nx pc' : Nat} {sw : List (Int × Nat)} {ls' st' : List Value} {h' : XH} (hc : xT h' - t0 ≤ R.cells) (hsl : xS h' - s0 ≤ R.slots) (hd : decode (m_b mi) pc = .ok (.newarray .byte, len)) (hop : x_tr (m_o mi) (m_y mi).name (m_r mi) pc (.newarray .byte) len = some (code, imm, x, y, nx, sw)) (hn : code ≠ 40 ∨ ∃ jz, (.newarray .byte : Instr) = .getstatic jz) (hcode : code < 50) (hs : x_step code imm x y nx sw x_nf ls st h = some (pc', ls', st', h')) (k : g_K p l e R s m args below meth c b0 ra cA dC dI L xs mi t0 s0 Q pc' ls' st' h') : g_K p l e R s m args below meth c b0 ra cA dC dI L xs mi t0 s0 Q pc ls st h := by
  obtain ⟨hlen, ho⟩ := x_op_some hop
  have hlen := of_decide_eq_true hlen
  subst hlen
  cases ho
  simp only [x_step] at hs
  split at hs
  · split at hs
    · cases hs
    · rename_i hv
      cases hs
      exact gk_newa (kd := 2) C G hd rfl (by omega) (by omega) hv ht hz hc hsl k
  · cases hs
theorem gs_newarray_boolean (C : g_c mi p s m args meth c) (G : g_s b0 ra cA dC dI L xs s) (hR : m_fr mi ≤ R.frames ∧ m_lo mi ≤ R.locals) (ht : t0 ≤ xT h) (hz : s0 ≤ xS h) {len code : Nat} {imm : Int} {x y nx pc' : Nat} {sw : List (Int × Nat)} {ls' st' : List Value} {h' : XH} (hc : xT h' - t0 ≤ R.cells) (hsl : xS h' - s0 ≤ R.slots) (hd : decode (m_b mi) pc = .ok (.newarray .boolean, len)) (hop : x_tr (m_o mi) (m_y mi).name (m_r mi) pc (.newarray .boolean) len = some (code, imm, x, y, nx, sw)) (hn : code ≠ 40 ∨ ∃ jz, (.newarray .boolean : Instr) = .getstatic jz) (hcode : code < 50) (hs : x_step code imm x y nx sw x_nf ls st h = some (pc', ls', st', h')) (k : g_K p l e R s m args below meth c b0 ra cA dC dI L xs mi t0 s0 Q pc' ls' st' h') : g_K p l e R s m args below meth c b0 ra cA dC dI L xs mi t0 s0 Q pc ls st h := by
  obtain ⟨hlen, ho⟩ := x_op_some hop
  have hlen := of_decide_eq_true hlen
  subst hlen
  cases ho
  simp only [x_step] at hs
  split at hs
  · split at hs
    · cases hs
    · rename_i hv
      cases hs
      exact gk_newa (kd := 3) C G hd rfl (by omega) (by omega) hv ht hz hc hsl k
  · cases hs
theorem gs_newarray_long (C : g_c mi p s m args meth c) (G : g_s b0 ra cA dC dI L xs s) (hR : m_fr mi ≤ R.frames ∧ m_lo mi ≤ R.locals) (ht : t0 ≤ xT h) (hz : s0 ≤ xS h) {len code : Nat} {imm : Int} {x y nx pc' : Nat} {sw : List (Int × Nat)} {ls' st' : List Value} {h' : XH} (hc : xT h' - t0 ≤ R.cells) (hsl : xS h' - s0 ≤ R.slots) (hd : decode (m_b mi) pc = .ok (.newarray .long, len)) (hop : x_tr (m_o mi) (m_y mi).name (m_r mi) pc (.newarray .long) len = some (code, imm, x, y, nx, sw)) (hn : code ≠ 40 ∨ ∃ jz, (.newarray .long : Instr) = .getstatic jz) (hcode : code < 50) (hs : x_step code imm x y nx sw x_nf ls st h = some (pc', ls', st', h')) (k : g_K p l e R s m args below meth c b0 ra cA dC dI L xs mi t0 s0 Q pc' ls' st' h') : g_K p l e R s m args below meth c b0 ra cA dC dI L xs mi t0 s0 Q pc ls st h := by
  obtain ⟨hlen, ho⟩ := x_op_some hop
  have hlen := of_decide_eq_true hlen
  subst hlen
  cases ho
  simp only [x_step] at hs
  split at hs
  · split at hs
    · cases hs
    · rename_i hv
      cases hs
      exact gk_newa (kd := 4) C G hd rfl (by omega) (by omega) hv ht hz hc hsl k
  · cases hs
theorem gs_new (C : g_c mi p s m args meth c) (G : g_s b0 ra cA dC dI L xs s) (hR : m_fr mi ≤ R.frames ∧ m_lo mi ≤ R.locals) (ht : t0 ≤ xT h) (hz : s0 ≤ xS h) {j : Nat} {len code : Nat} {imm : Int} {x y nx pc' : Nat} {sw : List (Int × Nat)} {ls' st' : List Value} {h' : XH} (hc : xT h' - t0 ≤ R.cells) (hsl : xS h' - s0 ≤ R.slots) (hd : decode (m_b mi) pc = .ok (.new j, len)) (hop : x_tr (m_o mi) (m_y mi).name (m_r mi) pc (.new j) len = some (code, imm, x, y, nx, sw)) (hn : code ≠ 40 ∨ ∃ jz, (.new j : Instr) = .getstatic jz) (hcode : code < 50) (hs : x_step code imm x y nx sw x_nf ls st h = some (pc', ls', st', h')) (k : g_K p l e R s m args below meth c b0 ra cA dC dI L xs mi t0 s0 Q pc' ls' st' h') : g_K p l e R s m args below meth c b0 ra cA dC dI L xs mi t0 s0 Q pc ls st h := by
  unfold x_tr at hop
  dsimp only at hop
  split at hop
  · rename_i ci ps hq
    obtain ⟨hlen, ho⟩ := x_op_some hop
    have hlen := of_decide_eq_true hlen
    subst hlen
    cases ho
    simp only [x_step] at hs
    cases hs
    exact gk_new C G hd hq ht hz hc hsl k
  · cases hop
theorem gs_getstatic (C : g_c mi p s m args meth c) (G : g_s b0 ra cA dC dI L xs s) (hR : m_fr mi ≤ R.frames ∧ m_lo mi ≤ R.locals) (ht : t0 ≤ xT h) (hz : s0 ≤ xS h) {j : Nat} {len code : Nat} {imm : Int} {x y nx pc' : Nat} {sw : List (Int × Nat)} {ls' st' : List Value} {h' : XH} (hc : xT h' - t0 ≤ R.cells) (hsl : xS h' - s0 ≤ R.slots) (hd : decode (m_b mi) pc = .ok (.getstatic j, len)) (hop : x_tr (m_o mi) (m_y mi).name (m_r mi) pc (.getstatic j) len = some (code, imm, x, y, nx, sw)) (hn : code ≠ 40 ∨ ∃ jz, (.getstatic j : Instr) = .getstatic jz) (hcode : code < 50) (hs : x_step code imm x y nx sw x_nf ls st h = some (pc', ls', st', h')) (k : g_K p l e R s m args below meth c b0 ra cA dC dI L xs mi t0 s0 Q pc' ls' st' h') : g_K p l e R s m args below meth c b0 ra cA dC dI L xs mi t0 s0 Q pc ls st h := by
  unfold x_tr at hop
  dsimp only at hop
  split at hop
  · rename_i r n ps hq
    obtain ⟨hlen, ho⟩ := x_op_some hop
    have hlen := of_decide_eq_true hlen
    subst hlen
    cases ho
    simp only [x_step] at hs
    cases hs
    exact gk_five C G hd hq k
  · cases hop
theorem gs_invokestatic (C : g_c mi p s m args meth c) (G : g_s b0 ra cA dC dI L xs s) (hR : m_fr mi ≤ R.frames ∧ m_lo mi ≤ R.locals) (ht : t0 ≤ xT h) (hz : s0 ≤ xS h) {j : Nat} {len code : Nat} {imm : Int} {x y nx pc' : Nat} {sw : List (Int × Nat)} {ls' st' : List Value} {h' : XH} (hc : xT h' - t0 ≤ R.cells) (hsl : xS h' - s0 ≤ R.slots) (hd : decode (m_b mi) pc = .ok (.invokestatic j, len)) (hop : x_tr (m_o mi) (m_y mi).name (m_r mi) pc (.invokestatic j) len = some (code, imm, x, y, nx, sw)) (hn : code ≠ 40 ∨ ∃ jz, (.invokestatic j : Instr) = .getstatic jz) (hcode : code < 50) (hs : x_step code imm x y nx sw x_nf ls st h = some (pc', ls', st', h')) (k : g_K p l e R s m args below meth c b0 ra cA dC dI L xs mi t0 s0 Q pc' ls' st' h') : g_K p l e R s m args below meth c b0 ra cA dC dI L xs mi t0 s0 Q pc ls st h := by
  unfold x_tr at hop
  dsimp only at hop
  split at hop
  · rename_i hlen
    subst hlen
    unfold x_call at hop
    split at hop
    · rename_i t kd n ps hq
      by_cases hk : kd = 3
      · subst hk
        rw [if_pos rfl] at hop
        split at hop
        · rw [if_pos rfl] at hop
          cases hop
          simp only [x_step] at hs
          split at hs
          · split at hs
            · rename_i hv
              cases hs
              exact gk_copy C G hR hd hq hv.1 hv.2.1 hv.2.2.1 hv.2.2.2.1 hv.2.2.2.2.2.1 hv.2.2.2.2.2.2.1 hv.2.2.2.2.2.2.2.1 hv.2.2.2.2.2.2.2.2.1 hv.2.2.2.2.2.2.2.2.2.1 hv.2.2.2.2.2.2.2.2.2.2 hv.2.2.2.2.1 k
            · cases hs
          · cases hs
        · rw [if_neg (by decide)] at hop; cases hop
        · rw [if_pos rfl] at hop
          cases hop
          simp only [x_step] at hs
          split at hs
          · split at hs
            · rename_i hv
              cases hs
              exact gk_mmax C hR hc hsl hd hq hv k
            · cases hs
          · cases hs
        · rw [if_pos rfl] at hop
          cases hop
          simp only [x_step] at hs
          split at hs
          · split at hs
            · rename_i hv
              cases hs
              exact gk_mmin C hR hc hsl hd hq hv k
            · cases hs
          · cases hs
        · rw [if_pos rfl] at hop
          cases hop
          simp only [x_step] at hs
          split at hs
          · split at hs
            · rename_i hv
              cases hs
              exact gk_lmax C hR hc hsl hd hq hv k
            · cases hs
          · cases hs
        · rw [if_pos rfl] at hop
          cases hop
          simp only [x_step] at hs
          split at hs
          · split at hs
            · rename_i hv
              cases hs
              exact gk_lmin C hR hc hsl hd hq hv k
            · cases hs
          · cases hs
        · rw [if_neg (by decide)] at hop; cases hop
      · rw [if_neg hk] at hop
        split at hop
        · cases hop; exact absurd hcode (by decide)
        · cases hop
    · cases hop
  · cases hop
theorem gs_invokespecial (C : g_c mi p s m args meth c) (G : g_s b0 ra cA dC dI L xs s) (hR : m_fr mi ≤ R.frames ∧ m_lo mi ≤ R.locals) (ht : t0 ≤ xT h) (hz : s0 ≤ xS h) {j : Nat} {len code : Nat} {imm : Int} {x y nx pc' : Nat} {sw : List (Int × Nat)} {ls' st' : List Value} {h' : XH} (hc : xT h' - t0 ≤ R.cells) (hsl : xS h' - s0 ≤ R.slots) (hd : decode (m_b mi) pc = .ok (.invokespecial j, len)) (hop : x_tr (m_o mi) (m_y mi).name (m_r mi) pc (.invokespecial j) len = some (code, imm, x, y, nx, sw)) (hn : code ≠ 40 ∨ ∃ jz, (.invokespecial j : Instr) = .getstatic jz) (hcode : code < 50) (hs : x_step code imm x y nx sw x_nf ls st h = some (pc', ls', st', h')) (k : g_K p l e R s m args below meth c b0 ra cA dC dI L xs mi t0 s0 Q pc' ls' st' h') : g_K p l e R s m args below meth c b0 ra cA dC dI L xs mi t0 s0 Q pc ls st h := by
  unfold x_tr at hop
  dsimp only at hop
  split at hop
  · rename_i hlen
    subst hlen
    unfold x_call at hop
    split at hop
    · rename_i t kd n ps hq
      by_cases hk : kd = 3
      · subst hk
        rw [if_pos rfl] at hop
        split at hop
        · rw [if_neg (by decide)] at hop; cases hop
        · rw [if_pos rfl] at hop
          cases hop
          simp only [x_step] at hs
          split at hs
          · split at hs
            · rename_i hv
              cases hs
              exact gk_obj C hR hd hq hv k
            · cases hs
          · cases hs
        · rw [if_neg (by decide)] at hop; cases hop
        · rw [if_neg (by decide)] at hop; cases hop
        · rw [if_neg (by decide)] at hop; cases hop
        · rw [if_neg (by decide)] at hop; cases hop
        · rw [if_neg (by decide)] at hop; cases hop
      · rw [if_neg hk] at hop
        split at hop
        · cases hop; exact absurd hcode (by decide)
        · cases hop
    · cases hop
  · cases hop
theorem gs_invokevirtual (C : g_c mi p s m args meth c) (G : g_s b0 ra cA dC dI L xs s) (hR : m_fr mi ≤ R.frames ∧ m_lo mi ≤ R.locals) (ht : t0 ≤ xT h) (hz : s0 ≤ xS h) {j : Nat} {len code : Nat} {imm : Int} {x y nx pc' : Nat} {sw : List (Int × Nat)} {ls' st' : List Value} {h' : XH} (hc : xT h' - t0 ≤ R.cells) (hsl : xS h' - s0 ≤ R.slots) (hd : decode (m_b mi) pc = .ok (.invokevirtual j, len)) (hop : x_tr (m_o mi) (m_y mi).name (m_r mi) pc (.invokevirtual j) len = some (code, imm, x, y, nx, sw)) (hn : code ≠ 40 ∨ ∃ jz, (.invokevirtual j : Instr) = .getstatic jz) (hcode : code < 50) (hs : x_step code imm x y nx sw x_nf ls st h = some (pc', ls', st', h')) (k : g_K p l e R s m args below meth c b0 ra cA dC dI L xs mi t0 s0 Q pc' ls' st' h') : g_K p l e R s m args below meth c b0 ra cA dC dI L xs mi t0 s0 Q pc ls st h := by
  unfold x_tr at hop
  dsimp only at hop
  split at hop
  · rename_i hlen
    subst hlen
    unfold x_call at hop
    split at hop
    · rename_i t kd n ps hq
      by_cases hk : kd = 3
      · subst hk
        rw [if_pos rfl] at hop
        split at hop
        all_goals first
          | (rw [if_neg (by decide)] at hop; cases hop; done)
          | (rw [if_pos rfl] at hop; cases hop; exact absurd hcode (by decide))
      · rw [if_neg hk] at hop
        split at hop
        · cases hop; exact absurd hcode (by decide)
        · cases hop
    · cases hop
  · cases hop
theorem gs_tableswitch (C : g_c mi p s m args meth c) (G : g_s b0 ra cA dC dI L xs s) (hR : m_fr mi ≤ R.frames ∧ m_lo mi ≤ R.locals) (ht : t0 ≤ xT h) (hz : s0 ≤ xS h) {dd lo hi : Int} {offs : Array Int} {len code : Nat} {imm : Int} {x y nx pc' : Nat} {sw : List (Int × Nat)} {ls' st' : List Value} {h' : XH} (hc : xT h' - t0 ≤ R.cells) (hsl : xS h' - s0 ≤ R.slots) (hd : decode (m_b mi) pc = .ok (.tableswitch dd lo hi offs, len)) (hop : x_tr (m_o mi) (m_y mi).name (m_r mi) pc (.tableswitch dd lo hi offs) len = some (code, imm, x, y, nx, sw)) (hn : code ≠ 40 ∨ ∃ jz, (.tableswitch dd lo hi offs : Instr) = .getstatic jz) (hcode : code < 50) (hs : x_step code imm x y nx sw x_nf ls st h = some (pc', ls', st', h')) (k : g_K p l e R s m args below meth c b0 ra cA dC dI L xs mi t0 s0 Q pc' ls' st' h') : g_K p l e R s m args below meth c b0 ra cA dC dI L xs mi t0 s0 Q pc ls st h := by
  unfold x_tr at hop
  dsimp only at hop
  obtain ⟨hlen, htg, ho⟩ := x_jmp_some hop
  cases ho
  rw [Bool.and_eq_true] at hlen
  have hsz := of_decide_eq_true hlen.1
  simp only [x_step] at hs
  split at hs
  · rename_i a st
    cases hs
    intro H locs lsC N S hl
    have hk := k H locs lsC N S hl
    rw [x_tsw_at] at hk
    by_cases hin : lo ≤ a.toInt ∧ a.toInt < lo + offs.toList.length
    · rw [if_pos hin] at hk
      by_cases hhi : hi < a.toInt
      · have := hin.2; rw [Array.length_toList] at this; omega
      · have hlt : (a.toInt - lo).toNat < offs.size := by have := hin.2; rw [Array.length_toList] at this; omega
        refine lv_tableIn C.1 C.2.1 hd (by omega) hhi (off := offs[(a.toInt - lo).toNat]) (Array.getElem?_eq_getElem hlt) (tgt := x_pc pc offs[(a.toInt - lo).toNat]) ?_ ?_
        · have := Array.all_eq_true.mp hlen.2 _ hlt
          exact (Int.toNat_of_nonneg (of_decide_eq_true this)).symm
        · have e : offs.toList.getD (a.toInt - lo).toNat 0 = offs[(a.toInt - lo).toNat] := by rw [List.getD_eq_getElem?_getD, Array.getElem?_toList, Array.getElem?_eq_getElem hlt]; rfl
          rw [e] at hk
          exact hk
    · rw [if_neg hin] at hk
      exact lv_tableOut C.1 C.2.1 hd (by rw [Array.length_toList] at hin; omega) htg hk
  · cases hs
theorem gs_lookupswitch (C : g_c mi p s m args meth c) (G : g_s b0 ra cA dC dI L xs s) (hR : m_fr mi ≤ R.frames ∧ m_lo mi ≤ R.locals) (ht : t0 ≤ xT h) (hz : s0 ≤ xS h) {dd : Int} {ps : Array (Int × Int)} {len code : Nat} {imm : Int} {x y nx pc' : Nat} {sw : List (Int × Nat)} {ls' st' : List Value} {h' : XH} (hc : xT h' - t0 ≤ R.cells) (hsl : xS h' - s0 ≤ R.slots) (hd : decode (m_b mi) pc = .ok (.lookupswitch dd ps, len)) (hop : x_tr (m_o mi) (m_y mi).name (m_r mi) pc (.lookupswitch dd ps) len = some (code, imm, x, y, nx, sw)) (hn : code ≠ 40 ∨ ∃ jz, (.lookupswitch dd ps : Instr) = .getstatic jz) (hcode : code < 50) (hs : x_step code imm x y nx sw x_nf ls st h = some (pc', ls', st', h')) (k : g_K p l e R s m args below meth c b0 ra cA dC dI L xs mi t0 s0 Q pc' ls' st' h') : g_K p l e R s m args below meth c b0 ra cA dC dI L xs mi t0 s0 Q pc ls st h := by
  unfold x_tr at hop
  dsimp only at hop
  obtain ⟨hlen, htg, ho⟩ := x_jmp_some hop
  cases ho
  rw [Bool.and_eq_true] at hlen
  simp only [x_step] at hs
  split at hs
  · rename_i a st
    cases hs
    intro H locs lsC N S hl
    have hk := k H locs lsC N S hl
    have hall : ∀ q ∈ ps.toList, 0 ≤ (pc : Int) + q.2 := fun q hq => by
      have := Array.all_eq_true_iff_forall_mem.mp hlen.2 q (Array.mem_toList_iff.mp hq)
      exact of_decide_eq_true this
    refine lv_lookup C.1 C.2.1 hd hlen.1 rfl (x_lsw ps.toList hall htg) ?_
    rw [x_lsw_eq] at hk
    exact hk
  · cases hs
end GS
