/-! THE TWO TEXTS OF THE CLASS: g_px -/
theorem jt_w142 : Cond.methodLink "TrueInk$Reader" 36 jt_y_ln ∈ gtbl := gt_in 142 (by decide +kernel) rfl
theorem jt_w152 : Cond.methodLink "TrueInk$Reader" 42 jt_y_ca ∈ gtbl := gt_in 152 (by decide +kernel) rfl
theorem jt_w625 : Cond.methodLink "TrueInk$Reader" 266 jt_y_i1 ∈ gtbl := gt_in 625 (by decide +kernel) rfl
set_option maxRecDepth 100000 in
theorem jt_keys : ∀ q ∈ cp_M, (q.2.1 = 1102 → q.1 = 16420) ∧ (q.2.1 = 1103 → q.1 = 16426) ∧ (q.2.1 = 1104 → q.1 = 16650) := by decide +kernel
theorem jt_tr40 {oc pc : Nat} {nm : String} {rt : Option FieldType} {i : Instr} {len x y nx : Nat} {imm : Int} {sw : List (Int × Nat)} (hop : x_tr oc nm rt pc i len = some (40, imm, x, y, nx, sw)) : (∃ j, i = .getstatic j) ∨ (∃ j ps, i = .ldc j ∧ len = 2 ∧ nx = pc + 2 ∧ x_lq oc j cp_T = some (x, ps)) ∨ (∃ j ps, i = .ldc_w j ∧ len = 3 ∧ nx = pc + 3 ∧ x_lq oc j cp_T = some (x, ps)) := by
  unfold x_tr at hop
  cases i
  case getstatic j => exact Or.inl ⟨j, rfl⟩
  case ldc j =>
    dsimp only at hop
    split at hop
    · obtain ⟨_, e⟩ := x_op_some hop; cases e
    · split at hop
      · rename_i ps hq
        obtain ⟨q, e⟩ := x_op_some hop
        cases e
        exact Or.inr (Or.inl ⟨j, ps, rfl, of_decide_eq_true q, rfl, hq⟩)
      · cases hop
  case ldc_w j =>
    dsimp only at hop
    split at hop
    · obtain ⟨_, e⟩ := x_op_some hop; cases e
    · split at hop
      · rename_i ps hq
        obtain ⟨q, e⟩ := x_op_some hop
        cases e
        exact Or.inr (Or.inr ⟨j, ps, rfl, of_decide_eq_true q, rfl, hq⟩)
      · cases hop
  all_goals exfalso
  all_goals (dsimp only at hop)
  all_goals first
    | (cases hop; done)
    | (obtain ⟨_, e⟩ := x_op_some hop; cases e; done)
    | (obtain ⟨_, _, e⟩ := x_jmp_some hop; cases e; done)
    | (split at hop; (rcases x_fget_c hop with e | e <;> cases e); (cases hop))
    | (split at hop; (rcases x_fput_c hop with e | e | e <;> cases e); (cases hop))
    | (unfold x_call at hop; (repeat' (split at hop)); all_goals (cases hop))
    | ((repeat' (split at hop)); all_goals first | (cases hop; done) | (obtain ⟨_, e⟩ := x_op_some hop; cases e; done))
theorem jt_call51 {k nx nx' x y : Nat} {imm : Int} {sw : List (Int × Nat)} {q : Option (Nat × Nat × Nat × Nat)} (hop : x_call k q nx = some (51, imm, x, y, nx', sw)) : k = 0 ∧ nx' = nx ∧ ∃ n ps, q = some (x, 3, n, ps) := by
  unfold x_call at hop
  split at hop
  · rename_i t kd n ps
    by_cases h3 : kd = 3
    · subst h3
      rw [if_pos rfl] at hop
      split at hop
      all_goals first
        | (split at hop; all_goals (cases hop); done)
        | skip
      split at hop
      · rename_i hk
        cases hop
        exact ⟨hk, rfl, n, ps, rfl⟩
      · cases hop
    · rw [if_neg h3] at hop
      split at hop
      · cases hop
      · cases hop
  · cases hop
theorem jt_tr51 {oc pc : Nat} {nm : String} {rt : Option FieldType} {i : Instr} {len x y nx : Nat} {imm : Int} {sw : List (Int × Nat)} (hop : x_tr oc nm rt pc i len = some (51, imm, x, y, nx, sw)) : len = 3 ∧ nx = pc + 3 ∧ ∃ j n ps, i = .invokevirtual j ∧ x_lq oc j cp_M = some (x, 3, n, ps) := by
  unfold x_tr at hop
  cases i
  case invokevirtual j =>
    dsimp only at hop
    split at hop
    · obtain ⟨-, h2, n, ps, h3⟩ := jt_call51 hop
      exact ⟨by assumption, h2, j, n, ps, rfl, h3⟩
    · cases hop
  case invokestatic j =>
    dsimp only at hop
    split at hop
    · exact absurd (jt_call51 hop).1 (by decide)
    · cases hop
  case invokespecial j =>
    dsimp only at hop
    split at hop
    · exact absurd (jt_call51 hop).1 (by decide)
    · cases hop
  all_goals exfalso
  all_goals (dsimp only at hop)
  all_goals first
    | (cases hop; done)
    | (obtain ⟨_, e⟩ := x_op_some hop; cases e; done)
    | (obtain ⟨_, _, e⟩ := x_jmp_some hop; cases e; done)
    | (split at hop; (rcases x_fget_c hop with e | e <;> cases e); (cases hop))
    | (split at hop; (rcases x_fput_c hop with e | e | e <;> cases e); (cases hop))
    | ((repeat' (split at hop)); all_goals first | (cases hop; done) | (obtain ⟨_, e⟩ := x_op_some hop; cases e; done))
theorem jt_u1 {α : Type} (f : Nat → Decoder α) {cc : ByteArray} {pc : Nat} (hp : ¬ pc < cc.size) : (Reader.u1 >>= f).runAt cc pc = .error (DecodeError.truncated pc) := by
  simp [Reader.runAt, Reader.u1, hp, bind, ReaderT.bind, ReaderT.run, StateT.bind, StateT.run, MonadReader.read, readThe, MonadReaderOf.read, ReaderT.read, get, getThe, MonadStateOf.get, StateT.get, Pure.pure, StateT.pure, Except.pure, Except.bind, throw, throwThe, MonadExceptOf.throw, liftM, monadLift, MonadLift.monadLift, StateT.lift, HasTruncated.truncated]
theorem jt_dec {cc : ByteArray} {pc : Nat} (hp : ¬ pc < cc.size) : decode cc pc = .error (DecodeError.truncated pc) := by
  have e : (Decoder.instr pc).runAt cc pc = .error (DecodeError.truncated pc) := jt_u1 _ hp
  unfold decode
  rw [e]
  rfl
def jt_nv (q : Except DecodeError (Instr × Nat)) : Bool := match q with
  | .ok (.invokevirtual j, _) => !(j == 42) && !(j == 266)
  | _ => true
def jt_big (mi : Nat) : Bool := decide (4 ≤ m_fr mi) && decide (91 ≤ m_lo mi)
def jt_one (mi : Nat) : Bool := jt_big mi || (!(m_o mi == 4) || (List.range (m_b mi).size).all fun pc => jt_nv (decode (m_b mi) pc))
set_option maxRecDepth 100000 in
theorem jt_all : (List.range 268).all jt_one = true := by decide +kernel
set_option maxRecDepth 100000 in
theorem jt_len : mtab.length = 268 := by decide +kernel
theorem jt_room {mi pc j len : Nat} (hd : decode (m_b mi) pc = .ok (.invokevirtual j, len)) (ho : m_o mi = 4) (hj : j = 42 ∨ j = 266) : 4 ≤ m_fr mi ∧ 91 ≤ m_lo mi := by
  have hm : mi < 268 := by
    rcases Nat.lt_or_ge mi 268 with q | q
    · exact q
    · exfalso
      have : m_o mi = 0 := by
        unfold m_o m_at
        rw [List.getD_eq_getElem?_getD, List.getElem?_eq_none (by rw [jt_len]; exact q)]
        rfl
      omega
  have hc := List.all_eq_true.mp jt_all mi (List.mem_range.mpr hm)
  unfold jt_one jt_big at hc
  rw [Bool.or_eq_true, Bool.and_eq_true, decide_eq_true_eq, decide_eq_true_eq, Bool.or_eq_true] at hc
  rcases hc with hc | hc | hc
  · exact hc
  · rw [ho] at hc; cases hc
  · exfalso
    have hp : pc < (m_b mi).size := by
      rcases Nat.lt_or_ge pc (m_b mi).size with q | q
      · exact q
      · rw [jt_dec (Nat.not_lt.mpr q)] at hd; cases hd
    have := List.all_eq_true.mp hc pc (List.mem_range.mpr hp)
    rw [hd] at this
    unfold jt_nv at this
    rcases hj with rfl | rfl <;> cases this
theorem jt_vaT {ty : FieldType} {t N : Nat} {f g : Nat → Value} {A : Nat → Prop} {U : State} {H : Heap} (hfg : ∀ j, j < N → f j = g j) (h : va_T ty t N f A U H) : va_T ty t N g A U H := by
  obtain ⟨cell, h1, h2, h3, h4, h5, h6, h7⟩ := h
  exact ⟨cell, h1, h2, h3, h4, h5, fun j hj => by rw [h6 j hj, hfg j hj], h7⟩
theorem jt_t2 : ∀ j, j < 77 → (st_B.getD 0 []).getD j 0 = Int32.ofNat ((x_txt 2).getD j 0) := by decide +kernel
theorem jt_t3 : ∀ j, j < 10 → (st_B.getD 1 []).getD j 0 = Int32.ofNat ((x_txt 3).getD j 0) := by decide +kernel
theorem jt_f2 : (x_txt 2).length = 77 ∧ (∀ q ∈ x_txt 2, q < 128) := by decide +kernel
theorem jt_f3 : (x_txt 3).length = 10 ∧ (∀ q ∈ x_txt 3, q < 128) := by decide +kernel
theorem jt_f {a : Nat} (ha : a = 2 ∨ a = 3) : (∀ q ∈ x_txt a, q < 128) ∧ (x_txt a).length ≤ 1000 ∧ 0 < (x_txt a).length := by
  rcases ha with rfl | rfl
  · exact ⟨jt_f2.2, by rw [jt_f2.1]; decide, by rw [jt_f2.1]; decide⟩
  · exact ⟨jt_f3.2, by rw [jt_f3.1]; decide, by rw [jt_f3.1]; decide⟩
theorem jt_text {b0 : Nat} {ra : Nat → Nat} {cA dC : Nat → ClassId} {dI : Nat → Nat → Nat} {L : Nat} {xs : Nat → Int32} {s : State} {a : Nat} (G : g_s b0 ra cA dC dI L xs s) (ha : a = 2 ∨ a = 3) : ∃ d, jt_S b0 (g_r b0 ra a) d (x_txt a) s := by
  obtain ⟨-, -, -, -, -, -, -, -, -, -, -, ⟨adK, adV, t3, e2, e3⟩, -, -⟩ := G
  rcases ha with rfl | rfl
  · obtain ⟨q1, q2, q3, q4⟩ := t3.1 0 (by decide)
    rw [e2] at q1 q2 q3
    refine ⟨adV 0, q1, q2, q3, ?_⟩
    rw [jt_f2.1]
    exact jt_vaT (fun j hj => congrArg Value.int (jt_t2 j hj)) q4
  · obtain ⟨q1, q2, q3, q4⟩ := t3.1 1 (by decide)
    rw [e3] at q1 q2 q3
    refine ⟨adV 1, q1, q2, q3, ?_⟩
    rw [jt_f3.1]
    exact jt_vaT (fun j hj => congrArg Value.int (jt_t3 j hj)) q4
theorem jt_ldcW {p : Program} {l : Launch} {e : Env} {R : Room} {s : State} {m : MethodId} {args : Array Value} {below : List Frame} {meth : Method} {c : Code} {H : Heap} {locs : List Loc} {cells slots : Nat} {Q : State → Prop} {cc : ByteArray} {pc : Nat} {ls : Array Slot} {rest : List Value} (hexec : p.tables.exec = Jvm.exec) (hb : c.code = cc) {own tx : String} {index q : Nat} (hown : s.vm.findClass own = some m.cls) (hZ : vk_R own index tx q s) (hdg : decode cc pc = .ok (.ldc_w index, 3))
    (k : W p l e R s m args below meth c H locs cells slots Q (F0 m (pc + 3) ls (.ref q :: rest))) : W p l e R s m args below meth c H locs cells slots Q (F0 m pc ls rest) := by
  intro T hT X
  obtain ⟨t, a1, b1⟩ := k T hT X
  exact ⟨t, Jvm.Stand.ldcStringW X hexec hown (text := tx) (a := q) hZ.1 hZ.2 (g := F0 m pc ls rest) rfl (by rw [hb]; exact hdg) t a1, b1⟩
theorem jt_cpT {oc j x ps : Nat} (hq : x_lq oc j cp_T = some (x, ps)) : oc = 4 ∧ ((j = 34 ∧ x = 2) ∨ (j = 264 ∧ x = 3)) := by
  obtain ⟨q1, q2, q3⟩ := x_lq_mem hq
  unfold cp_T at q1
  simp only [List.mem_cons, Prod.mk.injEq, List.not_mem_nil, or_false] at q1
  rcases q1 with ⟨a1, a2, -⟩ | ⟨a1, a2, -⟩
  · rw [a1] at q2 q3
    exact ⟨by omega, Or.inl ⟨by omega, a2⟩⟩
  · rw [a1] at q2 q3
    exact ⟨by omega, Or.inr ⟨by omega, a2⟩⟩
theorem jt_cpM {oc j x n ps : Nat} (hq : x_lq oc j cp_M = some (x, 3, n, ps)) : (x = 1102 → oc = 4 ∧ j = 36) ∧ (x = 1103 → oc = 4 ∧ j = 42) ∧ (x = 1104 → oc = 4 ∧ j = 266) := by
  obtain ⟨q1, q2, q3⟩ := x_lq_mem hq
  obtain ⟨k1, k2, k3⟩ := jt_keys _ q1
  dsimp only at k1 k2 k3
  refine ⟨fun e => ?_, fun e => ?_, fun e => ?_⟩
  · have := k1 e; omega
  · have := k2 e; omega
  · have := k3 e; omega
theorem jt_px (l : Launch) : g_px l := by
  intro p e R s m args below meth c Q b0 ra cA dC dI L xs mi t0 s0 pc ls st st' h code imm x y nx sw C G hR ht hs hop hor k
  unfold x_ops at hop
  split at hop
  · rename_i q hd
    obtain ⟨i, len⟩ := q
    dsimp only at hop
    obtain ⟨-, -, -, -, -, -, -, -, -, t1, t2, -, -, -⟩ := id G
    have hown : m_o mi = 4 → s.vm.findClass "TrueInk$Reader" = some m.cls := fun q => by
      have := C.2.2.2.1
      rw [q] at this
      exact this
    rcases hor with ⟨rfl, rfl, hng⟩ | ⟨rfl, hpr⟩
    · rcases jt_tr40 hop with ⟨j, rfl⟩ | ⟨j, ps, rfl, rfl, rfl, hq⟩ | ⟨j, ps, rfl, rfl, rfl, hq⟩
      · exact absurd ⟨j, len, hd⟩ hng
      · intro H locs lsC N S hl
        have hk := k H locs lsC N S hl
        obtain ⟨ho, ⟨rfl, rfl⟩ | ⟨rfl, rfl⟩⟩ := jt_cpT hq
        · exact va_ldcS C.1 C.2.1 (hown ho) t1 hd hk
        · exact va_ldcS C.1 C.2.1 (hown ho) t2 hd hk
      · intro H locs lsC N S hl
        have hk := k H locs lsC N S hl
        obtain ⟨ho, ⟨rfl, rfl⟩ | ⟨rfl, rfl⟩⟩ := jt_cpT hq
        · exact jt_ldcW C.1 C.2.1 (hown ho) t1 hd hk
        · exact jt_ldcW C.1 C.2.1 (hown ho) t2 hd hk
    · obtain ⟨rfl, rfl, j, n, ps, rfl, hq⟩ := jt_tr51 hop
      obtain ⟨k1, k2, k3⟩ := jt_cpM hq
      have hr := m_room mi
      unfold x_prim at hpr
      split at hpr
      · rename_i a st0
        obtain ⟨⟨ha, hcat⟩, rfl⟩ := ite_some hpr
        obtain ⟨ho, rfl⟩ := k1 rfl
        obtain ⟨d, J⟩ := jt_text G ha
        intro H locs lsC N S hl
        exact jt_callV (As := []) (rest := st0.map (g_v b0 ra)) ⟨C.1, C.2.1, C.2.2.1, hown ho, C.2.2.2.2.1⟩ G J N S jt_length jt_w145 jt_w109 jt_w142 jt_w143 jt_w144 ⟨by decide, by decide, by decide +kernel⟩ ⟨by omega, by omega⟩ hl.2.1 (by rw [g_cats]; exact hcat) hd ⟨ht, hs⟩ fun H1 locs1 N1 S1 => k H1 locs1 lsC N1 S1 hl
      · rename_i i a st0
        obtain ⟨⟨ha, hin, hcat⟩, rfl⟩ := ite_some hpr
        obtain ⟨ho, rfl⟩ := k2 rfl
        obtain ⟨d, J⟩ := jt_text G ha
        have hrm := jt_room hd ho (Or.inl rfl)
        intro H locs lsC N S hl
        exact jt_callV (As := [.int i]) (rest := st0.map (g_v b0 ra)) ⟨C.1, C.2.1, C.2.2.1, hown ho, C.2.2.2.2.1⟩ G J N S (jt_charAt (jt_f ha).1 (jt_f ha).2.1 hin) jt_w155 jt_w109 jt_w152 jt_w153 jt_w154 ⟨by decide, by decide, show _ = some 1 by decide +kernel⟩ ⟨by omega, by omega⟩ hl.2.1 (by rw [g_cats]; exact hcat) hd ⟨ht, hs⟩ fun H1 locs1 N1 S1 => k H1 locs1 lsC N1 S1 hl
      · rename_i i a st0
        obtain ⟨⟨ha, hcat⟩, rfl⟩ := ite_some hpr
        obtain ⟨ho, rfl⟩ := k3 rfl
        obtain ⟨d, J⟩ := jt_text G ha
        have hrm := jt_room hd ho (Or.inr rfl)
        intro H locs lsC N S hl
        exact jt_callV (As := [.int i]) (rest := st0.map (g_v b0 ra)) ⟨C.1, C.2.1, C.2.2.1, hown ho, C.2.2.2.2.1⟩ G J N S (jt_index1 (jt_f ha).1 (jt_f ha).2.1 (jt_f ha).2.2) jt_w628 jt_w109 jt_w625 jt_w626 jt_w627 ⟨by decide, by decide, show _ = some 1 by decide +kernel⟩ ⟨by omega, by omega⟩ hl.2.1 (by rw [g_cats]; exact hcat) hd ⟨ht, hs⟩ fun H1 locs1 N1 S1 => k H1 locs1 lsC N1 S1 hl
      · cases hpr
  · cases hop
