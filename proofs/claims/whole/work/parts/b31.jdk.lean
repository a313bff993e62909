/-! THE TEXTS OF THE CLASS ON THE MACHINE: what is known of a text; contracts of the library's methods -/
/-- a text at the cell a, its bytes at d -/
def jt_S (b0 a d : Nat) (T : List Nat) (U : State) : Prop :=
  va_O "java/lang/String" a (fun q => b0 ≤ q) U U.heap ∧ va_OF "java/lang/String" "coder" "B" (.int 0) a (fun q => b0 ≤ q) U U.heap ∧ va_OF "java/lang/String" "value" "[B" (.ref d) a (fun q => b0 ≤ q) U U.heap ∧
  va_T .byte d T.length (fun j => .int (Int32.ofNat (T.getD j 0))) (fun q => b0 ≤ q) U U.heap
theorem jt_S_move {b0 a d : Nat} {T : List Nat} {u U : State} (ha : u.vm.Alike U.vm) (hk : ∀ q : Nat, q < u.heap.size → ¬ b0 ≤ q → U.heap[q]? = u.heap[q]?) (h : jt_S b0 a d T u) : jt_S b0 a d T U :=
  ⟨(va_O.moved ha h.1).kept hk, (va_OF.moved ha h.2.1).kept hk, (va_OF.moved ha h.2.2.1).kept hk, (va_T.moved ha h.2.2.2).kept hk⟩
def jt_P (b0 : Nat) (ra : Nat → Nat) (cA dC : Nat → ClassId) (dI : Nat → Nat → Nat) (L : Nat) (xs : Nat → Int32) (av : List Value) (a d : Nat) (T : List Nat) (h : XH) : Array Value → State → Prop := va_Pc av (fun U => g_s b0 ra cA dC dI L xs U ∧ g_n b0 ra cA dC dI L xs h U.heap ∧ jt_S b0 a d T U)
theorem jt_blind {b0 : Nat} {ra : Nat → Nat} {cA dC : Nat → ClassId} {dI : Nat → Nat → Nat} {L : Nat} {xs : Nat → Int32} {av : List Value} {a d : Nat} {T : List Nat} {h : XH} : FrameBlind (jt_P b0 ra cA dC dI L xs av a d T h) := fun v U g mk q => ⟨q.1, g_s_same (u := U) (U := U.calling g mk v) rfl rfl q.2.1, q.2.2.1, jt_S_move (u := U) (U := U.calling g mk v) (Vm.Alike.refl U.vm) (fun _ _ _ => rfl) q.2.2.2⟩
theorem jt_good {y : MethodName} {b : ByteArray} {n : Nat} {r : Option FieldType} (hw : Cond.code y b n r ∈ gtbl) : GoodIn gtbl (Cond.code y b n r :: gtbl) := by
  intro w hw'
  have hin : w ∈ gtbl := by
    rcases List.mem_cons.mp hw' with rfl | h
    · exact hw
    · exact h
  exact ⟨hin, good_of_word (List.mem_filter.mp hin).2⟩
/-- a method's own things -/
def jt_C (own : String) (cc : ByteArray) (nL : Nat) (ret : Option FieldType) (p : Program) (s : State) (m : MethodId) (args : Array Value) (meth : Method) (c : Code) : Prop := CallFix p m c cc nL s args gtbl own ∧ meth.locks = false ∧ meth.sig.returnType = ret
def jt_rm (f n : Nat) : Room := { frames := f, cells := 0, slots := 0, locals := n }
section JT
variable {l : Launch} {b0 : Nat} {ra : Nat → Nat} {cA dC : Nat → ClassId} {dI : Nat → Nat → Nat} {L : Nat} {xs : Nat → Int32} {a d : Nat} {T : List Nat} {h : XH}
theorem jt_met {y : MethodName} {cc : ByteArray} {maxL f n : Nat} {ret : Option FieldType} {av : List Value} {r : Value} (hpl : plainName y.cls = true) (hlen : (lg_sl av).length ≤ maxL)
    (body : ∀ (p : Program) (e : Env) (s : State) (m : MethodId) (below : List Frame) (meth : Method) (c : Code) (ls : Array Slot), jt_C y.cls cc maxL ret p s m av.toArray meth c → g_s b0 ra cA dC dI L xs s → g_n b0 ra cA dC dI L xs h s.heap → jt_S b0 a d T s → lv_has ls maxL (lv_args 0 av) →
      W p l e (jt_rm f n) s m av.toArray below meth c s.heap [] 0 0 (MQ below (g_Qc b0 ra cA dC dI L xs r h) av.toArray s 0 0 (fun q => b0 ≤ q)) (F0 m 0 ls [])) :
    Met l y (Cond.code y cc maxL ret :: gtbl) (jt_rm f n) (jt_P b0 ra cA dC dI L xs av a d T h) (g_Qc b0 ra cA dC dI L xs r h) 0 0 (fun q => b0 ≤ q) := by
  refine Met.ofW (cc := cc) (maxL := maxL) (ret := ret) hpl rfl ?_
  intro p e s m args below meth c s₁ B hml hv
  obtain ⟨rfl, G, N, J⟩ := hv
  have hts := atoms_spec (ws := Cond.code y cc maxL ret :: gtbl) B.pre
  have hown : s.vm.findClass y.cls = some m.cls := findClass_of_methodNamed B.named
  rw [lg_entry_eq]
  exact body p e s m below meth c _ ⟨⟨B.exec, B.bytes, hml, hown, fun w hw => hts w (List.mem_cons_of_mem _ hw)⟩, B.notSynchronized, B.returns⟩ G N J (lv_entry av hlen)
variable {p : Program} {e : Env} {R : Room} {s : State} {m : MethodId} {args : Array Value} {below : List Frame} {meth : Method} {c : Code} {Q : State → Prop} {H : Heap} {locs : List Loc} {cc bytes : ByteArray} {own : String} {nL maxL index f n cells slots pc : Nat} {y : MethodName} {ret : Option FieldType} {av rest : List Value} {r : Value} {lsC : Array Slot}
/-- a call of a class's own method -/
theorem jt_callS (F : CallFix p m c cc nL s args gtbl own) (G : g_s b0 ra cA dC dI L xs s) (J : jt_S b0 a d T s) (N : g_n b0 ra cA dC dI L xs h H) (S : va_S (fun q => b0 ≤ q) s.heap H locs)
    (hM : Met l y (Cond.code y bytes maxL ret :: gtbl) (jt_rm f n) (jt_P b0 ra cA dC dI L xs av a d T h) (g_Qc b0 ra cA dC dI L xs r h) 0 0 (fun q => b0 ≤ q))
    (hcw : Cond.code y bytes maxL ret ∈ gtbl) (hini : Cond.initialized y.cls ∈ gtbl) (hl : Cond.methodLink own index y ∈ gtbl) (hst : Cond.static y ∈ gtbl)
    (hd : y.cls ≠ "java/lang/invoke/MethodHandle" ∧ y.cls ≠ "java/lang/invoke/VarHandle" ∧ (parseMethodDescriptor y.desc).map (fun d => d.parameters.length) = some av.length) (hR : f + 1 ≤ R.frames ∧ 8 + (maxL + 11) + n ≤ R.locals)
    (hsz : lsC.size = nL) (hcat : (rest.map fun v => v.category).sum ≤ 8) (hdec : decode cc pc = .ok (.invokestatic index, 3)) (hc : cells ≤ R.cells ∧ slots ≤ R.slots)
    (k : ∀ (H1 : Heap) (locs1 : List Loc), g_n b0 ra cA dC dI L xs h H1 → va_S (fun q => b0 ≤ q) s.heap H1 locs1 → W p l e R s m args below meth c H1 locs1 cells slots Q (F0 m (pc + 3) lsC ((g_o b0 ra r).toList ++ rest))) :
    W p l e R s m args below meth c H locs cells slots Q (F0 m pc lsC (av.reverse ++ rest)) := by
  have hpre : ∀ U : State, U.heap = H → s.WarmedH U.vm → jt_P b0 ra cA dC dI L xs av a d T h av.toArray U := fun U hU hW => ⟨rfl, g_s_move hW hU S G, by rw [hU]; exact N, jt_S_move hW.alike (fun q h1 h2 => by rw [hU]; exact S.2.1 q h1 h2) J⟩
  exact g_callW (va_runS (ret := ret) (bytes := bytes) (maxL := maxL) (n := av.length) F hM ⟨callB_of av.length F.2.2.2.2 (jt_good hcw) rfl rfl rfl (F.2.2.2.2 _ hini) (F.2.2.2.2 _ hl) hd hR, F.2.2.2.2 _ hst⟩ ⟨jt_blind, hpre⟩ rfl rfl hsz rfl (lv_room hcat) hdec hc) S k
/-- a call of a text's method -/
theorem jt_callV {As : List Value} (F : CallFix p m c cc nL s args gtbl own) (G : g_s b0 ra cA dC dI L xs s) (J : jt_S b0 a d T s) (N : g_n b0 ra cA dC dI L xs h H) (S : va_S (fun q => b0 ≤ q) s.heap H locs)
    (hM : Met l y (Cond.code y bytes maxL ret :: gtbl) (jt_rm f n) (jt_P b0 ra cA dC dI L xs (.ref a :: As) a d T h) (g_Qc b0 ra cA dC dI L xs r h) 0 0 (fun q => b0 ≤ q))
    (hcw : Cond.code y bytes maxL ret ∈ gtbl) (hini : Cond.initialized y.cls ∈ gtbl) (hl : Cond.methodLink own index y ∈ gtbl) (hin : Cond.instanceMethod y ∈ gtbl) (hse : Cond.selects "java/lang/String" y y ∈ gtbl)
    (hd : y.cls ≠ "java/lang/invoke/MethodHandle" ∧ y.cls ≠ "java/lang/invoke/VarHandle" ∧ (parseMethodDescriptor y.desc).map (fun d => d.parameters.length) = some As.length) (hR : f + 1 ≤ R.frames ∧ 8 + (maxL + 11) + n ≤ R.locals)
    (hsz : lsC.size = nL) (hcat : (rest.map fun v => v.category).sum ≤ 8) (hdec : decode cc pc = .ok (.invokevirtual index, 3)) (hc : cells ≤ R.cells ∧ slots ≤ R.slots)
    (k : ∀ (H1 : Heap) (locs1 : List Loc), g_n b0 ra cA dC dI L xs h H1 → va_S (fun q => b0 ≤ q) s.heap H1 locs1 → W p l e R s m args below meth c H1 locs1 cells slots Q (F0 m (pc + 3) lsC ((g_o b0 ra r).toList ++ rest))) :
    W p l e R s m args below meth c H locs cells slots Q (F0 m pc lsC (As.reverse ++ .ref a :: rest)) := by
  have hpre : ∀ U : State, U.heap = H → s.WarmedH U.vm → jt_P b0 ra cA dC dI L xs (.ref a :: As) a d T h (Value.ref a :: As).toArray U := fun U hU hW => ⟨rfl, g_s_move hW hU S G, by rw [hU]; exact N, jt_S_move hW.alike (fun q h1 h2 => by rw [hU]; exact S.2.1 q h1 h2) J⟩
  obtain ⟨cell, o1, o2, o3, -⟩ := J.1.kept S.2.1
  exact g_callW (va_runV (C := "java/lang/String") (ret := ret) (bytes := bytes) (maxL := maxL) (n := As.length) F hM ⟨callB_of As.length F.2.2.2.2 (jt_good hcw) rfl rfl rfl (F.2.2.2.2 _ hini) (F.2.2.2.2 _ hl) hd hR, F.2.2.2.2 _ hin, F.2.2.2.2 _ hse⟩ ⟨jt_blind, ⟨cell, o1, o2, o3⟩, hpre⟩ rfl rfl hsz rfl (lv_room hcat) hdec hc) S k
end JT
section JU
variable {l : Launch} {b0 : Nat} {ra : Nat → Nat} {cA dC : Nat → ClassId} {dI : Nat → Nat → Nat} {L : Nat} {xs : Nat → Int32} {a d : Nat} {T : List Nat} {h : XH}
theorem jt_coder : Met l jt_y_cd (Cond.code jt_y_cd jt_c_cd 1 (some .byte) :: gtbl) (jt_rm 0 0) (jt_P b0 ra cA dC dI L xs [.ref a] a d T h) (g_Qc b0 ra cA dC dI L xs (.int 0) h) 0 0 (fun q => b0 ≤ q) := by
  refine jt_met rfl (Nat.le_refl _) fun p e s m below meth c ls C G N J hl => ?_
  obtain ⟨⟨hx, hb, hml, hown, hw⟩, hlk, hr⟩ := C
  obtain ⟨-, -, -, -, -, -, -, -, -, -, -, -, tz, -⟩ := id G
  have S : va_S (fun q => b0 ≤ q) s.heap s.heap [] := va_S.rf
  refine va_gets hx hb tz S hown (hw _ jt_w150) (fun x hx => hx) jt_d_cd_0 ?_
  refine lv_if_eq hx hb (tgt := 13) jt_d_cd_3 rfl (fun q => absurd q (by decide)) (fun _ => ?_)
  refine lv_aload_n hx hb jt_d_cd_6 rfl (lv_at hl 0 rfl) ?_
  refine vk_getf hx hb J.2.1 S hown (hw _ jt_w1947) (fun x hx => hx) jt_d_cd_7 ?_
  refine lv_goto hx hb (tgt := 14) jt_d_cd_10 rfl ?_
  exact W.zret hx hb hr rfl (fun t ht _ => ⟨rfl, by rw [ht]; exact N, S.F ht⟩) S.2.2 jt_d_cd_14 hlk
theorem jt_latin : Met l jt_y_la (Cond.code jt_y_la jt_c_la 1 (some .boolean) :: gtbl) (jt_rm 0 0) (jt_P b0 ra cA dC dI L xs [.ref a] a d T h) (g_Qc b0 ra cA dC dI L xs (.int 1) h) 0 0 (fun q => b0 ≤ q) := by
  refine jt_met rfl (Nat.le_refl _) fun p e s m below meth c ls C G N J hl => ?_
  obtain ⟨⟨hx, hb, hml, hown, hw⟩, hlk, hr⟩ := C
  obtain ⟨-, -, -, -, -, -, -, -, -, -, -, -, tz, -⟩ := id G
  have S : va_S (fun q => b0 ≤ q) s.heap s.heap [] := va_S.rf
  refine va_gets hx hb tz S hown (hw _ jt_w150) (fun x hx => hx) jt_d_la_0 ?_
  refine lv_if_eq hx hb (tgt := 17) jt_d_la_3 rfl (fun q => absurd q (by decide)) (fun _ => ?_)
  refine lv_aload_n hx hb jt_d_la_6 rfl (lv_at hl 0 rfl) ?_
  refine vk_getf hx hb J.2.1 S hown (hw _ jt_w1947) (fun x hx => hx) jt_d_la_7 ?_
  refine lv_if_ne hx hb (tgt := 17) jt_d_la_10 rfl (fun q => absurd rfl q) (fun _ => ?_)
  refine lv_iconst hx hb jt_d_la_13 rfl ?_
  refine lv_goto hx hb (tgt := 18) jt_d_la_14 rfl ?_
  exact W.zret hx hb hr rfl (fun t ht _ => ⟨rfl, by rw [ht]; exact N, S.F ht⟩) S.2.2 jt_d_la_18 hlk
theorem jt_length : Met l jt_y_ln (Cond.code jt_y_ln jt_c_ln 1 (some .int) :: gtbl) (jt_rm 1 20) (jt_P b0 ra cA dC dI L xs [.ref a] a d T h) (g_Qc b0 ra cA dC dI L xs (.int (Int32.ofNat T.length)) h) 0 0 (fun q => b0 ≤ q) := by
  refine jt_met rfl (Nat.le_refl _) fun p e s m below meth c ls C G N J hl => ?_
  obtain ⟨F, hlk, hr⟩ := C
  obtain ⟨hx, hb, hml, hown, hw⟩ := id F
  have S : va_S (fun q => b0 ≤ q) s.heap s.heap [] := va_S.rf
  refine lv_aload_n hx hb jt_d_ln_0 rfl (lv_at hl 0 rfl) ?_
  refine vk_getf hx hb J.2.2.1 S hown (hw _ jt_w1946) (fun x hx => hx) jt_d_ln_1 ?_
  refine va_tlen hx hb J.2.2.2 S rfl jt_d_ln_4 ?_
  refine lv_aload_n hx hb jt_d_ln_5 rfl (lv_at hl 0 rfl) ?_
  refine jt_callV (As := []) F G J N S jt_coder jt_w149 jt_w109 jt_w146 jt_w147 jt_w148 ⟨by decide, by decide, by decide +kernel⟩ ⟨Nat.le_refl _, Nat.le_refl _⟩ hl.1 (by show 1 ≤ 8; decide) jt_d_ln_6 ⟨Nat.le_refl _, Nat.le_refl _⟩ fun H1 locs1 N1 S1 => ?_
  refine lv_ishr hx hb jt_d_ln_9 ?_
  have e0 : Int32.ofNat T.length >>> ((0 : Int32) &&& 31) = Int32.ofNat T.length := by simp
  rw [e0]
  exact W.iret hx hb hr (fun t ht _ => ⟨rfl, by rw [ht]; exact N1, S1.F ht⟩) S1.2.2 jt_d_ln_10 hlk
theorem jt_pcheck {i : Int32} {fm : Value} (hfm : fm = .null ∨ ∃ t, fm = .ref t) (h0 : ¬ i < 0) (h1 : i < Int32.ofNat T.length) : Met l jt_y_pc (Cond.code jt_y_pc jt_c_pc 3 (some .int) :: gtbl) (jt_rm 0 0) (jt_P b0 ra cA dC dI L xs [.int i, .int (Int32.ofNat T.length), fm] a d T h) (g_Qc b0 ra cA dC dI L xs (.int i) h) 0 0 (fun q => b0 ≤ q) := by
  refine jt_met rfl (by rcases hfm with rfl | ⟨t, rfl⟩ <;> exact Nat.le_refl 3) fun p e s m below meth c ls C G N J hl => ?_
  obtain ⟨⟨hx, hb, hml, hown, hw⟩, hlk, hr⟩ := C
  have S : va_S (fun q => b0 ≤ q) s.heap s.heap [] := va_S.rf
  refine lv_iload_n hx hb jt_d_pc_0 rfl (lv_at hl 0 rfl) ?_
  refine lv_if_lt hx hb (tgt := 9) jt_d_pc_1 rfl (fun q => absurd q h0) (fun _ => ?_)
  refine lv_iload_n hx hb jt_d_pc_4 rfl (lv_at hl 0 rfl) ?_
  refine lv_iload_n hx hb jt_d_pc_5 rfl (lv_at hl 1 rfl) ?_
  refine lv_icmp_lt hx hb (tgt := 16) jt_d_pc_6 rfl (fun _ => ?_) (fun q => absurd h1 q)
  refine lv_iload_n hx hb jt_d_pc_16 rfl (lv_at hl 0 rfl) ?_
  exact W.iret hx hb hr (fun t ht _ => ⟨rfl, by rw [ht]; exact N, S.F ht⟩) S.2.2 jt_d_pc_17 hlk
theorem jt_check {i : Int32} (h0 : ¬ i < 0) (h1 : i < Int32.ofNat T.length) : Met l jt_y_ck (Cond.code jt_y_ck jt_c_ck 2 none :: gtbl) (jt_rm 1 22) (jt_P b0 ra cA dC dI L xs [.int i, .int (Int32.ofNat T.length)] a d T h) (g_Qc b0 ra cA dC dI L xs .null h) 0 0 (fun q => b0 ≤ q) := by
  refine jt_met rfl (Nat.le_refl _) fun p e s m below meth c ls C G N J hl => ?_
  obtain ⟨F, hlk, hr⟩ := C
  obtain ⟨hx, hb, hml, hown, hw⟩ := id F
  obtain ⟨-, -, -, -, -, -, -, -, -, -, -, -, -, tq⟩ := id G
  have S : va_S (fun q => b0 ≤ q) s.heap s.heap [] := va_S.rf
  obtain ⟨fm, hfm, tz⟩ : ∃ fm : Value, (fm = .null ∨ ∃ t, fm = .ref t) ∧ va_Z "jdk/internal/util/Preconditions" "SIOOBE_FORMATTER" "Ljava/util/function/BiFunction;" fm (fun q => b0 ≤ q) s s.heap := by
    rcases tq with q | ⟨t, q⟩
    · exact ⟨_, Or.inl rfl, q⟩
    · exact ⟨_, Or.inr ⟨t, rfl⟩, q⟩
  refine lv_iload_n hx hb jt_d_ck_0 rfl (lv_at hl 0 rfl) ?_
  refine lv_iload_n hx hb jt_d_ck_1 rfl (lv_at hl 1 rfl) ?_
  refine va_gets hx hb tz S hown (hw _ jt_w166) (fun x hx => hx) jt_d_ck_2 ?_
  refine jt_callS (av := [.int i, .int (Int32.ofNat T.length), fm]) (rest := []) F G J N S (jt_pcheck hfm h0 h1) jt_w170 jt_w111 jt_w168 jt_w169 ⟨by decide, by decide, show _ = some 3 by decide +kernel⟩ ⟨Nat.le_refl _, Nat.le_refl _⟩ hl.1 (by decide) jt_d_ck_5 ⟨Nat.le_refl _, Nat.le_refl _⟩ fun H1 locs1 N1 S1 => ?_
  refine lv_pop hx hb jt_d_ck_8 rfl ?_
  exact W.vret hx hb hr (fun t ht _ => ⟨rfl, by rw [ht]; exact N1, S1.F ht⟩) S1.2.2 jt_d_ck_9 hlk
end JU
