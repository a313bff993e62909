/-! THE CLAIM OUT OF ONE WALK OF THE LAW'S BODY. Your part is whole_start (and what it stands on); all else here is the same for every law, but numbers. -/
def R_law : String := "TrueInkLaw"
def lw_P (b : Addr) (xs : List Int32) (args : Array Value) (s : State) : Prop := args = #[.ref b] ∧ s.IntsAt b xs ∧ xs.length ≤ 3072 ∧ (Jvm.Cond.and given_1 narrow_1).before args s = true
def lw_Q (_ : Array Value) (s : State) (o : Outcome) (t : State) : Prop := o = .returned (some (.int 1)) ∧ Framed s o t [] 600000 7302250
def lw_Z (below : List Frame) (a : Array Value) (s : State) : State → Prop := fun t => ∃ o, t.status = .running ∧ Ended t below o ∧ lw_Q a s o t
/-- the law's own end, with 1 on the stack, nothing written that was there before, its room as the claim has it -/
theorem lw_ret {p : Program} {l : Launch} {e : Env} {s : State} {m : MethodId} {below : List Frame} {meth : Method} {c : Code} {b : Nat} (hx : p.tables.exec = Jvm.exec) (hb : c.code = code) (hr : meth.sig.returnType = ret) (hlocks : meth.locks = false) {pc : Nat} {H : Heap} {ls : Array Slot} (hdg : decode code pc = .ok (.ireturn, 1)) : W p l e room_1 s m #[Value.ref b] below meth c H [] 600000 7302250 (lw_Z below #[Value.ref b] s) (F0 m pc ls [.int 1]) := by
  intro T hT X
  obtain ⟨fs, hret, hrun, hended, hW, hframe⟩ := X.leave (v := some (.int 1)) (hlocks := hlocks) (fun h => by rw [hr] at h; cases h)
  have hmeth' : T.vm.method? m = some meth := X.method'
  refine ⟨T.setFrames fs, ?_, .returned (some (.int 1)), hrun, hended, rfl, ⟨_, rfl⟩, hW, hframe⟩
  jvm_step X.here [X.here.top, hx, hb, hdg, hmeth', hr, ret, narrow_b1]
  (try refine ⟨rfl, ?_⟩); (try refine ⟨rfl, ?_⟩)
  first | (intro acts; rw [hret _ acts rfl rfl rfl]) | rw [hret _ _ rfl rfl rfl]
  exact Steps.refl _
/-- what holds at the law's entry: the machine, the code, the tables' words (any of lw_tbl by 'hts w (by decide +kernel)'), the script of L ints xs at the cell b, what the Statement gives of the start (any of its parts by flat_of_before) -/
def lw_At (p : Program) (s : State) (m : MethodId) (meth : Method) (c : Code) (b L : Nat) (xs : Nat → Int32) : Prop :=
  p.tables.exec = Jvm.exec ∧ c.code = code ∧ meth.sig.returnType = ret ∧ c.maxLocals = 4 ∧ s.vm.findClass R_law = some m.cls ∧ (∀ w ∈ lw_tbl, w.before #[Value.ref b] s = true) ∧ va_X b L xs s s.heap ∧ b < s.heap.size ∧ meth.locks = false ∧ (Jvm.Cond.and given_1 narrow_1).before #[Value.ref b] s = true ∧ meth.name = "law"
/-! THE LAW'S ENTRY: what the Statement gives of the start, as the pure machine's start -/
def h_ini (L : Nat) (xs : Nat → Int32) : XH := (fun a => if a = 0 then xs else if a = 1 then x_five else fun _ => 0, fun _ _ => 0, fun _ _ => 0, fun a => if a = 0 then 1 else if a = 1 then 1 else 0, fun a => if a = 0 then L else if a = 1 then 7 else 0, 4, 0)
def st_T (i : Nat) : Term := .string "TrueInk$Reader" (if i = 0 then 34 else 264)
def st_B : List (List Int32) := [[102,97,99,116,32,109,105,110,101,32,121,111,117,114,115,32,103,111,101,115,32,112,97,103,101,32,97,108,108,32,115,111,109,101,32,112,97,114,116,32,97,110,100,32,115,108,105,112,115,32,115,101,101,100,32,105,102,32,116,104,101,110,32,101,108,115,101,32,116,104,105,115,32,100,97,121,32], [59,61,43,45,42,47,60,62,40,41]]
def st_F : List Cond := flatC (Jvm.Cond.and given_1 narrow_1)
theorem st_el1 : ∀ j, j < 7 → Cond.eq (.elem (.static "TrueInk" "FIVES" "[I") (.int (Int32.ofNat j))) (.int (x_five j)) ∈ st_F := by decide +kernel
theorem st_f : Cond.arrayOf (.static "TrueInk" "FIVES" "[I") .int ∈ st_F ∧ Cond.eq (.length (.static "TrueInk" "FIVES" "[I")) (.int (Int32.ofNat 7)) ∈ st_F ∧ Cond.eq (.static "java/lang/String" "COMPACT_STRINGS" "Z") (.int 1) ∈ st_F ∧ Cond.isRef (.static "jdk/internal/util/Preconditions" "SIOOBE_FORMATTER" "Ljava/util/function/BiFunction;") ∈ st_F := by decide +kernel
theorem st_s : ∀ i, i < 2 → Cond.exactly (st_T i) "java/lang/String" ∈ st_F ∧ Cond.eq (.field (st_T i) "java/lang/String" "coder" "B") (.int 0) ∈ st_F ∧ Cond.arrayOf (.field (st_T i) "java/lang/String" "value" "[B") .byte ∈ st_F ∧ Cond.eq (.length (.field (st_T i) "java/lang/String" "value" "[B")) (.int (Int32.ofNat (([77, 10] : List Nat).getD i 0))) ∈ st_F := by decide +kernel
theorem st_e : ∀ i, i < 2 → ∀ j, j < ([77, 10] : List Nat).getD i 0 → Cond.eq (.elem (.field (st_T i) "java/lang/String" "value" "[B") (.int (Int32.ofNat j))) (.int ((st_B.getD i []).getD j 0)) ∈ st_F := by decide +kernel
theorem st_n : Cond.not (Cond.eq (st_T 0) (st_T 1)) ∈ st_F := by decide +kernel
theorem st_w : lw_tbl[151]? = some (.laysStatic "java/lang/String" "COMPACT_STRINGS" "Z") ∧ lw_tbl[167]? = some (.laysStatic "jdk/internal/util/Preconditions" "SIOOBE_FORMATTER" "Ljava/util/function/BiFunction;") ∧ lw_tbl[866]? = some (.laysStatic "TrueInk" "FIVES" "[I") ∧ lw_tbl[107]? = some (.initialized "TrueInk") ∧ lw_tbl[109]? = some (.initialized "java/lang/String") ∧ lw_tbl[111]? = some (.initialized "jdk/internal/util/Preconditions") ∧ lw_tbl[141]? = some (.stringRef "TrueInk$Reader" 34 "fact mine yours goes page all some part and slips seed if then else this day ") ∧ lw_tbl[624]? = some (.stringRef "TrueInk$Reader" 264 ";=+-*/<>()") := by decide +kernel
theorem st_arr {args : Array Value} {s : State} {ty : FieldType} (h : (Cond.arrayClass ty).before args s = true) : ∃ cA : ClassId, s.vm.findClass ("[" ++ ty.toString) = some cA ∧ ArrOfT s cA ty := by
  obtain ⟨cA, kA, comp, hfind, hk, hkind⟩ := Cond.arrayClass_spec h
  exact ⟨cA, hfind, fun n z => ⟨fun k h => (by cases h), kA, hk, comp, hkind⟩⟩
theorem st_gs {p : Program} {s : State} {m : MethodId} {meth : Method} {c : Code} {b L : Nat} {xs : Nat → Int32} (C0 : lw_At p s m meth c b L xs) : ∃ (ra : Nat → Nat) (cA dC : Nat → ClassId) (dI : Nat → Nat → Nat), ra 0 = b ∧ g_s s.heap.size ra cA dC dI L xs s := by
  obtain ⟨hx, hb, hr, hml, hown, hts, hX, hbl, hlk, hgv, hnm⟩ := C0
  have hF : ∀ w ∈ st_F, w.before #[Value.ref b] s = true := flat_of_before _ hgv
  have hgt : ∀ w ∈ gtbl, w.before #[Value.ref b] s = true := fun w hw => hts w (List.mem_filter.mp hw).1
  have hA : ∀ a : Nat, a < s.heap.size → ¬ (fun q : Nat => s.heap.size ≤ q) a := fun a h => Nat.not_le.mpr h
  have hwt : ∀ {w : Cond} (i : Nat), lw_tbl[i]? = some w → w.before #[Value.ref b] s = true := fun i h => hts _ (List.mem_of_getElem? h)
  obtain ⟨w1, w2, w3, w4, w5, w6, w7, w8⟩ := st_w
  have hk : ∀ ci : Nat, ∃ d : ClassId × (Nat → Nat), ci < 10 → u_Kn s (x_ow ci) (x_T ci) (x_nf ci) d.1 d.2 := by
    intro ci
    by_cases h : ci < 10
    · obtain ⟨cC, iS, hh⟩ := u_known hgt (kl_ok ci h).2.2.2 (hgt _ (wi_in ci h).1)
      exact ⟨(cC, iS), fun _ => hh⟩
    · exact ⟨(m.cls, fun _ => 0), fun q => absurd q h⟩
  obtain ⟨d, hd⟩ := Classical.axiomOfChoice hk
  obtain ⟨c1, f1, a1⟩ := st_arr (hgt _ wa_in.1)
  obtain ⟨c2, f2, a2⟩ := st_arr (hgt _ wa_in.2.1)
  obtain ⟨c3, f3, a3⟩ := st_arr (hgt _ wa_in.2.2.1)
  obtain ⟨c4, f4, a4⟩ := st_arr (hgt _ wa_in.2.2.2)
  obtain ⟨tf, htf, hTf⟩ := va_Tof (A := fun q => s.heap.size ≤ q) (N := 7) (f := fun j => .int (x_five j)) (by decide) (hF _ st_f.1) (va_eqt (hF _ st_f.2.1)) (fun j hj => va_eqt (hF _ (st_el1 j hj))) hA
  obtain ⟨adK, adV, hS, hev⟩ := vk_Sof (N := 2) (tm := st_T) (len := [77, 10]) (byt := st_B) (A := fun q => s.heap.size ≤ q) (fun i hi => by match i, hi with
    | 0, _ => decide
    | 1, _ => decide) (fun i hi => hF _ (st_s i hi).1) (fun i hi => hF _ (st_s i hi).2.1) (fun i hi => hF _ (st_s i hi).2.2.1) (fun i hi => hF _ (st_s i hi).2.2.2) (fun i hi j hj => hF _ (st_e i hi j hj)) (fun i j hi hj hij => by
      match i, j, hi, hj with
      | 0, 0, _, _ => exact absurd rfl hij
      | 0, 1, _, _ => exact Or.inl (hF _ st_n)
      | 1, 0, _, _ => exact Or.inr (hF _ st_n)
      | 1, 1, _, _ => exact absurd rfl hij) hA
  refine ⟨fun i => if i = 0 then b else if i = 1 then tf else if i = 2 then adK 0 else adK 1, fun k => if k = 1 then c1 else if k = 2 then c2 else if k = 3 then c3 else c4, fun k => (d k).1, fun k => (d k).2, rfl, ⟨?_, ?_⟩, va_Zref (hwt _ w3) (hwt _ w4) htf hA, hX, hTf, hbl, ?_, Nat.le_refl _, ⟨f1, f2, f3, f4⟩, fun w hw hn => va_Nw.of (nest_tab hn) (hts w hw), vk_R.of (hwt _ w7) (hev 0 (by decide)), vk_R.of (hwt _ w8) (hev 1 (by decide)), ⟨adK, adV, hS, rfl, rfl⟩, va_Zof (hwt _ w1) (hwt _ w5) (va_eqt (hF _ st_f.2.2.1)) hA, va_Zqof (hwt _ w2) (hwt _ w6) (hF _ st_f.2.2.2) hA⟩
  · intro k q hq
    have hlt : k < 10 := (List.getElem?_eq_some_iff.mp hq).1
    rw [(kl_ok k hlt).1] at hq
    cases hq
    exact hd k hlt
  · intro k q hq
    match k, hq with
    | 0, hq => cases hq; exact ⟨a1, f1⟩
    | 1, hq => cases hq; exact ⟨a2, f2⟩
    | 2, hq => cases hq; exact ⟨a3, f3⟩
    | 3, hq => cases hq; exact ⟨a4, f4⟩
    | k + 4, hq => simp [g_tys] at hq
  · obtain ⟨cell, q1, -⟩ := hTf
    exact (Array.getElem?_eq_some_iff.mp q1).1
def m_nc (w : Option Cond) : Bool := match w with
  | some (.code _ _ _ _) => false
  | _ => true
theorem m_cb_n {w : Option Cond} (h : m_nc w = true) : m_cb w = code := by
  unfold m_nc at h
  split at h
  · cases h
  · rename_i hn
    unfold m_cb
    split
    · rename_i hc
      exact absurd rfl (hn _ _ _ _)
    · rfl
theorem law_b : m_b 267 = code := by
  unfold m_b
  exact m_cb_n (by decide +kernel)
theorem law_m : m_l 267 = 4 ∧ m_r 267 = ret ∧ x_ow (m_o 267) = R_law ∧ (m_y 267).name = "law" ∧ m_fr 267 ≤ 13 ∧ m_lo 267 ≤ 504 := by decide +kernel
/-- the law's walk, out of a run of the pure machine -/
theorem whole_of {p : Program} {e : Env} {s : State} {m : MethodId} {below : List Frame} {meth : Method} {c : Code} (l : Launch) (hX : g_px l) (hp : ∀ (L : Nat) (xs : Nat → Int32), L ≤ 3072 → ∃ (n : Nat) (h' : XH), x_run n 267 0 [.ref 0, .null, .null, .null] [] (h_ini L xs) = some (.int 1, h') ∧ xT h' ≤ 600004 ∧ xS h' ≤ 7302250) {b L : Nat} {xs : Nat → Int32} (hL : L ≤ 3072) (C0 : lw_At p s m meth c b L xs) : W p l e room_1 s m #[Value.ref b] below meth c s.heap [] 0 0 (lw_Z below #[Value.ref b] s) (entryFrame m ([Value.ref b] : List Value).toArray 4) := by
  obtain ⟨ra, cA, dC, dI, hra, G⟩ := st_gs C0
  obtain ⟨n, h', hrun, hT, hS⟩ := hp L xs hL
  obtain ⟨hx, hb, hr, hml, hown, hts, hXx, hbl, hlk, hgv, hnm⟩ := id C0
  obtain ⟨l1, l2, l3, l4, l5, l6⟩ := law_m
  have C : g_c 267 p s m #[Value.ref b] meth c := ⟨hx, hb.trans law_b.symm, hml.trans l1.symm, by rw [l3]; exact hown, fun w hw => hts w (List.mem_filter.mp hw).1, hlk, hr.trans l2.symm, hnm.trans l4.symm⟩
  have N : g_n s.heap.size ra cA dC dI L xs (h_ini L xs) s.heap := ⟨fun k x hk => by simp [g_W, h_ini] at hk, rfl, Nat.le_refl _, rfl, rfl, rfl, rfl, rfl, rfl, rfl, rfl, fun a ha => by
    have ha : 4 ≤ a := ha
    show (if a = 0 then 1 else if a = 1 then 1 else 0) = 0
    rw [if_neg (by omega), if_neg (by omega)]⟩
  rw [lg_entry_eq]
  have K := g_all hX n 267 0 [.ref 0, .null, .null, .null] [] (h_ini L xs) (.int 1) h' hrun p e room_1 s m #[Value.ref b] below meth c (lw_Z below #[Value.ref b] s) s.heap.size ra cA dC dI L xs 4 0 C G ⟨l5, l6⟩ (Nat.le_refl _) (Nat.le_refl _) (by show xT h' - 4 ≤ 600000; omega) (by show xS h' - 0 ≤ 7302250; omega) ?_
  · have hl := g_ls_ini (b0 := s.heap.size) (ra := ra) (x := 267) (as := [.ref 0]) (by rw [l1]; decide)
    have e1 : x_ini 267 [.ref 0] = [.ref 0, .null, .null, .null] := by unfold x_ini; rw [l1]; rfl
    have e2 : ([.ref 0] : List Value).map (g_v s.heap.size ra) = [.ref b] := by show [Value.ref (g_r s.heap.size ra 0)] = _; rw [show g_r s.heap.size ra 0 = b from hra]
    rw [e1, e2, l1] at hl
    exact K s.heap [] _ N va_S.rf hl
  · intro pc ls st imm x' y nx sw hop hret H locs lsC N1 S1 hl
    unfold x_ops at hop
    split at hop
    · rename_i q hd
      obtain ⟨i, len⟩ := q
      dsimp only at hop
      obtain ⟨rfl, hi⟩ := x_tr_ret hop
      rw [l2] at hi
      rcases hi with ⟨rfl, hr1, rfl⟩ | ⟨rfl, hr1, rfl⟩ | ⟨rfl, hr1, rfl⟩ | ⟨rfl, ⟨t', hr1⟩, rfl⟩ | ⟨rfl, hr1, rfl⟩
      · exact absurd hr1 (by decide)
      · obtain ⟨v, hv, rfl, e1⟩ := x_ret_2 hret
        cases e1
        rw [law_b] at hd
        exact va_forget (fun q hq => S1.2.2 q hq) (W.widen (by omega) (by omega) (lw_ret hx hb hr hlk hd))
      · exact absurd hr1 (by decide)
      · cases hr1
      · cases hr1
    · cases hop
