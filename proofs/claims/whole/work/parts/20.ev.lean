/-! RUNS OF THE PURE MACHINE, goal first -/
def Ev (mi pc : Nat) (ls st : List Value) (h : XH) (Q : Value → XH → Prop) : Prop := ∃ (n : Nat) (r : Value) (h' : XH), x_run n mi pc ls st h = some (r, h') ∧ Q r h'
theorem x_run_more : ∀ (n : Nat) {mi pc : Nat} {ls st : List Value} {h h' : XH} {r : Value} (k : Nat), x_run n mi pc ls st h = some (r, h') → x_run (n + k) mi pc ls st h = some (r, h') := by
  intro n
  induction n with
  | zero => intro mi pc ls st h h' r k hr; cases hr
  | succ n ih =>
    intro mi pc ls st h h' r k hr
    rw [show n + 1 + k = (n + k) + 1 by omega]
    unfold x_run at hr ⊢
    split at hr
    · cases hr
    · rename_i code imm x y nx sw hop
      split at hr
      · rename_i h60; rw [if_pos h60]; exact hr
      · rename_i h60
        rw [if_neg h60]
        split at hr
        · rename_i h50
          rw [if_pos h50]
          split at hr
          · rename_i hc
            rw [if_pos hc]
            split at hr
            · rename_i r1 h1 hcall
              rw [ih k hcall]
              exact ih k hr
            · cases hr
          · cases hr
        · rename_i h50
          rw [if_neg h50]
          split at hr
          · rename_i h51
            rw [if_pos h51]
            split at hr
            · rename_i st' hp
              skip
              exact ih k hr
            · cases hr
          · rename_i h51
            rw [if_neg h51]
            split at hr
            · rename_i a b c d hs
              skip
              exact ih k hr
            · cases hr
section EV
variable {mi pc : Nat} {ls st : List Value} {h : XH} {Q : Value → XH → Prop}
theorem Ev.mono {Q' : Value → XH → Prop} (he : Ev mi pc ls st h Q) (hq : ∀ r h', Q r h' → Q' r h') : Ev mi pc ls st h Q' := by
  obtain ⟨n, r, h', h1, h2⟩ := he
  exact ⟨n, r, h', h1, hq r h' h2⟩
theorem ev_step {code : Nat} {imm : Int} {x y nx pc' : Nat} {sw : List (Int × Nat)} {ls' st' : List Value} {h' : XH} (ho : x_ops mi pc = some (code, imm, x, y, nx, sw)) (h6 : code < 50) (hs : x_step code imm x y nx sw x_nf ls st h = some (pc', ls', st', h')) (k : Ev mi pc' ls' st' h' Q) : Ev mi pc ls st h Q := by
  obtain ⟨n, r, h1, hr, hq⟩ := k
  refine ⟨n + 1, r, h1, ?_, hq⟩
  unfold x_run
  rw [ho]
  dsimp only
  rw [if_neg (by omega), if_neg (by omega), if_neg (by omega), hs]
  exact hr
theorem ev_prim {imm : Int} {x y nx : Nat} {sw : List (Int × Nat)} {st' : List Value} (ho : x_ops mi pc = some (51, imm, x, y, nx, sw)) (hs : x_prim x st h = some st') (k : Ev mi nx ls st' h Q) : Ev mi pc ls st h Q := by
  obtain ⟨n, r, h1, hr, hq⟩ := k
  refine ⟨n + 1, r, h1, ?_, hq⟩
  unfold x_run
  rw [ho]
  dsimp only
  rw [if_neg (by decide), if_neg (by decide), if_pos rfl, hs]
  exact hr
theorem ev_call {imm : Int} {x y nx : Nat} {sw : List (Int × Nat)} {as rest : List Value} {Q1 : Value → XH → Prop} (ho : x_ops mi pc = some (50, imm, x, y, nx, sw)) (hst : st = as.reverse ++ rest) (hy : as.length = y) (hc : (rest.map fun v => v.category).sum ≤ 8 ∧ m_fr x + 1 ≤ m_fr mi ∧ 8 + (m_l x + 11) + m_lo x ≤ m_lo mi ∧ (x_fl as).length ≤ m_l x) (hr : x_rcvb imm x as h = true) (hcall : Ev x 0 (x_ini x as) [] h Q1) (k : ∀ r h1, Q1 r h1 → Ev mi nx ls (x_push r rest) h1 Q) : Ev mi pc ls st h Q := by
  obtain ⟨n1, r1, h1, hr1, hq1⟩ := hcall
  obtain ⟨n2, r2, h2, hr2, hq2⟩ := k r1 h1 hq1
  refine ⟨n1 + n2 + 1, r2, h2, ?_, hq2⟩
  have e1 : (st.take y).reverse = as := by rw [hst, ← hy, ← List.length_reverse, List.take_left, List.reverse_reverse]
  have e2 : st.drop y = rest := by rw [hst, ← hy, ← List.length_reverse, List.drop_left]
  have e3 : y ≤ st.length := by rw [hst, ← hy]; simp
  unfold x_run
  rw [ho]
  dsimp only
  rw [if_neg (by decide), if_pos rfl, e1, e2, if_pos ⟨e3, hc.1, hc.2.1, hc.2.2.1, hc.2.2.2, hr⟩, x_run_more n1 n2 hr1]
  dsimp only
  rw [show n1 + n2 = n2 + n1 by omega]
  exact x_run_more n2 n1 hr2
theorem ev_ret {imm : Int} {x y nx : Nat} {sw : List (Int × Nat)} {r : Value} (ho : x_ops mi pc = some (60, imm, x, y, nx, sw)) (hr : x_ret x st h = some (r, h)) (k : Q r h) : Ev mi pc ls st h Q := by
  refine ⟨1, r, h, ?_, k⟩
  unfold x_run
  rw [ho]
  dsimp only
  rw [if_pos rfl]
  exact hr
end EV
