/-! READING: what an expression puts, on both sides -/
def pv (c : Cd) : Bool := decide (c.1 = 0) || decide (c.1 = 1) || decide (c.1 = 11) || decide (c.1 = 12)
/-- codes, so many on the pile before and after -/
def dW : List Cd → Nat → Nat → Prop
  | [], d, d' => d = d'
  | c :: t, d, d' => (pv c = true ∧ d < 20 ∧ dW t (d + 1) d') ∨ (2 ≤ c.1 ∧ c.1 ≤ 5 ∧ 2 ≤ d ∧ dW t (d - 1) d')
def tks : List Cd → List Nat
  | [] => []
  | c :: t => if c.1 = 11 then c.2 :: tks t else tks t
def inc : Nat → Nat → List Nat → Prop
  | lo, hi, [] => lo ≤ hi
  | lo, hi, j :: t => lo ≤ j ∧ j < hi ∧ inc (j + 1) hi t
def ops : List Nat → Nat
  | [] => 0
  | w :: t => (if 1 ≤ clo w then 1 else 0) + ops t
def cOkE (k v : Nat → Nat) (pg : Nat) (c : Cd) : Prop := (c.1 = 0 ∧ ∃ j, k j = 3 ∧ c.2 = v j) ∨ (c.1 = 1 ∧ c.2 = 14) ∨ (c.1 = 11 ∧ k c.2 = 2) ∨ (c.1 = 12 ∧ c.2 = 8 + pg) ∨ (2 ≤ c.1 ∧ c.1 ≤ 5 ∧ c.2 = 0)
section PEX
variable {k p v : Nat → Nat} {law : Bool} {pg : Nat}
theorem dW_app : ∀ (E1 E2 : List Cd) (d d1 d2 : Nat), dW E1 d d1 → dW E2 d1 d2 → dW (E1 ++ E2) d d2 := by
  intro E1
  induction E1 with
  | nil => intro E2 d d1 d2 h1 h2; cases h1; exact h2
  | cons c t ih =>
    intro E2 d d1 d2 h1 h2
    rcases h1 with ⟨a1, a2, a3⟩ | ⟨a1, a2, a3, a4⟩
    · exact Or.inl ⟨a1, a2, ih E2 _ _ _ a3 h2⟩
    · exact Or.inr ⟨a1, a2, a3, ih E2 _ _ _ a4 h2⟩
theorem tks_app : ∀ (E1 E2 : List Cd), tks (E1 ++ E2) = tks E1 ++ tks E2 := by
  intro E1
  induction E1 with
  | nil => intro E2; rfl
  | cons c t ih =>
    intro E2
    show (if c.1 = 11 then c.2 :: tks (t ++ E2) else tks (t ++ E2)) = (if c.1 = 11 then c.2 :: tks t else tks t) ++ tks E2
    rw [ih]
    split <;> rfl
theorem inc_le : ∀ (l : List Nat) (lo hi : Nat), inc lo hi l → lo ≤ hi := by
  intro l
  induction l with
  | nil => intro lo hi h; exact h
  | cons j t ih => intro lo hi h; have := ih _ _ h.2.2; have := h.1; omega
theorem inc_mo : ∀ (l : List Nat) (lo lo' hi hi' : Nat), inc lo hi l → lo' ≤ lo → hi ≤ hi' → inc lo' hi' l := by
  intro l
  induction l with
  | nil => intro lo lo' hi hi' h h1 h2; have h : lo ≤ hi := h; show lo' ≤ hi'; omega
  | cons j t ih => intro lo lo' hi hi' h h1 h2; exact ⟨by have := h.1; omega, by have := h.2.1; omega, ih _ _ _ _ h.2.2 (Nat.le_refl _) h2⟩
theorem inc_app : ∀ (l1 l2 : List Nat) (lo mid hi : Nat), inc lo mid l1 → inc mid hi l2 → inc lo hi (l1 ++ l2) := by
  intro l1
  induction l1 with
  | nil => intro l2 lo mid hi h1 h2; exact inc_mo _ _ _ _ _ h2 h1 (Nat.le_refl _)
  | cons j t ih =>
    intro l2 lo mid hi h1 h2
    have := inc_le _ _ _ h2
    exact ⟨h1.1, by have := h1.2.1; omega, ih _ _ _ _ h1.2.2 h2⟩
theorem dW_ops : ∀ (O : List Cd) (d : Nat), (∀ x ∈ O, 2 ≤ x.1 ∧ x.1 ≤ 5 ∧ x.2 = 0) → O.length + 1 ≤ d → dW O d (d - O.length) := by
  intro O
  induction O with
  | nil => intro d _ _; rfl
  | cons c t ih =>
    intro d h hd
    have h1 := h c List.mem_cons_self
    have hd : t.length + 1 + 1 ≤ d := hd
    refine Or.inr ⟨h1.1, h1.2.1, by omega, ?_⟩
    have := ih (d - 1) (fun x hx => h x (List.mem_cons_of_mem _ hx)) (by omega)
    show dW t (d - 1) (d - (t.length + 1))
    rwa [show d - (t.length + 1) = d - 1 - t.length by omega]
theorem tks_ops : ∀ (O : List Cd), (∀ x ∈ O, 2 ≤ x.1 ∧ x.1 ≤ 5 ∧ x.2 = 0) → tks O = [] := by
  intro O
  induction O with
  | nil => intro _; rfl
  | cons c t ih =>
    intro h
    have h1 := h c List.mem_cons_self
    show (if c.1 = 11 then c.2 :: tks t else tks t) = []
    rw [if_neg (by omega)]
    exact ih (fun x hx => h x (List.mem_cons_of_mem _ hx))
theorem apC_ok {l : List Cd} {c : Cd} (h : l.length < 512) : apC l c = l ++ [c] := if_pos h
theorem pop_E {c : Nat} (hc : 1 ≤ c) : ∀ ws cs rs, cs.length + ops ws ≤ 512 → ∃ O, (pop c ws cs rs).2.1 = cs ++ O ∧ (pop c ws cs rs).2.2 = rs ++ O ∧ O.length + ops (popW c ws) = ops ws ∧ ∀ x ∈ O, 2 ≤ x.1 ∧ x.1 ≤ 5 ∧ x.2 = 0 := by
  intro ws
  induction ws with
  | nil => intro cs rs _; exact ⟨[], (List.append_nil _).symm, (List.append_nil _).symm, rfl, fun x hx => by cases hx⟩
  | cons w t ih =>
    intro cs rs hl
    have e : pop c (w :: t) cs rs = if c ≤ clo w then pop c t (apC cs (opc w, 0)) (rs ++ [(opc w, 0)]) else (w :: t, cs, rs) := rfl
    have ew : popW c (w :: t) = if c ≤ clo w then popW c t else w :: t := rfl
    have eo : ops (w :: t) = (if 1 ≤ clo w then 1 else 0) + ops t := rfl
    rw [e, ew]
    by_cases q : c ≤ clo w
    · rw [if_pos (by omega)] at eo
      rw [if_pos q, if_pos q, apC_ok (by omega)]
      obtain ⟨O, o1, o2, o3, o4⟩ := ih (cs ++ [(opc w, 0)]) (rs ++ [(opc w, 0)]) (by rw [ap1]; omega)
      have ho : 2 ≤ opc w ∧ opc w ≤ 5 := by unfold opc; split <;> (try split) <;> (try split) <;> omega
      refine ⟨(opc w, 0) :: O, by rw [o1, List.append_assoc]; rfl, by rw [o2, List.append_assoc]; rfl, by rw [eo]; show O.length + 1 + _ = _; omega, fun x hx => ?_⟩
      rcases List.mem_cons.mp hx with z | z
      · subst z; exact ⟨ho.1, ho.2, rfl⟩
      · exact o4 x z
    · rw [if_neg q, if_neg q]
      exact ⟨[], (List.append_nil _).symm, (List.append_nil _).symm, by show 0 + ops (w :: t) = ops (w :: t); omega, fun x hx => by cases hx⟩
theorem ops_app : ∀ s r, ops (s ++ r) = ops s + ops r := by
  intro s
  induction s with
  | nil => intro r; show ops r = 0 + ops r; omega
  | cons w t ih => intro r; show (if 1 ≤ clo w then 1 else 0) + ops (t ++ r) = (if 1 ≤ clo w then 1 else 0) + ops t + ops r; rw [ih]; omega
theorem ops_seg {s : List Nat} (h : segO s) : ops s ≤ 2 := by
  rcases h with e | ⟨x, e, _⟩ | ⟨x, y, e, _⟩ <;> rw [e]
  · exact Nat.zero_le _
  · show (if 1 ≤ clo x then 1 else 0) + 0 ≤ 2; split <;> omega
  · show (if 1 ≤ clo x then 1 else 0) + ((if 1 ≤ clo y then 1 else 0) + 0) ≤ 2; split <;> split <;> omega
theorem ops_WI : ∀ ne ws, WI ne ws → ops ws ≤ 2 * ne + 2 := by
  intro ne
  induction ne with
  | zero => intro ws h; exact ops_seg h
  | succ ne ih =>
    intro ws h
    obtain ⟨s, r, e, hs, hr⟩ := h
    have h1 := ops_seg hs
    have h2 := ih r hr
    rw [e, ops_app]
    show ops s + (0 + ops r) ≤ _
    omega
theorem xpr_E : ∀ f ne due ws a sf cs rs c, WI ne ws → ne ≤ 6 → a ≤ 400 → 401 ≤ f + a → cs.length + ops ws ≤ a → xpr k p v law pg f ne due ws (a, sf, cs, rs) = .ok c →
    ∃ E, c.2.2.1 = cs ++ E ∧ c.2.2.2 = rs ++ E ∧ dW E (ops ws + (if due = true then 0 else 1)) 1 ∧ E.length + a ≤ c.1 + ops ws ∧ inc a c.1 (tks E) ∧ (∀ x ∈ E, cOkE k v pg x) ∧ (law = true → c.2.1 = none → ∀ x ∈ E, x.1 ≠ 12) := by
  intro f
  induction f with
  | zero => intro ne due ws a sf cs rs c _ _ _ hf; omega
  | succ f ih =>
    intro ne due ws a sf cs rs c w n6 a4 hf hl e
    have wl := (WI_len ne ws w).1
    have wo := ops_WI ne ws w
    have opE : ∀ O : List Cd, (∀ x ∈ O, 2 ≤ x.1 ∧ x.1 ≤ 5 ∧ x.2 = 0) → (∀ x ∈ O, cOkE k v pg x) ∧ ∀ x ∈ O, x.1 ≠ 12 := fun O hO => ⟨fun x hx => Or.inr (Or.inr (Or.inr (Or.inr (hO x hx)))), fun x hx => by have := hO x hx; omega⟩
    unfold xpr at e
    split at e
    · rename_i q
      split at e
      · split at e
        · have e0 : pu ws 40 = 40 :: ws := by unfold pu; rw [if_pos (by omega)]
          rw [e0] at e
          have oo : ops (40 :: ws) = ops ws := by show (if 1 ≤ clo 40 then 1 else 0) + ops ws = _; rw [clo40]; simp
          obtain ⟨E, h1, h2, h3, h4, h5, h6⟩ := ih _ _ _ _ _ _ _ _ (WI_open w) (by omega) (by omega) (by omega) (by omega) e
          rw [oo] at h3 h4
          rw [if_pos rfl] at h3
          refine ⟨E, h1, h2, ?_, by omega, inc_mo _ _ _ _ _ h5 (by omega) (Nat.le_refl _), h6⟩
          rw [if_pos q.1]
          exact h3
        · cases e
      · cases e
    · split at e
      · rename_i q
        rw [if_pos q]
        have ue : unS k p v law pg (.ok (a, sf, cs, rs)) = match unC k v pg a with
          | none => .error (1, p a)
          | some c => .ok (a, if law = true ∧ k a = 114 then sfO sf (some (6, p a)) else sf, apC cs c, rs ++ [c]) := rfl
        cases hu : unC k v pg a with
        | none => rw [ue, hu] at e; cases e
        | some d =>
          rw [ue, hu] at e
          dsimp only at e
          split at e
          · rw [apC_ok (by omega)] at e
            have hd : pv d = true ∧ cOkE k v pg d ∧ (d.1 = 12 → k a = 114) ∧ tks [d] = (if d.1 = 11 then [d.2] else []) ∧ (d.1 = 11 → d.2 = a) := by
              unfold unC at hu
              split at hu
              · rename_i k3; cases hu; exact ⟨rfl, Or.inl ⟨rfl, a, k3, rfl⟩, fun z => (by cases z), rfl, fun z => (by cases z)⟩
              · split at hu
                · rename_i k2; cases hu; exact ⟨rfl, Or.inr (Or.inr (Or.inl ⟨rfl, k2⟩)), fun z => (by cases z), rfl, fun _ => rfl⟩
                · split at hu
                  · cases hu; exact ⟨rfl, Or.inr (Or.inl ⟨rfl, rfl⟩), fun z => (by cases z), rfl, fun z => (by cases z)⟩
                  · split at hu
                    · rename_i k4; cases hu; exact ⟨rfl, Or.inr (Or.inr (Or.inr (Or.inl ⟨rfl, rfl⟩))), fun _ => k4, rfl, fun z => (by cases z)⟩
                    · cases hu
            obtain ⟨d1, d2, d3, d4, d5⟩ := hd
            have le := xpr_le _ _ _ _ _ _ _ _ _ e
            obtain ⟨E, h1, h2, h3, h4, h5, h6, h7⟩ := ih _ _ _ _ _ _ _ _ w n6 (by omega) (by omega) (by rw [ap1]; omega) e
            rw [if_neg (by decide)] at h3
            refine ⟨d :: E, by rw [h1, List.append_assoc]; rfl, by rw [h2, List.append_assoc]; rfl, Or.inl ⟨d1, by omega, h3⟩, by show E.length + 1 + a ≤ _; omega, ?_, fun x hx => ?_, fun hlw hn x hx => ?_⟩
            · show inc a c.1 (if d.1 = 11 then d.2 :: tks E else tks E)
              split
              · rename_i z
                rw [d5 z]
                have := inc_le _ _ _ h5
                exact ⟨Nat.le_refl _, by omega, h5⟩
              · exact inc_mo _ _ _ _ _ h5 (by omega) (Nat.le_refl _)
            · rcases List.mem_cons.mp hx with z | z
              · subst z; exact d2
              · exact h6 x z
            · rcases List.mem_cons.mp hx with z | z
              · subst z
                intro z12
                have := le.1 hn
                rw [if_pos ⟨hlw, d3 z12⟩] at this
                have e2 := sfO_n this
                rw [e2] at this
                cases this
              · exact h7 hlw hn x z
          · cases e
      · rename_i nd
        rw [if_neg nd]
        split at e
        · rename_i q
          split at e
          · obtain ⟨O, o1, o2, o3, o4⟩ := pop_E (c := clo (k a)) q ws cs rs (by omega)
            have wp : pu (pop (clo (k a)) ws cs rs).1 (k a) = k a :: popW (clo (k a)) ws := by
              have := popW_le (c := clo (k a)) ws
              rw [pop_W]; unfold pu; rw [if_pos (by omega)]
            rw [wp, o1, o2] at e
            have oo : ops (k a :: popW (clo (k a)) ws) = 1 + ops (popW (clo (k a)) ws) := by show (if 1 ≤ clo (k a) then 1 else 0) + _ = _; rw [if_pos (show 1 ≤ clo (k a) from q)]
            obtain ⟨E, h1, h2, h3, h4, h5, h6, h7⟩ := ih _ _ _ _ _ _ _ _ (WI_op w q) n6 (by omega) (by omega) (by rw [List.length_append]; omega) e
            rw [oo] at h3 h4
            rw [if_pos rfl] at h3
            have oe := opE O o4
            refine ⟨O ++ E, by rw [h1, List.append_assoc], by rw [h2, List.append_assoc], dW_app _ _ _ _ _ (dW_ops O _ o4 (by omega)) ?_, by rw [List.length_append]; omega, ?_, fun x hx => ?_, fun hlw hn x hx => ?_⟩
            · rwa [show ops ws + 1 - O.length = 1 + ops (popW (clo (k a)) ws) + 0 by omega]
            · rw [tks_app, tks_ops O o4]; exact inc_mo _ _ _ _ _ h5 (by omega) (Nat.le_refl _)
            · rcases List.mem_append.mp hx with z | z
              · exact oe.1 x z
              · exact h6 x z
            · rcases List.mem_append.mp hx with z | z
              · exact oe.2 x z
              · exact h7 hlw hn x z
          · cases e
        · split at e
          · rename_i q
            split at e
            · obtain ⟨O, o1, o2, o3, o4⟩ := pop_E (c := 1) (Nat.le_refl _) ws cs rs (by omega)
              rw [o1, o2, pop_W] at e
              obtain ⟨ne', hne⟩ : ∃ ne', ne = ne' + 1 := ⟨ne - 1, by omega⟩
              subst hne
              obtain ⟨r, er, wr⟩ := WI_close w
              rw [er] at e o3
              have e : xpr k p v law pg f ne' false r (a + 1, sf, cs ++ O, rs ++ O) = .ok c := e
              have oo : ops (40 :: r) = ops r := by show (if 1 ≤ clo 40 then 1 else 0) + ops r = _; rw [clo40]; simp
              rw [oo] at o3
              obtain ⟨E, h1, h2, h3, h4, h5, h6, h7⟩ := ih _ _ _ _ _ _ _ _ wr (by omega) (by omega) (by omega) (by rw [List.length_append]; omega) e
              rw [if_neg (by decide)] at h3
              have oe := opE O o4
              refine ⟨O ++ E, by rw [h1, List.append_assoc], by rw [h2, List.append_assoc], dW_app _ _ _ _ _ (dW_ops O _ o4 (by omega)) ?_, by rw [List.length_append]; omega, ?_, fun x hx => ?_, fun hlw hn x hx => ?_⟩
              · rwa [show ops ws + 1 - O.length = ops r + 1 by omega]
              · rw [tks_app, tks_ops O o4]; exact inc_mo _ _ _ _ _ h5 (by omega) (Nat.le_refl _)
              · rcases List.mem_append.mp hx with z | z
                · exact oe.1 x z
                · exact h6 x z
              · rcases List.mem_append.mp hx with z | z
                · exact oe.2 x z
                · exact h7 hlw hn x z
            · cases e
          · split at e
            · cases e
            · rename_i ne0
              have : ne = 0 := by omega
              subst this
              cases e
              obtain ⟨O, o1, o2, o3, o4⟩ := pop_E (c := 1) (Nat.le_refl _) ws cs rs (by omega)
              have w : segO ws := w
              rw [pop_seg1' w] at o3
              have o3 : O.length + 0 = ops ws := o3
              have oe := opE O o4
              refine ⟨O, o1, o2, ?_, by show O.length + a ≤ a + ops ws; omega, by rw [tks_ops O o4]; exact Nat.le_refl _, oe.1, fun _ _ => oe.2⟩
              have := dW_ops O (ops ws + 1) o4 (by omega)
              rwa [show ops ws + 1 - O.length = 1 by omega] at this
/-- an expression, whole -/
def eS (k v : Nat → Nat) (law : Bool) (pg a a' : Nat) (sf : Option (Nat × Nat)) (E : List Cd) : Prop := dW E 0 1 ∧ E.length + a ≤ a' ∧ inc a a' (tks E) ∧ (∀ x ∈ E, cOkE k v pg x) ∧ (law = true → sf = none → ∀ x ∈ E, x.1 ≠ 12)
theorem ex_E {a : Nat} {sf : Option (Nat × Nat)} {cs rs : List Cd} {c : Co} (a4 : a ≤ 400) (hl : cs.length ≤ a) (e : exS k p v law pg (.ok (a, sf, cs, rs)) = .ok c) : ∃ E, c.2.2.1 = cs ++ E ∧ c.2.2.2 = rs ++ E ∧ eS k v law pg a c.1 c.2.1 E := by
  obtain ⟨E, h1, h2, h3, h4, h5, h6, h7⟩ := xpr_E 401 0 true [] a sf cs rs c (Or.inl rfl) (by decide) a4 (by omega) hl e
  exact ⟨E, h1, h2, h3, h4, h5, h6, h7⟩
end PEX
