/-! WHAT THE ONE SIDE KEEPS OVER CALLS -/
def WKc (h : XH) : Prop := (∃ pg, pg ≤ 6 ∧ xI h 6 6 = nI pg) ∧ (∀ f, f < 8 → ∃ m, m ≤ 3 ∧ xI h 15 f = nI m) ∧ ∀ f, f < 8 → ∃ m, m ≤ 3 ∧ xI h 25 f = nI m
section HXP
variable {S : List Nat} {G : List (Nat × Nat)} {h h1 : XH} {T : Nat → Nat → Int32} {r : Nat → Int32} {n : Nat} {f : Nat → Nat → Int32} {hb : Nat → Bool} {hf : Nat → Nat → Int32} {q : Nat → Nat × Nat × Nat} {b : Nat → Int32}
theorem Hx.atL {a : Nat} (p : Hx S G h h1) (s : Sh h) (ha : a < 124) (hS : a ∉ S) (hG : ∀ q ∈ G, q ∈ GK) (hc : a ∉ shG.map (fun x => x.2.2.2)) : xL h1 a = xL h a := by
  refine (p.2.2.1 a (by have := s.2.2.2.2.2.2.1; omega) hS (fun q hq e => ?_)).2
  obtain ⟨x, hx, hxe⟩ := List.mem_map.mp (hG q hq)
  have h5 := (s.2.2.2.2.1 x hx).2.1
  have e2 : xR h x.1 x.2.1 = a := by rw [e, ← hxe]
  rw [e2] at h5
  rcases h5 with z | z
  · exact hc (List.mem_map.mpr ⟨x, hx, z.symm⟩)
  · omega
theorem AOk.hx (a : AOk T r h) (s : Sh h) (p : Hx S G h h1) (hG : ∀ q ∈ G, q ∈ GK) (hS : ∀ a ∈ [53, 54, 56, 57], a ∉ S) : AOk T r h1 := by
  unfold AOk AOn
  rw [p.at s (by decide) (hS 53 (by decide)) hG (by decide), p.at s (by decide) (hS 54 (by decide)) hG (by decide), p.at s (by decide) (hS 56 (by decide)) hG (by decide), p.at s (by decide) (hS 57 (by decide)) hG (by decide)]
  exact a
theorem WOk.hx (a : WOk T r h) (s : Sh h) (p : Hx S G h h1) (hG : ∀ x ∈ G, x ∈ GK ∧ x ≠ (43, 4)) (hS : ∀ a ∈ S, a < 124 ∧ a ≠ 46 ∧ a ≠ 43) : WOk T r h1 := by
  obtain ⟨g1, g2, g3, g4⟩ := p.g s (43, 4, 1, 46) (by decide) (fun a ha => ⟨(hS a ha).1, (hS a ha).2.1⟩) hG
  have g1 : xR h1 43 4 = xR h 43 4 := g1
  have g2 : xI h1 (xR h 43 4) = xI h (xR h 43 4) := g2
  have g4 : xN h1 (xR h 43 4) = xN h (xR h 43 4) := g4
  unfold WOk WOn
  rw [p.at s (by decide) (fun z => (hS 43 z).2.2 rfl) (fun q hq => (hG q hq).1) (by decide), g1, g2, g4]
  exact a
theorem SOk.hx (a : SOk T r h) (s : Sh h) (p : Hx S G h h1) (hG : ∀ x ∈ G, x ∈ GK ∧ x ≠ (49, 5)) (hS : ∀ a ∈ S, a < 124 ∧ a ≠ 52 ∧ a ≠ 49) : SOk T r h1 := by
  obtain ⟨g1, g2, g3, g4⟩ := p.g s (49, 5, 4, 52) (by decide) (fun a ha => ⟨(hS a ha).1, (hS a ha).2.1⟩) hG
  have g1 : xR h1 49 5 = xR h 49 5 := g1
  have g3 : xL h1 (xR h 49 5) = xL h (xR h 49 5) := g3
  have g4 : xN h1 (xR h 49 5) = xN h (xR h 49 5) := g4
  unfold SOk SOn
  rw [p.at s (by decide) (fun z => (hS 49 z).2.2 rfl) (fun q hq => (hG q hq).1) (by decide), g1, g3, g4]
  exact a
theorem BOk.hx (a : BOk T h) (s : Sh h) (p : Hx S G h h1) (h7 : xI h1 58 7 = xI h 58 7) (hG : ∀ x ∈ G, x ∈ GK ∧ x ≠ (58, 8) ∧ x ≠ (58, 9) ∧ x ≠ (58, 11) ∧ x ≠ (58, 12)) (hS : ∀ a ∈ S, a < 124 ∧ a ≠ 62 ∧ a ≠ 64 ∧ a ≠ 65 ∧ a ≠ 67 ∧ a ≠ 68) : BOk T h1 := by
  obtain ⟨a1, a2, a3, a4⟩ := p.g s (58, 8, 1, 64) (by decide) (fun a ha => ⟨(hS a ha).1, (hS a ha).2.2.1⟩) (fun x hx => ⟨(hG x hx).1, (hG x hx).2.1⟩)
  obtain ⟨b1, b2, b3, b4⟩ := p.g s (58, 9, 1, 65) (by decide) (fun a ha => ⟨(hS a ha).1, (hS a ha).2.2.2.1⟩) (fun x hx => ⟨(hG x hx).1, (hG x hx).2.2.1⟩)
  obtain ⟨c1, c2, c3, c4⟩ := p.g s (58, 11, 1, 67) (by decide) (fun a ha => ⟨(hS a ha).1, (hS a ha).2.2.2.2.1⟩) (fun x hx => ⟨(hG x hx).1, (hG x hx).2.2.2.1⟩)
  obtain ⟨d1, d2, d3, d4⟩ := p.g s (58, 12, 1, 68) (by decide) (fun a ha => ⟨(hS a ha).1, (hS a ha).2.2.2.2.2⟩) (fun x hx => ⟨(hG x hx).1, (hG x hx).2.2.2.2⟩)
  have a1 : xR h1 58 8 = xR h 58 8 := a1
  have a2 : xI h1 (xR h 58 8) = xI h (xR h 58 8) := a2
  have a4 : xN h1 (xR h 58 8) = xN h (xR h 58 8) := a4
  have b1 : xR h1 58 9 = xR h 58 9 := b1
  have b2 : xI h1 (xR h 58 9) = xI h (xR h 58 9) := b2
  have b4 : xN h1 (xR h 58 9) = xN h (xR h 58 9) := b4
  have c1 : xR h1 58 11 = xR h 58 11 := c1
  have c2 : xI h1 (xR h 58 11) = xI h (xR h 58 11) := c2
  have c4 : xN h1 (xR h 58 11) = xN h (xR h 58 11) := c4
  have d1 : xR h1 58 12 = xR h 58 12 := d1
  have d2 : xI h1 (xR h 58 12) = xI h (xR h 58 12) := d2
  have d4 : xN h1 (xR h 58 12) = xN h (xR h 58 12) := d4
  unfold BOk BOn CV
  rw [h7, a1, a2, a4, b1, b2, b4, c1, c2, c4, d1, d2, d4, p.at s (a := 62) (by decide) (fun z => (hS 62 z).2.1 rfl) (fun q hq => (hG q hq).1) (by decide)]
  exact a
theorem SNc.hx (a : SNc T h n q) (s : Sh h) (p : Hx S G h h1) (h0 : xI h1 58 0 = xI h 58 0) (hG : ∀ x ∈ G, x ∈ GK) (hS : ∀ a ∈ [59, 60, 61], a ∉ S) : SNc T h1 n q := by
  unfold SNc
  rw [h0, p.at s (by decide) (hS 59 (by decide)) hG (by decide), p.at s (by decide) (hS 60 (by decide)) hG (by decide), p.at s (by decide) (hS 61 (by decide)) hG (by decide)]
  exact a
theorem PC.hx (a : PC n f h) (s : Sh h) (p : Hx S G h h1) (hG : ∀ x ∈ G, x ∈ GK) (hS : ∀ a ∈ [40, 41], a ∉ S) : PC n f h1 := by
  unfold PC
  rw [p.at s (by decide) (hS 40 (by decide)) hG (by decide), p.at s (by decide) (hS 41 (by decide)) hG (by decide)]
  exact a
theorem HC.hx (a : HC hb hf h) (s : Sh h) (p : Hx S G h h1) (h10 : xI h1 4 10 = xI h 4 10) (hG : ∀ x ∈ G, x ∈ GK) (hS : 42 ∉ S) : HC hb hf h1 := by
  unfold HC
  rw [h10, p.at s (by decide) hS hG (by decide)]
  exact a
theorem TP.hx (a : TP n b h) (s : Sh h) (p : Hx S G h h1) (h4 : xI h1 4 1 = xI h 4 1) (hG : ∀ x ∈ G, x ∈ GK) (hS : 5 ∉ S) : TP n b h1 := by
  unfold TP
  rw [h4, p.at s (by decide) hS hG (by decide)]
  exact a
theorem WD.hx (a : WD h) (s : Sh h) (p : Hx S G h h1) (hG : ∀ x ∈ G, x ∈ GK) (hS : 7 ∉ S) : WD h1 := by
  unfold WD
  rw [p.atL s (by decide) hS hG (by decide)]
  exact a
theorem WKc.hx (a : WKc h) (s : Sh h) (p : Hx S G h h1) (hG : ∀ x ∈ G, x ∈ GK) (hS : ∀ a ∈ [6, 15, 25], a ∉ S) : WKc h1 := by
  unfold WKc
  rw [p.at s (by decide) (hS 6 (by decide)) hG (by decide), p.at s (by decide) (hS 15 (by decide)) hG (by decide), p.at s (by decide) (hS 25 (by decide)) hG (by decide)]
  exact a
theorem Lx.hx {L : List Nat} (f : Lx S L h h1) (s : Sh h) (hS : 1 ∉ S) : Hx (S ++ L) G h h1 := by
  refine ⟨f.sh s hS, fun a j _ _ => by rw [f.1], fun a _ ha _ => ⟨f.at (fun z => ha (List.mem_append_left _ z)), f.al (fun z => ha (List.mem_append_right _ z))⟩, fun a _ => ⟨by rw [f.2.2.2.1], by rw [f.2.2.1]⟩, fun r => ?_, by rw [f.2.2.2.2.1]; exact Nat.le_refl _, fun q _ => Or.inl (by rw [f.1])⟩
  unfold RmOk
  rw [f.2.2.2.2.1, f.2.2.2.2.2.1, gl_c f.1 f.2.2.2.1]
  exact r
end HXP
/-- bytes of the tape -/
def tpB (b : Nat → Int32) (n : Nat) (B : Nat → Nat) : Prop := (∀ i, B i < 256) ∧ ∀ i, i < n → b i = sx (B i)
/-- all that is known of the one side between calls; the rows are of the text in use -/
def CI (T : Nat → Nat → Int32) (c : Nat) (r : Nat → Int32) (n : Nat) (f : Nat → Nat → Int32) (hb : Nat → Bool) (hf : Nat → Nat → Int32) (sn : Nat) (q : Nat → Nat × Nat × Nat) (tl : Nat) (b : Nat → Int32) (pl : Int32) (h : XH) : Prop := (CM T c h ∧ EqR (xI h 39) r ∧ RmOk h ∧ tL T ∧ tDj T) ∧ (AOk T r h ∧ WOk T r h ∧ SOk T r h ∧ BOk T h) ∧ SNc T h sn q ∧ PC n f h ∧ HC hb hf h ∧ TP tl b h ∧ xI h 4 2 = pl ∧ WD h ∧ WKc h
/-- what the one side's doings leave of the other, and of the script -/
def KC (h h1 : XH) : Prop := (∀ a, 69 ≤ a → a < 124 → xI h1 a = xI h a ∧ xL h1 a = xL h a) ∧ xI h1 0 = xI h 0 ∧ xN h1 0 = xN h 0 ∧ xK h1 0 = xK h 0
theorem KC.rf {h : XH} : KC h h := ⟨fun _ _ _ => ⟨rfl, rfl⟩, rfl, rfl, rfl⟩
theorem KC.tr {h h1 h2 : XH} (p : KC h h1) (q : KC h1 h2) : KC h h2 := ⟨fun a h6 h7 => ⟨(q.1 a h6 h7).1.trans (p.1 a h6 h7).1, (q.1 a h6 h7).2.trans (p.1 a h6 h7).2⟩, q.2.1.trans p.2.1, q.2.2.1.trans p.2.2.1, q.2.2.2.trans p.2.2.2⟩
theorem Hx.kc {S : List Nat} {G : List (Nat × Nat)} {h h1 : XH} (p : Hx S G h h1) (s : Sh h) (hS : ∀ a ∈ S, a < 69 ∧ a ≠ 0) (hG : ∀ q ∈ G, q ∈ GK) : KC h h1 := by
  have k : ∀ x ∈ shG.map (fun x => x.2.2.2), x < 69 := by decide
  have t4 := s.2.2.2.2.2.2.1
  refine ⟨fun a h6 h7 => ⟨p.at s h7 (fun z => by have := hS a z; omega) hG (fun z => by have := k a z; omega), p.atL s h7 (fun z => by have := hS a z; omega) hG (fun z => by have := k a z; omega)⟩, p.at s (by decide) (fun z => (hS 0 z).2 rfl) hG (by decide), (p.2.2.2.1 0 (by omega)).1, (p.2.2.2.1 0 (by omega)).2⟩
