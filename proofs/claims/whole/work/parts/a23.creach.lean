/-! THE CLASS: reach -/
def I62 (T : Nat → Nat → Int32) (s : Nat → Int32) : Prop := ∀ i, (tn (T 0 0) ≤ i ∧ i < 8) ∨ i = 15 → s i = nI 0
theorem ar_62 {h : XH} (hs : Sh h) : Ar h 62 20 := ⟨sk_62 hs, sn_62 hs, by decide⟩
/-- days that went by already from one day's states -/
def CV (T : Nat → Nat → Int32) (e : Nat) (h : XH) : Prop := xN h (xR h 58 11) = 4099 ∧ xN h (xR h 58 12) = 4099 ∧ ∀ k st, k < 4099 → stOk T st → xI h (xR h 58 11) k = nI st → xI h (xR h 58 12) k = nI (nxt T e st)
theorem EqR.of16 {r s : Nat → Int32} (h : ∀ i, i < 20 → r i = s i) : EqR r s := h
section DF
variable {T : Nat → Nat → Int32} {c : Nat} {h0 h : XH} {Q : Value → XH → Prop}
theorem g_58 (s : Sh h) {j v : Nat} (hq : (58, j, 1, v) ∈ shG) : xR h 58 j = v ∨ 124 ≤ xR h 58 j := (s.2.2.2.2.1 (58, j, 1, v) hq).2.1
theorem c_dayFrom {e st : Nat} {K : Int32 → XH → Prop} (M : CM T c h) (he : e ≤ 30) (h62 : I62 T (xI h 62)) (cv : CV T e h) (hst : stOk T st) (k : ∀ h1, Fx [xR h 58 11, xR h 58 12, 62, 34, 35, 36, 37, 38] h h1 → I62 T (xI h1 62) → CV T e h1 → K (nI (nxt T e st)) h1) : ClI 129 [.ref 58, .int (nI st), .int (nI e)] h K := by
  have W2 : wN T ≤ 2000 := M.2.2.2.w.1
  have f8 := M.f8
  have t := M.2.2.2
  obtain ⟨n11, n12, hcv⟩ := cv
  have g11 := g_58 M.1 (j := 11) (v := 67) (by decide)
  have g12 := g_58 M.1 (j := 12) (v := 68) (by decide)
  have nne : xR h 58 11 ≠ xR h 58 12 := sg_ne M.1 (q := (58, 11, 1, 67)) (q' := (58, 12, 1, 68)) (by decide) (by decide) (by decide)
  have h1 := hst.1
  have hsl : st < 2 ^ 31 := by omega
  have hm : st % 4099 < 4099 := Nat.mod_lt _ (by decide)
  have erem : nI st - nI st / nI 4099 * nI 4099 = nI (st % 4099) := pk_rem hsl (by decide) (by decide)
  have erem2 : nI st - nI st / nI 15625 * nI 15625 = nI (st % 15625) := pk_rem hsl (by decide) (by decide)
  have ediv : nI st / nI 15625 = nI (st / 15625) := pk_div hsl (by decide) (by decide)
  have hds : st / 15625 < wN T := by omega
  have hms : st % 15625 < 15625 := Nat.mod_lt _ (by decide)
  have l1 : (4099 : Int32) = nI 4099 := rfl
  have l2 : (15625 : Int32) = nI 15625 := rfl
  have nxo := nxt_ok (e := e) t hst
  refine B_129_0 M.1 ?_
  rw [l1, l2, erem, erem2, ediv, tn_nI (show st % 4099 < 2 ^ 31 by omega), n11, n12]
  have hib : InB (nI (st % 4099)) 4099 := inb hm (by decide)
  refine ⟨hib, fun z => ⟨hib, ?_⟩, fun z => ?_⟩
  · rw [hcv _ st hm hst z]
    exact ⟨_, rfl, k h Fx.rf h62 ⟨n11, n12, hcv⟩⟩
  · rw [M.2.1]
    refine c_ptC M (ar_62 M.1) (by decide) (by omega) EqR.rf (fun ha fa ea => ?_)
    have Ma := M.fx fa (by decide)
    refine ⟨Ma.1, c_putShades Ma.1 (ar_62 Ma.1) (by decide) (fun hb fb eb => ?_)⟩
    have Mb := Ma.fx fb (by decide)
    have fab : Fx [62] h hb := fa.tr fb
    refine ⟨Mb.1, inb_l rfl, ?_⟩
    have fc : Fx [62] h (xsI hb 62 14 (nI e)) := fab.set (by decide)
    have Mc := M.fx fc (by decide)
    have e3 : xI (xsI hb 62 14 (nI e)) c 3 = T 0 3 := by rw [Mc.t0]
    rw [show tn (14 : Int32) = 14 from rfl, Mb.2.1, e3]
    have h16 : Eq16 (xI (xsI hb 62 14 (nI e)) 62) (stRow T st e) := by
      intro i hi
      unfold stRow
      by_cases q14 : i = 14
      · subst q14
        rw [xI_ss, if_neg (by omega), if_neg (by omega), if_pos rfl]
      · rw [xI_sd q14, eb, ptS_at 6 0 _ _ (by omega) i]
        by_cases q : 8 + 0 ≤ i ∧ i < 8 + 0 + 6
        · rw [if_pos q, if_neg (by omega), if_pos (by omega), show i - 8 - 0 = i - 8 by omega]
          rfl
        · rw [if_neg q, ea i (by omega)]
          unfold wRow
          by_cases q2 : i < tn (T 0 0)
          · rw [if_pos q2, if_pos q2]
          · rw [if_neg q2, if_neg q2, if_neg (by omega), if_neg q14]
            exact h62 i (by omega)
    generalize hgen : xsI hb 62 14 (nI e) = hc at fc Mc e3 h16 ⊢
    refine c_dayC (r := xI hc 62) Mc (ar_62 Mc.1) (by decide) EqR.rf (fun hd fd ed => ?_)
    have Md := Mc.fx fd (by decide)
    have ed2 : EqR (xI hd 62) (dayS T (T 0 3) (stRow T st e)) := ed.tr (dayS_16 t h16)
    have fcd : Fx [62, 34, 35, 36, 37, 38] h hd := fc.trm fd (by decide) (by decide)
    have hro := rOk_day t (seed := T 0 3) (stRow_ok (e := e) t hst.2)
    have r11 : xR hd 58 11 = xR h 58 11 := by rw [fcd.1]
    have hN : xN hd = xN h := fcd.2.2.2.1
    refine ⟨Md.1, ?_⟩
    rw [r11, hN, n11, Md.2.1]
    refine ⟨hib, ?_⟩
    have SS : ∀ a ∈ [xR h 58 11, 62, 34, 35, 36, 37, 38], 34 ≤ a := by intro a ha; simp at ha; omega
    have fe : Fx [xR h 58 11, 62, 34, 35, 36, 37, 38] h (xsI hd (xR h 58 11) (st % 4099) (nI st)) := (fcd.mono (by intro a ha; simp at ha; simp; omega)).set (by simp)
    have Me := M.fx fe SS
    have ee : EqR (xI (xsI hd (xR h 58 11) (st % 4099) (nI st)) 62) (dayS T (T 0 3) (stRow T st e)) := by rw [xI_n (by omega)]; exact ed2
    have r12 : xR hd 58 12 = xR h 58 12 := by rw [fcd.1]
    refine c_wC Me (ar_62 Me.1) ee hro ⟨Me.1, rfl, c_shC Me.1 (ar_62 Me.1) ee hro.1 ⟨Me.1, rfl, ?_⟩⟩
    have r12' : xR (xsI hd (xR h 58 11) (st % 4099) (nI st)) 58 12 = xR h 58 12 := r12
    rw [r12', pk_mul, nI_add]
    have hNe : xN (xsI hd (xR h 58 11) (st % 4099) (nI st)) (xR h 58 12) = 4099 := by rw [show xN (xsI hd (xR h 58 11) (st % 4099) (nI st)) = xN h from hN]; exact n12
    have hnx : wNow T (dayS T (T 0 3) (stRow T st e)) * 15625 + num (rdg (dayS T (T 0 3) (stRow T st e))) 6 = nxt T e st := rfl
    rw [hNe, hnx]
    have hNf : xN (xsI (xsI hd (xR h 58 11) (st % 4099) (nI st)) (xR h 58 12) (st % 4099) (nI (nxt T e st))) (xR h 58 12) = 4099 := hNe
    rw [hNf, xI_ss]
    refine ⟨hib, hib, _, rfl, ?_⟩
    have ff : Fx [xR h 58 11, xR h 58 12, 62, 34, 35, 36, 37, 38] h (xsI (xsI hd (xR h 58 11) (st % 4099) (nI st)) (xR h 58 12) (st % 4099) (nI (nxt T e st))) := (fe.mono (by intro a ha; simp at ha; simp; omega)).set (by simp)
    refine k _ ff ?_ ?_
    · intro i hi
      rw [xI_n (by omega), xI_n (by omega), ed2 i (by omega)]
      rcases hi with hi | hi
      · exact hro.2.2 i hi.1 hi.2
      · subst hi
        rw [(dayS_1415 t (seed := T 0 3) (stRow_ok (e := e) t hst.2)).2]
        unfold stRow
        rw [if_neg (by omega), if_neg (by omega), if_neg (by decide)]
    · have rr11 : xR (xsI (xsI hd (xR h 58 11) (st % 4099) (nI st)) (xR h 58 12) (st % 4099) (nI (nxt T e st))) 58 11 = xR h 58 11 := r11
      have rr12 : xR (xsI (xsI hd (xR h 58 11) (st % 4099) (nI st)) (xR h 58 12) (st % 4099) (nI (nxt T e st))) 58 12 = xR h 58 12 := r12
      unfold CV
      rw [rr11, rr12, ff.2.2.2.1]
      refine ⟨n11, n12, fun k2 st2 hk2 hst2 e2 => ?_⟩
      rw [xI_n nne] at e2
      by_cases q : k2 = st % 4099
      · subst q
        rw [xI_ss] at e2
        have h2 := hst2.1
        have : st = st2 := (nI_eq hsl (by omega)).mp e2
        rw [xI_ss, this]
      · rw [xI_sd q] at e2
        rw [xI_sd q, xI_n (Ne.symm nne)]
        rw [fcd.at (by simp; omega)] at e2 ⊢
        exact hcv k2 st2 hk2 hst2 e2
end DF
/-- Begun has gone n days -/
def BOn (T : Nat → Nat → Int32) (h : XH) (n : Nat) : Prop := n ≤ 30 ∧ xI h 58 7 = nI n ∧ wN T ≤ xN h (xR h 58 8) ∧ 31 * wN T ≤ xN h (xR h 58 9) ∧ (∀ w, w < wN T → xI h (xR h 58 8) w = nI (wNow T (bD T w n))) ∧ (∀ d w, d ≤ n → w < wN T → xI h (xR h 58 9) (d * wN T + w) = nI (bsh T w d)) ∧ I62 T (xI h 62) ∧ (1 ≤ n → T 0 8 = 1 → CV T 0 h)
def BOk (T : Nat → Nat → Int32) (h : XH) : Prop := (xI h 58 7 = -1 ∨ ∃ n, BOn T h n) ∧ xN h (xR h 58 11) = xN h (xR h 58 12)
abbrev SBe : List Nat := [34, 35, 36, 37, 38, 62]
