theorem tk_e31 : ∀ e, e < 7 → e % 2 = 1 → (nI e &&& 1) = 1 := by decide +kernel
theorem tk_e30 : ∀ e, e < 7 → e % 2 = 0 → (nI e &&& 1) = 0 := by decide +kernel
theorem tk_e21 : ∀ e, e < 7 → e % 2 = 1 → nI e - nI e / 2 * 2 = 1 := by decide +kernel
theorem tk_e20 : ∀ e, e < 7 → e % 2 = 0 → nI e - nI e / 2 * 2 = 0 := by decide +kernel
theorem tk_01 : ¬ (1 : Int32) = 0 := by decide
theorem tk_10 : ¬ (0 : Int32) = 1 := by decide
theorem tk_20 : ¬ (2 : Int32) = 0 := by decide
/-- the code holds operations alone -/
def tk_C (cw : Nat → Int32) : Prop := ∀ i, i < 64 → ∃ w, w < 512 ∧ w % 32 ≤ 24 ∧ cw i = nI w
/-- a WRITE that does not wait finds room -/
def tk_G (cw sx rg ds pl : Nat → Int32) (p : Nat) : Prop := ∀ i w d e, i < 64 → sx p = nI i → w < 512 → cw i = nI w → w % 32 = 17 → d < 4 → rg (4 * p + w / 128) = nI d → e ≤ 6 → e ≠ 0 → e % 2 = 0 → ds (4 * p + d) = nI e → (∃ j, 0 ≤ j ∧ j < 24 ∧ ds j = nI e - 1) → pl ((e - 1) / 2) ≠ 4
section
variable {ql pc lv : Int32} {xc : Int64} {cw cn st sx sy rs pa rg me ds pw pl qu ou : Nat → Int32}
theorem tk_xRd1 {post : Int32 → Prop} {e : Nat} (he : e ≤ 6) (h : e % 2 = 1) (hp : post 1) : wpX_isReadingEnd post (ql, pc, xc, lv, cw, cn, st, sx, rs, pa, rg, me, ds, pw, pl, qu, ou) (nI e) := br_f (nI_ne0 (by omega) (by omega)) (br_t (tk_e31 e (by omega) h) hp)
theorem tk_xRd0 {post : Int32 → Prop} {e : Nat} (he : e ≤ 6) (h : e % 2 = 0) (hp : post 0) : wpX_isReadingEnd post (ql, pc, xc, lv, cw, cn, st, sx, rs, pa, rg, me, ds, pw, pl, qu, ou) (nI e) := br_c (fun _ => hp) (fun _ => br_f (by rw [tk_e30 e (by omega) h]; exact tk_10) hp)
theorem tk_xWr1 {post : Int32 → Prop} {e : Nat} (he : e ≤ 6) (h0 : e ≠ 0) (h : e % 2 = 0) (hp : post 1) : wpX_isWritingEnd post (ql, pc, xc, lv, cw, cn, st, sx, rs, pa, rg, me, ds, pw, pl, qu, ou) (nI e) := br_f (nI_ne0 (by omega) (by omega)) (br_t (tk_e30 e (by omega) h) hp)
theorem tk_xWr0 {post : Int32 → Prop} {e : Nat} (he : e ≤ 6) (h : e = 0 ∨ e % 2 = 1) (hp : post 0) : wpX_isWritingEnd post (ql, pc, xc, lv, cw, cn, st, sx, rs, pa, rg, me, ds, pw, pl, qu, ou) (nI e) := by
  rcases h with h | h
  · exact br_t (by rw [h]; exact nI_0) hp
  · exact br_c (fun _ => hp) (fun _ => br_f (by rw [tk_e31 e (by omega) h]; exact tk_01) hp)
theorem tk_xPo {post : Int32 → Prop} {e : Nat} (he : e ≤ 6) (hp : post (nI ((e - 1) / 2))) : wpX_pipeOf post (ql, pc, xc, lv, cw, cn, st, sx, rs, pa, rg, me, ds, pw, pl, qu, ou) (nI e) := ⟨tk_20, by rw [tk_e1 e (by omega)]; exact hp⟩
theorem tk_xAlive1 {post : Int32 → Prop} {p : Nat} (hp6 : p < 6) (h : st p = 1 ∨ st p = 2) (hp : post 1) : wpX_isAlive post (ql, pc, xc, lv, cw, cn, st, sx, rs, pa, rg, me, ds, pw, pl, qu, ou) (nI p) := by
  have hi : vp_in (nI p) 6 := vp_in_nI hp6 (by decide)
  have e : (nI p).toNatClampNeg = p := nI_clamp (by omega)
  unfold wpX_isAlive
  refine tk_xProc1 hp6 (br_f tk_01 ⟨hi, ?_⟩)
  by_cases z : st p = 1
  · exact br_t (by rw [e]; exact z) hp
  · exact br_f (by rw [e]; exact z) ⟨hi, br_t (by rw [e]; exact h.resolve_left z) hp⟩
theorem tk_xAlive0 {post : Int32 → Prop} {p : Nat} (hp6 : p < 6) (h : ¬ (st p = 1 ∨ st p = 2)) (hp : post 0) : wpX_isAlive post (ql, pc, xc, lv, cw, cn, st, sx, rs, pa, rg, me, ds, pw, pl, qu, ou) (nI p) := by
  have hi : vp_in (nI p) 6 := vp_in_nI hp6 (by decide)
  have e : (nI p).toNatClampNeg = p := nI_clamp (by omega)
  unfold wpX_isAlive
  exact tk_xProc1 hp6 (br_f tk_01 ⟨hi, br_f (by rw [e]; exact fun z => h (Or.inl z)) ⟨hi, br_f (by rw [e]; exact fun z => h (Or.inr z)) hp⟩⟩)
theorem tk_xAliveO {post : Int32 → Prop} {s : Int32} (hs : s < 0 ∨ (¬ s < 0 ∧ nI 6 ≤ s)) (hp : post 0) : wpX_isAlive post (ql, pc, xc, lv, cw, cn, st, sx, rs, pa, rg, me, ds, pw, pl, qu, ou) s := by
  unfold wpX_isAlive
  exact tk_xProc0 hs (br_t rfl hp)
theorem tk_yLive1 {post : Int32 → Prop} {p : Nat} (hp6 : p < 6) (h : st p = 1 ∨ st p = 2) (hp : post 1) : wpY_isLive post (ql, xc, pc, cw, cn, st, pa, sy, rg, ds, me, pw, pl, qu, ou) (nI p) := by
  have hi : vp_in (nI p) 6 := vp_in_nI hp6 (by decide)
  have e : (nI p).toNatClampNeg = p := nI_clamp (by omega)
  unfold wpY_isLive
  refine tk_yIn1 5 (by omega) (br_f tk_01 ⟨hi, ?_⟩)
  by_cases z : st p = 1
  · exact br_t (by rw [e]; exact z) hp
  · exact br_f (by rw [e]; exact z) ⟨hi, br_t (by rw [e]; exact h.resolve_left z) hp⟩
theorem tk_yLive0 {post : Int32 → Prop} {p : Nat} (hp6 : p < 6) (h : ¬ (st p = 1 ∨ st p = 2)) (hp : post 0) : wpY_isLive post (ql, xc, pc, cw, cn, st, pa, sy, rg, ds, me, pw, pl, qu, ou) (nI p) := by
  have hi : vp_in (nI p) 6 := vp_in_nI hp6 (by decide)
  have e : (nI p).toNatClampNeg = p := nI_clamp (by omega)
  unfold wpY_isLive
  exact tk_yIn1 5 (by omega) (br_f tk_01 ⟨hi, br_f (by rw [e]; exact fun z => h (Or.inl z)) ⟨hi, br_f (by rw [e]; exact fun z => h (Or.inr z)) hp⟩⟩)
theorem tk_yLiveO {post : Int32 → Prop} {s : Int32} (hs : s < 0 ∨ (¬ s < 0 ∧ nI 6 ≤ s)) (hp : post 0) : wpY_isLive post (ql, xc, pc, cw, cn, st, pa, sy, rg, ds, me, pw, pl, qu, ou) s := by
  unfold wpY_isLive
  exact tk_yIn0 5 hs (br_t rfl hp)
theorem tk_xOp1 {post : Int32 → Prop} {p i w : Nat} (hp : p < 6) (hi : i < 64) (hs : sx p = nI i) (hw : w < 512) (hc : cw i = nI w) (h : post (nI (w % 32))) : wpX_opAt post (ql, pc, xc, lv, cw, cn, st, sx, rs, pa, rg, me, ds, pw, pl, qu, ou) (nI p) := by
  have e : (nI p).toNatClampNeg = p := nI_clamp (by omega)
  have e2 : (nI i).toNatClampNeg = i := nI_clamp (by omega)
  exact ⟨vp_in_nI hp (by decide), nm_r (e' := nI i) (by rw [e]; exact hs) (tk_xSpot1 hi (br_f tk_01 ⟨vp_in_nI hi (by decide), by rw [e2, hc, tk_op hw]; exact h⟩))⟩
theorem tk_xOp0 {post : Int32 → Prop} {p : Nat} (hp : p < 6) (hs : sx p < 0 ∨ (¬ sx p < 0 ∧ nI 64 ≤ sx p)) (h : post (-1)) : wpX_opAt post (ql, pc, xc, lv, cw, cn, st, sx, rs, pa, rg, me, ds, pw, pl, qu, ou) (nI p) := by
  have e : (nI p).toNatClampNeg = p := nI_clamp (by omega)
  exact ⟨vp_in_nI hp (by decide), nm_r (e' := sx p) (by rw [e]) (tk_xSpot0 hs (br_t rfl h))⟩
/-- the end that register b of p names, on both sides -/
theorem tk_end {p b : Nat} (hp : p < 6) (hb : b < 4) (ve : tk_VE ds) : ∃ e, e ≤ 6 ∧ (∀ post : Int32 → Prop, post (nI e) → wpX_pipeEnd post (ql, pc, xc, lv, cw, cn, st, sx, rs, pa, rg, me, ds, pw, pl, qu, ou) (nI p) (rg (4 * p + b))) ∧ (∀ post : Int32 → Prop, post (nI e) → wpY_endOf post (ql, xc, pc, cw, cn, st, pa, sy, rg, ds, me, pw, pl, qu, ou) (nI p) (nI b)) ∧ (∀ d, d < 4 → rg (4 * p + b) = nI d → ds (4 * p + d) = nI e) ∧ (e ≠ 0 → ∃ d, d < 4 ∧ rg (4 * p + b) = nI d) := by
  have e1 : (4 * nI p + nI b).toNatClampNeg = 4 * p + b := by rw [tk_i4', nI_clamp (by omega)]
  have v1 : vp_in (4 * nI p + nI b) 24 := by rw [tk_i4']; exact vp_in_nI (by omega) (by decide)
  have key : ∀ s : Int32, rg (4 * p + b) = s → ∃ e, e ≤ 6 ∧ (∀ post : Int32 → Prop, post (nI e) → wpX_pipeEnd post (ql, pc, xc, lv, cw, cn, st, sx, rs, pa, rg, me, ds, pw, pl, qu, ou) (nI p) s) ∧ (∀ post : Int32 → Prop, post (nI e) → wpY_endOf post (ql, xc, pc, cw, cn, st, pa, sy, rg, ds, me, pw, pl, qu, ou) (nI p) (nI b)) ∧ (∀ d, d < 4 → s = nI d → ds (4 * p + d) = nI e) ∧ (e ≠ 0 → ∃ d, d < 4 ∧ s = nI d) := by
    intro s es
    rcases tk_ix s (n := 4) (by decide) with a | a | ⟨d, hd, rfl⟩
    · refine ⟨0, by omega, fun post h => br_t a h, fun post h => ⟨v1, nm_r (e' := s) (by rw [e1]; exact es) (tk_yIn0 3 (Or.inl a) (br_t rfl h))⟩, fun d hd ed => ?_, fun z => absurd rfl z⟩
      rw [ed] at a; exact absurd a (nI_pos (by omega))
    · refine ⟨0, by omega, fun post h => br_f a.1 (br_t a.2 h), fun post h => ⟨v1, nm_r (e' := s) (by rw [e1]; exact es) (tk_yIn0 3 (Or.inr a) (br_t rfl h))⟩, fun d hd ed => ?_, fun z => absurd rfl z⟩
      have k := a.2
      rw [ed] at k; exact absurd k (nI_ge (b := 4) hd (by decide))
    · obtain ⟨e, he, ee⟩ := ve (4 * p + d) (by omega)
      have c1 : (nI p * 4 + nI d).toNatClampNeg = 4 * p + d := by rw [tk_i4, nI_clamp (by omega)]
      have c2 : (4 * nI p + nI d).toNatClampNeg = 4 * p + d := by rw [tk_i4', nI_clamp (by omega)]
      refine ⟨e, he, fun post h => br_f (nI_pos (by omega)) (br_f (nI_ge (b := 4) hd (by decide)) ⟨by rw [tk_i4]; exact vp_in_nI (by omega) (by decide), by rw [c1, ee]; exact h⟩), fun post h => ⟨v1, nm_r (e' := nI d) (by rw [e1]; exact es) (tk_yIn1 3 (by omega) (br_f tk_01 ⟨by rw [tk_i4']; exact vp_in_nI (by omega) (by decide), by rw [c2, ee]; exact h⟩))⟩, fun d' hd' ed => ?_, fun _ => ⟨d, hd, rfl⟩⟩
      have q := tk_ni (by omega) (by omega) ed
      rw [← q]; exact ee
  exact key _ rfl
theorem tk_x49 {post : Int32 → Prop} {p i w e : Nat} {o : Int32} (hp : p < 6) (hi : i < 64) (hs : sx p = nI i) (hw : w < 512) (hc : cw i = nI w) (hE : ∀ post : Int32 → Prop, post (nI e) → wpX_pipeEnd post (ql, pc, xc, lv, cw, cn, st, sx, rs, pa, rg, me, ds, pw, pl, qu, ou) (nI p) (rg (4 * p + w / 128))) (H : (o = 16 → wpX_isReadingEnd (fun r_102 => (((r_102 = 0 → (post 0)) ∧ (¬ r_102 = 0 → (wpX_pipeOf (fun r_121 => (vp_in r_121 3 ∧ ((((pl r_121.toNatClampNeg) = 0 → (wpX_isHeld (fun r_141 => (((r_141 = 0 → (post 0)) ∧ (¬ r_141 = 0 → (post 1))))) (ql, pc, xc, lv, cw, cn, st, sx, rs, pa, rg, me, ds, pw, pl, qu, ou) (nI e + 1))) ∧ (¬ (pl r_121.toNatClampNeg) = 0 → (post 0)))))) (ql, pc, xc, lv, cw, cn, st, sx, rs, pa, rg, me, ds, pw, pl, qu, ou) (nI e)))))) (ql, pc, xc, lv, cw, cn, st, sx, rs, pa, rg, me, ds, pw, pl, qu, ou) (nI e)) ∧ (¬ o = 16 → (wpX_isWritingEnd (fun r_44 => (((r_44 = 0 → (post 0)) ∧ (¬ r_44 = 0 → (wpX_pipeOf (fun r_63 => (vp_in r_63 3 ∧ ((((pl r_63.toNatClampNeg) = 4 → (wpX_isHeld (fun r_83 => (((r_83 = 0 → (post 0)) ∧ (¬ r_83 = 0 → (post 1))))) (ql, pc, xc, lv, cw, cn, st, sx, rs, pa, rg, me, ds, pw, pl, qu, ou) (nI e - 1))) ∧ (¬ (pl r_63.toNatClampNeg) = 4 → (post 0)))))) (ql, pc, xc, lv, cw, cn, st, sx, rs, pa, rg, me, ds, pw, pl, qu, ou) (nI e)))))) (ql, pc, xc, lv, cw, cn, st, sx, rs, pa, rg, me, ds, pw, pl, qu, ou) (nI e)))) : wX_mustWait_49 post (nI p) o ql pc xc lv cw cn st sx rs pa rg me ds pw pl qu ou := by
  have h1 : sx (nI p).toNatClampNeg = nI i := by rw [nI_clamp (by omega)]; exact hs
  have h2 : (nI i).toNatClampNeg = i := nI_clamp (by omega)
  have h3 : (nI (4 * p + w / 128)).toNatClampNeg = 4 * p + w / 128 := nI_clamp (by omega)
  refine ⟨vp_in_nI hp (by decide), by rw [h1]; exact vp_in_nI hi (by decide), nm_r (e' := nI (4 * p + w / 128)) (by rw [h1, h2, hc, tk_wb hw, tk_i4]) ⟨vp_in_nI (by omega) (by decide), ?_⟩⟩
  rw [h3]
  exact hE _ H
theorem tk_wait {p : Nat} (hp : p < 6) (hC : tk_C cw) (ve : tk_VE ds) (es : sy p = sx p) : ∃ r : Int32, (r = 0 ∨ r = 1) ∧ (∀ post : Int32 → Prop, post r → wpX_mustWait post (ql, pc, xc, lv, cw, cn, st, sx, rs, pa, rg, me, ds, pw, pl, qu, ou) (nI p)) ∧ (∀ post : Int32 → Prop, post r → wpY_waits post (ql, xc, pc, cw, cn, st, pa, sy, rg, ds, me, pw, pl, qu, ou) (nI p)) ∧ (r = 0 → tk_G cw sx rg ds pl p) := by
  have v6 : vp_in (nI p) 6 := vp_in_nI hp (by decide)
  have ep : (nI p).toNatClampNeg = p := nI_clamp (by omega)
  rcases tk_ix (sx p) (n := 64) (by decide) with a | a | ⟨i, hi, hs⟩
  · refine ⟨0, Or.inl rfl, fun post h => by unfold wpX_mustWait; exact tk_xOp0 hp (Or.inl a) (br_f (by decide) (br_f (by decide) (br_f (by decide) h))), fun post h => ⟨v6, ?_⟩, fun _ i w d e hi hs => ?_⟩
    · rw [ep, es]; exact tk_yIn0 63 (Or.inl a) (br_t rfl h)
    · rw [hs] at a; exact absurd a (nI_pos (by omega))
  · refine ⟨0, Or.inl rfl, fun post h => by unfold wpX_mustWait; exact tk_xOp0 hp (Or.inr a) (br_f (by decide) (br_f (by decide) (br_f (by decide) h))), fun post h => ⟨v6, ?_⟩, fun _ i w d e hi hs => ?_⟩
    · rw [ep, es]; exact tk_yIn0 63 (Or.inr a) (br_t rfl h)
    · have k := a.2
      rw [hs] at k; exact absurd k (nI_ge (b := 64) hi (by decide))
  · obtain ⟨w, hw, ho, hc⟩ := hC i hi
    obtain ⟨e, he, hX, hY, hd, hde⟩ := tk_end (ql := ql) (pc := pc) (lv := lv) (xc := xc) (cw := cw) (cn := cn) (st := st) (sx := sx) (sy := sy) (rs := rs) (pa := pa) (rg := rg) (me := me) (pw := pw) (pl := pl) (qu := qu) (ou := ou) hp (show w / 128 < 4 by omega) ve
    have h2 : (nI i).toNatClampNeg = i := nI_clamp (by omega)
    have v64 : vp_in (nI i) 64 := vp_in_nI hi (by decide)
    have hsy : sy p = nI i := es.trans hs
    have hk : (e - 1) / 2 < 3 := by omega
    have vk : vp_in (nI ((e - 1) / 2)) 3 := vp_in_nI hk (by decide)
    have ek : (nI ((e - 1) / 2)).toNatClampNeg = (e - 1) / 2 := nI_clamp (by omega)
    have G0 : w % 32 ≠ 17 → tk_G cw sx rg ds pl p := by
      intro hn i' w' d' e' a1 a2 a3 a4 a5
      have q := tk_ni (by omega) (by omega) (hs.symm.trans a2)
      rw [← q, hc] at a4
      have q2 := tk_ni (by omega) (by omega) a4
      rw [← q2] at a5
      exact absurd a5 hn
    have G1 : ¬ (e ≠ 0 ∧ e % 2 = 0 ∧ (∃ j, 0 ≤ j ∧ j < 24 ∧ ds j = nI e - 1) ∧ pl ((e - 1) / 2) = 4) → tk_G cw sx rg ds pl p := by
      intro hn i' w' d' e' a1 a2 a3 a4 a5 a6 a7 a8 a9 a10 a11 a12 a13
      have q := tk_ni (by omega) (by omega) (hs.symm.trans a2)
      rw [← q, hc] at a4
      have q2 := tk_ni (by omega) (by omega) a4
      rw [← q2] at a7
      have q3 := hd d' a6 a7
      rw [a11] at q3
      have q4 := tk_ni (by omega) (by omega) q3
      rw [q4] at a9 a10 a12 a13
      exact hn ⟨a9, a10, a12, a13⟩
    have YP : ∀ (post : Int32 → Prop) (o : Int32), nI (w % 32) = o → (((o = 14 → (wpY_endedChild (fun r_89 => (((r_89 = (-1) → (post 1)) ∧ (¬ r_89 = (-1) → (post 0))))) (ql, xc, pc, cw, cn, st, pa, sy, rg, ds, me, pw, pl, qu, ou) (nI p))) ∧ (¬ o = 14 → (((o = 16 → (¬ (2 : Int32) = 0 ∧ ((((nI e - nI e / 2 * 2) = 1 → (vp_in (nI ((e - 1) / 2)) 3 ∧ ((((pl (nI ((e - 1) / 2)).toNatClampNeg) = 0 → (wpY_has (fun r_72 => (((r_72 = 0 → (post 0)) ∧ (¬ r_72 = 0 → (post 1))))) (ql, xc, pc, cw, cn, st, pa, sy, rg, ds, me, pw, pl, qu, ou) (nI e + 1))) ∧ (¬ (pl (nI ((e - 1) / 2)).toNatClampNeg) = 0 → (post 0)))))) ∧ (¬ (nI e - nI e / 2 * 2) = 1 → (post 0)))))) ∧ (¬ o = 16 → (((o = 17 → (((nI e ≤ 0 → (post 0)) ∧ (¬ nI e ≤ 0 → (¬ (2 : Int32) = 0 ∧ ((((nI e - nI e / 2 * 2) = 0 → (vp_in (nI ((e - 1) / 2)) 3 ∧ ((((pl (nI ((e - 1) / 2)).toNatClampNeg) = 4 → (wpY_has (fun r_51 => (((r_51 = 0 → (post 0)) ∧ (¬ r_51 = 0 → (post 1))))) (ql, xc, pc, cw, cn, st, pa, sy, rg, ds, me, pw, pl, qu, ou) (nI e - 1))) ∧ (¬ (pl (nI ((e - 1) / 2)).toNatClampNeg) = 4 → (post 0)))))) ∧ (¬ (nI e - nI e / 2 * 2) = 0 → (post 0))))))))) ∧ (¬ o = 17 → (post 0)))))))))) → wpY_waits post (ql, xc, pc, cw, cn, st, pa, sy, rg, ds, me, pw, pl, qu, ou) (nI p) := by
      intro post o eo H
      refine ⟨v6, ?_⟩
      rw [ep, hsy]
      exact tk_yIn1 63 (by omega) (br_f tk_01 ⟨v6, v64, nm_r (e' := o) (by rw [h2, hc, tk_op hw]; exact eo) ⟨v6, v64, nm_r (e' := nI (w / 128)) (by rw [h2, hc, tk_wb hw]) (hY _ ⟨tk_20, nm_r (tk_e1 e (by omega)) H⟩)⟩⟩)
    by_cases o14 : w % 32 = 14
    · obtain ⟨rB, hB⟩ := tk_Bex (fun j => st j ≠ 0 ∧ pa j = nI p) 0 6
      obtain ⟨rF, hF⟩ := tk_Fex (fun j => st j = 3 ∧ pa j = nI p) 6 6 0 rfl
      have fx : ∀ post : Int32 → Prop, ((rB = 0 → post 0) ∧ (¬ rB = 0 → (rF = -1 → post 1) ∧ (¬ rF = -1 → post 0))) → wpX_mustWait post (ql, pc, xc, lv, cw, cn, st, sx, rs, pa, rg, me, ds, pw, pl, qu, ou) (nI p) := by
        intro post h
        unfold wpX_mustWait
        refine tk_xOp1 hp hi hs hw hc ?_
        rw [o14]
        exact br_t (by decide) (tk_xHas hB ⟨h.1, fun z => tk_xEnd hF (h.2 z)⟩)
      have fy : ∀ post : Int32 → Prop, ((rB = 0 → post 0) ∧ (¬ rB = 0 → (rF = -1 → post 1) ∧ (¬ rF = -1 → post 0))) → wpY_waits post (ql, xc, pc, cw, cn, st, pa, sy, rg, ds, me, pw, pl, qu, ou) (nI p) := by
        intro post h
        refine YP post 14 (by rw [o14]; rfl) (br_t rfl (tk_yEnd (fun r hr => ?_)))
        rcases hr with ⟨a, b⟩ | ⟨a, b⟩
        · have q := tk_Fu 6 0 rfl a hF
          have k : r = -1 → ¬ rB = 0 := by
            intro z
            obtain ⟨j, x, y, u⟩ := b z
            rcases hB with ⟨e1, _⟩ | ⟨_, n1⟩
            · rw [e1]; exact tk_01
            · exact absurd u (n1 j x y)
          refine ⟨fun z => (h.2 (k z)).1 (q ▸ z), fun z => ?_⟩
          by_cases y : rB = 0
          · exact h.1 y
          · exact (h.2 y).2 (q ▸ z)
        · refine br_f (by rw [a]; decide) (h.1 ?_)
          rcases hB with ⟨_, j, x, y, u⟩ | ⟨e1, _⟩
          · exact absurd u (b j x y)
          · exact e1
      by_cases y : rB = 0
      · exact ⟨0, Or.inl rfl, fun post h => fx post (br_t y h), fun post h => fy post (br_t y h), fun _ => G0 (by omega)⟩
      · by_cases z : rF = -1
        · exact ⟨1, Or.inr rfl, fun post h => fx post (br_f y (br_t z h)), fun post h => fy post (br_f y (br_t z h)), fun q => absurd q tk_01⟩
        · exact ⟨0, Or.inl rfl, fun post h => fx post (br_f y (br_f z h)), fun post h => fy post (br_f y (br_f z h)), fun _ => G0 (by omega)⟩
    · by_cases o16 : w % 32 = 16
      · have fx : ∀ post : Int32 → Prop, wpX_isReadingEnd (fun r_102 => (((r_102 = 0 → (post 0)) ∧ (¬ r_102 = 0 → (wpX_pipeOf (fun r_121 => (vp_in r_121 3 ∧ ((((pl r_121.toNatClampNeg) = 0 → (wpX_isHeld (fun r_141 => (((r_141 = 0 → (post 0)) ∧ (¬ r_141 = 0 → (post 1))))) (ql, pc, xc, lv, cw, cn, st, sx, rs, pa, rg, me, ds, pw, pl, qu, ou) (nI e + 1))) ∧ (¬ (pl r_121.toNatClampNeg) = 0 → (post 0)))))) (ql, pc, xc, lv, cw, cn, st, sx, rs, pa, rg, me, ds, pw, pl, qu, ou) (nI e)))))) (ql, pc, xc, lv, cw, cn, st, sx, rs, pa, rg, me, ds, pw, pl, qu, ou) (nI e) → wpX_mustWait post (ql, pc, xc, lv, cw, cn, st, sx, rs, pa, rg, me, ds, pw, pl, qu, ou) (nI p) := by
          intro post h
          unfold wpX_mustWait
          refine tk_xOp1 hp hi hs hw hc ?_
          rw [o16]
          exact br_f (by decide) (br_t (by decide) (tk_x49 hp hi hs hw hc hX (br_t (by decide) h)))
        by_cases odd : e % 2 = 1
        · by_cases z : pl ((e - 1) / 2) = 0
          · obtain ⟨rB, hB⟩ := tk_Bex (fun j => ds j = nI e + 1) 0 24
            refine ⟨rB, tk_B01 hB, fun post h => fx post (tk_xRd1 he odd (br_f tk_01 (tk_xPo he ⟨vk, br_t (by rw [ek]; exact z) (tk_xHeld hB ?_)⟩))), fun post h => YP post 16 (by rw [o16]; rfl) (br_f (by decide) (br_t rfl ⟨tk_20, br_t (tk_e21 e (by omega) odd) ⟨vk, br_t (by rw [ek]; exact z) (tk_yHas hB ?_)⟩⟩)), fun _ => G0 (by omega)⟩
            · rcases tk_B01 hB with q | q
              · exact br_t q (q ▸ h)
              · exact br_f (by rw [q]; exact tk_01) (q ▸ h)
            · rcases tk_B01 hB with q | q
              · exact br_t q (q ▸ h)
              · exact br_f (by rw [q]; exact tk_01) (q ▸ h)
          · exact ⟨0, Or.inl rfl, fun post h => fx post (tk_xRd1 he odd (br_f tk_01 (tk_xPo he ⟨vk, br_f (by rw [ek]; exact z) h⟩))), fun post h => YP post 16 (by rw [o16]; rfl) (br_f (by decide) (br_t rfl ⟨tk_20, br_t (tk_e21 e (by omega) odd) ⟨vk, br_f (by rw [ek]; exact z) h⟩⟩)), fun _ => G0 (by omega)⟩
        · exact ⟨0, Or.inl rfl, fun post h => fx post (tk_xRd0 he (by omega) (br_t rfl h)), fun post h => YP post 16 (by rw [o16]; rfl) (br_f (by decide) (br_t rfl ⟨tk_20, br_f (by rw [tk_e20 e (by omega) (by omega)]; exact tk_10) h⟩)), fun _ => G0 (by omega)⟩
      · by_cases o17 : w % 32 = 17
        · have fx : ∀ post : Int32 → Prop, wpX_isWritingEnd (fun r_44 => (((r_44 = 0 → (post 0)) ∧ (¬ r_44 = 0 → (wpX_pipeOf (fun r_63 => (vp_in r_63 3 ∧ ((((pl r_63.toNatClampNeg) = 4 → (wpX_isHeld (fun r_83 => (((r_83 = 0 → (post 0)) ∧ (¬ r_83 = 0 → (post 1))))) (ql, pc, xc, lv, cw, cn, st, sx, rs, pa, rg, me, ds, pw, pl, qu, ou) (nI e - 1))) ∧ (¬ (pl r_63.toNatClampNeg) = 4 → (post 0)))))) (ql, pc, xc, lv, cw, cn, st, sx, rs, pa, rg, me, ds, pw, pl, qu, ou) (nI e)))))) (ql, pc, xc, lv, cw, cn, st, sx, rs, pa, rg, me, ds, pw, pl, qu, ou) (nI e) → wpX_mustWait post (ql, pc, xc, lv, cw, cn, st, sx, rs, pa, rg, me, ds, pw, pl, qu, ou) (nI p) := by
            intro post h
            unfold wpX_mustWait
            refine tk_xOp1 hp hi hs hw hc ?_
            rw [o17]
            exact br_f (by decide) (br_f (by decide) (br_t (by decide) (tk_x49 hp hi hs hw hc hX (br_f (by decide) h))))
          by_cases e0 : e = 0
          · exact ⟨0, Or.inl rfl, fun post h => fx post (tk_xWr0 he (Or.inl e0) (br_t rfl h)), fun post h => YP post 17 (by rw [o17]; rfl) (br_f (by decide) (br_f (by decide) (br_t rfl (br_t (by rw [e0]; decide) h)))), fun _ => G1 (fun k => k.1 e0)⟩
          · by_cases odd : e % 2 = 1
            · exact ⟨0, Or.inl rfl, fun post h => fx post (tk_xWr0 he (Or.inr odd) (br_t rfl h)), fun post h => YP post 17 (by rw [o17]; rfl) (br_f (by decide) (br_f (by decide) (br_t rfl (br_f (nI_nle (by omega) (by omega)) ⟨tk_20, br_f (by rw [tk_e21 e (by omega) odd]; exact tk_01) h⟩)))), fun _ => G1 (fun k => by omega)⟩
            · by_cases z : pl ((e - 1) / 2) = 4
              · obtain ⟨rB, hB⟩ := tk_Bex (fun j => ds j = nI e - 1) 0 24
                refine ⟨rB, tk_B01 hB, fun post h => fx post (tk_xWr1 he e0 (by omega) (br_f tk_01 (tk_xPo he ⟨vk, br_t (by rw [ek]; exact z) (tk_xHeld hB ?_)⟩))), fun post h => YP post 17 (by rw [o17]; rfl) (br_f (by decide) (br_f (by decide) (br_t rfl (br_f (nI_nle (by omega) (by omega)) ⟨tk_20, br_t (tk_e20 e (by omega) (by omega)) ⟨vk, br_t (by rw [ek]; exact z) (tk_yHas hB ?_)⟩⟩)))), fun q => G1 (fun k => ?_)⟩
                · rcases tk_B01 hB with q | q
                  · exact br_t q (q ▸ h)
                  · exact br_f (by rw [q]; exact tk_01) (q ▸ h)
                · rcases tk_B01 hB with q | q
                  · exact br_t q (q ▸ h)
                  · exact br_f (by rw [q]; exact tk_01) (q ▸ h)
                · rcases hB with ⟨e1, _⟩ | ⟨_, n1⟩
                  · rw [q] at e1; exact tk_10 e1
                  · obtain ⟨_, _, ⟨j, x, y, u⟩, _⟩ := k
                    exact n1 j x y u
              · exact ⟨0, Or.inl rfl, fun post h => fx post (tk_xWr1 he e0 (by omega) (br_f tk_01 (tk_xPo he ⟨vk, br_f (by rw [ek]; exact z) h⟩))), fun post h => YP post 17 (by rw [o17]; rfl) (br_f (by decide) (br_f (by decide) (br_t rfl (br_f (nI_nle (by omega) (by omega)) ⟨tk_20, br_t (tk_e20 e (by omega) (by omega)) ⟨vk, br_f (by rw [ek]; exact z) h⟩⟩)))), fun _ => G1 (fun k => z k.2.2.2)⟩
        · refine ⟨0, Or.inl rfl, fun post h => by unfold wpX_mustWait; exact tk_xOp1 hp hi hs hw hc (br_f (tk_ne (b := 14) (by omega) (by decide) o14) (br_f (tk_ne (b := 16) (by omega) (by decide) o16) (br_f (tk_ne (b := 17) (by omega) (by decide) o17) h))), fun post h => YP post _ rfl (br_f (tk_ne (b := 14) (by omega) (by decide) o14) (br_f (tk_ne (b := 16) (by omega) (by decide) o16) (br_f (tk_ne (b := 17) (by omega) (by decide) o17) h))), fun _ => G0 o17⟩
end
