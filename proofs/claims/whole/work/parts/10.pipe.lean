section
variable {ql pc lv : Int32} {xc : Int64} {cw cn st sx sy rs pa rg me ds pw pl qu ou : Nat → Int32}
theorem tk_xNo' {post : Int32 → Prop} {r x : Int32} {p : Nat} (f : Nat) (e : x = nI f) (hf : f ≤ 4) (hp6 : p < 6) (h : tk_F (fun j => ds (4 * p + j) = 0) f 4 r) (hp : post r) : wpX_nextNothing post (ql, pc, xc, lv, cw, cn, st, sx, rs, pa, rg, me, ds, pw, pl, qu, ou) (nI p) x := by
  rw [e]; exact tk_xNo f hf hp6 h hp
theorem tk_yNo' {post : Int32 → Prop} {r x : Int32} {p : Nat} (f : Nat) (e : x = nI f) (hf : f ≤ 4) (hp6 : p < 6) (h : tk_F (fun j => ds (4 * p + j) = 0) f 4 r) (hp : post r) : wpY_nothing post (ql, xc, pc, cw, cn, st, pa, sy, rg, ds, me, pw, pl, qu, ou) (nI p) x := by
  rw [e]; exact tk_yNo f hf hp6 h hp
/-- what the two free places and the free pipe are, where PIPE does not answer -1 -/
def tk_PO (ds : Nat → Int32) (p d1 d2 k : Nat) : Prop := d1 < 4 ∧ d2 < 4 ∧ k < 3 ∧ tk_F (fun j => ds (4 * p + j) = 0) 0 4 (nI d1) ∧ tk_F (fun j => ds (4 * p + j) = 0) (d1 + 1) 4 (nI d2) ∧ tk_F (tk_N ds) 0 3 (nI k)
theorem tk_xOp {post : SX → Prop} {p A B d1 d2 k : Nat} (hp : p < 6) (hA : A < 24) (hB : B < 24) (H : tk_PO ds p d1 d2 k) (h : post (ql, pc, xc, lv, cw, cn, st, sx, rs, pa, upd (upd rg A (nI d1)) B (nI d2), me, upd (upd ds (4 * p + d1) (1 + 2 * nI k)) (4 * p + d2) (2 + 2 * nI k), pw, upd pl k 0, qu, ou)) : wpX_openPipe post (ql, pc, xc, lv, cw, cn, st, sx, rs, pa, rg, me, ds, pw, pl, qu, ou) (nI p) (nI A) (nI B) := by
  obtain ⟨h1, h2, h3, F1, F2, F3⟩ := H
  have eA : (nI A).toNatClampNeg = A := nI_clamp (by omega)
  have eB : (nI B).toNatClampNeg = B := nI_clamp (by omega)
  have ek : (nI k).toNatClampNeg = k := nI_clamp (by omega)
  have e1 : (nI p * 4 + nI d1).toNatClampNeg = 4 * p + d1 := by rw [tk_i4, nI_clamp (by omega)]
  have e2 : (nI p * 4 + nI d2).toNatClampNeg = 4 * p + d2 := by rw [tk_i4, nI_clamp (by omega)]
  unfold wpX_openPipe
  refine tk_xNo' 0 rfl (by omega) hp F1 ?_
  refine tk_xNo' (d1 + 1) (nI_1 d1) (by omega) hp F2 ?_
  refine tk_xPn F3 ?_
  exact br_f (tk_nm1 (by omega)) (br_f (tk_nm1 (by omega)) (br_f (tk_nm1 (by omega)) ⟨by rw [tk_i4]; exact vp_in_nI (by omega) (by decide), nm_r (e' := upd ds (4 * p + d1) (1 + 2 * nI k)) (by rw [e1]) ⟨by rw [tk_i4]; exact vp_in_nI (by omega) (by decide), nm_r (e' := upd (upd ds (4 * p + d1) (1 + 2 * nI k)) (4 * p + d2) (2 + 2 * nI k)) (by rw [e2]) ⟨vp_in_nI h3 (by decide), nm_r (e' := upd pl k 0) (by rw [ek]) ⟨vp_in_nI hA (by decide), nm_r (e' := upd rg A (nI d1)) (by rw [eA]) ⟨vp_in_nI hB (by decide), nm_r (e' := upd (upd rg A (nI d1)) B (nI d2)) (by rw [eB]) h⟩⟩⟩⟩⟩))
/-- PIPE answers -1 -/
def tk_PN (ds : Nat → Int32) (p : Nat) : Prop := tk_F (fun j => ds (4 * p + j) = 0) 0 4 (-1) ∨ (∃ d1, d1 < 4 ∧ tk_F (fun j => ds (4 * p + j) = 0) 0 4 (nI d1) ∧ tk_F (fun j => ds (4 * p + j) = 0) (d1 + 1) 4 (-1)) ∨ (∃ d1 d2, d1 < 4 ∧ d2 < 4 ∧ tk_F (fun j => ds (4 * p + j) = 0) 0 4 (nI d1) ∧ tk_F (fun j => ds (4 * p + j) = 0) (d1 + 1) 4 (nI d2) ∧ tk_F (tk_N ds) 0 3 (-1))
theorem tk_xOpN {post : SX → Prop} {p A B : Nat} (hp : p < 6) (hA : A < 24) (H : tk_PN ds p) (h : post (ql, pc, xc, lv, cw, cn, st, sx, rs, pa, upd rg A (-1), me, ds, pw, pl, qu, ou)) : wpX_openPipe post (ql, pc, xc, lv, cw, cn, st, sx, rs, pa, rg, me, ds, pw, pl, qu, ou) (nI p) (nI A) (nI B) := by
  have eA : (nI A).toNatClampNeg = A := nI_clamp (by omega)
  have vA : vp_in (nI A) 24 := vp_in_nI hA (by decide)
  have F : vp_in (nI A) 24 ∧ ∀ y : Nat → Int32, y = upd rg (nI A).toNatClampNeg (-1) → post (ql, pc, xc, lv, cw, cn, st, sx, rs, pa, y, me, ds, pw, pl, qu, ou) := ⟨vA, nm_r (e' := upd rg A (-1)) (by rw [eA]) h⟩
  obtain ⟨r3, F3⟩ := tk_Fex (tk_N ds) 3 3 0 rfl
  unfold wpX_openPipe
  rcases H with F1 | ⟨d1, h1, F1, F2⟩ | ⟨d1, d2, h1, h2, F1, F2, F4⟩
  · refine tk_xNo' 0 rfl (by omega) hp F1 ?_
    refine tk_xNo' 0 (by decide) (by omega) hp F1 ?_
    exact tk_xPn F3 (br_t rfl F)
  · refine tk_xNo' 0 rfl (by omega) hp F1 ?_
    refine tk_xNo' (d1 + 1) (nI_1 d1) (by omega) hp F2 ?_
    exact tk_xPn F3 (br_f (tk_nm1 (by omega)) (br_t rfl F))
  · refine tk_xNo' 0 rfl (by omega) hp F1 ?_
    refine tk_xNo' (d1 + 1) (nI_1 d1) (by omega) hp F2 ?_
    exact tk_xPn F4 (br_f (tk_nm1 (by omega)) (br_f (tk_nm1 (by omega)) (br_t rfl F)))
theorem tk_yMp {post : SY → Prop} {p a b d1 d2 k : Nat} (hp : p < 6) (ha : a < 4) (hb : b < 4) (H : tk_PO ds p d1 d2 k) (h : post (ql, xc, pc, cw, cn, st, pa, sy, upd (upd rg (4 * p + a) (nI d1)) (4 * p + b) (nI d2), upd (upd ds (4 * p + d1) (1 + 2 * nI k)) (4 * p + d2) (2 + 2 * nI k), me, pw, upd pl k 0, qu, ou)) : wpY_makePipe post (ql, xc, pc, cw, cn, st, pa, sy, rg, ds, me, pw, pl, qu, ou) (nI p) (nI a) (nI b) := by
  obtain ⟨h1, h2, h3, F1, F2, F3⟩ := H
  have eA : (4 * nI p + nI a).toNatClampNeg = 4 * p + a := by rw [tk_i4', nI_clamp (by omega)]
  have eB : (4 * nI p + nI b).toNatClampNeg = 4 * p + b := by rw [tk_i4', nI_clamp (by omega)]
  have ek : (nI k).toNatClampNeg = k := nI_clamp (by omega)
  have e1 : (4 * nI p + nI d1).toNatClampNeg = 4 * p + d1 := by rw [tk_i4', nI_clamp (by omega)]
  have e2 : (4 * nI p + nI d2).toNatClampNeg = 4 * p + d2 := by rw [tk_i4', nI_clamp (by omega)]
  have V : ∀ c, c < 4 → vp_in (4 * nI p + nI c) 24 := fun c hc => by rw [tk_i4']; exact vp_in_nI (by omega) (by decide)
  unfold wpY_makePipe
  refine tk_yNo' 0 rfl (by omega) hp F1 (br_t (nI_pos' (by omega)) ?_)
  refine tk_yNo' (d1 + 1) (nI_1 d1) (by omega) hp F2 ⟨4, tk_yPnL (fun r hr => ?_) 3 (-1) (Nat.le_refl _) (tk_Fe (Nat.le_refl _))⟩
  have q := tk_Fu 3 0 rfl hr F3
  rw [q]
  exact br_t (by decide) (br_f (nI_pos (by omega)) (br_t (nI_pos' (by omega)) ⟨vp_in_nI h3 (by decide), nm_r (e' := upd pl k 0) (by rw [ek]) ⟨V _ h1, nm_r (e' := upd ds (4 * p + d1) (1 + 2 * nI k)) (by rw [e1]) ⟨V _ h2, nm_r (e' := upd (upd ds (4 * p + d1) (1 + 2 * nI k)) (4 * p + d2) (2 + 2 * nI k)) (by rw [e2]) ⟨V _ ha, nm_r (e' := upd rg (4 * p + a) (nI d1)) (by rw [eA]) ⟨V _ hb, nm_r (e' := upd (upd rg (4 * p + a) (nI d1)) (4 * p + b) (nI d2)) (by rw [eB]) h⟩⟩⟩⟩⟩))
theorem tk_yMpN {post : SY → Prop} {p a b : Nat} (hp : p < 6) (ha : a < 4) (H : tk_PN ds p) (h : post (ql, xc, pc, cw, cn, st, pa, sy, upd rg (4 * p + a) (-1), ds, me, pw, pl, qu, ou)) : wpY_makePipe post (ql, xc, pc, cw, cn, st, pa, sy, rg, ds, me, pw, pl, qu, ou) (nI p) (nI a) (nI b) := by
  have eA : (4 * nI p + nI a).toNatClampNeg = 4 * p + a := by rw [tk_i4', nI_clamp (by omega)]
  have vA : vp_in (4 * nI p + nI a) 24 := by rw [tk_i4']; exact vp_in_nI (by omega) (by decide)
  have F : wY_makePipe_68 post (nI p) (nI a) ql xc pc cw cn st pa sy rg ds me pw pl qu ou := ⟨vA, nm_r (e' := upd rg (4 * p + a) (-1)) (by rw [eA]) h⟩
  unfold wpY_makePipe
  rcases H with F1 | ⟨d1, h1, F1, F2⟩ | ⟨d1, d2, h1, h2, F1, F2, F4⟩
  · refine tk_yNo' 0 rfl (by omega) hp F1 (br_f (by decide) ⟨4, tk_yPnL (fun r hr => ?_) 3 (-1) (Nat.le_refl _) (tk_Fe (Nat.le_refl _))⟩)
    exact br_t (by decide) (br_t (by decide) F)
  · refine tk_yNo' 0 rfl (by omega) hp F1 (br_t (nI_pos' (by omega)) ?_)
    refine tk_yNo' (d1 + 1) (nI_1 d1) (by omega) hp F2 ⟨4, tk_yPnL (fun r hr => ?_) 3 (-1) (Nat.le_refl _) (tk_Fe (Nat.le_refl _))⟩
    exact br_t (by decide) (br_t (by decide) F)
  · refine tk_yNo' 0 rfl (by omega) hp F1 (br_t (nI_pos' (by omega)) ?_)
    refine tk_yNo' (d1 + 1) (nI_1 d1) (by omega) hp F2 ⟨4, tk_yPnL (fun r hr => ?_) 3 (-1) (Nat.le_refl _) (tk_Fe (Nat.le_refl _))⟩
    have q := tk_Fu 3 0 rfl hr F4
    rw [q]
    exact br_t (by decide) (br_f (nI_pos (by omega)) (br_f (by decide) F))
theorem tk_POex (ds : Nat → Int32) (p : Nat) : (∃ d1 d2 k, tk_PO ds p d1 d2 k) ∨ tk_PN ds p := by
  obtain ⟨r1, F1⟩ := tk_Fex (fun j => ds (4 * p + j) = 0) 4 4 0 rfl
  rcases tk_Fc F1 with ⟨e1, _⟩ | ⟨d1, _, h1, e1, _⟩
  · rw [e1] at F1; exact Or.inr (Or.inl F1)
  · rw [e1] at F1
    obtain ⟨r2, F2⟩ := tk_Fex (fun j => ds (4 * p + j) = 0) 4 (4 - (d1 + 1)) (d1 + 1) (by omega)
    rcases tk_Fc F2 with ⟨e2, _⟩ | ⟨d2, _, h2, e2, _⟩
    · rw [e2] at F2; exact Or.inr (Or.inr (Or.inl ⟨d1, h1, F1, F2⟩))
    · rw [e2] at F2
      obtain ⟨r3, F3⟩ := tk_Fex (tk_N ds) 3 3 0 rfl
      rcases tk_Fc F3 with ⟨e3, _⟩ | ⟨k, _, h3, e3, _⟩
      · rw [e3] at F3; exact Or.inr (Or.inr (Or.inr ⟨d1, d2, h1, h2, F1, F2, F3⟩))
      · rw [e3] at F3; exact Or.inl ⟨d1, d2, k, h1, h2, h3, F1, F2, F3⟩
theorem tk_xRd79 {post : SX → Prop} {k : Nat} (hk : k < 3) (h : post (ql, pc, xc, lv, cw, cn, st, sx, rs, pa, rg, me, ds, tk_sh pw (4 * k) 3, upd pl k (pl k - 1), qu, ou)) : ∀ d j, j + d = 3 → wX_read_79 post (nI k) (nI (4 * k)) ql pc xc lv (d + 1) (nI (j + 1)) cw cn st sx rs pa rg me ds (tk_sh pw (4 * k) j) pl qu ou := by
  have ek : (nI k).toNatClampNeg = k := nI_clamp (by omega)
  have v3 : vp_in (nI k) 3 := vp_in_nI hk (by decide)
  intro d
  induction d with
  | zero =>
    intro j hj
    have e : j = 3 := by omega
    rw [e]
    exact br_t (nI_le (a := 4) (by omega) (by decide)) ⟨v3, v3, nm_r (e' := upd pl k (pl k - 1)) (by rw [ek]) h⟩
  | succ d ih =>
    intro j hj
    have e1 : nI (4 * k) + nI (j + 1) = nI (4 * k + j + 1) := nI_add _ _
    have e2 : nI (4 * k) + nI (j + 1) - 1 = nI (4 * k + j) := by rw [e1, nI_pred]
    have c1 : (nI (4 * k) + nI (j + 1)).toNatClampNeg = 4 * k + j + 1 := by rw [e1, nI_clamp (by omega)]
    have c2 : (nI (4 * k) + nI (j + 1) - 1).toNatClampNeg = 4 * k + j := by rw [e2, nI_clamp (by omega)]
    exact br_f (nI_ge (b := 4) (by omega) (by decide)) ⟨by rw [e1]; exact vp_in_nI (by omega) (by decide), by rw [e2]; exact vp_in_nI (by omega) (by decide), nm_r (e' := tk_sh pw (4 * k) (j + 1)) (by rw [c1, c2]; exact tk_shs _ _ _) (nm_r (nI_1 _) (ih (j + 1) (by omega)))⟩
theorem tk_xRe0 {post : SX → Prop} {p A B e : Nat} (hA : A < 24) (hB : B < 24) (he : e ≤ 6) (hE : ∀ post : Int32 → Prop, post (nI e) → wpX_pipeEnd post (ql, pc, xc, lv, cw, cn, st, sx, rs, pa, rg, me, ds, pw, pl, qu, ou) (nI p) (rg B)) (hv : e % 2 = 0) (h : post (ql, pc, xc, lv, cw, cn, st, sx, rs, pa, upd rg A (-1), me, ds, pw, pl, qu, ou)) : wpX_read post (ql, pc, xc, lv, cw, cn, st, sx, rs, pa, rg, me, ds, pw, pl, qu, ou) (nI p) (nI A) (nI B) := by
  have eA : (nI A).toNatClampNeg = A := nI_clamp (by omega)
  have eB : (nI B).toNatClampNeg = B := nI_clamp (by omega)
  refine ⟨vp_in_nI hB (by decide), ?_⟩
  rw [eB]
  exact hE _ (tk_xRd0 he hv (br_t rfl ⟨vp_in_nI hA (by decide), nm_r (e' := upd rg A (-1)) (by rw [eA]) h⟩))
theorem tk_xRe1 {post : SX → Prop} {p A B e : Nat} (hA : A < 24) (hB : B < 24) (he : e ≤ 6) (hE : ∀ post : Int32 → Prop, post (nI e) → wpX_pipeEnd post (ql, pc, xc, lv, cw, cn, st, sx, rs, pa, rg, me, ds, pw, pl, qu, ou) (nI p) (rg B)) (hv : e % 2 = 1) (hz : pl ((e - 1) / 2) = 0) (h : post (ql, pc, xc, lv, cw, cn, st, sx, rs, pa, upd rg A (-2), me, ds, pw, pl, qu, ou)) : wpX_read post (ql, pc, xc, lv, cw, cn, st, sx, rs, pa, rg, me, ds, pw, pl, qu, ou) (nI p) (nI A) (nI B) := by
  have eA : (nI A).toNatClampNeg = A := nI_clamp (by omega)
  have eB : (nI B).toNatClampNeg = B := nI_clamp (by omega)
  have ek : (nI ((e - 1) / 2)).toNatClampNeg = (e - 1) / 2 := nI_clamp (by omega)
  refine ⟨vp_in_nI hB (by decide), ?_⟩
  rw [eB]
  exact hE _ (tk_xRd1 he hv (br_f tk_01 (tk_xPo he ⟨vp_in_nI (by omega) (by decide), br_t (by rw [ek]; exact hz) ⟨vp_in_nI hA (by decide), nm_r (e' := upd rg A (-2)) (by rw [eA]) h⟩⟩)))
theorem tk_xRe2 {post : SX → Prop} {p A B e : Nat} (hA : A < 24) (hB : B < 24) (he : e ≤ 6) (hE : ∀ post : Int32 → Prop, post (nI e) → wpX_pipeEnd post (ql, pc, xc, lv, cw, cn, st, sx, rs, pa, rg, me, ds, pw, pl, qu, ou) (nI p) (rg B)) (hv : e % 2 = 1) (hz : ¬ pl ((e - 1) / 2) = 0) (h : post (ql, pc, xc, lv, cw, cn, st, sx, rs, pa, upd rg A (pw (4 * ((e - 1) / 2))), me, ds, tk_sh pw (4 * ((e - 1) / 2)) 3, upd pl ((e - 1) / 2) (pl ((e - 1) / 2) - 1), qu, ou)) : wpX_read post (ql, pc, xc, lv, cw, cn, st, sx, rs, pa, rg, me, ds, pw, pl, qu, ou) (nI p) (nI A) (nI B) := by
  have eA : (nI A).toNatClampNeg = A := nI_clamp (by omega)
  have eB : (nI B).toNatClampNeg = B := nI_clamp (by omega)
  have ek : (nI ((e - 1) / 2)).toNatClampNeg = (e - 1) / 2 := nI_clamp (by omega)
  have e4 : (nI (4 * ((e - 1) / 2))).toNatClampNeg = 4 * ((e - 1) / 2) := nI_clamp (by omega)
  refine ⟨vp_in_nI hB (by decide), ?_⟩
  rw [eB]
  refine hE _ (tk_xRd1 he hv (br_f tk_01 (tk_xPo he ⟨vp_in_nI (by omega) (by decide), br_f (by rw [ek]; exact hz) (nm_r (tk_i40 _) ⟨vp_in_nI (by omega) (by decide), vp_in_nI hA (by decide), nm_r (e' := upd rg A (pw (4 * ((e - 1) / 2)))) (by rw [eA, e4]) ⟨4, ?_⟩⟩)⟩)))
  have k := tk_xRd79 (pw := pw) (by omega) h 3 0 rfl
  rw [tk_sh0] at k
  exact k
theorem tk_yRd40 {post : Int32 → SY → Prop} {k : Nat} {x : Int32} (hk : k < 3) (h : post x (ql, xc, pc, cw, cn, st, pa, sy, rg, ds, me, tk_sh pw (4 * k) 3, upd pl k (pl k - 1), qu, ou)) : ∀ d j, j + d = 3 → wY_read_40 post (nI k) x ql xc pc (d + 1) (nI (4 * k + j)) cw cn st pa sy rg ds me (tk_sh pw (4 * k) j) pl qu ou := by
  have ek : (nI k).toNatClampNeg = k := nI_clamp (by omega)
  have v3 : vp_in (nI k) 3 := vp_in_nI hk (by decide)
  have k4 : 4 * nI k + 3 = nI (4 * k + 3) := tk_i4' k 3
  intro d
  induction d with
  | zero =>
    intro j hj
    have e : j = 3 := by omega
    rw [e]
    exact br_t (by rw [k4]; exact nI_le (by omega) (by omega)) ⟨v3, v3, nm_r (e' := upd pl k (pl k - 1)) (by rw [ek]) h⟩
  | succ d ih =>
    intro j hj
    have c1 : (nI (4 * k + j) + 1).toNatClampNeg = 4 * k + j + 1 := by rw [nI_1, nI_clamp (by omega)]
    have c2 : (nI (4 * k + j)).toNatClampNeg = 4 * k + j := nI_clamp (by omega)
    exact br_f (by rw [k4]; exact nI_ge (by omega) (by omega)) ⟨by rw [nI_1]; exact vp_in_nI (by omega) (by decide), vp_in_nI (by omega) (by decide), nm_r (e' := tk_sh pw (4 * k) (j + 1)) (by rw [c1, c2]; exact tk_shs _ _ _) (nm_r (nI_1 _) (ih (j + 1) (by omega)))⟩
theorem tk_yRe0 {post : Int32 → SY → Prop} {e : Nat} (he : e ≤ 6) (hv : e % 2 = 0) (h : post (-1) (ql, xc, pc, cw, cn, st, pa, sy, rg, ds, me, pw, pl, qu, ou)) : wpY_read post (ql, xc, pc, cw, cn, st, pa, sy, rg, ds, me, pw, pl, qu, ou) (nI e) := ⟨tk_20, br_t (tk_e20 e (by omega) hv) h⟩
theorem tk_yRe1 {post : Int32 → SY → Prop} {e : Nat} (he : e ≤ 6) (hv : e % 2 = 1) (hz : pl ((e - 1) / 2) = 0) (h : post (-2) (ql, xc, pc, cw, cn, st, pa, sy, rg, ds, me, pw, pl, qu, ou)) : wpY_read post (ql, xc, pc, cw, cn, st, pa, sy, rg, ds, me, pw, pl, qu, ou) (nI e) := by
  have ek : (nI ((e - 1) / 2)).toNatClampNeg = (e - 1) / 2 := nI_clamp (by omega)
  exact ⟨tk_20, br_f (by rw [tk_e21 e (by omega) hv]; exact tk_01) ⟨tk_20, nm_r (tk_e1 e (by omega)) ⟨vp_in_nI (by omega) (by decide), br_t (by rw [ek]; exact hz) h⟩⟩⟩
theorem tk_yRe2 {post : Int32 → SY → Prop} {e : Nat} (he : e ≤ 6) (hv : e % 2 = 1) (hz : ¬ pl ((e - 1) / 2) = 0) (h : post (pw (4 * ((e - 1) / 2))) (ql, xc, pc, cw, cn, st, pa, sy, rg, ds, me, tk_sh pw (4 * ((e - 1) / 2)) 3, upd pl ((e - 1) / 2) (pl ((e - 1) / 2) - 1), qu, ou)) : wpY_read post (ql, xc, pc, cw, cn, st, pa, sy, rg, ds, me, pw, pl, qu, ou) (nI e) := by
  have ek : (nI ((e - 1) / 2)).toNatClampNeg = (e - 1) / 2 := nI_clamp (by omega)
  have e4 : (4 * nI ((e - 1) / 2)).toNatClampNeg = 4 * ((e - 1) / 2) := by rw [tk_i40', nI_clamp (by omega)]
  refine ⟨tk_20, br_f (by rw [tk_e21 e (by omega) hv]; exact tk_01) ⟨tk_20, nm_r (tk_e1 e (by omega)) ⟨vp_in_nI (by omega) (by decide), br_f (by rw [ek]; exact hz) ⟨by rw [tk_i40']; exact vp_in_nI (by omega) (by decide), nm_r (e' := pw (4 * ((e - 1) / 2))) (by rw [e4]) (nm_r (tk_i40' _) ⟨4, ?_⟩)⟩⟩⟩⟩
  have k := tk_yRd40 (pw := pw) (by omega) h 3 0 rfl
  rw [tk_sh0] at k
  exact k
theorem tk_xWt0 {post : SX → Prop} {p A B e : Nat} (hA : A < 24) (hB : B < 24) (he : e ≤ 6) (hE : ∀ post : Int32 → Prop, post (nI e) → wpX_pipeEnd post (ql, pc, xc, lv, cw, cn, st, sx, rs, pa, rg, me, ds, pw, pl, qu, ou) (nI p) (rg B)) (hv : e = 0 ∨ e % 2 = 1) (h : post (ql, pc, xc, lv, cw, cn, st, sx, rs, pa, upd rg A (-1), me, ds, pw, pl, qu, ou)) : wpX_write post (ql, pc, xc, lv, cw, cn, st, sx, rs, pa, rg, me, ds, pw, pl, qu, ou) (nI p) (nI A) (nI B) := by
  have eA : (nI A).toNatClampNeg = A := nI_clamp (by omega)
  have eB : (nI B).toNatClampNeg = B := nI_clamp (by omega)
  refine ⟨vp_in_nI hB (by decide), ?_⟩
  rw [eB]
  exact hE _ (tk_xWr0 he hv (br_t rfl ⟨vp_in_nI hA (by decide), nm_r (e' := upd rg A (-1)) (by rw [eA]) h⟩))
theorem tk_xWt1 {post : SX → Prop} {p A B e n : Nat} (hB : B < 24) (he : e ≤ 6) (hE : ∀ post : Int32 → Prop, post (nI e) → wpX_pipeEnd post (nI n, pc, xc, lv, cw, cn, st, sx, rs, pa, rg, me, ds, pw, pl, qu, ou) (nI p) (rg B)) (h0 : e ≠ 0) (hv : e % 2 = 0) (hb : tk_B (fun j => ds j = nI e - 1) 0 24 0) (hp : p < 6) (hq : n ≤ 6) (hn : pa p ≠ nI p) (h : post (nI (tk_lv qu (nI p) n).2, pc, xc, lv, cw, cn, tk_fs st pa p, sx, upd rs p (-2), tk_cp st pa p 6, rg, me, tk_z ds (4 * p) 4, pw, pl, (tk_lv qu (nI p) n).1, ou)) : wpX_write post (nI n, pc, xc, lv, cw, cn, st, sx, rs, pa, rg, me, ds, pw, pl, qu, ou) (nI p) (nI A) (nI B) := by
  have eB : (nI B).toNatClampNeg = B := nI_clamp (by omega)
  refine ⟨vp_in_nI hB (by decide), ?_⟩
  rw [eB]
  exact hE _ (tk_xWr1 he h0 hv (br_f tk_01 (tk_xHeld hb (br_t rfl (tk_xFin hp hq hn h)))))
theorem tk_xWt2 {post : SX → Prop} {p A B e l : Nat} (hA : A < 24) (hB : B < 24) (he : e ≤ 6) (hE : ∀ post : Int32 → Prop, post (nI e) → wpX_pipeEnd post (ql, pc, xc, lv, cw, cn, st, sx, rs, pa, rg, me, ds, pw, pl, qu, ou) (nI p) (rg B)) (h0 : e ≠ 0) (hv : e % 2 = 0) (hb : tk_B (fun j => ds j = nI e - 1) 0 24 1) (hl : l < 4) (el : pl ((e - 1) / 2) = nI l) (h : post (ql, pc, xc, lv, cw, cn, st, sx, rs, pa, rg, me, ds, upd pw (4 * ((e - 1) / 2) + l) (rg A), upd pl ((e - 1) / 2) (nI (l + 1)), qu, ou)) : wpX_write post (ql, pc, xc, lv, cw, cn, st, sx, rs, pa, rg, me, ds, pw, pl, qu, ou) (nI p) (nI A) (nI B) := by
  have eA : (nI A).toNatClampNeg = A := nI_clamp (by omega)
  have eB : (nI B).toNatClampNeg = B := nI_clamp (by omega)
  have ek : (nI ((e - 1) / 2)).toNatClampNeg = (e - 1) / 2 := nI_clamp (by omega)
  have e4 : (nI ((e - 1) / 2) * 4 + nI l).toNatClampNeg = 4 * ((e - 1) / 2) + l := by rw [tk_i4, nI_clamp (by omega)]
  have v3 : vp_in (nI ((e - 1) / 2)) 3 := vp_in_nI (by omega) (by decide)
  refine ⟨vp_in_nI hB (by decide), ?_⟩
  rw [eB]
  refine hE _ (tk_xWr1 he h0 hv (br_f tk_01 (tk_xHeld hb (br_f tk_01 (tk_xPo he ⟨v3, ?_⟩)))))
  rw [ek, el]
  exact br_f (nI_ge (b := 4) hl (by decide)) ⟨v3, vp_in_nI hA (by decide), by rw [tk_i4]; exact vp_in_nI (by omega) (by decide), nm_r (e' := upd pw (4 * ((e - 1) / 2) + l) (rg A)) (by rw [e4, eA]) ⟨v3, v3, nm_r (e' := upd pl ((e - 1) / 2) (nI (l + 1))) (by rw [nI_1]) h⟩⟩
theorem tk_yWt0 {post : Int32 → SY → Prop} {p a e : Nat} (hp : p < 6) (ha : a < 4) (he : e ≤ 6) (hv : e = 0 ∨ e % 2 = 1) (h : post 1 (ql, xc, pc, cw, cn, st, pa, sy, upd rg (4 * p + a) (-1), ds, me, pw, pl, qu, ou)) : wpY_write post (ql, xc, pc, cw, cn, st, pa, sy, rg, ds, me, pw, pl, qu, ou) (nI p) (nI a) (nI e) := by
  have eA : (4 * nI p + nI a).toNatClampNeg = 4 * p + a := by rw [tk_i4', nI_clamp (by omega)]
  have vA : vp_in (4 * nI p + nI a) 24 := by rw [tk_i4']; exact vp_in_nI (by omega) (by decide)
  have F : wY_write_11 post (nI p) (nI a) ql xc pc cw cn st pa sy rg ds me pw pl qu ou := ⟨vA, nm_r (e' := upd rg (4 * p + a) (-1)) (by rw [eA]) h⟩
  rcases hv with hv | hv
  · exact br_t (by rw [hv]; exact nI_0) F
  · exact br_c (fun _ => F) (fun _ => ⟨tk_20, br_t (tk_e21 e (by omega) hv) F⟩)
theorem tk_yWt1 {post : Int32 → SY → Prop} {p a e n : Nat} (he : e ≤ 6) (h0 : e ≠ 0) (hv : e % 2 = 0) (hb : tk_B (fun j => ds j = nI e - 1) 0 24 0) (hp : p < 6) (hq : n ≤ 6) (hw : pa p = -1 ∨ ∃ j, j < 6 ∧ j ≠ p ∧ pa p = nI j) (hn : pa p ≠ nI p) (h : post 0 (nI (tk_lv qu (nI p) n).2, xc, pc, cw, cn, tk_fs st pa p, tk_cp st pa p 6, upd sy p (-2), rg, tk_z ds (4 * p) 4, me, pw, pl, (tk_lv qu (nI p) n).1, ou)) : wpY_write post (nI n, xc, pc, cw, cn, st, pa, sy, rg, ds, me, pw, pl, qu, ou) (nI p) (nI a) (nI e) :=
  br_f (nI_ne0 (by omega) (by omega)) ⟨tk_20, br_f (by rw [tk_e20 e (by omega) hv]; exact tk_10) ⟨tk_20, nm_r (tk_e1 e (by omega)) (tk_yHas hb (br_t rfl (tk_yFin hp hq hw hn h)))⟩⟩
theorem tk_yWt2 {post : Int32 → SY → Prop} {p a e l : Nat} (hp : p < 6) (ha : a < 4) (he : e ≤ 6) (h0 : e ≠ 0) (hv : e % 2 = 0) (hb : tk_B (fun j => ds j = nI e - 1) 0 24 1) (hl : l < 4) (el : pl ((e - 1) / 2) = nI l) (h : post 1 (ql, xc, pc, cw, cn, st, pa, sy, rg, ds, me, upd pw (4 * ((e - 1) / 2) + l) (rg (4 * p + a)), upd pl ((e - 1) / 2) (nI (l + 1)), qu, ou)) : wpY_write post (ql, xc, pc, cw, cn, st, pa, sy, rg, ds, me, pw, pl, qu, ou) (nI p) (nI a) (nI e) := by
  have eA : (4 * nI p + nI a).toNatClampNeg = 4 * p + a := by rw [tk_i4', nI_clamp (by omega)]
  have vA : vp_in (4 * nI p + nI a) 24 := by rw [tk_i4']; exact vp_in_nI (by omega) (by decide)
  have ek : (nI ((e - 1) / 2)).toNatClampNeg = (e - 1) / 2 := nI_clamp (by omega)
  have e4 : (4 * nI ((e - 1) / 2) + nI l).toNatClampNeg = 4 * ((e - 1) / 2) + l := by rw [tk_i4', nI_clamp (by omega)]
  have v3 : vp_in (nI ((e - 1) / 2)) 3 := vp_in_nI (by omega) (by decide)
  refine br_f (nI_ne0 (by omega) (by omega)) ⟨tk_20, br_f (by rw [tk_e20 e (by omega) hv]; exact tk_10) ⟨tk_20, nm_r (tk_e1 e (by omega)) (tk_yHas hb (br_f tk_01 ⟨v3, vA, ?_⟩))⟩⟩
  rw [ek, el]
  exact ⟨by rw [tk_i4']; exact vp_in_nI (by omega) (by decide), nm_r (e' := upd pw (4 * ((e - 1) / 2) + l) (rg (4 * p + a))) (by rw [e4, eA]) ⟨v3, v3, nm_r (e' := upd pl ((e - 1) / 2) (nI (l + 1))) (by rw [nI_1]) h⟩⟩
theorem tk_xCl0 {post : SX → Prop} {p A B : Nat} (hA : A < 24) (hB : B < 24) (hE : ∀ post : Int32 → Prop, post (nI 0) → wpX_pipeEnd post (ql, pc, xc, lv, cw, cn, st, sx, rs, pa, rg, me, ds, pw, pl, qu, ou) (nI p) (rg B)) (h : post (ql, pc, xc, lv, cw, cn, st, sx, rs, pa, upd rg A (-1), me, ds, pw, pl, qu, ou)) : wpX_close post (ql, pc, xc, lv, cw, cn, st, sx, rs, pa, rg, me, ds, pw, pl, qu, ou) (nI p) (nI A) (nI B) := by
  have eA : (nI A).toNatClampNeg = A := nI_clamp (by omega)
  have eB : (nI B).toNatClampNeg = B := nI_clamp (by omega)
  exact ⟨vp_in_nI hB (by decide), nm_r (e' := rg B) (by rw [eB]) (hE _ (br_t nI_0 ⟨vp_in_nI hA (by decide), nm_r (e' := upd rg A (-1)) (by rw [eA]) h⟩))⟩
theorem tk_xCl1 {post : SX → Prop} {p A B e d : Nat} (hp : p < 6) (hA : A < 24) (hB : B < 24) (he : e ≤ 6) (h0 : e ≠ 0) (hd : d < 4) (ed : rg B = nI d) (hE : ∀ post : Int32 → Prop, post (nI e) → wpX_pipeEnd post (ql, pc, xc, lv, cw, cn, st, sx, rs, pa, rg, me, ds, pw, pl, qu, ou) (nI p) (rg B)) (h : post (ql, pc, xc, lv, cw, cn, st, sx, rs, pa, upd rg A 0, me, upd ds (4 * p + d) 0, pw, pl, qu, ou)) : wpX_close post (ql, pc, xc, lv, cw, cn, st, sx, rs, pa, rg, me, ds, pw, pl, qu, ou) (nI p) (nI A) (nI B) := by
  have eA : (nI A).toNatClampNeg = A := nI_clamp (by omega)
  have eB : (nI B).toNatClampNeg = B := nI_clamp (by omega)
  have e4 : (nI p * 4 + nI d).toNatClampNeg = 4 * p + d := by rw [tk_i4, nI_clamp (by omega)]
  rw [ed] at hE
  exact ⟨vp_in_nI hB (by decide), nm_r (e' := nI d) (by rw [eB]; exact ed) (hE _ (br_f (nI_ne0 (by omega) (by omega)) ⟨by rw [tk_i4]; exact vp_in_nI (by omega) (by decide), nm_r (e' := upd ds (4 * p + d) 0) (by rw [e4]) ⟨vp_in_nI hA (by decide), nm_r (e' := upd rg A 0) (by rw [eA]) h⟩⟩))⟩
theorem tk_yCl0 {post : Int32 → SY → Prop} {p b : Nat} (hE : ∀ post : Int32 → Prop, post (nI 0) → wpY_endOf post (ql, xc, pc, cw, cn, st, pa, sy, rg, ds, me, pw, pl, qu, ou) (nI p) (nI b)) (h : post (-1) (ql, xc, pc, cw, cn, st, pa, sy, rg, ds, me, pw, pl, qu, ou)) : wpY_close post (ql, xc, pc, cw, cn, st, pa, sy, rg, ds, me, pw, pl, qu, ou) (nI p) (nI b) := by
  unfold wpY_close
  exact hE _ (br_t nI_0 h)
theorem tk_yCl1 {post : Int32 → SY → Prop} {p b e d : Nat} (hp : p < 6) (hb : b < 4) (he : e ≤ 6) (h0 : e ≠ 0) (hd : d < 4) (ed : rg (4 * p + b) = nI d) (hE : ∀ post : Int32 → Prop, post (nI e) → wpY_endOf post (ql, xc, pc, cw, cn, st, pa, sy, rg, ds, me, pw, pl, qu, ou) (nI p) (nI b)) (h : post 0 (ql, xc, pc, cw, cn, st, pa, sy, rg, upd ds (4 * p + d) 0, me, pw, pl, qu, ou)) : wpY_close post (ql, xc, pc, cw, cn, st, pa, sy, rg, ds, me, pw, pl, qu, ou) (nI p) (nI b) := by
  have eB : (4 * nI p + nI b).toNatClampNeg = 4 * p + b := by rw [tk_i4', nI_clamp (by omega)]
  have vB : vp_in (4 * nI p + nI b) 24 := by rw [tk_i4']; exact vp_in_nI (by omega) (by decide)
  have e4 : (4 * nI p + nI d).toNatClampNeg = 4 * p + d := by rw [tk_i4', nI_clamp (by omega)]
  unfold wpY_close
  refine hE _ (br_f (nI_ne0 (by omega) (by omega)) ⟨vB, ?_⟩)
  rw [eB, ed]
  exact ⟨by rw [tk_i4']; exact vp_in_nI (by omega) (by decide), nm_r (e' := upd ds (4 * p + d) 0) (by rw [e4]) h⟩
theorem tk_xCe0 {post : SX → Prop} {p A B e : Nat} (hp : p < 6) (hA : A < 24) (hB : B < 24) (hE : ∀ post : Int32 → Prop, post (nI e) → wpX_pipeEnd post (ql, pc, xc, lv, cw, cn, st, sx, rs, pa, rg, me, ds, pw, pl, qu, ou) (nI p) (rg B)) (hk : e = 0 ∨ tk_F (fun j => ds (4 * p + j) = 0) 0 4 (-1)) (h : post (ql, pc, xc, lv, cw, cn, st, sx, rs, pa, upd rg A (-1), me, ds, pw, pl, qu, ou)) : wpX_copyEnd post (ql, pc, xc, lv, cw, cn, st, sx, rs, pa, rg, me, ds, pw, pl, qu, ou) (nI p) (nI A) (nI B) := by
  have eA : (nI A).toNatClampNeg = A := nI_clamp (by omega)
  have eB : (nI B).toNatClampNeg = B := nI_clamp (by omega)
  have F : vp_in (nI A) 24 ∧ ∀ y : Nat → Int32, y = upd rg (nI A).toNatClampNeg (-1) → post (ql, pc, xc, lv, cw, cn, st, sx, rs, pa, y, me, ds, pw, pl, qu, ou) := ⟨vp_in_nI hA (by decide), nm_r (e' := upd rg A (-1)) (by rw [eA]) h⟩
  obtain ⟨r, hr⟩ := tk_Fex (fun j => ds (4 * p + j) = 0) 4 4 0 rfl
  refine ⟨vp_in_nI hB (by decide), ?_⟩
  rw [eB]
  refine hE _ (tk_xNo' 0 rfl (by omega) hp hr (br_c (fun _ => F) (fun z => ?_)))
  rcases hk with hk | hk
  · rw [hk] at z; exact absurd nI_0 z
  · exact br_t (tk_Fu 4 0 rfl hr hk) F
theorem tk_xCe1 {post : SX → Prop} {p A B e d : Nat} (hp : p < 6) (hA : A < 24) (hB : B < 24) (he : e ≤ 6) (h0 : e ≠ 0) (hd : d < 4) (hF : tk_F (fun j => ds (4 * p + j) = 0) 0 4 (nI d)) (hE : ∀ post : Int32 → Prop, post (nI e) → wpX_pipeEnd post (ql, pc, xc, lv, cw, cn, st, sx, rs, pa, rg, me, ds, pw, pl, qu, ou) (nI p) (rg B)) (h : post (ql, pc, xc, lv, cw, cn, st, sx, rs, pa, upd rg A (nI d), me, upd ds (4 * p + d) (nI e), pw, pl, qu, ou)) : wpX_copyEnd post (ql, pc, xc, lv, cw, cn, st, sx, rs, pa, rg, me, ds, pw, pl, qu, ou) (nI p) (nI A) (nI B) := by
  have eA : (nI A).toNatClampNeg = A := nI_clamp (by omega)
  have eB : (nI B).toNatClampNeg = B := nI_clamp (by omega)
  have e4 : (nI p * 4 + nI d).toNatClampNeg = 4 * p + d := by rw [tk_i4, nI_clamp (by omega)]
  refine ⟨vp_in_nI hB (by decide), ?_⟩
  rw [eB]
  exact hE _ (tk_xNo' 0 rfl (by omega) hp hF (br_f (nI_ne0 (by omega) (by omega)) (br_f (tk_nm1 (by omega)) ⟨by rw [tk_i4]; exact vp_in_nI (by omega) (by decide), nm_r (e' := upd ds (4 * p + d) (nI e)) (by rw [e4]) ⟨vp_in_nI hA (by decide), nm_r (e' := upd rg A (nI d)) (by rw [eA]) h⟩⟩)))
theorem tk_yCe0 {post : Int32 → SY → Prop} {p e : Nat} (hp : p < 6) (hk : e = 0 ∨ tk_F (fun j => ds (4 * p + j) = 0) 0 4 (-1)) (h : post (-1) (ql, xc, pc, cw, cn, st, pa, sy, rg, ds, me, pw, pl, qu, ou)) : wpY_copyEnd post (ql, xc, pc, cw, cn, st, pa, sy, rg, ds, me, pw, pl, qu, ou) (nI p) (nI e) := by
  obtain ⟨r, hr⟩ := tk_Fex (fun j => ds (4 * p + j) = 0) 4 4 0 rfl
  unfold wpY_copyEnd
  refine tk_yNo' 0 rfl (by omega) hp hr (br_c (fun _ => h) (fun z => ?_))
  rcases hk with hk | hk
  · rw [hk] at z; exact absurd nI_0 z
  · exact br_f (by rw [tk_Fu 4 0 rfl hr hk]; decide) h
theorem tk_yCe1 {post : Int32 → SY → Prop} {p e d : Nat} (hp : p < 6) (he : e ≤ 6) (h0 : e ≠ 0) (hd : d < 4) (hF : tk_F (fun j => ds (4 * p + j) = 0) 0 4 (nI d)) (h : post (nI d) (ql, xc, pc, cw, cn, st, pa, sy, rg, upd ds (4 * p + d) (nI e), me, pw, pl, qu, ou)) : wpY_copyEnd post (ql, xc, pc, cw, cn, st, pa, sy, rg, ds, me, pw, pl, qu, ou) (nI p) (nI e) := by
  have e4 : (4 * nI p + nI d).toNatClampNeg = 4 * p + d := by rw [tk_i4', nI_clamp (by omega)]
  unfold wpY_copyEnd
  exact tk_yNo' 0 rfl (by omega) hp hF (br_f (nI_ne0 (by omega) (by omega)) (br_t (nI_pos' (by omega)) ⟨by rw [tk_i4']; exact vp_in_nI (by omega) (by decide), nm_r (e' := upd ds (4 * p + d) (nI e)) (by rw [e4]) h⟩))
end
