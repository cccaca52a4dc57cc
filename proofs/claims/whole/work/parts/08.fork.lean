/-- x at lo, zero behind it, j cells in all -/
def tk_w (f : Nat → Int32) (x : Int32) (lo j : Nat) : Nat → Int32 := fun i => if lo ≤ i ∧ i < lo + j then (if i = lo then x else 0) else f i
theorem tk_w0 (f : Nat → Int32) (x : Int32) (lo : Nat) : tk_w f x lo 0 = f := by funext i; exact if_neg (by omega)
theorem tk_ws {f : Nat → Int32} {x y : Int32} {lo j : Nat} (hy : y = if j = 0 then x else 0) : upd (tk_w f x lo j) (lo + j) y = tk_w f x lo (j + 1) := by
  funext q
  refine tk_uc (P := fun z => z = tk_w f x lo (j + 1) q) (fun e => ?_) (fun e => ?_)
  · refine Eq.trans ?_ (if_pos (by omega)).symm
    rw [hy, e]
    by_cases c : j = 0
    · rw [if_pos c, if_pos (by omega)]
    · rw [if_neg c, if_neg (by omega)]
  · by_cases c : lo ≤ q ∧ q < lo + j
    · exact (if_pos c).trans (if_pos (by omega)).symm
    · exact (if_neg c).trans (if_neg (by omega)).symm
theorem tk_w4 {f : Nat → Int32} {x : Int32} {lo : Nat} : tk_w f x lo 4 = upd (tk_z f lo 4) lo x := by
  funext q
  refine (tk_uc (P := fun z => z = tk_w f x lo 4 q) (fun e => ?_) (fun e => ?_)).symm
  · exact ((if_pos (by omega)).trans (if_pos e)).symm
  · by_cases c : lo ≤ q ∧ q < lo + 4
    · exact (if_pos c).trans ((if_pos c).trans (if_neg e)).symm
    · exact (if_neg c).trans (if_neg c).symm
section
variable {ql pc lv : Int32} {xc : Int64} {cw cn st sx sy rs pa rg me ds pw pl qu ou : Nat → Int32}
theorem tk_xFk106 {post : SX → Prop} {p c A n : Nat} (hp : p < 6) (hc : c < 6) (hpc : p ≠ c) (hA : A < 24) (hn : n ≤ 5) (h : post (nI (n + 1), pc, xc, lv, cw, cn, upd st c 1, upd sx c (sx p), rs, upd pa c (nI p), upd rg A (nI c), me, tk_y ds (4 * c) (4 * p) 4, pw, pl, upd qu n (nI c), ou)) : ∀ d j, j + d = 4 → wX_fork_106 post (nI p) (nI A) (nI c) (nI n) pc xc lv (d + 1) (nI j) cw cn st sx rs pa rg me (tk_y ds (4 * c) (4 * p) j) pw pl qu ou := by
  have ep : (nI p).toNatClampNeg = p := nI_clamp (by omega)
  have ec : (nI c).toNatClampNeg = c := nI_clamp (by omega)
  have eA : (nI A).toNatClampNeg = A := nI_clamp (by omega)
  intro d
  induction d with
  | zero =>
    intro j hj
    have e : j = 4 := by omega
    rw [e]
    exact br_t (nI_le (a := 4) (by omega) (by decide)) ⟨vp_in_nI hA (by decide), nm_r (e' := upd rg A (nI c)) (by rw [eA]) ⟨vp_in_nI hp (by decide), vp_in_nI hc (by decide), nm_r (e' := upd sx c (sx p)) (by rw [ep, ec]) ⟨vp_in_nI hc (by decide), nm_r (e' := upd pa c (nI p)) (by rw [ec]) (tk_xJoin hc hn h)⟩⟩⟩
  | succ d ih =>
    intro j hj
    have e1 : (nI p * 4 + nI j).toNatClampNeg = 4 * p + j := by rw [tk_i4, nI_clamp (by omega)]
    have e2 : (nI c * 4 + nI j).toNatClampNeg = 4 * c + j := by rw [tk_i4, nI_clamp (by omega)]
    exact br_f (nI_ge (b := 4) (by omega) (by decide)) ⟨by rw [tk_i4]; exact vp_in_nI (by omega) (by decide), by rw [tk_i4]; exact vp_in_nI (by omega) (by decide), nm_r (e' := tk_y ds (4 * c) (4 * p) (j + 1)) (by rw [e1, e2]; exact tk_ys (L := 4) (by omega) (by omega)) (nm_r (nI_1 j) (ih (j + 1) (by omega)))⟩
theorem tk_xFk66 {post : SX → Prop} {p c : Nat} {x2 : Int32} (hp : p < 6) (hc : c < 6) (hpc : p ≠ c) (h : ∃ n106, wX_fork_106 post (nI p) x2 (nI c) ql pc xc lv n106 0 cw cn st sx rs pa rg (tk_y me (32 * c) (32 * p) 32) ds pw pl qu ou) : ∀ d j, j + d = 32 → wX_fork_66 post (nI p) x2 (nI c) ql pc xc lv (d + 1) (nI j) cw cn st sx rs pa rg (tk_y me (32 * c) (32 * p) j) ds pw pl qu ou := by
  intro d
  induction d with
  | zero =>
    intro j hj
    have e : j = 32 := by omega
    rw [e]
    exact br_t (nI_le (a := 32) (by omega) (by decide)) h
  | succ d ih =>
    intro j hj
    have e1 : (nI p * 32 + nI j).toNatClampNeg = 32 * p + j := by rw [tk_i5, nI_clamp (by omega)]
    have e2 : (nI c * 32 + nI j).toNatClampNeg = 32 * c + j := by rw [tk_i5, nI_clamp (by omega)]
    exact br_f (nI_ge (b := 32) (by omega) (by decide)) ⟨by rw [tk_i5]; exact vp_in_nI (by omega) (by decide), by rw [tk_i5]; exact vp_in_nI (by omega) (by decide), nm_r (e' := tk_y me (32 * c) (32 * p) (j + 1)) (by rw [e1, e2]; exact tk_ys (L := 32) (by omega) (by omega)) (nm_r (nI_1 j) (ih (j + 1) (by omega)))⟩
theorem tk_xFk29 {post : SX → Prop} {p c : Nat} {x2 : Int32} (hp : p < 6) (hc : c < 6) (hpc : p ≠ c) (h : ∃ n66, wX_fork_66 post (nI p) x2 (nI c) ql pc xc lv n66 0 cw cn st sx rs pa (tk_y rg (4 * c) (4 * p) 4) me ds pw pl qu ou) : ∀ d j, j + d = 4 → wX_fork_29 post (nI p) x2 (nI c) ql pc xc lv (d + 1) (nI j) cw cn st sx rs pa (tk_y rg (4 * c) (4 * p) j) me ds pw pl qu ou := by
  intro d
  induction d with
  | zero =>
    intro j hj
    have e : j = 4 := by omega
    rw [e]
    exact br_t (nI_le (a := 4) (by omega) (by decide)) h
  | succ d ih =>
    intro j hj
    have e1 : (nI p * 4 + nI j).toNatClampNeg = 4 * p + j := by rw [tk_i4, nI_clamp (by omega)]
    have e2 : (nI c * 4 + nI j).toNatClampNeg = 4 * c + j := by rw [tk_i4, nI_clamp (by omega)]
    exact br_f (nI_ge (b := 4) (by omega) (by decide)) ⟨by rw [tk_i4]; exact vp_in_nI (by omega) (by decide), by rw [tk_i4]; exact vp_in_nI (by omega) (by decide), nm_r (e' := tk_y rg (4 * c) (4 * p) (j + 1)) (by rw [e1, e2]; exact tk_ys (L := 4) (by omega) (by omega)) (nm_r (nI_1 j) (ih (j + 1) (by omega)))⟩
theorem tk_xFk1 {post : SX → Prop} {p c A n : Nat} (hF : tk_F (fun j => st j = 0) 0 6 (nI c)) (hp : p < 6) (hc : c < 6) (hpc : p ≠ c) (hA : A < 24) (hn : n ≤ 5) (h : post (nI (n + 1), pc, xc, lv, cw, cn, upd st c 1, upd sx c (sx p), rs, upd pa c (nI p), upd (tk_y (upd rg A (-1)) (4 * c) (4 * p) 4) A (nI c), tk_y me (32 * c) (32 * p) 32, tk_y ds (4 * c) (4 * p) 4, pw, pl, upd qu n (nI c), ou)) : wpX_fork post (nI n, pc, xc, lv, cw, cn, st, sx, rs, pa, rg, me, ds, pw, pl, qu, ou) (nI p) (nI A) := by
  have eA : (nI A).toNatClampNeg = A := nI_clamp (by omega)
  unfold wpX_fork
  refine tk_xFree hF (br_f (tk_nm1 (by omega)) ⟨vp_in_nI hA (by decide), nm_r (e' := upd rg A (-1)) (by rw [eA]) ⟨5, ?_⟩⟩)
  have k1 := tk_xFk106 hp hc hpc hA hn h 4 0 rfl
  rw [tk_y0] at k1
  have k2 := tk_xFk66 (me := me) hp hc hpc ⟨5, k1⟩ 32 0 rfl
  rw [tk_y0] at k2
  have k3 := tk_xFk29 (rg := upd rg A (-1)) hp hc hpc ⟨33, k2⟩ 4 0 rfl
  rw [tk_y0] at k3
  exact k3
theorem tk_xFk0 {post : SX → Prop} {p A : Nat} (hF : tk_F (fun j => st j = 0) 0 6 (-1)) (hA : A < 24) (h : post (ql, pc, xc, lv, cw, cn, st, sx, rs, pa, upd rg A (-2), me, ds, pw, pl, qu, ou)) : wpX_fork post (ql, pc, xc, lv, cw, cn, st, sx, rs, pa, rg, me, ds, pw, pl, qu, ou) (nI p) (nI A) := by
  have eA : (nI A).toNatClampNeg = A := nI_clamp (by omega)
  unfold wpX_fork
  exact tk_xFree hF (br_t rfl ⟨vp_in_nI hA (by decide), nm_r (e' := upd rg A (-2)) (by rw [eA]) h⟩)
theorem tk_yFk88 {post : Int32 → SY → Prop} {p c n : Nat} (hp : p < 6) (hc : c < 6) (hpc : p ≠ c) (hn : n ≤ 5) (h : post (nI c) (nI (n + 1), xc, pc, cw, cn, upd st c 1, pa, sy, rg, ds, tk_y me (32 * c) (32 * p) 32, pw, pl, upd qu n (nI c), ou)) : ∀ d j, j + d = 32 → wY_fork_88 post (nI p) (nI c) (nI n) xc pc (d + 1) (nI j) cw cn st pa sy rg ds (tk_y me (32 * c) (32 * p) j) pw pl qu ou := by
  intro d
  induction d with
  | zero =>
    intro j hj
    have e : j = 32 := by omega
    rw [e]
    exact br_t (nI_le (a := 32) (by omega) (by decide)) (tk_yJoin hc hn h)
  | succ d ih =>
    intro j hj
    have e1 : (32 * nI p + nI j).toNatClampNeg = 32 * p + j := by rw [tk_i5', nI_clamp (by omega)]
    have e2 : (32 * nI c + nI j).toNatClampNeg = 32 * c + j := by rw [tk_i5', nI_clamp (by omega)]
    exact br_f (nI_ge (b := 32) (by omega) (by decide)) ⟨by rw [tk_i5']; exact vp_in_nI (by omega) (by decide), by rw [tk_i5']; exact vp_in_nI (by omega) (by decide), nm_r (e' := tk_y me (32 * c) (32 * p) (j + 1)) (by rw [e1, e2]; exact tk_ys (L := 32) (by omega) (by omega)) (nm_r (nI_1 j) (ih (j + 1) (by omega)))⟩
theorem tk_yFk35 {post : Int32 → SY → Prop} {p c : Nat} (hp : p < 6) (hc : c < 6) (hpc : p ≠ c) (h : ∃ n88, wY_fork_88 post (nI p) (nI c) ql xc pc n88 0 cw cn st pa sy (tk_y rg (4 * c) (4 * p) 4) (tk_y ds (4 * c) (4 * p) 4) me pw pl qu ou) : ∀ d j, j + d = 4 → wY_fork_35 post (nI p) (nI c) ql xc pc (d + 1) (nI j) cw cn st pa sy (tk_y rg (4 * c) (4 * p) j) (tk_y ds (4 * c) (4 * p) j) me pw pl qu ou := by
  intro d
  induction d with
  | zero =>
    intro j hj
    have e : j = 4 := by omega
    rw [e]
    exact br_t (nI_le (a := 4) (by omega) (by decide)) h
  | succ d ih =>
    intro j hj
    have e1 : (4 * nI p + nI j).toNatClampNeg = 4 * p + j := by rw [tk_i4', nI_clamp (by omega)]
    have e2 : (4 * nI c + nI j).toNatClampNeg = 4 * c + j := by rw [tk_i4', nI_clamp (by omega)]
    have v1 : vp_in (4 * nI p + nI j) 24 := by rw [tk_i4']; exact vp_in_nI (by omega) (by decide)
    have v2 : vp_in (4 * nI c + nI j) 24 := by rw [tk_i4']; exact vp_in_nI (by omega) (by decide)
    exact br_f (nI_ge (b := 4) (by omega) (by decide)) ⟨v1, v2, nm_r (e' := tk_y rg (4 * c) (4 * p) (j + 1)) (by rw [e1, e2]; exact tk_ys (L := 4) (by omega) (by omega)) ⟨v1, v2, nm_r (e' := tk_y ds (4 * c) (4 * p) (j + 1)) (by rw [e1, e2]; exact tk_ys (L := 4) (by omega) (by omega)) (nm_r (nI_1 j) (ih (j + 1) (by omega)))⟩⟩
theorem tk_yFk1 {post : Int32 → SY → Prop} {p c n : Nat} (hF : tk_F (fun j => st j = 0) 0 6 (nI c)) (hp : p < 6) (hc : c < 6) (hpc : p ≠ c) (hn : n ≤ 5) (h : post (nI c) (nI (n + 1), xc, pc, cw, cn, upd st c 1, upd pa c (nI p), upd sy c (sy p + 1), tk_y rg (4 * c) (4 * p) 4, tk_y ds (4 * c) (4 * p) 4, tk_y me (32 * c) (32 * p) 32, pw, pl, upd qu n (nI c), ou)) : wpY_fork post (nI n, xc, pc, cw, cn, st, pa, sy, rg, ds, me, pw, pl, qu, ou) (nI p) := by
  have ep : (nI p).toNatClampNeg = p := nI_clamp (by omega)
  have ec : (nI c).toNatClampNeg = c := nI_clamp (by omega)
  have v1 : vp_in (nI p) 6 := vp_in_nI hp (by decide)
  have v2 : vp_in (nI c) 6 := vp_in_nI hc (by decide)
  unfold wpY_fork
  refine tk_yFree hF (br_t (nI_pos' (by omega)) ⟨v2, nm_r (e' := upd pa c (nI p)) (by rw [ec]) ⟨v1, v2, nm_r (e' := upd sy c (sy p + 1)) (by rw [ep, ec]) ⟨5, ?_⟩⟩⟩)
  have k1 := tk_yFk88 hp hc hpc hn h 32 0 rfl
  rw [tk_y0] at k1
  have k2 := tk_yFk35 (rg := rg) (ds := ds) hp hc hpc ⟨33, k1⟩ 4 0 rfl
  rw [tk_y0, tk_y0] at k2
  exact k2
theorem tk_yFk0 {post : Int32 → SY → Prop} {p : Nat} (hF : tk_F (fun j => st j = 0) 0 6 (-1)) (h : post (-2) (ql, xc, pc, cw, cn, st, pa, sy, rg, ds, me, pw, pl, qu, ou)) : wpY_fork post (ql, xc, pc, cw, cn, st, pa, sy, rg, ds, me, pw, pl, qu, ou) (nI p) := by
  unfold wpY_fork
  exact tk_yFree hF (br_f (by decide) h)
theorem tk_xSp44 {post : Int32 → SX → Prop} {c n : Nat} {s x : Int32} (hc : c < 6) (hn : n ≤ 5) (h : post (nI c) (nI (n + 1), pc, xc, lv, cw, cn, upd st c 1, upd sx c s, rs, upd pa c (-1), upd rg (4 * c) x, tk_z me (32 * c) 32, ds, pw, pl, upd qu n (nI c), ou)) : ∀ d j, j + d = 32 → wX_spawn_44 post s x (nI c) (nI n) pc xc lv (d + 1) (nI j) cw cn st sx rs pa rg (tk_z me (32 * c) j) ds pw pl qu ou := by
  have ec : (nI c).toNatClampNeg = c := nI_clamp (by omega)
  have v2 : vp_in (nI c) 6 := vp_in_nI hc (by decide)
  have e4 : (nI c * 4).toNatClampNeg = 4 * c := by rw [tk_i40, nI_clamp (by omega)]
  intro d
  induction d with
  | zero =>
    intro j hj
    have e : j = 32 := by omega
    rw [e]
    exact br_t (nI_le (a := 32) (by omega) (by decide)) ⟨by rw [tk_i40]; exact vp_in_nI (by omega) (by decide), nm_r (e' := upd rg (4 * c) x) (by rw [e4]) ⟨v2, nm_r (e' := upd sx c s) (by rw [ec]) ⟨v2, nm_r (e' := upd pa c (-1)) (by rw [ec]) (tk_xJoin hc hn h)⟩⟩⟩
  | succ d ih =>
    intro j hj
    have e1 : (nI c * 32 + nI j).toNatClampNeg = 32 * c + j := by rw [tk_i5, nI_clamp (by omega)]
    exact br_f (nI_ge (b := 32) (by omega) (by decide)) ⟨by rw [tk_i5]; exact vp_in_nI (by omega) (by decide), nm_r (e' := tk_z me (32 * c) (j + 1)) (by rw [e1]; exact tk_zs _ _ _) (nm_r (nI_1 j) (ih (j + 1) (by omega)))⟩
theorem tk_xSp17 {post : Int32 → SX → Prop} {c : Nat} {s x : Int32} (hc : c < 6) (h : ∃ n44, wX_spawn_44 post s x (nI c) ql pc xc lv n44 0 cw cn st sx rs pa (tk_z rg (4 * c) 4) me ds pw pl qu ou) : ∀ d j, j + d = 4 → wX_spawn_17 post s x (nI c) ql pc xc lv (d + 1) (nI j) cw cn st sx rs pa (tk_z rg (4 * c) j) me ds pw pl qu ou := by
  intro d
  induction d with
  | zero =>
    intro j hj
    have e : j = 4 := by omega
    rw [e]
    exact br_t (nI_le (a := 4) (by omega) (by decide)) h
  | succ d ih =>
    intro j hj
    have e1 : (nI c * 4 + nI j).toNatClampNeg = 4 * c + j := by rw [tk_i4, nI_clamp (by omega)]
    exact br_f (nI_ge (b := 4) (by omega) (by decide)) ⟨by rw [tk_i4]; exact vp_in_nI (by omega) (by decide), nm_r (e' := tk_z rg (4 * c) (j + 1)) (by rw [e1]; exact tk_zs _ _ _) (nm_r (nI_1 j) (ih (j + 1) (by omega)))⟩
theorem tk_xSp1 {post : Int32 → SX → Prop} {c n : Nat} {s x : Int32} (hF : tk_F (fun j => st j = 0) 0 6 (nI c)) (hc : c < 6) (hn : n ≤ 5) (h : post (nI c) (nI (n + 1), pc, xc, lv, cw, cn, upd st c 1, upd sx c s, rs, upd pa c (-1), upd (tk_z rg (4 * c) 4) (4 * c) x, tk_z me (32 * c) 32, ds, pw, pl, upd qu n (nI c), ou)) : wpX_spawn post (nI n, pc, xc, lv, cw, cn, st, sx, rs, pa, rg, me, ds, pw, pl, qu, ou) s x := by
  unfold wpX_spawn
  refine tk_xFree hF (br_f (tk_nm1 (by omega)) ⟨5, ?_⟩)
  have k1 := tk_xSp44 (me := me) (rg := tk_z rg (4 * c) 4) hc hn h 32 0 rfl
  rw [tk_z0] at k1
  have k2 := tk_xSp17 (rg := rg) hc ⟨33, k1⟩ 4 0 rfl
  rw [tk_z0] at k2
  exact k2
theorem tk_ySp82 {post : Int32 → SY → Prop} {c n : Nat} (hc : c < 6) (hn : n ≤ 5) (h : post (nI c) (nI (n + 1), xc, pc, cw, cn, upd st c 1, pa, sy, rg, ds, tk_z me (32 * c) 32, pw, pl, upd qu n (nI c), ou)) : ∀ d j, j + d = 32 → wY_spawn_82 post (nI c) (nI n) xc pc (d + 1) (nI (32 * c + j)) cw cn st pa sy rg ds (tk_z me (32 * c) j) pw pl qu ou := by
  have k4 : 32 * nI c + 32 = nI (32 * c + 32) := tk_i5' c 32
  intro d
  induction d with
  | zero =>
    intro j hj
    have e : j = 32 := by omega
    rw [e]
    exact br_t (by rw [k4]; exact nI_le (by omega) (by omega)) (tk_yJoin hc hn h)
  | succ d ih =>
    intro j hj
    have e1 : (nI (32 * c + j)).toNatClampNeg = 32 * c + j := nI_clamp (by omega)
    exact br_f (by rw [k4]; exact nI_ge (by omega) (by omega)) ⟨vp_in_nI (by omega) (by decide), nm_r (e' := tk_z me (32 * c) (j + 1)) (by rw [e1]; exact tk_zs _ _ _) (nm_r (nI_1 _) (ih (j + 1) (by omega)))⟩
theorem tk_ySp32 {post : Int32 → SY → Prop} {c : Nat} {x : Int32} (hc : c < 6) (h : ∃ n82, wY_spawn_82 post (nI c) ql xc pc n82 (nI (32 * c)) cw cn st pa sy (tk_w rg x (4 * c) 4) (tk_z ds (4 * c) 4) me pw pl qu ou) : ∀ d j, j + d = 4 → wY_spawn_32 post x (nI c) ql xc pc (d + 1) (nI (4 * c + j)) cw cn st pa sy (tk_w rg x (4 * c) j) (tk_z ds (4 * c) j) me pw pl qu ou := by
  have k4 : 4 * nI c + 4 = nI (4 * c + 4) := tk_i4' c 4
  intro d
  induction d with
  | zero =>
    intro j hj
    have e : j = 4 := by omega
    rw [e]
    exact br_t (by rw [k4]; exact nI_le (by omega) (by omega)) (nm_r (tk_i50' c) h)
  | succ d ih =>
    intro j hj
    have e1 : (nI (4 * c + j)).toNatClampNeg = 4 * c + j := nI_clamp (by omega)
    have v1 : vp_in (nI (4 * c + j)) 24 := vp_in_nI (by omega) (by decide)
    refine br_f (by rw [k4]; exact nI_ge (by omega) (by omega)) ?_
    by_cases z : j = 0
    · exact br_t (by rw [tk_i40', z]; rfl) ⟨v1, nm_r (e' := tk_w rg x (4 * c) (j + 1)) (by rw [e1]; exact tk_ws (if_pos z).symm) ⟨v1, nm_r (e' := tk_z ds (4 * c) (j + 1)) (by rw [e1]; exact tk_zs _ _ _) (nm_r (nI_1 _) (ih (j + 1) (by omega)))⟩⟩
    · exact br_f (by rw [tk_i40']; exact tk_ne (by omega) (by omega) (by omega)) ⟨v1, nm_r (e' := tk_w rg x (4 * c) (j + 1)) (by rw [e1]; exact tk_ws (if_neg z).symm) ⟨v1, nm_r (e' := tk_z ds (4 * c) (j + 1)) (by rw [e1]; exact tk_zs _ _ _) (nm_r (nI_1 _) (ih (j + 1) (by omega)))⟩⟩
theorem tk_ySp1 {post : Int32 → SY → Prop} {c n : Nat} {s x : Int32} (hF : tk_F (fun j => st j = 0) 0 6 (nI c)) (hc : c < 6) (hn : n ≤ 5) (h : post (nI c) (nI (n + 1), xc, pc, cw, cn, upd st c 1, upd pa c (-1), upd sy c s, upd (tk_z rg (4 * c) 4) (4 * c) x, tk_z ds (4 * c) 4, tk_z me (32 * c) 32, pw, pl, upd qu n (nI c), ou)) : wpY_spawn post (nI n, xc, pc, cw, cn, st, pa, sy, rg, ds, me, pw, pl, qu, ou) s x := by
  have ec : (nI c).toNatClampNeg = c := nI_clamp (by omega)
  have v2 : vp_in (nI c) 6 := vp_in_nI hc (by decide)
  unfold wpY_spawn
  refine tk_yFree hF (br_t (nI_pos' (by omega)) ⟨v2, nm_r (e' := upd pa c (-1)) (by rw [ec]) ⟨v2, nm_r (e' := upd sy c s) (by rw [ec]) (nm_r (tk_i40' c) ⟨5, ?_⟩)⟩⟩)
  rw [← tk_w4] at h
  have k1 := tk_ySp82 (me := me) hc hn h 32 0 rfl
  rw [tk_z0] at k1
  have k2 := tk_ySp32 (rg := rg) (ds := ds) hc ⟨33, k1⟩ 4 0 rfl
  rw [tk_z0, tk_w0] at k2
  exact k2
end
