section
variable {ql pc lv : Int32} {xc : Int64} {cw cn st sx sy rs pa rg me ds pw pl qu ou : Nat → Int32}
theorem tk_xJoin {post : SX → Prop} {p n : Nat} (hp : p < 6) (hn : n ≤ 5) (h : post (nI (n + 1), pc, xc, lv, cw, cn, upd st p 1, sx, rs, pa, rg, me, ds, pw, pl, upd qu n (nI p), ou)) : wpX_makeReady post (nI n, pc, xc, lv, cw, cn, st, sx, rs, pa, rg, me, ds, pw, pl, qu, ou) (nI p) := by
  have e : (nI p).toNatClampNeg = p := nI_clamp (by omega)
  have en : (nI n).toNatClampNeg = n := nI_clamp (by omega)
  exact ⟨vp_in_nI hp (by decide), nm_r (e' := upd st p 1) (by rw [e]) (br_f (nI_ge (b := 6) (by omega) (by decide)) ⟨vp_in_nI (by omega) (by decide), nm_r (e' := upd qu n (nI p)) (by rw [en]) (nm_r (nI_1 n) h)⟩)⟩
theorem tk_yJoin {post : SY → Prop} {p n : Nat} (hp : p < 6) (hn : n ≤ 5) (h : post (nI (n + 1), xc, pc, cw, cn, upd st p 1, pa, sy, rg, ds, me, pw, pl, upd qu n (nI p), ou)) : wpY_join post (nI n, xc, pc, cw, cn, st, pa, sy, rg, ds, me, pw, pl, qu, ou) (nI p) := by
  have e : (nI p).toNatClampNeg = p := nI_clamp (by omega)
  have en : (nI n).toNatClampNeg = n := nI_clamp (by omega)
  exact ⟨vp_in_nI hp (by decide), nm_r (e' := upd st p 1) (by rw [e]) ⟨vp_in_nI (by omega) (by decide), nm_r (e' := upd qu n (nI p)) (by rw [en]) (nm_r (nI_1 n) h)⟩⟩
theorem tk_xLvL {post : SX → Prop} {n : Nat} {q : Int32} (hn : n ≤ 6) (h : post (nI (tk_lv qu q n).2, pc, xc, lv, cw, cn, st, sx, rs, pa, rg, me, ds, pw, pl, (tk_lv qu q n).1, ou)) : ∀ d i, i + d = n → wX_leaveQueue_4 post q (nI n) pc xc lv (d + 1) (nI (tk_lv qu q i).2) (nI i) cw cn st sx rs pa rg me ds pw pl ((tk_lv qu q i).1) ou := by
  intro d
  induction d with
  | zero =>
    intro i hi
    have z : i = n := by omega
    rw [z]
    exact br_t (nI_le (Nat.le_refl _) (by omega)) h
  | succ d ih =>
    intro i hi
    have l := tk_lvle (q := qu) (p := q) i
    have e : (nI i).toNatClampNeg = i := nI_clamp (by omega)
    have e2 : (nI (tk_lv qu q i).2).toNatClampNeg = (tk_lv qu q i).2 := nI_clamp (by omega)
    have vi : vp_in (nI i) 6 := vp_in_nI (by omega) (by decide)
    have k := ih (i + 1) (by omega)
    refine br_f (nI_ge (by omega) (by omega)) ⟨vi, ?_⟩
    by_cases z : (tk_lv qu q i).1 i = q
    · rw [tk_lvt z] at k
      exact br_t (by rw [e]; exact z) (nm_r (nI_1 i) k)
    · rw [tk_lvf z] at k
      exact br_f (by rw [e]; exact z) ⟨vi, vp_in_nI (by omega) (by decide), nm_r (e' := upd (tk_lv qu q i).1 (tk_lv qu q i).2 ((tk_lv qu q i).1 i)) (by rw [e, e2]) (nm_r (nI_1 _) (nm_r (nI_1 i) k))⟩
theorem tk_xLv {post : SX → Prop} {n : Nat} {q : Int32} (hn : n ≤ 6) (h : post (nI (tk_lv qu q n).2, pc, xc, lv, cw, cn, st, sx, rs, pa, rg, me, ds, pw, pl, (tk_lv qu q n).1, ou)) : wpX_leaveQueue post (nI n, pc, xc, lv, cw, cn, st, sx, rs, pa, rg, me, ds, pw, pl, qu, ou) q := ⟨n + 1, tk_xLvL hn h n 0 (by omega)⟩
theorem tk_yLvL {post : SY → Prop} {n : Nat} {q : Int32} (hn : n ≤ 6) (h : post (nI (tk_lv qu q n).2, xc, pc, cw, cn, st, pa, sy, rg, ds, me, pw, pl, (tk_lv qu q n).1, ou)) : ∀ d i, i + d = n → wY_leave_4 post q (nI n) xc pc (d + 1) (nI (tk_lv qu q i).2) (nI i) cw cn st pa sy rg ds me pw pl ((tk_lv qu q i).1) ou := by
  intro d
  induction d with
  | zero =>
    intro i hi
    have z : i = n := by omega
    rw [z]
    exact br_t (nI_le (Nat.le_refl _) (by omega)) h
  | succ d ih =>
    intro i hi
    have l := tk_lvle (q := qu) (p := q) i
    have e : (nI i).toNatClampNeg = i := nI_clamp (by omega)
    have e2 : (nI (tk_lv qu q i).2).toNatClampNeg = (tk_lv qu q i).2 := nI_clamp (by omega)
    have vi : vp_in (nI i) 7 := vp_in_nI (by omega) (by decide)
    have k := ih (i + 1) (by omega)
    refine br_f (nI_ge (by omega) (by omega)) ⟨vi, ?_⟩
    by_cases z : (tk_lv qu q i).1 i = q
    · rw [tk_lvt z] at k
      exact br_t (by rw [e]; exact z) (nm_r (nI_1 i) k)
    · rw [tk_lvf z] at k
      exact br_f (by rw [e]; exact z) ⟨vi, vp_in_nI (by omega) (by decide), nm_r (e' := upd (tk_lv qu q i).1 (tk_lv qu q i).2 ((tk_lv qu q i).1 i)) (by rw [e, e2]) (nm_r (nI_1 _) (nm_r (nI_1 i) k))⟩
theorem tk_yLv {post : SY → Prop} {n : Nat} {q : Int32} (hn : n ≤ 6) (h : post (nI (tk_lv qu q n).2, xc, pc, cw, cn, st, pa, sy, rg, ds, me, pw, pl, (tk_lv qu q n).1, ou)) : wpY_leave post (nI n, xc, pc, cw, cn, st, pa, sy, rg, ds, me, pw, pl, qu, ou) q := ⟨n + 1, tk_yLvL hn h n 0 (by omega)⟩
theorem tk_xFin31 {post : SX → Prop} {p : Nat} {r : Int32} (hp : p < 6) (hn : pa p ≠ nI p) (h : post (ql, pc, xc, lv, cw, cn, tk_fs st pa p, sx, upd rs p r, tk_cp st pa p 6, rg, me, ds, pw, pl, qu, ou)) : ∀ d c, c + d = 6 → wX_finish_31 post (nI p) r ql pc xc lv (d + 1) (nI c) cw cn (tk_cs st pa p c) sx rs (tk_cp st pa p c) rg me ds pw pl qu ou := by
  have v6 : vp_in (nI p) 6 := vp_in_nI hp (by decide)
  have ep : (nI p).toNatClampNeg = p := nI_clamp (by omega)
  intro d
  induction d with
  | zero =>
    intro c hc
    have e6 : c = 6 := by omega
    rw [e6]
    refine br_t (nI_le (a := 6) (by omega) (by decide)) ⟨v6, nm_r (e' := upd rs p r) (by rw [ep]) ⟨v6, ?_⟩⟩
    have hpp : tk_cp st pa p 6 p = pa p := tk_cp_n hn
    by_cases z : pa p = -1
    · exact br_t (by rw [ep, hpp]; exact z) ⟨v6, nm_r (e' := tk_fs st pa p) (by rw [ep]; unfold tk_fs; rw [if_pos z]) h⟩
    · exact br_f (by rw [ep, hpp]; exact z) ⟨v6, nm_r (e' := tk_fs st pa p) (by rw [ep]; unfold tk_fs; rw [if_neg z]) h⟩
  | succ d ih =>
    intro c hc
    have vc : vp_in (nI c) 6 := vp_in_nI (by omega) (by decide)
    have ec : (nI c).toNatClampNeg = c := nI_clamp (by omega)
    have k1 : tk_cs st pa p c c = st c := tk_cs_k (Nat.le_refl _)
    have k2 : tk_cp st pa p c c = pa c := tk_cp_k (Nat.le_refl _)
    refine br_f (nI_ge (b := 6) (by omega) (by decide)) ?_
    by_cases z : st c ≠ 0 ∧ pa c = nI p
    · refine tk_xChild1 (by omega) (by rw [k1]; exact z.1) (by rw [k2]; exact z.2) (br_f tk_01 ⟨vc, nm_r (e' := tk_cp st pa p (c + 1)) (by rw [ec]; exact tk_cp_y z.1 z.2) ⟨vc, ?_⟩⟩)
      by_cases y : st c = 3
      · exact br_t (by rw [ec, k1]; exact y) ⟨vc, nm_r (e' := tk_cs st pa p (c + 1)) (by rw [ec]; exact tk_cs_y y z.2) (nm_r (nI_1 c) (ih (c + 1) (by omega)))⟩
      · exact br_f (by rw [ec, k1]; exact y) ⟨vc, vc, nm_r (e' := tk_cs st pa p (c + 1)) (by rw [ec, tk_uid]; exact tk_cs_z (fun q => y q.1)) (nm_r (nI_1 c) (ih (c + 1) (by omega)))⟩
    · have g1 : tk_cp st pa p c = tk_cp st pa p (c + 1) := tk_cp_z z
      have g2 : tk_cs st pa p c = tk_cs st pa p (c + 1) := tk_cs_z (fun q => z ⟨by rw [q.1]; decide, q.2⟩)
      refine tk_xChild0 (by omega) (by rw [k1, k2]; exact z) (br_t rfl (nm_r (nI_1 c) ?_))
      rw [g1, g2]
      exact ih (c + 1) (by omega)
theorem tk_xFin7 {post : SX → Prop} {p : Nat} {r : Int32} (hp : p < 6) (h : ∃ n31, wX_finish_31 post (nI p) r ql pc xc lv n31 0 cw cn st sx rs pa rg me (tk_z ds (4 * p) 4) pw pl qu ou) : ∀ d j, j + d = 4 → wX_finish_7 post (nI p) r ql pc xc lv (d + 1) (nI j) cw cn st sx rs pa rg me (tk_z ds (4 * p) j) pw pl qu ou := by
  intro d
  induction d with
  | zero =>
    intro j hj
    have e : j = 4 := by omega
    rw [e]
    exact br_t (nI_le (a := 4) (by omega) (by decide)) h
  | succ d ih =>
    intro j hj
    have e : (nI p * 4 + nI j).toNatClampNeg = 4 * p + j := by rw [tk_i4, nI_clamp (by omega)]
    exact br_f (nI_ge (b := 4) (by omega) (by decide)) ⟨by rw [tk_i4]; exact vp_in_nI (by omega) (by decide), nm_r (e' := tk_z ds (4 * p) (j + 1)) (by rw [e]; exact tk_zs _ _ _) (nm_r (nI_1 j) (ih (j + 1) (by omega)))⟩
theorem tk_xFin {post : SX → Prop} {p n : Nat} {r : Int32} (hp : p < 6) (hq : n ≤ 6) (hn : pa p ≠ nI p) (h : post (nI (tk_lv qu (nI p) n).2, pc, xc, lv, cw, cn, tk_fs st pa p, sx, upd rs p r, tk_cp st pa p 6, rg, me, tk_z ds (4 * p) 4, pw, pl, (tk_lv qu (nI p) n).1, ou)) : wpX_finish post (nI n, pc, xc, lv, cw, cn, st, sx, rs, pa, rg, me, ds, pw, pl, qu, ou) (nI p) r := by
  unfold wpX_finish
  refine tk_xLv hq ⟨5, ?_⟩
  have k := tk_xFin31 (ds := tk_z ds (4 * p) 4) hp hn h 6 0 rfl
  rw [tk_cs0, tk_cp0] at k
  have k2 := tk_xFin7 (ds := ds) hp ⟨7, k⟩ 4 0 rfl
  rw [tk_z0] at k2
  exact k2
theorem tk_yFin33 {post : SY → Prop} {p : Nat} {r : Int32} (hp : p < 6) (hv : pa p = -1 ∨ ∃ j, j < 6 ∧ j ≠ p ∧ pa p = nI j) (hn : pa p ≠ nI p) (h : post (ql, xc, pc, cw, cn, tk_fs st pa p, tk_cp st pa p 6, upd sy p r, rg, ds, me, pw, pl, qu, ou)) : ∀ d c, c + d = 6 → wY_end_33 post (nI p) r ql xc pc (d + 1) (nI c) cw cn (tk_cs st pa p c) (tk_cp st pa p c) sy rg ds me pw pl qu ou := by
  have v6 : vp_in (nI p) 6 := vp_in_nI hp (by decide)
  have ep : (nI p).toNatClampNeg = p := nI_clamp (by omega)
  intro d
  induction d with
  | zero =>
    intro c hc
    have e6 : c = 6 := by omega
    rw [e6]
    refine br_t (nI_le (a := 6) (by omega) (by decide)) ⟨v6, ?_⟩
    have hpp : tk_cp st pa p 6 p = pa p := tk_cp_n hn
    rcases hv with z | ⟨j, hj, _, z⟩
    · exact br_f (by rw [ep, hpp, z]; decide) ⟨v6, nm_r (e' := tk_fs st pa p) (by rw [ep]; unfold tk_fs; rw [if_pos z]) ⟨v6, nm_r (e' := upd sy p r) (by rw [ep]) h⟩⟩
    · have y : pa p ≠ -1 := by rw [z]; exact tk_nm1 (by omega)
      exact br_t (by rw [ep, hpp, z]; exact nI_pos' (by omega)) ⟨v6, nm_r (e' := tk_fs st pa p) (by rw [ep]; unfold tk_fs; rw [if_neg y]) ⟨v6, nm_r (e' := upd sy p r) (by rw [ep]) h⟩⟩
  | succ d ih =>
    intro c hc
    have vc : vp_in (nI c) 6 := vp_in_nI (by omega) (by decide)
    have ec : (nI c).toNatClampNeg = c := nI_clamp (by omega)
    have k1 : tk_cs st pa p c c = st c := tk_cs_k (Nat.le_refl _)
    have k2 : tk_cp st pa p c c = pa c := tk_cp_k (Nat.le_refl _)
    refine br_f (nI_ge (b := 6) (by omega) (by decide)) ?_
    by_cases z : st c ≠ 0 ∧ pa c = nI p
    · have q : c ≠ p := fun e => hn (by rw [← e]; rw [e]; rw [← e]; exact e ▸ z.2)
      refine br_f (tk_ne (by omega) (by omega) q) ⟨vc, br_f (by rw [ec, k1]; exact z.1) ⟨vc, br_t (by rw [ec, k2]; exact z.2) ⟨vc, nm_r (e' := tk_cp st pa p (c + 1)) (by rw [ec]; exact tk_cp_y z.1 z.2) ⟨vc, ?_⟩⟩⟩⟩
      by_cases y : st c = 3
      · exact br_t (by rw [ec, k1]; exact y) ⟨vc, nm_r (e' := tk_cs st pa p (c + 1)) (by rw [ec]; exact tk_cs_y y z.2) (nm_r (nI_1 c) (ih (c + 1) (by omega)))⟩
      · refine br_f (by rw [ec, k1]; exact y) (nm_r (nI_1 c) ?_)
        have g2 : tk_cs st pa p c = tk_cs st pa p (c + 1) := tk_cs_z (fun q => y q.1)
        rw [g2]
        exact ih (c + 1) (by omega)
    · have g1 : tk_cp st pa p c = tk_cp st pa p (c + 1) := tk_cp_z z
      have g2 : tk_cs st pa p c = tk_cs st pa p (c + 1) := tk_cs_z (fun q => z ⟨by rw [q.1]; decide, q.2⟩)
      have k := ih (c + 1) (by omega)
      rw [← g1, ← g2] at k
      refine br_c (fun _ => nm_r (nI_1 c) k) (fun _ => ⟨vc, ?_⟩)
      by_cases y : st c = 0
      · exact br_t (by rw [ec, k1]; exact y) (nm_r (nI_1 c) k)
      · exact br_f (by rw [ec, k1]; exact y) ⟨vc, br_f (by rw [ec, k2]; exact fun x => z ⟨y, x⟩) (nm_r (nI_1 c) k)⟩
theorem tk_yFin9 {post : SY → Prop} {p : Nat} {r : Int32} (hp : p < 6) (h : ∃ n33, wY_end_33 post (nI p) r ql xc pc n33 0 cw cn st pa sy rg (tk_z ds (4 * p) 4) me pw pl qu ou) : ∀ d j, j + d = 4 → wY_end_9 post (nI p) r ql xc pc (d + 1) (nI (4 * p + j)) cw cn st pa sy rg (tk_z ds (4 * p) j) me pw pl qu ou := by
  have k4 : 4 * nI p + 4 = nI (4 * p + 4) := tk_i4' p 4
  intro d
  induction d with
  | zero =>
    intro j hj
    have e : j = 4 := by omega
    rw [e]
    exact br_t (by rw [k4]; exact nI_le (by omega) (by omega)) h
  | succ d ih =>
    intro j hj
    have e : (nI (4 * p + j)).toNatClampNeg = 4 * p + j := nI_clamp (by omega)
    exact br_f (by rw [k4]; exact nI_ge (by omega) (by omega)) ⟨vp_in_nI (by omega) (by decide), nm_r (e' := tk_z ds (4 * p) (j + 1)) (by rw [e]; exact tk_zs _ _ _) (nm_r (nI_1 _) (ih (j + 1) (by omega)))⟩
theorem tk_yFin {post : SY → Prop} {p n : Nat} {r : Int32} (hp : p < 6) (hq : n ≤ 6) (hv : pa p = -1 ∨ ∃ j, j < 6 ∧ j ≠ p ∧ pa p = nI j) (hn : pa p ≠ nI p) (h : post (nI (tk_lv qu (nI p) n).2, xc, pc, cw, cn, tk_fs st pa p, tk_cp st pa p 6, upd sy p r, rg, tk_z ds (4 * p) 4, me, pw, pl, (tk_lv qu (nI p) n).1, ou)) : wpY_end post (nI n, xc, pc, cw, cn, st, pa, sy, rg, ds, me, pw, pl, qu, ou) (nI p) r := by
  unfold wpY_end
  refine tk_yLv hq (nm_r (tk_i40' p) ⟨5, ?_⟩)
  have k := tk_yFin33 (ds := tk_z ds (4 * p) 4) hp hv hn h 6 0 rfl
  rw [tk_cs0, tk_cp0] at k
  have k2 := tk_yFin9 (ds := ds) hp ⟨7, k⟩ 4 0 rfl
  rw [tk_z0] at k2
  exact k2
theorem tk_xNoL {post : Int32 → Prop} {r : Int32} {p : Nat} (hp6 : p < 6) (hp : post r) : ∀ d j, j + d = 4 → tk_F (fun j => ds (4 * p + j) = 0) j 4 r → wX_nextNothing_2 post (nI p) ql pc xc lv cw cn st sx rs pa rg me ds pw pl qu ou (d + 1) (nI j) := by
  intro d
  induction d with
  | zero => intro j hj h; exact br_t (nI_le (a := 4) (by omega) (by omega)) (by rw [← tk_Fz h (by omega)]; exact hp)
  | succ d ih =>
    intro j hj h
    have hc : (nI p * 4 + nI j).toNatClampNeg = 4 * p + j := by rw [tk_i4, nI_clamp (by omega)]
    refine br_f (nI_ge (b := 4) (by omega) (by decide)) ⟨by rw [tk_i4]; exact vp_in_nI (by omega) (by decide), ?_⟩
    by_cases z : ds (4 * p + j) = 0
    · exact br_t (by rw [hc]; exact z) (by rw [← tk_Ft h (by omega) z]; exact hp)
    · exact br_f (by rw [hc]; exact z) (nm_r (nI_1 j) (ih (j + 1) (by omega) (tk_Fn h z)))
theorem tk_xNo {post : Int32 → Prop} {r : Int32} {p : Nat} (f : Nat) (hf : f ≤ 4) (hp6 : p < 6) (h : tk_F (fun j => ds (4 * p + j) = 0) f 4 r) (hp : post r) : wpX_nextNothing post (ql, pc, xc, lv, cw, cn, st, sx, rs, pa, rg, me, ds, pw, pl, qu, ou) (nI p) (nI f) := ⟨4 - f + 1, tk_xNoL hp6 hp (4 - f) f (by omega) h⟩
theorem tk_yNoL {post : Int32 → Prop} {r : Int32} {p : Nat} (hp6 : p < 6) (hp : post r) : ∀ d j, j + d = 4 → tk_F (fun j => ds (4 * p + j) = 0) j 4 r → wY_nothing_2 post (nI p) ql xc pc cw cn st pa sy rg ds me pw pl qu ou (d + 1) (nI j) := by
  intro d
  induction d with
  | zero => intro j hj h; exact br_t (nI_le (a := 4) (by omega) (by omega)) (by rw [← tk_Fz h (by omega)]; exact hp)
  | succ d ih =>
    intro j hj h
    have hc : (4 * nI p + nI j).toNatClampNeg = 4 * p + j := by rw [tk_i4', nI_clamp (by omega)]
    refine br_f (nI_ge (b := 4) (by omega) (by decide)) ⟨by rw [tk_i4']; exact vp_in_nI (by omega) (by decide), ?_⟩
    by_cases z : ds (4 * p + j) = 0
    · exact br_t (by rw [hc]; exact z) (by rw [← tk_Ft h (by omega) z]; exact hp)
    · exact br_f (by rw [hc]; exact z) (nm_r (nI_1 j) (ih (j + 1) (by omega) (tk_Fn h z)))
theorem tk_yNo {post : Int32 → Prop} {r : Int32} {p : Nat} (f : Nat) (hf : f ≤ 4) (hp6 : p < 6) (h : tk_F (fun j => ds (4 * p + j) = 0) f 4 r) (hp : post r) : wpY_nothing post (ql, xc, pc, cw, cn, st, pa, sy, rg, ds, me, pw, pl, qu, ou) (nI p) (nI f) := ⟨4 - f + 1, tk_yNoL hp6 hp (4 - f) f (by omega) h⟩
/-- pipe k is not there -/
def tk_N (ds : Nat → Int32) (k : Nat) : Prop := ∀ j, 0 ≤ j → j < 24 → ¬ (ds j = 1 + 2 * nI k ∨ ds j = 2 + 2 * nI k)
theorem tk_xPnL {post : Int32 → Prop} {r : Int32} (hp : post r) : ∀ d j, j + d = 3 → tk_F (tk_N ds) j 3 r → wX_smallestPipeNotThere_2 post ql pc xc lv cw cn st sx rs pa rg me ds pw pl qu ou (d + 1) (nI j) := by
  intro d
  induction d with
  | zero => intro j hj h; exact br_t (nI_le (a := 3) (by omega) (by omega)) (by rw [← tk_Fz h (by omega)]; exact hp)
  | succ d ih =>
    intro j hj h
    refine br_f (nI_ge (b := 3) (by omega) (by decide)) ?_
    obtain ⟨rB, hB⟩ := tk_Bex (fun i => ds i = 1 + 2 * nI j ∨ ds i = 2 + 2 * nI j) 0 24
    refine tk_xThere hB ?_
    rcases hB with ⟨e, i, a, b, c⟩ | ⟨e, n⟩
    · exact br_f (by rw [e]; exact tk_01) (nm_r (nI_1 j) (ih (j + 1) (by omega) (tk_Fn h (fun z => z i a b c))))
    · exact br_t e (by rw [← tk_Ft h (by omega) n]; exact hp)
theorem tk_xPn {post : Int32 → Prop} {r : Int32} (h : tk_F (tk_N ds) 0 3 r) (hp : post r) : wpX_smallestPipeNotThere post (ql, pc, xc, lv, cw, cn, st, sx, rs, pa, rg, me, ds, pw, pl, qu, ou) := ⟨4, tk_xPnL hp 3 0 rfl h⟩
theorem tk_yPnL {post : SY → Prop} {x1 x2 x3 x4 x5 : Int32} (hx : ∀ r, tk_F (tk_N ds) 0 3 r → wY_makePipe_34 post x1 x2 x3 x4 x5 ql xc pc cw cn st pa sy rg ds me pw pl qu ou (0 + 1) r (nI 0 + (-1))) : ∀ c r, c ≤ 3 → tk_F (tk_N ds) c 3 r → wY_makePipe_34 post x1 x2 x3 x4 x5 ql xc pc cw cn st pa sy rg ds me pw pl qu ou (c + 1) r (nI c + (-1)) := by
  intro c
  induction c with
  | zero => intro r _ h; exact hx r h
  | succ c ih =>
    intro r hc h
    rw [pk_m1]
    refine br_f (nI_pos (by omega)) ?_
    obtain ⟨rB, hB⟩ := tk_Bex (fun i => ds i = 1 + 2 * nI c ∨ ds i = 2 + 2 * nI c) 0 24
    refine tk_yThere hB ?_
    rcases hB with ⟨e, i, a, b, d⟩ | ⟨e, n⟩
    · exact br_f (by rw [e]; exact tk_01) (nm_e (ih r (by omega) (tk_Fk (fun z => z i a b d) h)))
    · exact br_t e (nm_e (ih (nI c) (by omega) (tk_Fd n (by omega))))
end
