section
variable {ql pc lv : Int32} {xc : Int64} {cw cn st sx sy rs pa rg me ds pw pl qu ou : Nat → Int32}
def tk_val (o : Nat) (x y n : Int32) : Int32 := if o = 1 then n else if o = 2 then y else if o = 3 then x + y else if o = 4 then x - y else if o = 5 then x * y else if o = 6 then x + n else if y ≤ x then 0 else 1
theorem tk_xCp1 {post : SX → Prop} {A B : Nat} {n : Int32} (hA : A < 24) (hB : B < 24) (h : post (ql, pc, xc, lv, cw, cn, st, sx, rs, pa, upd rg A (n), me, ds, pw, pl, qu, ou)) : wpX_compute post (ql, pc, xc, lv, cw, cn, st, sx, rs, pa, rg, me, ds, pw, pl, qu, ou) (nI 1) (nI A) (nI B) n := by
  have eA : (nI A).toNatClampNeg = A := nI_clamp (by omega)
  have eB : (nI B).toNatClampNeg = B := nI_clamp (by omega)
  have vA : vp_in (nI A) 24 := vp_in_nI hA (by decide)
  have vB : vp_in (nI B) 24 := vp_in_nI hB (by decide)
  exact br_f (by decide) (br_f (by decide) (br_t (by decide) ⟨vA, nm_r (e' := upd rg A (n)) (by rw [eA]) h⟩))
theorem tk_xCp2 {post : SX → Prop} {A B : Nat} {n : Int32} (hA : A < 24) (hB : B < 24) (h : post (ql, pc, xc, lv, cw, cn, st, sx, rs, pa, upd rg A (rg B), me, ds, pw, pl, qu, ou)) : wpX_compute post (ql, pc, xc, lv, cw, cn, st, sx, rs, pa, rg, me, ds, pw, pl, qu, ou) (nI 2) (nI A) (nI B) n := by
  have eA : (nI A).toNatClampNeg = A := nI_clamp (by omega)
  have eB : (nI B).toNatClampNeg = B := nI_clamp (by omega)
  have vA : vp_in (nI A) 24 := vp_in_nI hA (by decide)
  have vB : vp_in (nI B) 24 := vp_in_nI hB (by decide)
  exact br_f (by decide) (br_f (by decide) (br_f (by decide) (br_t (by decide) ⟨vB, vA, nm_r (e' := upd rg A (rg B)) (by rw [eA, eB]) h⟩)))
theorem tk_xCp3 {post : SX → Prop} {A B : Nat} {n : Int32} (hA : A < 24) (hB : B < 24) (h : post (ql, pc, xc, lv, cw, cn, st, sx, rs, pa, upd rg A (rg A + rg B), me, ds, pw, pl, qu, ou)) : wpX_compute post (ql, pc, xc, lv, cw, cn, st, sx, rs, pa, rg, me, ds, pw, pl, qu, ou) (nI 3) (nI A) (nI B) n := by
  have eA : (nI A).toNatClampNeg = A := nI_clamp (by omega)
  have eB : (nI B).toNatClampNeg = B := nI_clamp (by omega)
  have vA : vp_in (nI A) 24 := vp_in_nI hA (by decide)
  have vB : vp_in (nI B) 24 := vp_in_nI hB (by decide)
  exact br_f (by decide) (br_f (by decide) (br_f (by decide) (br_f (by decide) (br_t (by decide) ⟨vA, vB, vA, nm_r (e' := upd rg A (rg A + rg B)) (by rw [eA, eB]) h⟩))))
theorem tk_xCp4 {post : SX → Prop} {A B : Nat} {n : Int32} (hA : A < 24) (hB : B < 24) (h : post (ql, pc, xc, lv, cw, cn, st, sx, rs, pa, upd rg A (rg A - rg B), me, ds, pw, pl, qu, ou)) : wpX_compute post (ql, pc, xc, lv, cw, cn, st, sx, rs, pa, rg, me, ds, pw, pl, qu, ou) (nI 4) (nI A) (nI B) n := by
  have eA : (nI A).toNatClampNeg = A := nI_clamp (by omega)
  have eB : (nI B).toNatClampNeg = B := nI_clamp (by omega)
  have vA : vp_in (nI A) 24 := vp_in_nI hA (by decide)
  have vB : vp_in (nI B) 24 := vp_in_nI hB (by decide)
  exact br_f (by decide) (br_f (by decide) (br_f (by decide) (br_f (by decide) (br_f (by decide) (br_t (by decide) ⟨vA, vB, vA, nm_r (e' := upd rg A (rg A - rg B)) (by rw [eA, eB]) h⟩)))))
theorem tk_xCp5 {post : SX → Prop} {A B : Nat} {n : Int32} (hA : A < 24) (hB : B < 24) (h : post (ql, pc, xc, lv, cw, cn, st, sx, rs, pa, upd rg A (rg A * rg B), me, ds, pw, pl, qu, ou)) : wpX_compute post (ql, pc, xc, lv, cw, cn, st, sx, rs, pa, rg, me, ds, pw, pl, qu, ou) (nI 5) (nI A) (nI B) n := by
  have eA : (nI A).toNatClampNeg = A := nI_clamp (by omega)
  have eB : (nI B).toNatClampNeg = B := nI_clamp (by omega)
  have vA : vp_in (nI A) 24 := vp_in_nI hA (by decide)
  have vB : vp_in (nI B) 24 := vp_in_nI hB (by decide)
  exact br_f (by decide) (br_f (by decide) (br_f (by decide) (br_f (by decide) (br_f (by decide) (br_f (by decide) (br_t (by decide) ⟨vA, vB, vA, nm_r (e' := upd rg A (rg A * rg B)) (by rw [eA, eB]) h⟩))))))
theorem tk_xCp6 {post : SX → Prop} {A B : Nat} {n : Int32} (hA : A < 24) (hB : B < 24) (h : post (ql, pc, xc, lv, cw, cn, st, sx, rs, pa, upd rg A (rg A + n), me, ds, pw, pl, qu, ou)) : wpX_compute post (ql, pc, xc, lv, cw, cn, st, sx, rs, pa, rg, me, ds, pw, pl, qu, ou) (nI 6) (nI A) (nI B) n := by
  have eA : (nI A).toNatClampNeg = A := nI_clamp (by omega)
  have eB : (nI B).toNatClampNeg = B := nI_clamp (by omega)
  have vA : vp_in (nI A) 24 := vp_in_nI hA (by decide)
  have vB : vp_in (nI B) 24 := vp_in_nI hB (by decide)
  exact br_f (by decide) (br_f (by decide) (br_f (by decide) (br_f (by decide) (br_f (by decide) (br_f (by decide) (br_f (by decide) (br_t (by decide) ⟨vA, vA, nm_r (e' := upd rg A (rg A + n)) (by rw [eA]) h⟩)))))))
theorem tk_xCp7 {post : SX → Prop} {A B : Nat} {n : Int32} (hA : A < 24) (hB : B < 24) (h : post (ql, pc, xc, lv, cw, cn, st, sx, rs, pa, upd rg A (if rg B ≤ rg A then 0 else 1), me, ds, pw, pl, qu, ou)) : wpX_compute post (ql, pc, xc, lv, cw, cn, st, sx, rs, pa, rg, me, ds, pw, pl, qu, ou) (nI 7) (nI A) (nI B) n := by
  have eA : (nI A).toNatClampNeg = A := nI_clamp (by omega)
  have eB : (nI B).toNatClampNeg = B := nI_clamp (by omega)
  have vA : vp_in (nI A) 24 := vp_in_nI hA (by decide)
  have vB : vp_in (nI B) 24 := vp_in_nI hB (by decide)
  refine br_f (by decide) (br_f (by decide) (br_f (by decide) (br_f (by decide) (br_f (by decide) (br_f (by decide) (br_f (by decide) (br_f (by decide) (br_t (by decide) ⟨vA, vB, ?_⟩))))))))
  by_cases z : rg B ≤ rg A
  · rw [if_pos z] at h
    exact br_t (by rw [eA, eB]; exact z) ⟨vA, nm_r (e' := upd rg A 0) (by rw [eA]) h⟩
  · rw [if_neg z] at h
    exact br_f (by rw [eA, eB]; exact z) ⟨vA, nm_r (e' := upd rg A 1) (by rw [eA]) h⟩
theorem tk_xCp {post : SX → Prop} {A B o : Nat} {n : Int32} (ho : 1 ≤ o) (ho7 : o ≤ 7) (hA : A < 24) (hB : B < 24) (h : post (ql, pc, xc, lv, cw, cn, st, sx, rs, pa, upd rg A (tk_val o (rg A) (rg B) n), me, ds, pw, pl, qu, ou)) : wpX_compute post (ql, pc, xc, lv, cw, cn, st, sx, rs, pa, rg, me, ds, pw, pl, qu, ou) (nI o) (nI A) (nI B) n := by
  have k : o = 1 ∨ o = 2 ∨ o = 3 ∨ o = 4 ∨ o = 5 ∨ o = 6 ∨ o = 7 := by omega
  rcases k with rfl | rfl | rfl | rfl | rfl | rfl | rfl
  · exact tk_xCp1 hA hB h
  · exact tk_xCp2 hA hB h
  · exact tk_xCp3 hA hB h
  · exact tk_xCp4 hA hB h
  · exact tk_xCp5 hA hB h
  · exact tk_xCp6 hA hB h
  · exact tk_xCp7 hA hB h
theorem tk_ySi {post : Int32 → Prop} {o : Nat} {x y n : Int32} (ho : 1 ≤ o) (ho7 : o ≤ 7) (h : post (tk_val o x y n)) : wpY_simple post (ql, xc, pc, cw, cn, st, pa, sy, rg, ds, me, pw, pl, qu, ou) (nI o) x y n := by
  have k : o = 1 ∨ o = 2 ∨ o = 3 ∨ o = 4 ∨ o = 5 ∨ o = 6 ∨ o = 7 := by omega
  rcases k with rfl | rfl | rfl | rfl | rfl | rfl | rfl
  · exact br_t (by decide) h
  · exact br_f (by decide) (br_t (by decide) h)
  · exact br_f (by decide) (br_f (by decide) (br_t (by decide) h))
  · exact br_f (by decide) (br_f (by decide) (br_f (by decide) (br_t (by decide) h)))
  · exact br_f (by decide) (br_f (by decide) (br_f (by decide) (br_f (by decide) (br_t (by decide) h))))
  · exact br_f (by decide) (br_f (by decide) (br_f (by decide) (br_f (by decide) (br_f (by decide) (br_t (by decide) h)))))
  · refine br_f (by decide) (br_f (by decide) (br_f (by decide) (br_f (by decide) (br_f (by decide) (br_f (by decide) (?_))))))
    by_cases z : y ≤ x
    · have e : tk_val 7 x y n = 0 := if_pos z
      rw [e] at h
      exact br_t z h
    · have e : tk_val 7 x y n = 1 := if_neg z
      rw [e] at h
      exact br_f z h
theorem tk_xLd1 {post : SX → Prop} {p A j : Nat} (hp : p < 6) (hA : A < 24) (hj : j < 32) (h : post (ql, pc, xc, lv, cw, cn, st, sx, rs, pa, upd rg A (me (32 * p + j)), me, ds, pw, pl, qu, ou)) : wpX_load post (ql, pc, xc, lv, cw, cn, st, sx, rs, pa, rg, me, ds, pw, pl, qu, ou) (nI p) (nI A) (nI j) := by
  have eA : (nI A).toNatClampNeg = A := nI_clamp (by omega)
  have e1 : (nI p * 32 + nI j).toNatClampNeg = 32 * p + j := by rw [tk_i5, nI_clamp (by omega)]
  unfold wpX_load
  exact tk_xWord1 hj (br_f tk_01 ⟨by rw [tk_i5]; exact vp_in_nI (by omega) (by decide), vp_in_nI hA (by decide), nm_r (e' := upd rg A (me (32 * p + j))) (by rw [eA, e1]) h⟩)
theorem tk_xLd0 {post : SX → Prop} {p A n : Nat} {s : Int32} (hs : s < 0 ∨ (¬ s < 0 ∧ nI 32 ≤ s)) (hp : p < 6) (hq : n ≤ 6) (hn : pa p ≠ nI p) (h : post (nI (tk_lv qu (nI p) n).2, pc, xc, lv, cw, cn, tk_fs st pa p, sx, upd rs p (-1), tk_cp st pa p 6, rg, me, tk_z ds (4 * p) 4, pw, pl, (tk_lv qu (nI p) n).1, ou)) : wpX_load post (nI n, pc, xc, lv, cw, cn, st, sx, rs, pa, rg, me, ds, pw, pl, qu, ou) (nI p) (nI A) s := by
  unfold wpX_load
  exact tk_xWord0 hs (br_t rfl (tk_xFin hp hq hn h))
theorem tk_xSt1 {post : SX → Prop} {p A j : Nat} (hp : p < 6) (hA : A < 24) (hj : j < 32) (h : post (ql, pc, xc, lv, cw, cn, st, sx, rs, pa, rg, upd me (32 * p + j) (rg A), ds, pw, pl, qu, ou)) : wpX_store post (ql, pc, xc, lv, cw, cn, st, sx, rs, pa, rg, me, ds, pw, pl, qu, ou) (nI p) (nI A) (nI j) := by
  have eA : (nI A).toNatClampNeg = A := nI_clamp (by omega)
  have e1 : (nI p * 32 + nI j).toNatClampNeg = 32 * p + j := by rw [tk_i5, nI_clamp (by omega)]
  unfold wpX_store
  exact tk_xWord1 hj (br_f tk_01 ⟨vp_in_nI hA (by decide), by rw [tk_i5]; exact vp_in_nI (by omega) (by decide), nm_r (e' := upd me (32 * p + j) (rg A)) (by rw [eA, e1]) h⟩)
theorem tk_xSt0 {post : SX → Prop} {p A n : Nat} {s : Int32} (hs : s < 0 ∨ (¬ s < 0 ∧ nI 32 ≤ s)) (hp : p < 6) (hq : n ≤ 6) (hn : pa p ≠ nI p) (h : post (nI (tk_lv qu (nI p) n).2, pc, xc, lv, cw, cn, tk_fs st pa p, sx, upd rs p (-1), tk_cp st pa p 6, rg, me, tk_z ds (4 * p) 4, pw, pl, (tk_lv qu (nI p) n).1, ou)) : wpX_store post (nI n, pc, xc, lv, cw, cn, st, sx, rs, pa, rg, me, ds, pw, pl, qu, ou) (nI p) (nI A) s := by
  unfold wpX_store
  exact tk_xWord0 hs (br_t rfl (tk_xFin hp hq hn h))
theorem tk_xCo0 {post : SX → Prop} {p A B : Nat} (hF : tk_F (fun j => st j = 3 ∧ pa j = nI p) 0 6 (-1)) (hA : A < 24) (h : post (ql, pc, xc, lv, cw, cn, st, sx, rs, pa, upd rg A (-1), me, ds, pw, pl, qu, ou)) : wpX_collect post (ql, pc, xc, lv, cw, cn, st, sx, rs, pa, rg, me, ds, pw, pl, qu, ou) (nI p) (nI A) (nI B) := by
  have eA : (nI A).toNatClampNeg = A := nI_clamp (by omega)
  unfold wpX_collect
  exact tk_xEnd hF (br_t rfl ⟨vp_in_nI hA (by decide), nm_r (e' := upd rg A (-1)) (by rw [eA]) h⟩)
theorem tk_xCo1 {post : SX → Prop} {p A B c : Nat} (hF : tk_F (fun j => st j = 3 ∧ pa j = nI p) 0 6 (nI c)) (hc : c < 6) (hA : A < 24) (hB : B < 24) (h : post (ql, pc, xc, lv, cw, cn, upd st c 0, sx, rs, pa, upd (upd rg A (rs c)) B (nI c), me, ds, pw, pl, qu, ou)) : wpX_collect post (ql, pc, xc, lv, cw, cn, st, sx, rs, pa, rg, me, ds, pw, pl, qu, ou) (nI p) (nI A) (nI B) := by
  have eA : (nI A).toNatClampNeg = A := nI_clamp (by omega)
  have eB : (nI B).toNatClampNeg = B := nI_clamp (by omega)
  have ec : (nI c).toNatClampNeg = c := nI_clamp (by omega)
  have vc : vp_in (nI c) 6 := vp_in_nI hc (by decide)
  unfold wpX_collect
  exact tk_xEnd hF (br_f (tk_nm1 (by omega)) ⟨vc, vp_in_nI hA (by decide), nm_r (e' := upd rg A (rs c)) (by rw [eA, ec]) ⟨vp_in_nI hB (by decide), nm_r (e' := upd (upd rg A (rs c)) B (nI c)) (by rw [eB]) ⟨vc, nm_r (e' := upd st c 0) (by rw [ec]) h⟩⟩⟩)
theorem tk_yAw0 {post : SY → Prop} {p a b : Nat} (hF : tk_F (fun j => st j = 3 ∧ pa j = nI p) 0 6 (-1)) (hp : p < 6) (ha : a < 4) (h : post (ql, xc, pc, cw, cn, st, pa, sy, upd rg (4 * p + a) (-1), ds, me, pw, pl, qu, ou)) : wpY_await post (ql, xc, pc, cw, cn, st, pa, sy, rg, ds, me, pw, pl, qu, ou) (nI p) (nI a) (nI b) := by
  have eA : (4 * nI p + nI a).toNatClampNeg = 4 * p + a := by rw [tk_i4', nI_clamp (by omega)]
  have vA : vp_in (4 * nI p + nI a) 24 := by rw [tk_i4']; exact vp_in_nI (by omega) (by decide)
  unfold wpY_await
  refine tk_yEnd (fun r hr => ?_)
  have k : ¬ 0 ≤ r := by
    rcases hr with ⟨x, _⟩ | ⟨x, _⟩
    · rw [tk_Fu 6 0 rfl x hF]; decide
    · rw [x]; decide
  exact br_f k ⟨vA, nm_r (e' := upd rg (4 * p + a) (-1)) (by rw [eA]) h⟩
theorem tk_yAw1 {post : SY → Prop} {p a b c : Nat} (hF : tk_F (fun j => st j = 3 ∧ pa j = nI p) 0 6 (nI c)) (hc : c < 6) (h3 : st c = 3) (hpc : pa c = nI p) (hp : p < 6) (ha : a < 4) (hb : b < 4) (h : post (ql, xc, pc, cw, cn, upd st c 0, pa, sy, upd (upd rg (4 * p + a) (sy c)) (4 * p + b) (nI c), ds, me, pw, pl, qu, ou)) : wpY_await post (ql, xc, pc, cw, cn, st, pa, sy, rg, ds, me, pw, pl, qu, ou) (nI p) (nI a) (nI b) := by
  have eA : (4 * nI p + nI a).toNatClampNeg = 4 * p + a := by rw [tk_i4', nI_clamp (by omega)]
  have vA : vp_in (4 * nI p + nI a) 24 := by rw [tk_i4']; exact vp_in_nI (by omega) (by decide)
  have eB : (4 * nI p + nI b).toNatClampNeg = 4 * p + b := by rw [tk_i4', nI_clamp (by omega)]
  have vB : vp_in (4 * nI p + nI b) 24 := by rw [tk_i4']; exact vp_in_nI (by omega) (by decide)
  have ec : (nI c).toNatClampNeg = c := nI_clamp (by omega)
  have vc : vp_in (nI c) 6 := vp_in_nI hc (by decide)
  unfold wpY_await
  refine tk_yEnd (fun r hr => ?_)
  have k : r = nI c := by
    rcases hr with ⟨x, _⟩ | ⟨_, x⟩
    · exact tk_Fu 6 0 rfl x hF
    · exact absurd ⟨by rw [h3]; decide, hpc⟩ (x c (Nat.zero_le _) hc)
  rw [k]
  exact br_t (nI_pos' (by omega)) ⟨vc, vA, nm_r (e' := upd rg (4 * p + a) (sy c)) (by rw [eA, ec]) ⟨vB, nm_r (e' := upd (upd rg (4 * p + a) (sy c)) (4 * p + b) (nI c)) (by rw [eB]) ⟨vc, nm_r (e' := upd st c 0) (by rw [ec]) h⟩⟩⟩
theorem tk_xPr1 {post : SX → Prop} {m : Nat} {x : Int32} (hm : m < 32) (h : post (ql, nI (m + 1), xc, lv, cw, cn, st, sx, rs, pa, rg, me, ds, pw, pl, qu, upd ou m x)) : wpX_print post (ql, nI m, xc, lv, cw, cn, st, sx, rs, pa, rg, me, ds, pw, pl, qu, ou) x := by
  have e : (nI m).toNatClampNeg = m := nI_clamp (by omega)
  exact br_f (nI_pos (by omega)) (br_f (nI_ge (b := 32) hm (by decide)) ⟨vp_in_nI hm (by decide), nm_r (e' := upd ou m x) (by rw [e]) (nm_r (nI_1 m) h)⟩)
theorem tk_xPr0 {post : SX → Prop} {m : Nat} {x : Int32} (hm : 32 ≤ m) (hm2 : m < 2 ^ 31) (h : post (ql, nI (m + 1), xc, lv, cw, cn, st, sx, rs, pa, rg, me, ds, pw, pl, qu, ou)) : wpX_print post (ql, nI m, xc, lv, cw, cn, st, sx, rs, pa, rg, me, ds, pw, pl, qu, ou) x :=
  br_f (nI_pos hm2) (br_t (nI_le (a := 32) hm hm2) (nm_r (nI_1 m) h))
theorem tk_yPr1 {post : SY → Prop} {m : Nat} {x : Int32} (hm : m < 32) (h : post (ql, xc, nI (m + 1), cw, cn, st, pa, sy, rg, ds, me, pw, pl, qu, upd ou m x)) : wpY_show post (ql, xc, nI m, cw, cn, st, pa, sy, rg, ds, me, pw, pl, qu, ou) x := by
  have e : (nI m).toNatClampNeg = m := nI_clamp (by omega)
  exact br_f (nI_ge (b := 32) hm (by decide)) ⟨vp_in_nI hm (by decide), nm_r (e' := upd ou m x) (by rw [e]) (nm_r (nI_1 m) h)⟩
theorem tk_yPr0 {post : SY → Prop} {m : Nat} {x : Int32} (hm : 32 ≤ m) (hm2 : m < 2 ^ 31) (h : post (ql, xc, nI (m + 1), cw, cn, st, pa, sy, rg, ds, me, pw, pl, qu, ou)) : wpY_show post (ql, xc, nI m, cw, cn, st, pa, sy, rg, ds, me, pw, pl, qu, ou) x :=
  br_t (nI_le (a := 32) hm hm2) (nm_r (nI_1 m) h)
theorem tk_xKo0 {post : SX → Prop} {p A B : Nat} (hA : A < 24) (hB : B < 24) (hk : rg B = nI p ∨ rg B < 0 ∨ (¬ rg B < 0 ∧ nI 6 ≤ rg B) ∨ ∃ v, v < 6 ∧ rg B = nI v ∧ ¬ (st v = 1 ∨ st v = 2)) (h : post (ql, pc, xc, lv, cw, cn, st, sx, rs, pa, upd rg A (-1), me, ds, pw, pl, qu, ou)) : wpX_killOther post (ql, pc, xc, lv, cw, cn, st, sx, rs, pa, rg, me, ds, pw, pl, qu, ou) (nI p) (nI A) (nI B) := by
  have eA : (nI A).toNatClampNeg = A := nI_clamp (by omega)
  have eB : (nI B).toNatClampNeg = B := nI_clamp (by omega)
  have vA : vp_in (nI A) 24 := vp_in_nI hA (by decide)
  have F : vp_in (nI A) 24 ∧ ∀ y : Nat → Int32, y = upd rg (nI A).toNatClampNeg (-1) → post (ql, pc, xc, lv, cw, cn, st, sx, rs, pa, y, me, ds, pw, pl, qu, ou) := ⟨vA, nm_r (e' := upd rg A (-1)) (by rw [eA]) h⟩
  refine ⟨vp_in_nI hB (by decide), nm_r (e' := rg B) (by rw [eB]) ?_⟩
  refine br_c (fun _ => F) (fun hne => ?_)
  rcases hk with k | k | k | ⟨v, hv, ev, k⟩
  · exact absurd k hne
  · exact tk_xAliveO (Or.inl k) (br_t rfl F)
  · exact tk_xAliveO (Or.inr k) (br_t rfl F)
  · rw [ev]; exact tk_xAlive0 hv k (br_t rfl F)
theorem tk_xKo1 {post : SX → Prop} {p A B v n : Nat} (hp : p < 6) (hA : A < 24) (hB : B < 24) (ev : rg B = nI v) (hv : v < 6) (hvp : v ≠ p) (hl : st v = 1 ∨ st v = 2) (hq : n ≤ 6) (hn : pa v ≠ nI v) (h : post (nI (tk_lv qu (nI v) n).2, pc, xc, lv, cw, cn, tk_fs st pa v, sx, upd rs v (-3), tk_cp st pa v 6, upd rg A 0, me, tk_z ds (4 * v) 4, pw, pl, (tk_lv qu (nI v) n).1, ou)) : wpX_killOther post (nI n, pc, xc, lv, cw, cn, st, sx, rs, pa, rg, me, ds, pw, pl, qu, ou) (nI p) (nI A) (nI B) := by
  have eA : (nI A).toNatClampNeg = A := nI_clamp (by omega)
  have eB : (nI B).toNatClampNeg = B := nI_clamp (by omega)
  have vA : vp_in (nI A) 24 := vp_in_nI hA (by decide)
  refine ⟨vp_in_nI hB (by decide), nm_r (e' := nI v) (by rw [eB]; exact ev) ?_⟩
  exact br_f (tk_ne (by omega) (by omega) hvp) (tk_xAlive1 hv hl (br_f tk_01 (tk_xFin hv hq hn ⟨vA, nm_r (e' := upd rg A 0) (by rw [eA]) h⟩)))
theorem tk_yKo0 {post : Int32 → SY → Prop} {p : Nat} {x : Int32} (hk : x = nI p ∨ x < 0 ∨ (¬ x < 0 ∧ nI 6 ≤ x) ∨ ∃ v, v < 6 ∧ x = nI v ∧ ¬ (st v = 1 ∨ st v = 2)) (h : post (-1) (ql, xc, pc, cw, cn, st, pa, sy, rg, ds, me, pw, pl, qu, ou)) : wpY_killOther post (ql, xc, pc, cw, cn, st, pa, sy, rg, ds, me, pw, pl, qu, ou) (nI p) x := by
  refine br_c (fun _ => h) (fun hne => ?_)
  rcases hk with k | k | k | ⟨v, hv, ev, k⟩
  · exact absurd k hne
  · exact tk_yLiveO (Or.inl k) (br_t rfl h)
  · exact tk_yLiveO (Or.inr k) (br_t rfl h)
  · rw [ev]; exact tk_yLive0 hv k (br_t rfl h)
theorem tk_yKo1 {post : Int32 → SY → Prop} {p v n : Nat} (hp : p < 6) (hv : v < 6) (hvp : v ≠ p) (hl : st v = 1 ∨ st v = 2) (hq : n ≤ 6) (hw : pa v = -1 ∨ ∃ j, j < 6 ∧ j ≠ v ∧ pa v = nI j) (hn : pa v ≠ nI v) (h : post 0 (nI (tk_lv qu (nI v) n).2, xc, pc, cw, cn, tk_fs st pa v, tk_cp st pa v 6, upd sy v (-3), rg, tk_z ds (4 * v) 4, me, pw, pl, (tk_lv qu (nI v) n).1, ou)) : wpY_killOther post (nI n, xc, pc, cw, cn, st, pa, sy, rg, ds, me, pw, pl, qu, ou) (nI p) (nI v) :=
  br_f (tk_ne (by omega) (by omega) hvp) (tk_yLive1 hv hl (br_f tk_01 (tk_yFin hv hq hw hn h)))
end
