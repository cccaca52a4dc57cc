section
variable {ql pc lv : Int32} {xc : Int64} {cw cn st sx sy rs pa rg me ds pw pl qu ou : Nat → Int32}
variable {Vql Vpc : Int32} {Vxc : Int64} {Vcw Vcn Vst Vpa Vsy Vrg Vds Vme Vpw Vpl Vqu Vou : Nat → Int32}
theorem tk_y330 {post : Int32 → SY → Prop} {p o : Nat} (hp : p < 6) (ho : o < 32) (h : post (if o = 20 then 0 else 1) (ql, xc, pc, cw, cn, st, pa, upd sy p (sy p + 1), rg, ds, me, pw, pl, qu, ou)) : wY_execute_330 post (nI p) (nI o) ql xc pc cw cn st pa sy rg ds me pw pl qu ou := by
  have ep : (nI p).toNatClampNeg = p := nI_clamp (by omega)
  have v6 : vp_in (nI p) 6 := vp_in_nI hp (by decide)
  refine ⟨v6, v6, nm_r (e' := upd sy p (sy p + 1)) (by rw [ep]) ?_⟩
  by_cases z : o = 20
  · rw [if_pos z] at h
    exact br_t (by rw [z]; rfl) h
  · rw [if_neg z] at h
    exact br_f (tk_ne (b := 20) (by omega) (by decide) z) h
theorem tk_yex_0 {post : Int32 → SY → Prop} {p i w a b : Nat} (hp : p < 6) (hi : i < 64) (hs : sy p = nI i) (hw : w < 512) (hc : cw i = nI w) (ha : w / 32 % 4 = a) (hb : w / 128 = b) (ho : w % 32 = 0) (H : ∀ Q : SY → Prop, Q (Vql, Vxc, Vpc, Vcw, Vcn, Vst, Vpa, Vsy, Vrg, Vds, Vme, Vpw, Vpl, Vqu, Vou) → wpY_end Q (ql, xc + 1, pc, cw, cn, st, pa, sy, rg, ds, me, pw, pl, qu, ou) (nI p) (rg (4 * p + a))) (h : post 0 (Vql, Vxc, Vpc, Vcw, Vcn, Vst, Vpa, Vsy, Vrg, Vds, Vme, Vpw, Vpl, Vqu, Vou)) : wpY_execute post (ql, xc, pc, cw, cn, st, pa, sy, rg, ds, me, pw, pl, qu, ou) (nI p) := by
  have ep : (nI p).toNatClampNeg = p := nI_clamp (by omega)
  have ei : (nI i).toNatClampNeg = i := nI_clamp (by omega)
  have ha4 : a < 4 := by omega
  have hb4 : b < 4 := by omega
  have eA : (nI (4 * p + a)).toNatClampNeg = 4 * p + a := nI_clamp (by omega)
  have eB : (4 * nI p + nI b).toNatClampNeg = 4 * p + b := by rw [tk_i4', nI_clamp (by omega)]
  have vA : vp_in (nI (4 * p + a)) 24 := vp_in_nI (by omega) (by decide)
  have vB : vp_in (4 * nI p + nI b) 24 := by rw [tk_i4']; exact vp_in_nI (by omega) (by decide)
  have v6 : vp_in (nI p) 6 := vp_in_nI hp (by decide)
  have v64 : vp_in (nI i) 64 := vp_in_nI hi (by decide)
  refine nm_e ⟨v6, ?_⟩
  rw [ep, hs]
  refine tk_yIn1 63 (by omega) (br_f tk_01 ⟨v6, v64, nm_r (e' := nI w) (by rw [ei]; exact hc) (nm_r (e' := nI 0) (by rw [tk_op hw, ho]) (nm_r (e' := nI a) (by rw [tk_wa hw, ha]) (nm_r (e' := nI b) (by rw [tk_wb' hw, hb]) ⟨v6, v64, nm_r (e' := cn i) (by rw [ei]) (nm_r (e' := nI (4 * p + a)) (tk_i4' _ _) ⟨vA, nm_r (e' := rg (4 * p + a)) (by rw [eA]) ⟨vB, nm_r (e' := rg (4 * p + b)) (by rw [eB]) ?_⟩⟩)⟩)))⟩)
  exact br_t (by decide) (H _ h)
theorem tk_yex_1 {post : Int32 → SY → Prop} {p i w a b : Nat} (hp : p < 6) (hi : i < 64) (hs : sy p = nI i) (hw : w < 512) (hc : cw i = nI w) (ha : w / 32 % 4 = a) (hb : w / 128 = b) (ho : w % 32 = 1) (h : post 1 (ql, xc + 1, pc, cw, cn, st, pa, upd sy p (sy p + 1), upd rg (4 * p + a) (tk_val 1 (rg (4 * p + a)) (rg (4 * p + b)) (cn i)), ds, me, pw, pl, qu, ou)) : wpY_execute post (ql, xc, pc, cw, cn, st, pa, sy, rg, ds, me, pw, pl, qu, ou) (nI p) := by
  have ep : (nI p).toNatClampNeg = p := nI_clamp (by omega)
  have ei : (nI i).toNatClampNeg = i := nI_clamp (by omega)
  have ha4 : a < 4 := by omega
  have hb4 : b < 4 := by omega
  have eA : (nI (4 * p + a)).toNatClampNeg = 4 * p + a := nI_clamp (by omega)
  have eB : (4 * nI p + nI b).toNatClampNeg = 4 * p + b := by rw [tk_i4', nI_clamp (by omega)]
  have vA : vp_in (nI (4 * p + a)) 24 := vp_in_nI (by omega) (by decide)
  have vB : vp_in (4 * nI p + nI b) 24 := by rw [tk_i4']; exact vp_in_nI (by omega) (by decide)
  have v6 : vp_in (nI p) 6 := vp_in_nI hp (by decide)
  have v64 : vp_in (nI i) 64 := vp_in_nI hi (by decide)
  refine nm_e ⟨v6, ?_⟩
  rw [ep, hs]
  refine tk_yIn1 63 (by omega) (br_f tk_01 ⟨v6, v64, nm_r (e' := nI w) (by rw [ei]; exact hc) (nm_r (e' := nI 1) (by rw [tk_op hw, ho]) (nm_r (e' := nI a) (by rw [tk_wa hw, ha]) (nm_r (e' := nI b) (by rw [tk_wb' hw, hb]) ⟨v6, v64, nm_r (e' := cn i) (by rw [ei]) (nm_r (e' := nI (4 * p + a)) (tk_i4' _ _) ⟨vA, nm_r (e' := rg (4 * p + a)) (by rw [eA]) ⟨vB, nm_r (e' := rg (4 * p + b)) (by rw [eB]) ?_⟩⟩)⟩)))⟩)
  exact br_f (by decide) (br_t (by decide) (br_f (by decide) (br_f (by decide) ((br_f (by decide) (br_f (by decide) (br_f (by decide) (tk_ySi (by decide) (by decide) ⟨vA, nm_r (e' := upd rg (4 * p + a) (tk_val 1 (rg (4 * p + a)) (rg (4 * p + b)) (cn i))) (by rw [eA]) (tk_y330 hp (by decide) h)⟩))))))))
theorem tk_yex_2 {post : Int32 → SY → Prop} {p i w a b : Nat} (hp : p < 6) (hi : i < 64) (hs : sy p = nI i) (hw : w < 512) (hc : cw i = nI w) (ha : w / 32 % 4 = a) (hb : w / 128 = b) (ho : w % 32 = 2) (h : post 1 (ql, xc + 1, pc, cw, cn, st, pa, upd sy p (sy p + 1), upd rg (4 * p + a) (tk_val 2 (rg (4 * p + a)) (rg (4 * p + b)) (cn i)), ds, me, pw, pl, qu, ou)) : wpY_execute post (ql, xc, pc, cw, cn, st, pa, sy, rg, ds, me, pw, pl, qu, ou) (nI p) := by
  have ep : (nI p).toNatClampNeg = p := nI_clamp (by omega)
  have ei : (nI i).toNatClampNeg = i := nI_clamp (by omega)
  have ha4 : a < 4 := by omega
  have hb4 : b < 4 := by omega
  have eA : (nI (4 * p + a)).toNatClampNeg = 4 * p + a := nI_clamp (by omega)
  have eB : (4 * nI p + nI b).toNatClampNeg = 4 * p + b := by rw [tk_i4', nI_clamp (by omega)]
  have vA : vp_in (nI (4 * p + a)) 24 := vp_in_nI (by omega) (by decide)
  have vB : vp_in (4 * nI p + nI b) 24 := by rw [tk_i4']; exact vp_in_nI (by omega) (by decide)
  have v6 : vp_in (nI p) 6 := vp_in_nI hp (by decide)
  have v64 : vp_in (nI i) 64 := vp_in_nI hi (by decide)
  refine nm_e ⟨v6, ?_⟩
  rw [ep, hs]
  refine tk_yIn1 63 (by omega) (br_f tk_01 ⟨v6, v64, nm_r (e' := nI w) (by rw [ei]; exact hc) (nm_r (e' := nI 2) (by rw [tk_op hw, ho]) (nm_r (e' := nI a) (by rw [tk_wa hw, ha]) (nm_r (e' := nI b) (by rw [tk_wb' hw, hb]) ⟨v6, v64, nm_r (e' := cn i) (by rw [ei]) (nm_r (e' := nI (4 * p + a)) (tk_i4' _ _) ⟨vA, nm_r (e' := rg (4 * p + a)) (by rw [eA]) ⟨vB, nm_r (e' := rg (4 * p + b)) (by rw [eB]) ?_⟩⟩)⟩)))⟩)
  exact br_f (by decide) (br_t (by decide) (br_f (by decide) (br_f (by decide) ((br_f (by decide) (br_f (by decide) (br_f (by decide) (tk_ySi (by decide) (by decide) ⟨vA, nm_r (e' := upd rg (4 * p + a) (tk_val 2 (rg (4 * p + a)) (rg (4 * p + b)) (cn i))) (by rw [eA]) (tk_y330 hp (by decide) h)⟩))))))))
theorem tk_yex_3 {post : Int32 → SY → Prop} {p i w a b : Nat} (hp : p < 6) (hi : i < 64) (hs : sy p = nI i) (hw : w < 512) (hc : cw i = nI w) (ha : w / 32 % 4 = a) (hb : w / 128 = b) (ho : w % 32 = 3) (h : post 1 (ql, xc + 1, pc, cw, cn, st, pa, upd sy p (sy p + 1), upd rg (4 * p + a) (tk_val 3 (rg (4 * p + a)) (rg (4 * p + b)) (cn i)), ds, me, pw, pl, qu, ou)) : wpY_execute post (ql, xc, pc, cw, cn, st, pa, sy, rg, ds, me, pw, pl, qu, ou) (nI p) := by
  have ep : (nI p).toNatClampNeg = p := nI_clamp (by omega)
  have ei : (nI i).toNatClampNeg = i := nI_clamp (by omega)
  have ha4 : a < 4 := by omega
  have hb4 : b < 4 := by omega
  have eA : (nI (4 * p + a)).toNatClampNeg = 4 * p + a := nI_clamp (by omega)
  have eB : (4 * nI p + nI b).toNatClampNeg = 4 * p + b := by rw [tk_i4', nI_clamp (by omega)]
  have vA : vp_in (nI (4 * p + a)) 24 := vp_in_nI (by omega) (by decide)
  have vB : vp_in (4 * nI p + nI b) 24 := by rw [tk_i4']; exact vp_in_nI (by omega) (by decide)
  have v6 : vp_in (nI p) 6 := vp_in_nI hp (by decide)
  have v64 : vp_in (nI i) 64 := vp_in_nI hi (by decide)
  refine nm_e ⟨v6, ?_⟩
  rw [ep, hs]
  refine tk_yIn1 63 (by omega) (br_f tk_01 ⟨v6, v64, nm_r (e' := nI w) (by rw [ei]; exact hc) (nm_r (e' := nI 3) (by rw [tk_op hw, ho]) (nm_r (e' := nI a) (by rw [tk_wa hw, ha]) (nm_r (e' := nI b) (by rw [tk_wb' hw, hb]) ⟨v6, v64, nm_r (e' := cn i) (by rw [ei]) (nm_r (e' := nI (4 * p + a)) (tk_i4' _ _) ⟨vA, nm_r (e' := rg (4 * p + a)) (by rw [eA]) ⟨vB, nm_r (e' := rg (4 * p + b)) (by rw [eB]) ?_⟩⟩)⟩)))⟩)
  exact br_f (by decide) (br_t (by decide) (br_f (by decide) (br_f (by decide) ((br_f (by decide) (br_f (by decide) (br_f (by decide) (tk_ySi (by decide) (by decide) ⟨vA, nm_r (e' := upd rg (4 * p + a) (tk_val 3 (rg (4 * p + a)) (rg (4 * p + b)) (cn i))) (by rw [eA]) (tk_y330 hp (by decide) h)⟩))))))))
theorem tk_yex_4 {post : Int32 → SY → Prop} {p i w a b : Nat} (hp : p < 6) (hi : i < 64) (hs : sy p = nI i) (hw : w < 512) (hc : cw i = nI w) (ha : w / 32 % 4 = a) (hb : w / 128 = b) (ho : w % 32 = 4) (h : post 1 (ql, xc + 1, pc, cw, cn, st, pa, upd sy p (sy p + 1), upd rg (4 * p + a) (tk_val 4 (rg (4 * p + a)) (rg (4 * p + b)) (cn i)), ds, me, pw, pl, qu, ou)) : wpY_execute post (ql, xc, pc, cw, cn, st, pa, sy, rg, ds, me, pw, pl, qu, ou) (nI p) := by
  have ep : (nI p).toNatClampNeg = p := nI_clamp (by omega)
  have ei : (nI i).toNatClampNeg = i := nI_clamp (by omega)
  have ha4 : a < 4 := by omega
  have hb4 : b < 4 := by omega
  have eA : (nI (4 * p + a)).toNatClampNeg = 4 * p + a := nI_clamp (by omega)
  have eB : (4 * nI p + nI b).toNatClampNeg = 4 * p + b := by rw [tk_i4', nI_clamp (by omega)]
  have vA : vp_in (nI (4 * p + a)) 24 := vp_in_nI (by omega) (by decide)
  have vB : vp_in (4 * nI p + nI b) 24 := by rw [tk_i4']; exact vp_in_nI (by omega) (by decide)
  have v6 : vp_in (nI p) 6 := vp_in_nI hp (by decide)
  have v64 : vp_in (nI i) 64 := vp_in_nI hi (by decide)
  refine nm_e ⟨v6, ?_⟩
  rw [ep, hs]
  refine tk_yIn1 63 (by omega) (br_f tk_01 ⟨v6, v64, nm_r (e' := nI w) (by rw [ei]; exact hc) (nm_r (e' := nI 4) (by rw [tk_op hw, ho]) (nm_r (e' := nI a) (by rw [tk_wa hw, ha]) (nm_r (e' := nI b) (by rw [tk_wb' hw, hb]) ⟨v6, v64, nm_r (e' := cn i) (by rw [ei]) (nm_r (e' := nI (4 * p + a)) (tk_i4' _ _) ⟨vA, nm_r (e' := rg (4 * p + a)) (by rw [eA]) ⟨vB, nm_r (e' := rg (4 * p + b)) (by rw [eB]) ?_⟩⟩)⟩)))⟩)
  exact br_f (by decide) (br_t (by decide) (br_f (by decide) (br_f (by decide) ((br_f (by decide) (br_f (by decide) (br_f (by decide) (tk_ySi (by decide) (by decide) ⟨vA, nm_r (e' := upd rg (4 * p + a) (tk_val 4 (rg (4 * p + a)) (rg (4 * p + b)) (cn i))) (by rw [eA]) (tk_y330 hp (by decide) h)⟩))))))))
theorem tk_yex_5 {post : Int32 → SY → Prop} {p i w a b : Nat} (hp : p < 6) (hi : i < 64) (hs : sy p = nI i) (hw : w < 512) (hc : cw i = nI w) (ha : w / 32 % 4 = a) (hb : w / 128 = b) (ho : w % 32 = 5) (h : post 1 (ql, xc + 1, pc, cw, cn, st, pa, upd sy p (sy p + 1), upd rg (4 * p + a) (tk_val 5 (rg (4 * p + a)) (rg (4 * p + b)) (cn i)), ds, me, pw, pl, qu, ou)) : wpY_execute post (ql, xc, pc, cw, cn, st, pa, sy, rg, ds, me, pw, pl, qu, ou) (nI p) := by
  have ep : (nI p).toNatClampNeg = p := nI_clamp (by omega)
  have ei : (nI i).toNatClampNeg = i := nI_clamp (by omega)
  have ha4 : a < 4 := by omega
  have hb4 : b < 4 := by omega
  have eA : (nI (4 * p + a)).toNatClampNeg = 4 * p + a := nI_clamp (by omega)
  have eB : (4 * nI p + nI b).toNatClampNeg = 4 * p + b := by rw [tk_i4', nI_clamp (by omega)]
  have vA : vp_in (nI (4 * p + a)) 24 := vp_in_nI (by omega) (by decide)
  have vB : vp_in (4 * nI p + nI b) 24 := by rw [tk_i4']; exact vp_in_nI (by omega) (by decide)
  have v6 : vp_in (nI p) 6 := vp_in_nI hp (by decide)
  have v64 : vp_in (nI i) 64 := vp_in_nI hi (by decide)
  refine nm_e ⟨v6, ?_⟩
  rw [ep, hs]
  refine tk_yIn1 63 (by omega) (br_f tk_01 ⟨v6, v64, nm_r (e' := nI w) (by rw [ei]; exact hc) (nm_r (e' := nI 5) (by rw [tk_op hw, ho]) (nm_r (e' := nI a) (by rw [tk_wa hw, ha]) (nm_r (e' := nI b) (by rw [tk_wb' hw, hb]) ⟨v6, v64, nm_r (e' := cn i) (by rw [ei]) (nm_r (e' := nI (4 * p + a)) (tk_i4' _ _) ⟨vA, nm_r (e' := rg (4 * p + a)) (by rw [eA]) ⟨vB, nm_r (e' := rg (4 * p + b)) (by rw [eB]) ?_⟩⟩)⟩)))⟩)
  exact br_f (by decide) (br_t (by decide) (br_f (by decide) (br_f (by decide) ((br_f (by decide) (br_f (by decide) (br_f (by decide) (tk_ySi (by decide) (by decide) ⟨vA, nm_r (e' := upd rg (4 * p + a) (tk_val 5 (rg (4 * p + a)) (rg (4 * p + b)) (cn i))) (by rw [eA]) (tk_y330 hp (by decide) h)⟩))))))))
theorem tk_yex_6 {post : Int32 → SY → Prop} {p i w a b : Nat} (hp : p < 6) (hi : i < 64) (hs : sy p = nI i) (hw : w < 512) (hc : cw i = nI w) (ha : w / 32 % 4 = a) (hb : w / 128 = b) (ho : w % 32 = 6) (h : post 1 (ql, xc + 1, pc, cw, cn, st, pa, upd sy p (sy p + 1), upd rg (4 * p + a) (tk_val 6 (rg (4 * p + a)) (rg (4 * p + b)) (cn i)), ds, me, pw, pl, qu, ou)) : wpY_execute post (ql, xc, pc, cw, cn, st, pa, sy, rg, ds, me, pw, pl, qu, ou) (nI p) := by
  have ep : (nI p).toNatClampNeg = p := nI_clamp (by omega)
  have ei : (nI i).toNatClampNeg = i := nI_clamp (by omega)
  have ha4 : a < 4 := by omega
  have hb4 : b < 4 := by omega
  have eA : (nI (4 * p + a)).toNatClampNeg = 4 * p + a := nI_clamp (by omega)
  have eB : (4 * nI p + nI b).toNatClampNeg = 4 * p + b := by rw [tk_i4', nI_clamp (by omega)]
  have vA : vp_in (nI (4 * p + a)) 24 := vp_in_nI (by omega) (by decide)
  have vB : vp_in (4 * nI p + nI b) 24 := by rw [tk_i4']; exact vp_in_nI (by omega) (by decide)
  have v6 : vp_in (nI p) 6 := vp_in_nI hp (by decide)
  have v64 : vp_in (nI i) 64 := vp_in_nI hi (by decide)
  refine nm_e ⟨v6, ?_⟩
  rw [ep, hs]
  refine tk_yIn1 63 (by omega) (br_f tk_01 ⟨v6, v64, nm_r (e' := nI w) (by rw [ei]; exact hc) (nm_r (e' := nI 6) (by rw [tk_op hw, ho]) (nm_r (e' := nI a) (by rw [tk_wa hw, ha]) (nm_r (e' := nI b) (by rw [tk_wb' hw, hb]) ⟨v6, v64, nm_r (e' := cn i) (by rw [ei]) (nm_r (e' := nI (4 * p + a)) (tk_i4' _ _) ⟨vA, nm_r (e' := rg (4 * p + a)) (by rw [eA]) ⟨vB, nm_r (e' := rg (4 * p + b)) (by rw [eB]) ?_⟩⟩)⟩)))⟩)
  exact br_f (by decide) (br_t (by decide) (br_f (by decide) (br_f (by decide) ((br_f (by decide) (br_f (by decide) (br_f (by decide) (tk_ySi (by decide) (by decide) ⟨vA, nm_r (e' := upd rg (4 * p + a) (tk_val 6 (rg (4 * p + a)) (rg (4 * p + b)) (cn i))) (by rw [eA]) (tk_y330 hp (by decide) h)⟩))))))))
theorem tk_yex_7 {post : Int32 → SY → Prop} {p i w a b : Nat} (hp : p < 6) (hi : i < 64) (hs : sy p = nI i) (hw : w < 512) (hc : cw i = nI w) (ha : w / 32 % 4 = a) (hb : w / 128 = b) (ho : w % 32 = 7) (h : post 1 (ql, xc + 1, pc, cw, cn, st, pa, upd sy p (sy p + 1), upd rg (4 * p + a) (tk_val 7 (rg (4 * p + a)) (rg (4 * p + b)) (cn i)), ds, me, pw, pl, qu, ou)) : wpY_execute post (ql, xc, pc, cw, cn, st, pa, sy, rg, ds, me, pw, pl, qu, ou) (nI p) := by
  have ep : (nI p).toNatClampNeg = p := nI_clamp (by omega)
  have ei : (nI i).toNatClampNeg = i := nI_clamp (by omega)
  have ha4 : a < 4 := by omega
  have hb4 : b < 4 := by omega
  have eA : (nI (4 * p + a)).toNatClampNeg = 4 * p + a := nI_clamp (by omega)
  have eB : (4 * nI p + nI b).toNatClampNeg = 4 * p + b := by rw [tk_i4', nI_clamp (by omega)]
  have vA : vp_in (nI (4 * p + a)) 24 := vp_in_nI (by omega) (by decide)
  have vB : vp_in (4 * nI p + nI b) 24 := by rw [tk_i4']; exact vp_in_nI (by omega) (by decide)
  have v6 : vp_in (nI p) 6 := vp_in_nI hp (by decide)
  have v64 : vp_in (nI i) 64 := vp_in_nI hi (by decide)
  refine nm_e ⟨v6, ?_⟩
  rw [ep, hs]
  refine tk_yIn1 63 (by omega) (br_f tk_01 ⟨v6, v64, nm_r (e' := nI w) (by rw [ei]; exact hc) (nm_r (e' := nI 7) (by rw [tk_op hw, ho]) (nm_r (e' := nI a) (by rw [tk_wa hw, ha]) (nm_r (e' := nI b) (by rw [tk_wb' hw, hb]) ⟨v6, v64, nm_r (e' := cn i) (by rw [ei]) (nm_r (e' := nI (4 * p + a)) (tk_i4' _ _) ⟨vA, nm_r (e' := rg (4 * p + a)) (by rw [eA]) ⟨vB, nm_r (e' := rg (4 * p + b)) (by rw [eB]) ?_⟩⟩)⟩)))⟩)
  exact br_f (by decide) (br_t (by decide) (br_f (by decide) (br_f (by decide) ((br_f (by decide) (br_f (by decide) (br_f (by decide) (tk_ySi (by decide) (by decide) ⟨vA, nm_r (e' := upd rg (4 * p + a) (tk_val 7 (rg (4 * p + a)) (rg (4 * p + b)) (cn i))) (by rw [eA]) (tk_y330 hp (by decide) h)⟩))))))))
theorem tk_yex_8 {post : Int32 → SY → Prop} {p i w a b : Nat} (hp : p < 6) (hi : i < 64) (hs : sy p = nI i) (hw : w < 512) (hc : cw i = nI w) (ha : w / 32 % 4 = a) (hb : w / 128 = b) (ho : w % 32 = 8) {j : Nat} (hj : rg (4 * p + b) + cn i = nI j) (hj32 : j < 32) (h : post 1 (ql, xc + 1, pc, cw, cn, st, pa, upd sy p (sy p + 1), upd rg (4 * p + a) (me (32 * p + j)), ds, me, pw, pl, qu, ou)) : wpY_execute post (ql, xc, pc, cw, cn, st, pa, sy, rg, ds, me, pw, pl, qu, ou) (nI p) := by
  have ep : (nI p).toNatClampNeg = p := nI_clamp (by omega)
  have ei : (nI i).toNatClampNeg = i := nI_clamp (by omega)
  have ha4 : a < 4 := by omega
  have hb4 : b < 4 := by omega
  have eA : (nI (4 * p + a)).toNatClampNeg = 4 * p + a := nI_clamp (by omega)
  have eB : (4 * nI p + nI b).toNatClampNeg = 4 * p + b := by rw [tk_i4', nI_clamp (by omega)]
  have vA : vp_in (nI (4 * p + a)) 24 := vp_in_nI (by omega) (by decide)
  have vB : vp_in (4 * nI p + nI b) 24 := by rw [tk_i4']; exact vp_in_nI (by omega) (by decide)
  have v6 : vp_in (nI p) 6 := vp_in_nI hp (by decide)
  have v64 : vp_in (nI i) 64 := vp_in_nI hi (by decide)
  refine nm_e ⟨v6, ?_⟩
  rw [ep, hs]
  refine tk_yIn1 63 (by omega) (br_f tk_01 ⟨v6, v64, nm_r (e' := nI w) (by rw [ei]; exact hc) (nm_r (e' := nI 8) (by rw [tk_op hw, ho]) (nm_r (e' := nI a) (by rw [tk_wa hw, ha]) (nm_r (e' := nI b) (by rw [tk_wb' hw, hb]) ⟨v6, v64, nm_r (e' := cn i) (by rw [ei]) (nm_r (e' := nI (4 * p + a)) (tk_i4' _ _) ⟨vA, nm_r (e' := rg (4 * p + a)) (by rw [eA]) ⟨vB, nm_r (e' := rg (4 * p + b)) (by rw [eB]) ?_⟩⟩)⟩)))⟩)
  have i5 : 32 * nI p + rg (4 * p + b) + cn i = nI (32 * p + j) := by rw [Int32.add_assoc, hj, tk_i5']
  have e5 : (32 * nI p + rg (4 * p + b) + cn i).toNatClampNeg = 32 * p + j := by rw [i5, nI_clamp (by omega)]
  have v5 : vp_in (32 * nI p + rg (4 * p + b) + cn i) 192 := by rw [i5]; exact vp_in_nI (by omega) (by decide)
  refine br_f (by decide) (br_t (by decide) (br_t (by decide) ?_))
  show wpY_in _ _ (rg (4 * p + b) + cn i) 0 31
  rw [hj]
  exact tk_yIn1 31 (by omega) (br_f tk_01 (br_t (by decide) ⟨v5, vA, nm_r (e' := upd rg (4 * p + a) (me (32 * p + j))) (by rw [eA, e5]) (tk_y330 hp (by decide) h)⟩))
theorem tk_yex_9 {post : Int32 → SY → Prop} {p i w a b : Nat} (hp : p < 6) (hi : i < 64) (hs : sy p = nI i) (hw : w < 512) (hc : cw i = nI w) (ha : w / 32 % 4 = a) (hb : w / 128 = b) (ho : w % 32 = 9) {j : Nat} (hj : rg (4 * p + b) + cn i = nI j) (hj32 : j < 32) (h : post 1 (ql, xc + 1, pc, cw, cn, st, pa, upd sy p (sy p + 1), rg, ds, upd me (32 * p + j) (rg (4 * p + a)), pw, pl, qu, ou)) : wpY_execute post (ql, xc, pc, cw, cn, st, pa, sy, rg, ds, me, pw, pl, qu, ou) (nI p) := by
  have ep : (nI p).toNatClampNeg = p := nI_clamp (by omega)
  have ei : (nI i).toNatClampNeg = i := nI_clamp (by omega)
  have ha4 : a < 4 := by omega
  have hb4 : b < 4 := by omega
  have eA : (nI (4 * p + a)).toNatClampNeg = 4 * p + a := nI_clamp (by omega)
  have eB : (4 * nI p + nI b).toNatClampNeg = 4 * p + b := by rw [tk_i4', nI_clamp (by omega)]
  have vA : vp_in (nI (4 * p + a)) 24 := vp_in_nI (by omega) (by decide)
  have vB : vp_in (4 * nI p + nI b) 24 := by rw [tk_i4']; exact vp_in_nI (by omega) (by decide)
  have v6 : vp_in (nI p) 6 := vp_in_nI hp (by decide)
  have v64 : vp_in (nI i) 64 := vp_in_nI hi (by decide)
  refine nm_e ⟨v6, ?_⟩
  rw [ep, hs]
  refine tk_yIn1 63 (by omega) (br_f tk_01 ⟨v6, v64, nm_r (e' := nI w) (by rw [ei]; exact hc) (nm_r (e' := nI 9) (by rw [tk_op hw, ho]) (nm_r (e' := nI a) (by rw [tk_wa hw, ha]) (nm_r (e' := nI b) (by rw [tk_wb' hw, hb]) ⟨v6, v64, nm_r (e' := cn i) (by rw [ei]) (nm_r (e' := nI (4 * p + a)) (tk_i4' _ _) ⟨vA, nm_r (e' := rg (4 * p + a)) (by rw [eA]) ⟨vB, nm_r (e' := rg (4 * p + b)) (by rw [eB]) ?_⟩⟩)⟩)))⟩)
  have i5 : 32 * nI p + rg (4 * p + b) + cn i = nI (32 * p + j) := by rw [Int32.add_assoc, hj, tk_i5']
  have e5 : (32 * nI p + rg (4 * p + b) + cn i).toNatClampNeg = 32 * p + j := by rw [i5, nI_clamp (by omega)]
  have v5 : vp_in (32 * nI p + rg (4 * p + b) + cn i) 192 := by rw [i5]; exact vp_in_nI (by omega) (by decide)
  refine br_f (by decide) (br_t (by decide) (br_f (by decide) (br_t (by decide) ?_)))
  show wpY_in _ _ (rg (4 * p + b) + cn i) 0 31
  rw [hj]
  exact tk_yIn1 31 (by omega) (br_f tk_01 (br_f (by decide) (br_t (by decide) ⟨v5, nm_r (e' := upd me (32 * p + j) (rg (4 * p + a))) (by rw [e5]) (tk_y330 hp (by decide) h)⟩)))
theorem tk_yex_8o {post : Int32 → SY → Prop} {p i w a b : Nat} (hp : p < 6) (hi : i < 64) (hs : sy p = nI i) (hw : w < 512) (hc : cw i = nI w) (ha : w / 32 % 4 = a) (hb : w / 128 = b) (ho : w % 32 = 8) (hj : rg (4 * p + b) + cn i < 0 ∨ (¬ rg (4 * p + b) + cn i < 0 ∧ nI 32 ≤ rg (4 * p + b) + cn i)) (H : ∀ Q : SY → Prop, Q (Vql, Vxc, Vpc, Vcw, Vcn, Vst, Vpa, Vsy, Vrg, Vds, Vme, Vpw, Vpl, Vqu, Vou) → wpY_end Q (ql, xc + 1, pc, cw, cn, st, pa, sy, rg, ds, me, pw, pl, qu, ou) (nI p) (-1)) (h : post 0 (Vql, Vxc, Vpc, Vcw, Vcn, Vst, Vpa, Vsy, Vrg, Vds, Vme, Vpw, Vpl, Vqu, Vou)) : wpY_execute post (ql, xc, pc, cw, cn, st, pa, sy, rg, ds, me, pw, pl, qu, ou) (nI p) := by
  have ep : (nI p).toNatClampNeg = p := nI_clamp (by omega)
  have ei : (nI i).toNatClampNeg = i := nI_clamp (by omega)
  have ha4 : a < 4 := by omega
  have hb4 : b < 4 := by omega
  have eA : (nI (4 * p + a)).toNatClampNeg = 4 * p + a := nI_clamp (by omega)
  have eB : (4 * nI p + nI b).toNatClampNeg = 4 * p + b := by rw [tk_i4', nI_clamp (by omega)]
  have vA : vp_in (nI (4 * p + a)) 24 := vp_in_nI (by omega) (by decide)
  have vB : vp_in (4 * nI p + nI b) 24 := by rw [tk_i4']; exact vp_in_nI (by omega) (by decide)
  have v6 : vp_in (nI p) 6 := vp_in_nI hp (by decide)
  have v64 : vp_in (nI i) 64 := vp_in_nI hi (by decide)
  refine nm_e ⟨v6, ?_⟩
  rw [ep, hs]
  refine tk_yIn1 63 (by omega) (br_f tk_01 ⟨v6, v64, nm_r (e' := nI w) (by rw [ei]; exact hc) (nm_r (e' := nI 8) (by rw [tk_op hw, ho]) (nm_r (e' := nI a) (by rw [tk_wa hw, ha]) (nm_r (e' := nI b) (by rw [tk_wb' hw, hb]) ⟨v6, v64, nm_r (e' := cn i) (by rw [ei]) (nm_r (e' := nI (4 * p + a)) (tk_i4' _ _) ⟨vA, nm_r (e' := rg (4 * p + a)) (by rw [eA]) ⟨vB, nm_r (e' := rg (4 * p + b)) (by rw [eB]) ?_⟩⟩)⟩)))⟩)
  refine br_f (by decide) (br_t (by decide) (br_t (by decide) ?_))
  show wpY_in _ _ (rg (4 * p + b) + cn i) 0 31
  exact tk_yIn0 31 hj (br_t rfl (H _ h))
theorem tk_yex_9o {post : Int32 → SY → Prop} {p i w a b : Nat} (hp : p < 6) (hi : i < 64) (hs : sy p = nI i) (hw : w < 512) (hc : cw i = nI w) (ha : w / 32 % 4 = a) (hb : w / 128 = b) (ho : w % 32 = 9) (hj : rg (4 * p + b) + cn i < 0 ∨ (¬ rg (4 * p + b) + cn i < 0 ∧ nI 32 ≤ rg (4 * p + b) + cn i)) (H : ∀ Q : SY → Prop, Q (Vql, Vxc, Vpc, Vcw, Vcn, Vst, Vpa, Vsy, Vrg, Vds, Vme, Vpw, Vpl, Vqu, Vou) → wpY_end Q (ql, xc + 1, pc, cw, cn, st, pa, sy, rg, ds, me, pw, pl, qu, ou) (nI p) (-1)) (h : post 0 (Vql, Vxc, Vpc, Vcw, Vcn, Vst, Vpa, Vsy, Vrg, Vds, Vme, Vpw, Vpl, Vqu, Vou)) : wpY_execute post (ql, xc, pc, cw, cn, st, pa, sy, rg, ds, me, pw, pl, qu, ou) (nI p) := by
  have ep : (nI p).toNatClampNeg = p := nI_clamp (by omega)
  have ei : (nI i).toNatClampNeg = i := nI_clamp (by omega)
  have ha4 : a < 4 := by omega
  have hb4 : b < 4 := by omega
  have eA : (nI (4 * p + a)).toNatClampNeg = 4 * p + a := nI_clamp (by omega)
  have eB : (4 * nI p + nI b).toNatClampNeg = 4 * p + b := by rw [tk_i4', nI_clamp (by omega)]
  have vA : vp_in (nI (4 * p + a)) 24 := vp_in_nI (by omega) (by decide)
  have vB : vp_in (4 * nI p + nI b) 24 := by rw [tk_i4']; exact vp_in_nI (by omega) (by decide)
  have v6 : vp_in (nI p) 6 := vp_in_nI hp (by decide)
  have v64 : vp_in (nI i) 64 := vp_in_nI hi (by decide)
  refine nm_e ⟨v6, ?_⟩
  rw [ep, hs]
  refine tk_yIn1 63 (by omega) (br_f tk_01 ⟨v6, v64, nm_r (e' := nI w) (by rw [ei]; exact hc) (nm_r (e' := nI 9) (by rw [tk_op hw, ho]) (nm_r (e' := nI a) (by rw [tk_wa hw, ha]) (nm_r (e' := nI b) (by rw [tk_wb' hw, hb]) ⟨v6, v64, nm_r (e' := cn i) (by rw [ei]) (nm_r (e' := nI (4 * p + a)) (tk_i4' _ _) ⟨vA, nm_r (e' := rg (4 * p + a)) (by rw [eA]) ⟨vB, nm_r (e' := rg (4 * p + b)) (by rw [eB]) ?_⟩⟩)⟩)))⟩)
  refine br_f (by decide) (br_t (by decide) (br_f (by decide) (br_t (by decide) ?_)))
  show wpY_in _ _ (rg (4 * p + b) + cn i) 0 31
  exact tk_yIn0 31 hj (br_t rfl (H _ h))
theorem tk_yex_11 {post : Int32 → SY → Prop} {p i w a b : Nat} (hp : p < 6) (hi : i < 64) (hs : sy p = nI i) (hw : w < 512) (hc : cw i = nI w) (ha : w / 32 % 4 = a) (hb : w / 128 = b) (ho : w % 32 = 11) (h : post 1 (ql, xc + 1, pc, cw, cn, st, pa, upd sy p (cn i), rg, ds, me, pw, pl, qu, ou)) : wpY_execute post (ql, xc, pc, cw, cn, st, pa, sy, rg, ds, me, pw, pl, qu, ou) (nI p) := by
  have ep : (nI p).toNatClampNeg = p := nI_clamp (by omega)
  have ei : (nI i).toNatClampNeg = i := nI_clamp (by omega)
  have ha4 : a < 4 := by omega
  have hb4 : b < 4 := by omega
  have eA : (nI (4 * p + a)).toNatClampNeg = 4 * p + a := nI_clamp (by omega)
  have eB : (4 * nI p + nI b).toNatClampNeg = 4 * p + b := by rw [tk_i4', nI_clamp (by omega)]
  have vA : vp_in (nI (4 * p + a)) 24 := vp_in_nI (by omega) (by decide)
  have vB : vp_in (4 * nI p + nI b) 24 := by rw [tk_i4']; exact vp_in_nI (by omega) (by decide)
  have v6 : vp_in (nI p) 6 := vp_in_nI hp (by decide)
  have v64 : vp_in (nI i) 64 := vp_in_nI hi (by decide)
  refine nm_e ⟨v6, ?_⟩
  rw [ep, hs]
  refine tk_yIn1 63 (by omega) (br_f tk_01 ⟨v6, v64, nm_r (e' := nI w) (by rw [ei]; exact hc) (nm_r (e' := nI 11) (by rw [tk_op hw, ho]) (nm_r (e' := nI a) (by rw [tk_wa hw, ha]) (nm_r (e' := nI b) (by rw [tk_wb' hw, hb]) ⟨v6, v64, nm_r (e' := cn i) (by rw [ei]) (nm_r (e' := nI (4 * p + a)) (tk_i4' _ _) ⟨vA, nm_r (e' := rg (4 * p + a)) (by rw [eA]) ⟨vB, nm_r (e' := rg (4 * p + b)) (by rw [eB]) ?_⟩⟩)⟩)))⟩)
  exact br_f (by decide) (br_f (by decide) (br_f (by decide) (br_t (by decide) (br_f tk_01 ⟨v6, nm_r (e' := upd sy p (cn i)) (by rw [ep]) h⟩))))
theorem tk_yex_10t {post : Int32 → SY → Prop} {p i w a b : Nat} (hp : p < 6) (hi : i < 64) (hs : sy p = nI i) (hw : w < 512) (hc : cw i = nI w) (ha : w / 32 % 4 = a) (hb : w / 128 = b) (ho : w % 32 = 10) (z : rg (4 * p + a) = 0) (h : post 1 (ql, xc + 1, pc, cw, cn, st, pa, upd sy p (cn i), rg, ds, me, pw, pl, qu, ou)) : wpY_execute post (ql, xc, pc, cw, cn, st, pa, sy, rg, ds, me, pw, pl, qu, ou) (nI p) := by
  have ep : (nI p).toNatClampNeg = p := nI_clamp (by omega)
  have ei : (nI i).toNatClampNeg = i := nI_clamp (by omega)
  have ha4 : a < 4 := by omega
  have hb4 : b < 4 := by omega
  have eA : (nI (4 * p + a)).toNatClampNeg = 4 * p + a := nI_clamp (by omega)
  have eB : (4 * nI p + nI b).toNatClampNeg = 4 * p + b := by rw [tk_i4', nI_clamp (by omega)]
  have vA : vp_in (nI (4 * p + a)) 24 := vp_in_nI (by omega) (by decide)
  have vB : vp_in (4 * nI p + nI b) 24 := by rw [tk_i4']; exact vp_in_nI (by omega) (by decide)
  have v6 : vp_in (nI p) 6 := vp_in_nI hp (by decide)
  have v64 : vp_in (nI i) 64 := vp_in_nI hi (by decide)
  refine nm_e ⟨v6, ?_⟩
  rw [ep, hs]
  refine tk_yIn1 63 (by omega) (br_f tk_01 ⟨v6, v64, nm_r (e' := nI w) (by rw [ei]; exact hc) (nm_r (e' := nI 10) (by rw [tk_op hw, ho]) (nm_r (e' := nI a) (by rw [tk_wa hw, ha]) (nm_r (e' := nI b) (by rw [tk_wb' hw, hb]) ⟨v6, v64, nm_r (e' := cn i) (by rw [ei]) (nm_r (e' := nI (4 * p + a)) (tk_i4' _ _) ⟨vA, nm_r (e' := rg (4 * p + a)) (by rw [eA]) ⟨vB, nm_r (e' := rg (4 * p + b)) (by rw [eB]) ?_⟩⟩)⟩)))⟩)
  exact br_f (by decide) (br_f (by decide) (br_f (by decide) (br_f (by decide) (br_t z (br_t (by decide) (br_t rfl (br_f tk_01 ⟨v6, nm_r (e' := upd sy p (cn i)) (by rw [ep]) h⟩)))))))
theorem tk_yex_10f {post : Int32 → SY → Prop} {p i w a b : Nat} (hp : p < 6) (hi : i < 64) (hs : sy p = nI i) (hw : w < 512) (hc : cw i = nI w) (ha : w / 32 % 4 = a) (hb : w / 128 = b) (ho : w % 32 = 10) (z : ¬ rg (4 * p + a) = 0) (h : post 1 (ql, xc + 1, pc, cw, cn, st, pa, upd sy p (sy p + 1), rg, ds, me, pw, pl, qu, ou)) : wpY_execute post (ql, xc, pc, cw, cn, st, pa, sy, rg, ds, me, pw, pl, qu, ou) (nI p) := by
  have ep : (nI p).toNatClampNeg = p := nI_clamp (by omega)
  have ei : (nI i).toNatClampNeg = i := nI_clamp (by omega)
  have ha4 : a < 4 := by omega
  have hb4 : b < 4 := by omega
  have eA : (nI (4 * p + a)).toNatClampNeg = 4 * p + a := nI_clamp (by omega)
  have eB : (4 * nI p + nI b).toNatClampNeg = 4 * p + b := by rw [tk_i4', nI_clamp (by omega)]
  have vA : vp_in (nI (4 * p + a)) 24 := vp_in_nI (by omega) (by decide)
  have vB : vp_in (4 * nI p + nI b) 24 := by rw [tk_i4']; exact vp_in_nI (by omega) (by decide)
  have v6 : vp_in (nI p) 6 := vp_in_nI hp (by decide)
  have v64 : vp_in (nI i) 64 := vp_in_nI hi (by decide)
  refine nm_e ⟨v6, ?_⟩
  rw [ep, hs]
  refine tk_yIn1 63 (by omega) (br_f tk_01 ⟨v6, v64, nm_r (e' := nI w) (by rw [ei]; exact hc) (nm_r (e' := nI 10) (by rw [tk_op hw, ho]) (nm_r (e' := nI a) (by rw [tk_wa hw, ha]) (nm_r (e' := nI b) (by rw [tk_wb' hw, hb]) ⟨v6, v64, nm_r (e' := cn i) (by rw [ei]) (nm_r (e' := nI (4 * p + a)) (tk_i4' _ _) ⟨vA, nm_r (e' := rg (4 * p + a)) (by rw [eA]) ⟨vB, nm_r (e' := rg (4 * p + b)) (by rw [eB]) ?_⟩⟩)⟩)))⟩)
  exact br_f (by decide) (br_f (by decide) (br_f (by decide) (br_f (by decide) (br_f z (br_t (by decide) (br_f (by decide) (br_t rfl ⟨v6, v6, nm_r (e' := upd sy p (sy p + 1)) (by rw [ep]) h⟩)))))))
theorem tk_yex_12f {post : Int32 → SY → Prop} {p i w a b : Nat} (hp : p < 6) (hi : i < 64) (hs : sy p = nI i) (hw : w < 512) (hc : cw i = nI w) (ha : w / 32 % 4 = a) (hb : w / 128 = b) (ho : w % 32 = 12) (z : rg (4 * p + a) = 0) (h : post 1 (ql, xc + 1, pc, cw, cn, st, pa, upd sy p (sy p + 1), rg, ds, me, pw, pl, qu, ou)) : wpY_execute post (ql, xc, pc, cw, cn, st, pa, sy, rg, ds, me, pw, pl, qu, ou) (nI p) := by
  have ep : (nI p).toNatClampNeg = p := nI_clamp (by omega)
  have ei : (nI i).toNatClampNeg = i := nI_clamp (by omega)
  have ha4 : a < 4 := by omega
  have hb4 : b < 4 := by omega
  have eA : (nI (4 * p + a)).toNatClampNeg = 4 * p + a := nI_clamp (by omega)
  have eB : (4 * nI p + nI b).toNatClampNeg = 4 * p + b := by rw [tk_i4', nI_clamp (by omega)]
  have vA : vp_in (nI (4 * p + a)) 24 := vp_in_nI (by omega) (by decide)
  have vB : vp_in (4 * nI p + nI b) 24 := by rw [tk_i4']; exact vp_in_nI (by omega) (by decide)
  have v6 : vp_in (nI p) 6 := vp_in_nI hp (by decide)
  have v64 : vp_in (nI i) 64 := vp_in_nI hi (by decide)
  refine nm_e ⟨v6, ?_⟩
  rw [ep, hs]
  refine tk_yIn1 63 (by omega) (br_f tk_01 ⟨v6, v64, nm_r (e' := nI w) (by rw [ei]; exact hc) (nm_r (e' := nI 12) (by rw [tk_op hw, ho]) (nm_r (e' := nI a) (by rw [tk_wa hw, ha]) (nm_r (e' := nI b) (by rw [tk_wb' hw, hb]) ⟨v6, v64, nm_r (e' := cn i) (by rw [ei]) (nm_r (e' := nI (4 * p + a)) (tk_i4' _ _) ⟨vA, nm_r (e' := rg (4 * p + a)) (by rw [eA]) ⟨vB, nm_r (e' := rg (4 * p + b)) (by rw [eB]) ?_⟩⟩)⟩)))⟩)
  exact br_f (by decide) (br_f (by decide) (br_f (by decide) (br_f (by decide) (br_t z (br_f (by decide) (br_f (by decide) (br_t rfl ⟨v6, v6, nm_r (e' := upd sy p (sy p + 1)) (by rw [ep]) h⟩)))))))
theorem tk_yex_12t {post : Int32 → SY → Prop} {p i w a b : Nat} (hp : p < 6) (hi : i < 64) (hs : sy p = nI i) (hw : w < 512) (hc : cw i = nI w) (ha : w / 32 % 4 = a) (hb : w / 128 = b) (ho : w % 32 = 12) (z : ¬ rg (4 * p + a) = 0) (h : post 1 (ql, xc + 1, pc, cw, cn, st, pa, upd sy p (cn i), rg, ds, me, pw, pl, qu, ou)) : wpY_execute post (ql, xc, pc, cw, cn, st, pa, sy, rg, ds, me, pw, pl, qu, ou) (nI p) := by
  have ep : (nI p).toNatClampNeg = p := nI_clamp (by omega)
  have ei : (nI i).toNatClampNeg = i := nI_clamp (by omega)
  have ha4 : a < 4 := by omega
  have hb4 : b < 4 := by omega
  have eA : (nI (4 * p + a)).toNatClampNeg = 4 * p + a := nI_clamp (by omega)
  have eB : (4 * nI p + nI b).toNatClampNeg = 4 * p + b := by rw [tk_i4', nI_clamp (by omega)]
  have vA : vp_in (nI (4 * p + a)) 24 := vp_in_nI (by omega) (by decide)
  have vB : vp_in (4 * nI p + nI b) 24 := by rw [tk_i4']; exact vp_in_nI (by omega) (by decide)
  have v6 : vp_in (nI p) 6 := vp_in_nI hp (by decide)
  have v64 : vp_in (nI i) 64 := vp_in_nI hi (by decide)
  refine nm_e ⟨v6, ?_⟩
  rw [ep, hs]
  refine tk_yIn1 63 (by omega) (br_f tk_01 ⟨v6, v64, nm_r (e' := nI w) (by rw [ei]; exact hc) (nm_r (e' := nI 12) (by rw [tk_op hw, ho]) (nm_r (e' := nI a) (by rw [tk_wa hw, ha]) (nm_r (e' := nI b) (by rw [tk_wb' hw, hb]) ⟨v6, v64, nm_r (e' := cn i) (by rw [ei]) (nm_r (e' := nI (4 * p + a)) (tk_i4' _ _) ⟨vA, nm_r (e' := rg (4 * p + a)) (by rw [eA]) ⟨vB, nm_r (e' := rg (4 * p + b)) (by rw [eB]) ?_⟩⟩)⟩)))⟩)
  exact br_f (by decide) (br_f (by decide) (br_f (by decide) (br_f (by decide) (br_f z (br_f (by decide) (br_t rfl (br_f tk_01 ⟨v6, nm_r (e' := upd sy p (cn i)) (by rw [ep]) h⟩)))))))
theorem tk_yex_14 {post : Int32 → SY → Prop} {p i w a b : Nat} (hp : p < 6) (hi : i < 64) (hs : sy p = nI i) (hw : w < 512) (hc : cw i = nI w) (ha : w / 32 % 4 = a) (hb : w / 128 = b) (ho : w % 32 = 14) {e : Nat} (hE : ∀ Q : Int32 → Prop, Q (nI e) → wpY_endOf Q (ql, xc + 1, pc, cw, cn, st, pa, sy, rg, ds, me, pw, pl, qu, ou) (nI p) (nI b)) (H : ∀ Q : SY → Prop, Q (Vql, Vxc, Vpc, Vcw, Vcn, Vst, Vpa, Vsy, Vrg, Vds, Vme, Vpw, Vpl, Vqu, Vou) → wpY_await Q (ql, xc + 1, pc, cw, cn, st, pa, sy, rg, ds, me, pw, pl, qu, ou) (nI p) (nI a) (nI b)) (h : post 1 (Vql, Vxc, Vpc, Vcw, Vcn, Vst, Vpa, upd Vsy p (Vsy p + 1), Vrg, Vds, Vme, Vpw, Vpl, Vqu, Vou)) : wpY_execute post (ql, xc, pc, cw, cn, st, pa, sy, rg, ds, me, pw, pl, qu, ou) (nI p) := by
  have ep : (nI p).toNatClampNeg = p := nI_clamp (by omega)
  have ei : (nI i).toNatClampNeg = i := nI_clamp (by omega)
  have ha4 : a < 4 := by omega
  have hb4 : b < 4 := by omega
  have eA : (nI (4 * p + a)).toNatClampNeg = 4 * p + a := nI_clamp (by omega)
  have eB : (4 * nI p + nI b).toNatClampNeg = 4 * p + b := by rw [tk_i4', nI_clamp (by omega)]
  have vA : vp_in (nI (4 * p + a)) 24 := vp_in_nI (by omega) (by decide)
  have vB : vp_in (4 * nI p + nI b) 24 := by rw [tk_i4']; exact vp_in_nI (by omega) (by decide)
  have v6 : vp_in (nI p) 6 := vp_in_nI hp (by decide)
  have v64 : vp_in (nI i) 64 := vp_in_nI hi (by decide)
  refine nm_e ⟨v6, ?_⟩
  rw [ep, hs]
  refine tk_yIn1 63 (by omega) (br_f tk_01 ⟨v6, v64, nm_r (e' := nI w) (by rw [ei]; exact hc) (nm_r (e' := nI 14) (by rw [tk_op hw, ho]) (nm_r (e' := nI a) (by rw [tk_wa hw, ha]) (nm_r (e' := nI b) (by rw [tk_wb' hw, hb]) ⟨v6, v64, nm_r (e' := cn i) (by rw [ei]) (nm_r (e' := nI (4 * p + a)) (tk_i4' _ _) ⟨vA, nm_r (e' := rg (4 * p + a)) (by rw [eA]) ⟨vB, nm_r (e' := rg (4 * p + b)) (by rw [eB]) ?_⟩⟩)⟩)))⟩)
  have CALL : wpY_call (fun r_57 u => match u with | (q1, q2, q3, q4, q5, q6, q7, q8, q9, q10, q11, q12, q13, q14, q15) => (((r_57 = 0 → (post 0 (q1, q2, q3, q4, q5, q6, q7, q8, q9, q10, q11, q12, q13, q14, q15))) ∧ (¬ r_57 = 0 → (wY_execute_330 post (nI p) (nI 14) q1 q2 q3 q4 q5 q6 q7 q8 q9 q10 q11 q12 q13 q14 q15))))) (ql, xc + 1, pc, cw, cn, st, pa, sy, rg, ds, me, pw, pl, qu, ou) (nI p) (nI 14) (nI a) (nI b) := by
    refine nm_r (tk_i4' _ _) ⟨vB, nm_r (e' := rg (4 * p + b)) (by rw [eB]) (hE _ ?_)⟩
    exact br_t (by decide) (H _ (br_f tk_01 (tk_y330 hp (by decide) h)))
  exact br_f (by decide) (br_f (by decide) (br_t (by decide) (br_f (by decide) (br_f (by decide) ((br_f (by decide) (br_f (by decide) (br_t (by decide) (CALL)))))))))
theorem tk_yex_15 {post : Int32 → SY → Prop} {p i w a b : Nat} (hp : p < 6) (hi : i < 64) (hs : sy p = nI i) (hw : w < 512) (hc : cw i = nI w) (ha : w / 32 % 4 = a) (hb : w / 128 = b) (ho : w % 32 = 15) {e : Nat} (hE : ∀ Q : Int32 → Prop, Q (nI e) → wpY_endOf Q (ql, xc + 1, pc, cw, cn, st, pa, sy, rg, ds, me, pw, pl, qu, ou) (nI p) (nI b)) (H : ∀ Q : SY → Prop, Q (Vql, Vxc, Vpc, Vcw, Vcn, Vst, Vpa, Vsy, Vrg, Vds, Vme, Vpw, Vpl, Vqu, Vou) → wpY_makePipe Q (ql, xc + 1, pc, cw, cn, st, pa, sy, rg, ds, me, pw, pl, qu, ou) (nI p) (nI a) (nI b)) (h : post 1 (Vql, Vxc, Vpc, Vcw, Vcn, Vst, Vpa, upd Vsy p (Vsy p + 1), Vrg, Vds, Vme, Vpw, Vpl, Vqu, Vou)) : wpY_execute post (ql, xc, pc, cw, cn, st, pa, sy, rg, ds, me, pw, pl, qu, ou) (nI p) := by
  have ep : (nI p).toNatClampNeg = p := nI_clamp (by omega)
  have ei : (nI i).toNatClampNeg = i := nI_clamp (by omega)
  have ha4 : a < 4 := by omega
  have hb4 : b < 4 := by omega
  have eA : (nI (4 * p + a)).toNatClampNeg = 4 * p + a := nI_clamp (by omega)
  have eB : (4 * nI p + nI b).toNatClampNeg = 4 * p + b := by rw [tk_i4', nI_clamp (by omega)]
  have vA : vp_in (nI (4 * p + a)) 24 := vp_in_nI (by omega) (by decide)
  have vB : vp_in (4 * nI p + nI b) 24 := by rw [tk_i4']; exact vp_in_nI (by omega) (by decide)
  have v6 : vp_in (nI p) 6 := vp_in_nI hp (by decide)
  have v64 : vp_in (nI i) 64 := vp_in_nI hi (by decide)
  refine nm_e ⟨v6, ?_⟩
  rw [ep, hs]
  refine tk_yIn1 63 (by omega) (br_f tk_01 ⟨v6, v64, nm_r (e' := nI w) (by rw [ei]; exact hc) (nm_r (e' := nI 15) (by rw [tk_op hw, ho]) (nm_r (e' := nI a) (by rw [tk_wa hw, ha]) (nm_r (e' := nI b) (by rw [tk_wb' hw, hb]) ⟨v6, v64, nm_r (e' := cn i) (by rw [ei]) (nm_r (e' := nI (4 * p + a)) (tk_i4' _ _) ⟨vA, nm_r (e' := rg (4 * p + a)) (by rw [eA]) ⟨vB, nm_r (e' := rg (4 * p + b)) (by rw [eB]) ?_⟩⟩)⟩)))⟩)
  have CALL : wpY_call (fun r_57 u => match u with | (q1, q2, q3, q4, q5, q6, q7, q8, q9, q10, q11, q12, q13, q14, q15) => (((r_57 = 0 → (post 0 (q1, q2, q3, q4, q5, q6, q7, q8, q9, q10, q11, q12, q13, q14, q15))) ∧ (¬ r_57 = 0 → (wY_execute_330 post (nI p) (nI 15) q1 q2 q3 q4 q5 q6 q7 q8 q9 q10 q11 q12 q13 q14 q15))))) (ql, xc + 1, pc, cw, cn, st, pa, sy, rg, ds, me, pw, pl, qu, ou) (nI p) (nI 15) (nI a) (nI b) := by
    refine nm_r (tk_i4' _ _) ⟨vB, nm_r (e' := rg (4 * p + b)) (by rw [eB]) (hE _ ?_)⟩
    exact br_f (by decide) (br_t (by decide) (H _ (br_f tk_01 (tk_y330 hp (by decide) h))))
  exact br_f (by decide) (br_f (by decide) (br_t (by decide) (br_f (by decide) (br_f (by decide) ((br_f (by decide) (br_f (by decide) (br_t (by decide) (CALL)))))))))
theorem tk_yex_17 {post : Int32 → SY → Prop} {p i w a b : Nat} (hp : p < 6) (hi : i < 64) (hs : sy p = nI i) (hw : w < 512) (hc : cw i = nI w) (ha : w / 32 % 4 = a) (hb : w / 128 = b) (ho : w % 32 = 17) {e : Nat} (hE : ∀ Q : Int32 → Prop, Q (nI e) → wpY_endOf Q (ql, xc + 1, pc, cw, cn, st, pa, sy, rg, ds, me, pw, pl, qu, ou) (nI p) (nI b)) (H : ∀ Q : Int32 → SY → Prop, Q 1 (Vql, Vxc, Vpc, Vcw, Vcn, Vst, Vpa, Vsy, Vrg, Vds, Vme, Vpw, Vpl, Vqu, Vou) → wpY_write Q (ql, xc + 1, pc, cw, cn, st, pa, sy, rg, ds, me, pw, pl, qu, ou) (nI p) (nI a) (nI e)) (h : post 1 (Vql, Vxc, Vpc, Vcw, Vcn, Vst, Vpa, upd Vsy p (Vsy p + 1), Vrg, Vds, Vme, Vpw, Vpl, Vqu, Vou)) : wpY_execute post (ql, xc, pc, cw, cn, st, pa, sy, rg, ds, me, pw, pl, qu, ou) (nI p) := by
  have ep : (nI p).toNatClampNeg = p := nI_clamp (by omega)
  have ei : (nI i).toNatClampNeg = i := nI_clamp (by omega)
  have ha4 : a < 4 := by omega
  have hb4 : b < 4 := by omega
  have eA : (nI (4 * p + a)).toNatClampNeg = 4 * p + a := nI_clamp (by omega)
  have eB : (4 * nI p + nI b).toNatClampNeg = 4 * p + b := by rw [tk_i4', nI_clamp (by omega)]
  have vA : vp_in (nI (4 * p + a)) 24 := vp_in_nI (by omega) (by decide)
  have vB : vp_in (4 * nI p + nI b) 24 := by rw [tk_i4']; exact vp_in_nI (by omega) (by decide)
  have v6 : vp_in (nI p) 6 := vp_in_nI hp (by decide)
  have v64 : vp_in (nI i) 64 := vp_in_nI hi (by decide)
  refine nm_e ⟨v6, ?_⟩
  rw [ep, hs]
  refine tk_yIn1 63 (by omega) (br_f tk_01 ⟨v6, v64, nm_r (e' := nI w) (by rw [ei]; exact hc) (nm_r (e' := nI 17) (by rw [tk_op hw, ho]) (nm_r (e' := nI a) (by rw [tk_wa hw, ha]) (nm_r (e' := nI b) (by rw [tk_wb' hw, hb]) ⟨v6, v64, nm_r (e' := cn i) (by rw [ei]) (nm_r (e' := nI (4 * p + a)) (tk_i4' _ _) ⟨vA, nm_r (e' := rg (4 * p + a)) (by rw [eA]) ⟨vB, nm_r (e' := rg (4 * p + b)) (by rw [eB]) ?_⟩⟩)⟩)))⟩)
  have CALL : wpY_call (fun r_57 u => match u with | (q1, q2, q3, q4, q5, q6, q7, q8, q9, q10, q11, q12, q13, q14, q15) => (((r_57 = 0 → (post 0 (q1, q2, q3, q4, q5, q6, q7, q8, q9, q10, q11, q12, q13, q14, q15))) ∧ (¬ r_57 = 0 → (wY_execute_330 post (nI p) (nI 17) q1 q2 q3 q4 q5 q6 q7 q8 q9 q10 q11 q12 q13 q14 q15))))) (ql, xc + 1, pc, cw, cn, st, pa, sy, rg, ds, me, pw, pl, qu, ou) (nI p) (nI 17) (nI a) (nI b) := by
    refine nm_r (tk_i4' _ _) ⟨vB, nm_r (e' := rg (4 * p + b)) (by rw [eB]) (hE _ ?_)⟩
    exact br_f (by decide) (br_f (by decide) (br_t (by decide) (H _ ⟨rfl, (br_f tk_01 (tk_y330 hp (by decide) h))⟩)))
  exact br_f (by decide) (br_f (by decide) (br_t (by decide) (br_f (by decide) (br_f (by decide) ((br_f (by decide) (br_f (by decide) (br_t (by decide) (CALL)))))))))
theorem tk_yex_17o {post : Int32 → SY → Prop} {p i w a b : Nat} (hp : p < 6) (hi : i < 64) (hs : sy p = nI i) (hw : w < 512) (hc : cw i = nI w) (ha : w / 32 % 4 = a) (hb : w / 128 = b) (ho : w % 32 = 17) {e : Nat} (hE : ∀ Q : Int32 → Prop, Q (nI e) → wpY_endOf Q (ql, xc + 1, pc, cw, cn, st, pa, sy, rg, ds, me, pw, pl, qu, ou) (nI p) (nI b)) (H : ∀ Q : Int32 → SY → Prop, Q 0 (Vql, Vxc, Vpc, Vcw, Vcn, Vst, Vpa, Vsy, Vrg, Vds, Vme, Vpw, Vpl, Vqu, Vou) → wpY_write Q (ql, xc + 1, pc, cw, cn, st, pa, sy, rg, ds, me, pw, pl, qu, ou) (nI p) (nI a) (nI e)) (h : post 0 (Vql, Vxc, Vpc, Vcw, Vcn, Vst, Vpa, Vsy, Vrg, Vds, Vme, Vpw, Vpl, Vqu, Vou)) : wpY_execute post (ql, xc, pc, cw, cn, st, pa, sy, rg, ds, me, pw, pl, qu, ou) (nI p) := by
  have ep : (nI p).toNatClampNeg = p := nI_clamp (by omega)
  have ei : (nI i).toNatClampNeg = i := nI_clamp (by omega)
  have ha4 : a < 4 := by omega
  have hb4 : b < 4 := by omega
  have eA : (nI (4 * p + a)).toNatClampNeg = 4 * p + a := nI_clamp (by omega)
  have eB : (4 * nI p + nI b).toNatClampNeg = 4 * p + b := by rw [tk_i4', nI_clamp (by omega)]
  have vA : vp_in (nI (4 * p + a)) 24 := vp_in_nI (by omega) (by decide)
  have vB : vp_in (4 * nI p + nI b) 24 := by rw [tk_i4']; exact vp_in_nI (by omega) (by decide)
  have v6 : vp_in (nI p) 6 := vp_in_nI hp (by decide)
  have v64 : vp_in (nI i) 64 := vp_in_nI hi (by decide)
  refine nm_e ⟨v6, ?_⟩
  rw [ep, hs]
  refine tk_yIn1 63 (by omega) (br_f tk_01 ⟨v6, v64, nm_r (e' := nI w) (by rw [ei]; exact hc) (nm_r (e' := nI 17) (by rw [tk_op hw, ho]) (nm_r (e' := nI a) (by rw [tk_wa hw, ha]) (nm_r (e' := nI b) (by rw [tk_wb' hw, hb]) ⟨v6, v64, nm_r (e' := cn i) (by rw [ei]) (nm_r (e' := nI (4 * p + a)) (tk_i4' _ _) ⟨vA, nm_r (e' := rg (4 * p + a)) (by rw [eA]) ⟨vB, nm_r (e' := rg (4 * p + b)) (by rw [eB]) ?_⟩⟩)⟩)))⟩)
  have CALL : wpY_call (fun r_57 u => match u with | (q1, q2, q3, q4, q5, q6, q7, q8, q9, q10, q11, q12, q13, q14, q15) => (((r_57 = 0 → (post 0 (q1, q2, q3, q4, q5, q6, q7, q8, q9, q10, q11, q12, q13, q14, q15))) ∧ (¬ r_57 = 0 → (wY_execute_330 post (nI p) (nI 17) q1 q2 q3 q4 q5 q6 q7 q8 q9 q10 q11 q12 q13 q14 q15))))) (ql, xc + 1, pc, cw, cn, st, pa, sy, rg, ds, me, pw, pl, qu, ou) (nI p) (nI 17) (nI a) (nI b) := by
    refine nm_r (tk_i4' _ _) ⟨vB, nm_r (e' := rg (4 * p + b)) (by rw [eB]) (hE _ ?_)⟩
    exact br_f (by decide) (br_f (by decide) (br_t (by decide) (H _ ⟨rfl, br_t rfl h⟩)))
  exact br_f (by decide) (br_f (by decide) (br_t (by decide) (br_f (by decide) (br_f (by decide) ((br_f (by decide) (br_f (by decide) (br_t (by decide) (CALL)))))))))
theorem tk_yex_16 {post : Int32 → SY → Prop} {p i w a b : Nat} (hp : p < 6) (hi : i < 64) (hs : sy p = nI i) (hw : w < 512) (hc : cw i = nI w) (ha : w / 32 % 4 = a) (hb : w / 128 = b) (ho : w % 32 = 16) {e : Nat} (hE : ∀ Q : Int32 → Prop, Q (nI e) → wpY_endOf Q (ql, xc + 1, pc, cw, cn, st, pa, sy, rg, ds, me, pw, pl, qu, ou) (nI p) (nI b)) {r : Int32} (H : ∀ Q : Int32 → SY → Prop, Q r (Vql, Vxc, Vpc, Vcw, Vcn, Vst, Vpa, Vsy, Vrg, Vds, Vme, Vpw, Vpl, Vqu, Vou) → wpY_read Q (ql, xc + 1, pc, cw, cn, st, pa, sy, rg, ds, me, pw, pl, qu, ou) (nI e)) (h : post 1 (Vql, Vxc, Vpc, Vcw, Vcn, Vst, Vpa, upd Vsy p (Vsy p + 1), upd Vrg (4 * p + a) r, Vds, Vme, Vpw, Vpl, Vqu, Vou)) : wpY_execute post (ql, xc, pc, cw, cn, st, pa, sy, rg, ds, me, pw, pl, qu, ou) (nI p) := by
  have ep : (nI p).toNatClampNeg = p := nI_clamp (by omega)
  have ei : (nI i).toNatClampNeg = i := nI_clamp (by omega)
  have ha4 : a < 4 := by omega
  have hb4 : b < 4 := by omega
  have eA : (nI (4 * p + a)).toNatClampNeg = 4 * p + a := nI_clamp (by omega)
  have eB : (4 * nI p + nI b).toNatClampNeg = 4 * p + b := by rw [tk_i4', nI_clamp (by omega)]
  have vA : vp_in (nI (4 * p + a)) 24 := vp_in_nI (by omega) (by decide)
  have vB : vp_in (4 * nI p + nI b) 24 := by rw [tk_i4']; exact vp_in_nI (by omega) (by decide)
  have v6 : vp_in (nI p) 6 := vp_in_nI hp (by decide)
  have v64 : vp_in (nI i) 64 := vp_in_nI hi (by decide)
  refine nm_e ⟨v6, ?_⟩
  rw [ep, hs]
  refine tk_yIn1 63 (by omega) (br_f tk_01 ⟨v6, v64, nm_r (e' := nI w) (by rw [ei]; exact hc) (nm_r (e' := nI 16) (by rw [tk_op hw, ho]) (nm_r (e' := nI a) (by rw [tk_wa hw, ha]) (nm_r (e' := nI b) (by rw [tk_wb' hw, hb]) ⟨v6, v64, nm_r (e' := cn i) (by rw [ei]) (nm_r (e' := nI (4 * p + a)) (tk_i4' _ _) ⟨vA, nm_r (e' := rg (4 * p + a)) (by rw [eA]) ⟨vB, nm_r (e' := rg (4 * p + b)) (by rw [eB]) ?_⟩⟩)⟩)))⟩)
  have CALL : wpY_call (fun r_57 u => match u with | (q1, q2, q3, q4, q5, q6, q7, q8, q9, q10, q11, q12, q13, q14, q15) => (((r_57 = 0 → (post 0 (q1, q2, q3, q4, q5, q6, q7, q8, q9, q10, q11, q12, q13, q14, q15))) ∧ (¬ r_57 = 0 → (wY_execute_330 post (nI p) (nI 16) q1 q2 q3 q4 q5 q6 q7 q8 q9 q10 q11 q12 q13 q14 q15))))) (ql, xc + 1, pc, cw, cn, st, pa, sy, rg, ds, me, pw, pl, qu, ou) (nI p) (nI 16) (nI a) (nI b) := by
    refine nm_r (tk_i4' _ _) ⟨vB, nm_r (e' := rg (4 * p + b)) (by rw [eB]) (hE _ ?_)⟩
    exact br_f (by decide) (br_f (by decide) (br_f (by decide) (⟨vA, nm_r (e' := rg (4 * p + a)) (by rw [eA]) (br_f (by decide) (br_t (by decide) (H _ (br_f (by decide) (br_f (by decide) (br_f (by decide) (br_f (by decide) (br_f (by decide) (br_f (by decide) (⟨vA, nm_r (e' := upd Vrg (4 * p + a) (r)) (by rw [eA]) (br_f (by decide) (br_f tk_01 (tk_y330 hp (by decide) h)))⟩))))))))))⟩)))
  exact br_f (by decide) (br_f (by decide) (br_t (by decide) (br_f (by decide) (br_f (by decide) ((br_f (by decide) (br_f (by decide) (br_t (by decide) (CALL)))))))))
theorem tk_yex_18 {post : Int32 → SY → Prop} {p i w a b : Nat} (hp : p < 6) (hi : i < 64) (hs : sy p = nI i) (hw : w < 512) (hc : cw i = nI w) (ha : w / 32 % 4 = a) (hb : w / 128 = b) (ho : w % 32 = 18) {e : Nat} (hE : ∀ Q : Int32 → Prop, Q (nI e) → wpY_endOf Q (ql, xc + 1, pc, cw, cn, st, pa, sy, rg, ds, me, pw, pl, qu, ou) (nI p) (nI b)) {r : Int32} (H : ∀ Q : Int32 → SY → Prop, Q r (Vql, Vxc, Vpc, Vcw, Vcn, Vst, Vpa, Vsy, Vrg, Vds, Vme, Vpw, Vpl, Vqu, Vou) → wpY_close Q (ql, xc + 1, pc, cw, cn, st, pa, sy, rg, ds, me, pw, pl, qu, ou) (nI p) (nI b)) (h : post 1 (Vql, Vxc, Vpc, Vcw, Vcn, Vst, Vpa, upd Vsy p (Vsy p + 1), upd Vrg (4 * p + a) r, Vds, Vme, Vpw, Vpl, Vqu, Vou)) : wpY_execute post (ql, xc, pc, cw, cn, st, pa, sy, rg, ds, me, pw, pl, qu, ou) (nI p) := by
  have ep : (nI p).toNatClampNeg = p := nI_clamp (by omega)
  have ei : (nI i).toNatClampNeg = i := nI_clamp (by omega)
  have ha4 : a < 4 := by omega
  have hb4 : b < 4 := by omega
  have eA : (nI (4 * p + a)).toNatClampNeg = 4 * p + a := nI_clamp (by omega)
  have eB : (4 * nI p + nI b).toNatClampNeg = 4 * p + b := by rw [tk_i4', nI_clamp (by omega)]
  have vA : vp_in (nI (4 * p + a)) 24 := vp_in_nI (by omega) (by decide)
  have vB : vp_in (4 * nI p + nI b) 24 := by rw [tk_i4']; exact vp_in_nI (by omega) (by decide)
  have v6 : vp_in (nI p) 6 := vp_in_nI hp (by decide)
  have v64 : vp_in (nI i) 64 := vp_in_nI hi (by decide)
  refine nm_e ⟨v6, ?_⟩
  rw [ep, hs]
  refine tk_yIn1 63 (by omega) (br_f tk_01 ⟨v6, v64, nm_r (e' := nI w) (by rw [ei]; exact hc) (nm_r (e' := nI 18) (by rw [tk_op hw, ho]) (nm_r (e' := nI a) (by rw [tk_wa hw, ha]) (nm_r (e' := nI b) (by rw [tk_wb' hw, hb]) ⟨v6, v64, nm_r (e' := cn i) (by rw [ei]) (nm_r (e' := nI (4 * p + a)) (tk_i4' _ _) ⟨vA, nm_r (e' := rg (4 * p + a)) (by rw [eA]) ⟨vB, nm_r (e' := rg (4 * p + b)) (by rw [eB]) ?_⟩⟩)⟩)))⟩)
  have CALL : wpY_call (fun r_57 u => match u with | (q1, q2, q3, q4, q5, q6, q7, q8, q9, q10, q11, q12, q13, q14, q15) => (((r_57 = 0 → (post 0 (q1, q2, q3, q4, q5, q6, q7, q8, q9, q10, q11, q12, q13, q14, q15))) ∧ (¬ r_57 = 0 → (wY_execute_330 post (nI p) (nI 18) q1 q2 q3 q4 q5 q6 q7 q8 q9 q10 q11 q12 q13 q14 q15))))) (ql, xc + 1, pc, cw, cn, st, pa, sy, rg, ds, me, pw, pl, qu, ou) (nI p) (nI 18) (nI a) (nI b) := by
    refine nm_r (tk_i4' _ _) ⟨vB, nm_r (e' := rg (4 * p + b)) (by rw [eB]) (hE _ ?_)⟩
    exact br_f (by decide) (br_f (by decide) (br_f (by decide) (⟨vA, nm_r (e' := rg (4 * p + a)) (by rw [eA]) (br_f (by decide) (br_f (by decide) (br_t (by decide) (H _ (br_f (by decide) (br_f (by decide) (br_f (by decide) (br_f (by decide) (br_f (by decide) (⟨vA, nm_r (e' := upd Vrg (4 * p + a) (r)) (by rw [eA]) (br_f (by decide) (br_f tk_01 (tk_y330 hp (by decide) h)))⟩))))))))))⟩)))
  exact br_f (by decide) (br_f (by decide) (br_t (by decide) (br_f (by decide) (br_f (by decide) ((br_f (by decide) (br_f (by decide) (br_t (by decide) (CALL)))))))))
theorem tk_yex_19 {post : Int32 → SY → Prop} {p i w a b : Nat} (hp : p < 6) (hi : i < 64) (hs : sy p = nI i) (hw : w < 512) (hc : cw i = nI w) (ha : w / 32 % 4 = a) (hb : w / 128 = b) (ho : w % 32 = 19) {e : Nat} (hE : ∀ Q : Int32 → Prop, Q (nI e) → wpY_endOf Q (ql, xc + 1, pc, cw, cn, st, pa, sy, rg, ds, me, pw, pl, qu, ou) (nI p) (nI b)) {r : Int32} (H : ∀ Q : Int32 → SY → Prop, Q r (Vql, Vxc, Vpc, Vcw, Vcn, Vst, Vpa, Vsy, Vrg, Vds, Vme, Vpw, Vpl, Vqu, Vou) → wpY_copyEnd Q (ql, xc + 1, pc, cw, cn, st, pa, sy, rg, ds, me, pw, pl, qu, ou) (nI p) (nI e)) (h : post 1 (Vql, Vxc, Vpc, Vcw, Vcn, Vst, Vpa, upd Vsy p (Vsy p + 1), upd Vrg (4 * p + a) r, Vds, Vme, Vpw, Vpl, Vqu, Vou)) : wpY_execute post (ql, xc, pc, cw, cn, st, pa, sy, rg, ds, me, pw, pl, qu, ou) (nI p) := by
  have ep : (nI p).toNatClampNeg = p := nI_clamp (by omega)
  have ei : (nI i).toNatClampNeg = i := nI_clamp (by omega)
  have ha4 : a < 4 := by omega
  have hb4 : b < 4 := by omega
  have eA : (nI (4 * p + a)).toNatClampNeg = 4 * p + a := nI_clamp (by omega)
  have eB : (4 * nI p + nI b).toNatClampNeg = 4 * p + b := by rw [tk_i4', nI_clamp (by omega)]
  have vA : vp_in (nI (4 * p + a)) 24 := vp_in_nI (by omega) (by decide)
  have vB : vp_in (4 * nI p + nI b) 24 := by rw [tk_i4']; exact vp_in_nI (by omega) (by decide)
  have v6 : vp_in (nI p) 6 := vp_in_nI hp (by decide)
  have v64 : vp_in (nI i) 64 := vp_in_nI hi (by decide)
  refine nm_e ⟨v6, ?_⟩
  rw [ep, hs]
  refine tk_yIn1 63 (by omega) (br_f tk_01 ⟨v6, v64, nm_r (e' := nI w) (by rw [ei]; exact hc) (nm_r (e' := nI 19) (by rw [tk_op hw, ho]) (nm_r (e' := nI a) (by rw [tk_wa hw, ha]) (nm_r (e' := nI b) (by rw [tk_wb' hw, hb]) ⟨v6, v64, nm_r (e' := cn i) (by rw [ei]) (nm_r (e' := nI (4 * p + a)) (tk_i4' _ _) ⟨vA, nm_r (e' := rg (4 * p + a)) (by rw [eA]) ⟨vB, nm_r (e' := rg (4 * p + b)) (by rw [eB]) ?_⟩⟩)⟩)))⟩)
  have CALL : wpY_call (fun r_57 u => match u with | (q1, q2, q3, q4, q5, q6, q7, q8, q9, q10, q11, q12, q13, q14, q15) => (((r_57 = 0 → (post 0 (q1, q2, q3, q4, q5, q6, q7, q8, q9, q10, q11, q12, q13, q14, q15))) ∧ (¬ r_57 = 0 → (wY_execute_330 post (nI p) (nI 19) q1 q2 q3 q4 q5 q6 q7 q8 q9 q10 q11 q12 q13 q14 q15))))) (ql, xc + 1, pc, cw, cn, st, pa, sy, rg, ds, me, pw, pl, qu, ou) (nI p) (nI 19) (nI a) (nI b) := by
    refine nm_r (tk_i4' _ _) ⟨vB, nm_r (e' := rg (4 * p + b)) (by rw [eB]) (hE _ ?_)⟩
    exact br_f (by decide) (br_f (by decide) (br_f (by decide) (⟨vA, nm_r (e' := rg (4 * p + a)) (by rw [eA]) (br_f (by decide) (br_f (by decide) (br_f (by decide) (br_t (by decide) (H _ (br_f (by decide) (br_f (by decide) (br_f (by decide) (br_f (by decide) (⟨vA, nm_r (e' := upd Vrg (4 * p + a) (r)) (by rw [eA]) (br_f (by decide) (br_f tk_01 (tk_y330 hp (by decide) h)))⟩))))))))))⟩)))
  exact br_f (by decide) (br_f (by decide) (br_t (by decide) (br_f (by decide) (br_f (by decide) ((br_f (by decide) (br_f (by decide) (br_t (by decide) (CALL)))))))))
theorem tk_yex_24 {post : Int32 → SY → Prop} {p i w a b : Nat} (hp : p < 6) (hi : i < 64) (hs : sy p = nI i) (hw : w < 512) (hc : cw i = nI w) (ha : w / 32 % 4 = a) (hb : w / 128 = b) (ho : w % 32 = 24) {e : Nat} (hE : ∀ Q : Int32 → Prop, Q (nI e) → wpY_endOf Q (ql, xc + 1, pc, cw, cn, st, pa, sy, rg, ds, me, pw, pl, qu, ou) (nI p) (nI b)) {r : Int32} (H : ∀ Q : Int32 → SY → Prop, Q r (Vql, Vxc, Vpc, Vcw, Vcn, Vst, Vpa, Vsy, Vrg, Vds, Vme, Vpw, Vpl, Vqu, Vou) → wpY_killOther Q (ql, xc + 1, pc, cw, cn, st, pa, sy, rg, ds, me, pw, pl, qu, ou) (nI p) (rg (4 * p + b))) (h : post 1 (Vql, Vxc, Vpc, Vcw, Vcn, Vst, Vpa, upd Vsy p (Vsy p + 1), upd Vrg (4 * p + a) r, Vds, Vme, Vpw, Vpl, Vqu, Vou)) : wpY_execute post (ql, xc, pc, cw, cn, st, pa, sy, rg, ds, me, pw, pl, qu, ou) (nI p) := by
  have ep : (nI p).toNatClampNeg = p := nI_clamp (by omega)
  have ei : (nI i).toNatClampNeg = i := nI_clamp (by omega)
  have ha4 : a < 4 := by omega
  have hb4 : b < 4 := by omega
  have eA : (nI (4 * p + a)).toNatClampNeg = 4 * p + a := nI_clamp (by omega)
  have eB : (4 * nI p + nI b).toNatClampNeg = 4 * p + b := by rw [tk_i4', nI_clamp (by omega)]
  have vA : vp_in (nI (4 * p + a)) 24 := vp_in_nI (by omega) (by decide)
  have vB : vp_in (4 * nI p + nI b) 24 := by rw [tk_i4']; exact vp_in_nI (by omega) (by decide)
  have v6 : vp_in (nI p) 6 := vp_in_nI hp (by decide)
  have v64 : vp_in (nI i) 64 := vp_in_nI hi (by decide)
  refine nm_e ⟨v6, ?_⟩
  rw [ep, hs]
  refine tk_yIn1 63 (by omega) (br_f tk_01 ⟨v6, v64, nm_r (e' := nI w) (by rw [ei]; exact hc) (nm_r (e' := nI 24) (by rw [tk_op hw, ho]) (nm_r (e' := nI a) (by rw [tk_wa hw, ha]) (nm_r (e' := nI b) (by rw [tk_wb' hw, hb]) ⟨v6, v64, nm_r (e' := cn i) (by rw [ei]) (nm_r (e' := nI (4 * p + a)) (tk_i4' _ _) ⟨vA, nm_r (e' := rg (4 * p + a)) (by rw [eA]) ⟨vB, nm_r (e' := rg (4 * p + b)) (by rw [eB]) ?_⟩⟩)⟩)))⟩)
  have CALL : wpY_call (fun r_57 u => match u with | (q1, q2, q3, q4, q5, q6, q7, q8, q9, q10, q11, q12, q13, q14, q15) => (((r_57 = 0 → (post 0 (q1, q2, q3, q4, q5, q6, q7, q8, q9, q10, q11, q12, q13, q14, q15))) ∧ (¬ r_57 = 0 → (wY_execute_330 post (nI p) (nI 24) q1 q2 q3 q4 q5 q6 q7 q8 q9 q10 q11 q12 q13 q14 q15))))) (ql, xc + 1, pc, cw, cn, st, pa, sy, rg, ds, me, pw, pl, qu, ou) (nI p) (nI 24) (nI a) (nI b) := by
    refine nm_r (tk_i4' _ _) ⟨vB, nm_r (e' := rg (4 * p + b)) (by rw [eB]) (hE _ ?_)⟩
    exact br_f (by decide) (br_f (by decide) (br_f (by decide) (⟨vA, nm_r (e' := rg (4 * p + a)) (by rw [eA]) (br_f (by decide) (br_f (by decide) (br_f (by decide) (br_f (by decide) (br_f (by decide) (br_f (by decide) (br_f (by decide) (br_t (by decide) (H _ (⟨vA, nm_r (e' := upd Vrg (4 * p + a) (r)) (by rw [eA]) (br_f (by decide) (br_f tk_01 (tk_y330 hp (by decide) h)))⟩))))))))))⟩)))
  exact br_f (by decide) (br_f (by decide) (br_t (by decide) (br_f (by decide) (br_f (by decide) ((br_f (by decide) (br_f (by decide) (br_t (by decide) (CALL)))))))))
theorem tk_yex_21 {post : Int32 → SY → Prop} {p i w a b : Nat} (hp : p < 6) (hi : i < 64) (hs : sy p = nI i) (hw : w < 512) (hc : cw i = nI w) (ha : w / 32 % 4 = a) (hb : w / 128 = b) (ho : w % 32 = 21) {e : Nat} (hE : ∀ Q : Int32 → Prop, Q (nI e) → wpY_endOf Q (ql, xc + 1, pc, cw, cn, st, pa, sy, rg, ds, me, pw, pl, qu, ou) (nI p) (nI b)) (H : ∀ Q : SY → Prop, Q (Vql, Vxc, Vpc, Vcw, Vcn, Vst, Vpa, Vsy, Vrg, Vds, Vme, Vpw, Vpl, Vqu, Vou) → wpY_show Q (ql, xc + 1, pc, cw, cn, st, pa, sy, rg, ds, me, pw, pl, qu, ou) (rg (4 * p + a))) (h : post 1 (Vql, Vxc, Vpc, Vcw, Vcn, Vst, Vpa, upd Vsy p (Vsy p + 1), upd Vrg (4 * p + a) (rg (4 * p + a)), Vds, Vme, Vpw, Vpl, Vqu, Vou)) : wpY_execute post (ql, xc, pc, cw, cn, st, pa, sy, rg, ds, me, pw, pl, qu, ou) (nI p) := by
  have ep : (nI p).toNatClampNeg = p := nI_clamp (by omega)
  have ei : (nI i).toNatClampNeg = i := nI_clamp (by omega)
  have ha4 : a < 4 := by omega
  have hb4 : b < 4 := by omega
  have eA : (nI (4 * p + a)).toNatClampNeg = 4 * p + a := nI_clamp (by omega)
  have eB : (4 * nI p + nI b).toNatClampNeg = 4 * p + b := by rw [tk_i4', nI_clamp (by omega)]
  have vA : vp_in (nI (4 * p + a)) 24 := vp_in_nI (by omega) (by decide)
  have vB : vp_in (4 * nI p + nI b) 24 := by rw [tk_i4']; exact vp_in_nI (by omega) (by decide)
  have v6 : vp_in (nI p) 6 := vp_in_nI hp (by decide)
  have v64 : vp_in (nI i) 64 := vp_in_nI hi (by decide)
  refine nm_e ⟨v6, ?_⟩
  rw [ep, hs]
  refine tk_yIn1 63 (by omega) (br_f tk_01 ⟨v6, v64, nm_r (e' := nI w) (by rw [ei]; exact hc) (nm_r (e' := nI 21) (by rw [tk_op hw, ho]) (nm_r (e' := nI a) (by rw [tk_wa hw, ha]) (nm_r (e' := nI b) (by rw [tk_wb' hw, hb]) ⟨v6, v64, nm_r (e' := cn i) (by rw [ei]) (nm_r (e' := nI (4 * p + a)) (tk_i4' _ _) ⟨vA, nm_r (e' := rg (4 * p + a)) (by rw [eA]) ⟨vB, nm_r (e' := rg (4 * p + b)) (by rw [eB]) ?_⟩⟩)⟩)))⟩)
  have CALL : wpY_call (fun r_57 u => match u with | (q1, q2, q3, q4, q5, q6, q7, q8, q9, q10, q11, q12, q13, q14, q15) => (((r_57 = 0 → (post 0 (q1, q2, q3, q4, q5, q6, q7, q8, q9, q10, q11, q12, q13, q14, q15))) ∧ (¬ r_57 = 0 → (wY_execute_330 post (nI p) (nI 21) q1 q2 q3 q4 q5 q6 q7 q8 q9 q10 q11 q12 q13 q14 q15))))) (ql, xc + 1, pc, cw, cn, st, pa, sy, rg, ds, me, pw, pl, qu, ou) (nI p) (nI 21) (nI a) (nI b) := by
    refine nm_r (tk_i4' _ _) ⟨vB, nm_r (e' := rg (4 * p + b)) (by rw [eB]) (hE _ ?_)⟩
    exact br_f (by decide) (br_f (by decide) (br_f (by decide) (⟨vA, nm_r (e' := rg (4 * p + a)) (by rw [eA]) (br_f (by decide) (br_f (by decide) (br_f (by decide) (br_f (by decide) (br_t (by decide) (H _ (br_f (by decide) (br_f (by decide) (br_f (by decide) (⟨vA, nm_r (e' := upd Vrg (4 * p + a) (rg (4 * p + a))) (by rw [eA]) (br_f (by decide) (br_f tk_01 (tk_y330 hp (by decide) h)))⟩))))))))))⟩)))
  exact br_f (by decide) (br_f (by decide) (br_t (by decide) (br_f (by decide) (br_f (by decide) ((br_f (by decide) (br_f (by decide) (br_t (by decide) (CALL)))))))))
theorem tk_yex_20 {post : Int32 → SY → Prop} {p i w a b : Nat} (hp : p < 6) (hi : i < 64) (hs : sy p = nI i) (hw : w < 512) (hc : cw i = nI w) (ha : w / 32 % 4 = a) (hb : w / 128 = b) (ho : w % 32 = 20) {e : Nat} (hE : ∀ Q : Int32 → Prop, Q (nI e) → wpY_endOf Q (ql, xc + 1, pc, cw, cn, st, pa, sy, rg, ds, me, pw, pl, qu, ou) (nI p) (nI b)) (h : post 0 (ql, xc + 1, pc, cw, cn, st, pa, upd sy p (sy p + 1), upd rg (4 * p + a) (rg (4 * p + a)), ds, me, pw, pl, qu, ou)) : wpY_execute post (ql, xc, pc, cw, cn, st, pa, sy, rg, ds, me, pw, pl, qu, ou) (nI p) := by
  have ep : (nI p).toNatClampNeg = p := nI_clamp (by omega)
  have ei : (nI i).toNatClampNeg = i := nI_clamp (by omega)
  have ha4 : a < 4 := by omega
  have hb4 : b < 4 := by omega
  have eA : (nI (4 * p + a)).toNatClampNeg = 4 * p + a := nI_clamp (by omega)
  have eB : (4 * nI p + nI b).toNatClampNeg = 4 * p + b := by rw [tk_i4', nI_clamp (by omega)]
  have vA : vp_in (nI (4 * p + a)) 24 := vp_in_nI (by omega) (by decide)
  have vB : vp_in (4 * nI p + nI b) 24 := by rw [tk_i4']; exact vp_in_nI (by omega) (by decide)
  have v6 : vp_in (nI p) 6 := vp_in_nI hp (by decide)
  have v64 : vp_in (nI i) 64 := vp_in_nI hi (by decide)
  refine nm_e ⟨v6, ?_⟩
  rw [ep, hs]
  refine tk_yIn1 63 (by omega) (br_f tk_01 ⟨v6, v64, nm_r (e' := nI w) (by rw [ei]; exact hc) (nm_r (e' := nI 20) (by rw [tk_op hw, ho]) (nm_r (e' := nI a) (by rw [tk_wa hw, ha]) (nm_r (e' := nI b) (by rw [tk_wb' hw, hb]) ⟨v6, v64, nm_r (e' := cn i) (by rw [ei]) (nm_r (e' := nI (4 * p + a)) (tk_i4' _ _) ⟨vA, nm_r (e' := rg (4 * p + a)) (by rw [eA]) ⟨vB, nm_r (e' := rg (4 * p + b)) (by rw [eB]) ?_⟩⟩)⟩)))⟩)
  have CALL : wpY_call (fun r_57 u => match u with | (q1, q2, q3, q4, q5, q6, q7, q8, q9, q10, q11, q12, q13, q14, q15) => (((r_57 = 0 → (post 0 (q1, q2, q3, q4, q5, q6, q7, q8, q9, q10, q11, q12, q13, q14, q15))) ∧ (¬ r_57 = 0 → (wY_execute_330 post (nI p) (nI 20) q1 q2 q3 q4 q5 q6 q7 q8 q9 q10 q11 q12 q13 q14 q15))))) (ql, xc + 1, pc, cw, cn, st, pa, sy, rg, ds, me, pw, pl, qu, ou) (nI p) (nI 20) (nI a) (nI b) := by
    refine nm_r (tk_i4' _ _) ⟨vB, nm_r (e' := rg (4 * p + b)) (by rw [eB]) (hE _ ?_)⟩
    exact br_f (by decide) (br_f (by decide) (br_f (by decide) (⟨vA, nm_r (e' := rg (4 * p + a)) (by rw [eA]) (br_f (by decide) (br_f (by decide) (br_f (by decide) (br_f (by decide) (br_f (by decide) (br_f (by decide) (br_f (by decide) (br_f (by decide) (⟨vA, nm_r (e' := upd rg (4 * p + a) (rg (4 * p + a))) (by rw [eA]) (br_f (by decide) (br_f tk_01 (tk_y330 hp (by decide) h)))⟩)))))))))⟩)))
  exact br_f (by decide) (br_f (by decide) (br_t (by decide) (br_f (by decide) (br_f (by decide) ((br_f (by decide) (br_f (by decide) (br_t (by decide) (CALL)))))))))
theorem tk_yex_22 {post : Int32 → SY → Prop} {p i w a b : Nat} (hp : p < 6) (hi : i < 64) (hs : sy p = nI i) (hw : w < 512) (hc : cw i = nI w) (ha : w / 32 % 4 = a) (hb : w / 128 = b) (ho : w % 32 = 22) {e : Nat} (hE : ∀ Q : Int32 → Prop, Q (nI e) → wpY_endOf Q (ql, xc + 1, pc, cw, cn, st, pa, sy, rg, ds, me, pw, pl, qu, ou) (nI p) (nI b)) (h : post 1 (ql, xc + 1, pc, cw, cn, st, pa, upd sy p (sy p + 1), upd rg (4 * p + a) (nI p), ds, me, pw, pl, qu, ou)) : wpY_execute post (ql, xc, pc, cw, cn, st, pa, sy, rg, ds, me, pw, pl, qu, ou) (nI p) := by
  have ep : (nI p).toNatClampNeg = p := nI_clamp (by omega)
  have ei : (nI i).toNatClampNeg = i := nI_clamp (by omega)
  have ha4 : a < 4 := by omega
  have hb4 : b < 4 := by omega
  have eA : (nI (4 * p + a)).toNatClampNeg = 4 * p + a := nI_clamp (by omega)
  have eB : (4 * nI p + nI b).toNatClampNeg = 4 * p + b := by rw [tk_i4', nI_clamp (by omega)]
  have vA : vp_in (nI (4 * p + a)) 24 := vp_in_nI (by omega) (by decide)
  have vB : vp_in (4 * nI p + nI b) 24 := by rw [tk_i4']; exact vp_in_nI (by omega) (by decide)
  have v6 : vp_in (nI p) 6 := vp_in_nI hp (by decide)
  have v64 : vp_in (nI i) 64 := vp_in_nI hi (by decide)
  refine nm_e ⟨v6, ?_⟩
  rw [ep, hs]
  refine tk_yIn1 63 (by omega) (br_f tk_01 ⟨v6, v64, nm_r (e' := nI w) (by rw [ei]; exact hc) (nm_r (e' := nI 22) (by rw [tk_op hw, ho]) (nm_r (e' := nI a) (by rw [tk_wa hw, ha]) (nm_r (e' := nI b) (by rw [tk_wb' hw, hb]) ⟨v6, v64, nm_r (e' := cn i) (by rw [ei]) (nm_r (e' := nI (4 * p + a)) (tk_i4' _ _) ⟨vA, nm_r (e' := rg (4 * p + a)) (by rw [eA]) ⟨vB, nm_r (e' := rg (4 * p + b)) (by rw [eB]) ?_⟩⟩)⟩)))⟩)
  have CALL : wpY_call (fun r_57 u => match u with | (q1, q2, q3, q4, q5, q6, q7, q8, q9, q10, q11, q12, q13, q14, q15) => (((r_57 = 0 → (post 0 (q1, q2, q3, q4, q5, q6, q7, q8, q9, q10, q11, q12, q13, q14, q15))) ∧ (¬ r_57 = 0 → (wY_execute_330 post (nI p) (nI 22) q1 q2 q3 q4 q5 q6 q7 q8 q9 q10 q11 q12 q13 q14 q15))))) (ql, xc + 1, pc, cw, cn, st, pa, sy, rg, ds, me, pw, pl, qu, ou) (nI p) (nI 22) (nI a) (nI b) := by
    refine nm_r (tk_i4' _ _) ⟨vB, nm_r (e' := rg (4 * p + b)) (by rw [eB]) (hE _ ?_)⟩
    exact br_f (by decide) (br_f (by decide) (br_f (by decide) (⟨vA, nm_r (e' := rg (4 * p + a)) (by rw [eA]) (br_f (by decide) (br_f (by decide) (br_f (by decide) (br_f (by decide) (br_f (by decide) (br_t (by decide) (br_f (by decide) (br_f (by decide) (⟨vA, nm_r (e' := upd rg (4 * p + a) (nI p)) (by rw [eA]) (br_f (by decide) (br_f tk_01 (tk_y330 hp (by decide) h)))⟩)))))))))⟩)))
  exact br_f (by decide) (br_f (by decide) (br_t (by decide) (br_f (by decide) (br_f (by decide) ((br_f (by decide) (br_f (by decide) (br_t (by decide) (CALL)))))))))
theorem tk_yex_23 {post : Int32 → SY → Prop} {p i w a b : Nat} (hp : p < 6) (hi : i < 64) (hs : sy p = nI i) (hw : w < 512) (hc : cw i = nI w) (ha : w / 32 % 4 = a) (hb : w / 128 = b) (ho : w % 32 = 23) {e : Nat} (hE : ∀ Q : Int32 → Prop, Q (nI e) → wpY_endOf Q (ql, xc + 1, pc, cw, cn, st, pa, sy, rg, ds, me, pw, pl, qu, ou) (nI p) (nI b)) (h : post 1 (ql, xc + 1, pc, cw, cn, st, pa, upd sy p (sy p + 1), upd rg (4 * p + a) (pa p), ds, me, pw, pl, qu, ou)) : wpY_execute post (ql, xc, pc, cw, cn, st, pa, sy, rg, ds, me, pw, pl, qu, ou) (nI p) := by
  have ep : (nI p).toNatClampNeg = p := nI_clamp (by omega)
  have ei : (nI i).toNatClampNeg = i := nI_clamp (by omega)
  have ha4 : a < 4 := by omega
  have hb4 : b < 4 := by omega
  have eA : (nI (4 * p + a)).toNatClampNeg = 4 * p + a := nI_clamp (by omega)
  have eB : (4 * nI p + nI b).toNatClampNeg = 4 * p + b := by rw [tk_i4', nI_clamp (by omega)]
  have vA : vp_in (nI (4 * p + a)) 24 := vp_in_nI (by omega) (by decide)
  have vB : vp_in (4 * nI p + nI b) 24 := by rw [tk_i4']; exact vp_in_nI (by omega) (by decide)
  have v6 : vp_in (nI p) 6 := vp_in_nI hp (by decide)
  have v64 : vp_in (nI i) 64 := vp_in_nI hi (by decide)
  refine nm_e ⟨v6, ?_⟩
  rw [ep, hs]
  refine tk_yIn1 63 (by omega) (br_f tk_01 ⟨v6, v64, nm_r (e' := nI w) (by rw [ei]; exact hc) (nm_r (e' := nI 23) (by rw [tk_op hw, ho]) (nm_r (e' := nI a) (by rw [tk_wa hw, ha]) (nm_r (e' := nI b) (by rw [tk_wb' hw, hb]) ⟨v6, v64, nm_r (e' := cn i) (by rw [ei]) (nm_r (e' := nI (4 * p + a)) (tk_i4' _ _) ⟨vA, nm_r (e' := rg (4 * p + a)) (by rw [eA]) ⟨vB, nm_r (e' := rg (4 * p + b)) (by rw [eB]) ?_⟩⟩)⟩)))⟩)
  have CALL : wpY_call (fun r_57 u => match u with | (q1, q2, q3, q4, q5, q6, q7, q8, q9, q10, q11, q12, q13, q14, q15) => (((r_57 = 0 → (post 0 (q1, q2, q3, q4, q5, q6, q7, q8, q9, q10, q11, q12, q13, q14, q15))) ∧ (¬ r_57 = 0 → (wY_execute_330 post (nI p) (nI 23) q1 q2 q3 q4 q5 q6 q7 q8 q9 q10 q11 q12 q13 q14 q15))))) (ql, xc + 1, pc, cw, cn, st, pa, sy, rg, ds, me, pw, pl, qu, ou) (nI p) (nI 23) (nI a) (nI b) := by
    refine nm_r (tk_i4' _ _) ⟨vB, nm_r (e' := rg (4 * p + b)) (by rw [eB]) (hE _ ?_)⟩
    exact br_f (by decide) (br_f (by decide) (br_f (by decide) (⟨vA, nm_r (e' := rg (4 * p + a)) (by rw [eA]) (br_f (by decide) (br_f (by decide) (br_f (by decide) (br_f (by decide) (br_f (by decide) (br_f (by decide) (br_t (by decide) ⟨v6, nm_r (e' := pa p) (by rw [ep]) (br_f (by decide) (⟨vA, nm_r (e' := upd rg (4 * p + a) (pa p)) (by rw [eA]) (br_f (by decide) (br_f tk_01 (tk_y330 hp (by decide) h)))⟩))⟩)))))))⟩)))
  exact br_f (by decide) (br_f (by decide) (br_t (by decide) (br_f (by decide) (br_f (by decide) ((br_f (by decide) (br_f (by decide) (br_t (by decide) (CALL)))))))))
theorem tk_yex_13 {post : Int32 → SY → Prop} {p i w a b : Nat} (hp : p < 6) (hi : i < 64) (hs : sy p = nI i) (hw : w < 512) (hc : cw i = nI w) (ha : w / 32 % 4 = a) (hb : w / 128 = b) (ho : w % 32 = 13) {e : Nat} (hE : ∀ Q : Int32 → Prop, Q (nI e) → wpY_endOf Q (ql, xc + 1, pc, cw, cn, st, pa, sy, rg, ds, me, pw, pl, qu, ou) (nI p) (nI b)) {c : Nat} (hcc : c < 6) (H : ∀ Q : Int32 → SY → Prop, Q (nI c) (Vql, Vxc, Vpc, Vcw, Vcn, Vst, Vpa, Vsy, Vrg, Vds, Vme, Vpw, Vpl, Vqu, Vou) → wpY_fork Q (ql, xc + 1, pc, cw, cn, st, pa, sy, rg, ds, me, pw, pl, qu, ou) (nI p)) (h : post 1 (Vql, Vxc, Vpc, Vcw, Vcn, Vst, Vpa, upd Vsy p (Vsy p + 1), upd (upd Vrg (4 * p + a) (nI c)) (4 * c + a) (-1), Vds, Vme, Vpw, Vpl, Vqu, Vou)) : wpY_execute post (ql, xc, pc, cw, cn, st, pa, sy, rg, ds, me, pw, pl, qu, ou) (nI p) := by
  have ep : (nI p).toNatClampNeg = p := nI_clamp (by omega)
  have ei : (nI i).toNatClampNeg = i := nI_clamp (by omega)
  have ha4 : a < 4 := by omega
  have hb4 : b < 4 := by omega
  have eA : (nI (4 * p + a)).toNatClampNeg = 4 * p + a := nI_clamp (by omega)
  have eB : (4 * nI p + nI b).toNatClampNeg = 4 * p + b := by rw [tk_i4', nI_clamp (by omega)]
  have vA : vp_in (nI (4 * p + a)) 24 := vp_in_nI (by omega) (by decide)
  have vB : vp_in (4 * nI p + nI b) 24 := by rw [tk_i4']; exact vp_in_nI (by omega) (by decide)
  have v6 : vp_in (nI p) 6 := vp_in_nI hp (by decide)
  have v64 : vp_in (nI i) 64 := vp_in_nI hi (by decide)
  refine nm_e ⟨v6, ?_⟩
  rw [ep, hs]
  refine tk_yIn1 63 (by omega) (br_f tk_01 ⟨v6, v64, nm_r (e' := nI w) (by rw [ei]; exact hc) (nm_r (e' := nI 13) (by rw [tk_op hw, ho]) (nm_r (e' := nI a) (by rw [tk_wa hw, ha]) (nm_r (e' := nI b) (by rw [tk_wb' hw, hb]) ⟨v6, v64, nm_r (e' := cn i) (by rw [ei]) (nm_r (e' := nI (4 * p + a)) (tk_i4' _ _) ⟨vA, nm_r (e' := rg (4 * p + a)) (by rw [eA]) ⟨vB, nm_r (e' := rg (4 * p + b)) (by rw [eB]) ?_⟩⟩)⟩)))⟩)
  have CALL : wpY_call (fun r_57 u => match u with | (q1, q2, q3, q4, q5, q6, q7, q8, q9, q10, q11, q12, q13, q14, q15) => (((r_57 = 0 → (post 0 (q1, q2, q3, q4, q5, q6, q7, q8, q9, q10, q11, q12, q13, q14, q15))) ∧ (¬ r_57 = 0 → (wY_execute_330 post (nI p) (nI 13) q1 q2 q3 q4 q5 q6 q7 q8 q9 q10 q11 q12 q13 q14 q15))))) (ql, xc + 1, pc, cw, cn, st, pa, sy, rg, ds, me, pw, pl, qu, ou) (nI p) (nI 13) (nI a) (nI b) := by
    refine nm_r (tk_i4' _ _) ⟨vB, nm_r (e' := rg (4 * p + b)) (by rw [eB]) (hE _ ?_)⟩
    exact br_f (by decide) (br_f (by decide) (br_f (by decide) (⟨vA, nm_r (e' := rg (4 * p + a)) (by rw [eA]) (br_t (by decide) (H _ (br_f (by decide) (br_f (by decide) (br_f (by decide) (br_f (by decide) (br_f (by decide) (br_f (by decide) (br_f (by decide) (⟨vA, nm_r (e' := upd Vrg (4 * p + a) (nI c)) (by rw [eA]) (br_t (by decide) (br_f (nI_pos (by omega)) ⟨by rw [tk_i4']; exact vp_in_nI (by omega) (by decide), nm_r (e' := upd (upd Vrg (4 * p + a) (nI c)) (4 * c + a) (-1)) (by rw [tk_i4', nI_clamp (by omega)]) (br_f tk_01 (tk_y330 hp (by decide) h))⟩))⟩))))))))))⟩)))
  exact br_f (by decide) (br_f (by decide) (br_t (by decide) (br_f (by decide) (br_f (by decide) ((br_f (by decide) (br_f (by decide) (br_t (by decide) (CALL)))))))))
theorem tk_yex_13n {post : Int32 → SY → Prop} {p i w a b : Nat} (hp : p < 6) (hi : i < 64) (hs : sy p = nI i) (hw : w < 512) (hc : cw i = nI w) (ha : w / 32 % 4 = a) (hb : w / 128 = b) (ho : w % 32 = 13) {e : Nat} (hE : ∀ Q : Int32 → Prop, Q (nI e) → wpY_endOf Q (ql, xc + 1, pc, cw, cn, st, pa, sy, rg, ds, me, pw, pl, qu, ou) (nI p) (nI b)) (H : ∀ Q : Int32 → SY → Prop, Q (-2) (Vql, Vxc, Vpc, Vcw, Vcn, Vst, Vpa, Vsy, Vrg, Vds, Vme, Vpw, Vpl, Vqu, Vou) → wpY_fork Q (ql, xc + 1, pc, cw, cn, st, pa, sy, rg, ds, me, pw, pl, qu, ou) (nI p)) (h : post 1 (Vql, Vxc, Vpc, Vcw, Vcn, Vst, Vpa, upd Vsy p (Vsy p + 1), upd Vrg (4 * p + a) (-2), Vds, Vme, Vpw, Vpl, Vqu, Vou)) : wpY_execute post (ql, xc, pc, cw, cn, st, pa, sy, rg, ds, me, pw, pl, qu, ou) (nI p) := by
  have ep : (nI p).toNatClampNeg = p := nI_clamp (by omega)
  have ei : (nI i).toNatClampNeg = i := nI_clamp (by omega)
  have ha4 : a < 4 := by omega
  have hb4 : b < 4 := by omega
  have eA : (nI (4 * p + a)).toNatClampNeg = 4 * p + a := nI_clamp (by omega)
  have eB : (4 * nI p + nI b).toNatClampNeg = 4 * p + b := by rw [tk_i4', nI_clamp (by omega)]
  have vA : vp_in (nI (4 * p + a)) 24 := vp_in_nI (by omega) (by decide)
  have vB : vp_in (4 * nI p + nI b) 24 := by rw [tk_i4']; exact vp_in_nI (by omega) (by decide)
  have v6 : vp_in (nI p) 6 := vp_in_nI hp (by decide)
  have v64 : vp_in (nI i) 64 := vp_in_nI hi (by decide)
  refine nm_e ⟨v6, ?_⟩
  rw [ep, hs]
  refine tk_yIn1 63 (by omega) (br_f tk_01 ⟨v6, v64, nm_r (e' := nI w) (by rw [ei]; exact hc) (nm_r (e' := nI 13) (by rw [tk_op hw, ho]) (nm_r (e' := nI a) (by rw [tk_wa hw, ha]) (nm_r (e' := nI b) (by rw [tk_wb' hw, hb]) ⟨v6, v64, nm_r (e' := cn i) (by rw [ei]) (nm_r (e' := nI (4 * p + a)) (tk_i4' _ _) ⟨vA, nm_r (e' := rg (4 * p + a)) (by rw [eA]) ⟨vB, nm_r (e' := rg (4 * p + b)) (by rw [eB]) ?_⟩⟩)⟩)))⟩)
  have CALL : wpY_call (fun r_57 u => match u with | (q1, q2, q3, q4, q5, q6, q7, q8, q9, q10, q11, q12, q13, q14, q15) => (((r_57 = 0 → (post 0 (q1, q2, q3, q4, q5, q6, q7, q8, q9, q10, q11, q12, q13, q14, q15))) ∧ (¬ r_57 = 0 → (wY_execute_330 post (nI p) (nI 13) q1 q2 q3 q4 q5 q6 q7 q8 q9 q10 q11 q12 q13 q14 q15))))) (ql, xc + 1, pc, cw, cn, st, pa, sy, rg, ds, me, pw, pl, qu, ou) (nI p) (nI 13) (nI a) (nI b) := by
    refine nm_r (tk_i4' _ _) ⟨vB, nm_r (e' := rg (4 * p + b)) (by rw [eB]) (hE _ ?_)⟩
    exact br_f (by decide) (br_f (by decide) (br_f (by decide) (⟨vA, nm_r (e' := rg (4 * p + a)) (by rw [eA]) (br_t (by decide) (H _ (br_f (by decide) (br_f (by decide) (br_f (by decide) (br_f (by decide) (br_f (by decide) (br_f (by decide) (br_f (by decide) (⟨vA, nm_r (e' := upd Vrg (4 * p + a) (-2)) (by rw [eA]) (br_t (by decide) (br_t (by decide) (br_f tk_01 (tk_y330 hp (by decide) h))))⟩))))))))))⟩)))
  exact br_f (by decide) (br_f (by decide) (br_t (by decide) (br_f (by decide) (br_f (by decide) ((br_f (by decide) (br_f (by decide) (br_t (by decide) (CALL)))))))))
theorem tk_yex_out {post : Int32 → SY → Prop} {p : Nat} (hp : p < 6) (hs : sy p < 0 ∨ (¬ sy p < 0 ∧ nI 64 ≤ sy p)) (H : ∀ Q : SY → Prop, Q (Vql, Vxc, Vpc, Vcw, Vcn, Vst, Vpa, Vsy, Vrg, Vds, Vme, Vpw, Vpl, Vqu, Vou) → wpY_end Q (ql, xc + 1, pc, cw, cn, st, pa, sy, rg, ds, me, pw, pl, qu, ou) (nI p) (-4)) (h : post 0 (Vql, Vxc, Vpc, Vcw, Vcn, Vst, Vpa, Vsy, Vrg, Vds, Vme, Vpw, Vpl, Vqu, Vou)) : wpY_execute post (ql, xc, pc, cw, cn, st, pa, sy, rg, ds, me, pw, pl, qu, ou) (nI p) := by
  have ep : (nI p).toNatClampNeg = p := nI_clamp (by omega)
  refine nm_e ⟨vp_in_nI hp (by decide), ?_⟩
  rw [ep]
  exact tk_yIn0 63 hs (br_t rfl (H _ h))
end
