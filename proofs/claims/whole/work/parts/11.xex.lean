section
variable {ql pc lv : Int32} {xc : Int64} {cw cn st sx sy rs pa rg me ds pw pl qu ou : Nat → Int32}
variable {Uql Upc Ulv : Int32} {Uxc : Int64} {Ucw Ucn Ust Usx Urs Upa Urg Ume Uds Upw Upl Uqu Uou : Nat → Int32}
variable {Vql Vpc : Int32} {Vxc : Int64} {Vcw Vcn Vst Vpa Vsy Vrg Vds Vme Vpw Vpl Vqu Vou : Nat → Int32}
theorem tk_xex_0 {post : SX → Prop} {p i w a b : Nat} (hp : p < 6) (hi : i < 64) (hs : sx p = nI i) (hw : w < 512) (hc : cw i = nI w) (ha : w / 32 % 4 = a) (hb : w / 128 = b) (ho : w % 32 = 0) (H : ∀ Q : SX → Prop, Q (Uql, Upc, Uxc, Ulv, Ucw, Ucn, Ust, Usx, Urs, Upa, Urg, Ume, Uds, Upw, Upl, Uqu, Uou) → wpX_finish Q (ql, pc, xc + 1, lv, cw, cn, st, upd sx p (nI i + 1), rs, pa, rg, me, ds, pw, pl, qu, ou) (nI p) (rg (4 * p + a))) (h : post (Uql, Upc, Uxc, Ulv, Ucw, Ucn, Ust, Usx, Urs, Upa, Urg, Ume, Uds, Upw, Upl, Uqu, Uou)) : wpX_execute post (ql, pc, xc, lv, cw, cn, st, sx, rs, pa, rg, me, ds, pw, pl, qu, ou) (nI p) := by
  have ep : (nI p).toNatClampNeg = p := nI_clamp (by omega)
  have ei : (nI i).toNatClampNeg = i := nI_clamp (by omega)
  have ha4 : a < 4 := by omega
  have hb4 : b < 4 := by omega
  have eA : (nI (4 * p + a)).toNatClampNeg = 4 * p + a := nI_clamp (by omega)
  have eB : (nI (4 * p + b)).toNatClampNeg = 4 * p + b := nI_clamp (by omega)
  have vA : vp_in (nI (4 * p + a)) 24 := vp_in_nI (by omega) (by decide)
  have vB : vp_in (nI (4 * p + b)) 24 := vp_in_nI (by omega) (by decide)
  have v6 : vp_in (nI p) 6 := vp_in_nI hp (by decide)
  have v64 : vp_in (nI i) 64 := vp_in_nI hi (by decide)
  refine nm_e ⟨v6, nm_r (e' := nI i) (by rw [ep]; exact hs) (tk_xSpot1 hi (br_f tk_01 ⟨v64, nm_r (e' := nI w) (by rw [ei]; exact hc) (nm_r (e' := nI (4 * p + a)) (by rw [tk_wa hw, tk_i4, ha]) (nm_r (e' := nI (4 * p + b)) (by rw [tk_wb hw, tk_i4, hb]) ⟨v64, nm_r (e' := cn i) (by rw [ei]) ⟨v6, nm_r (e' := upd sx p (nI i + 1)) (by rw [ep]) (nm_r (e' := nI 0) (by rw [tk_op hw, ho]) ?_)⟩⟩))⟩))⟩
  exact br_f (by decide) (br_f (by decide) (br_t (by decide) ⟨vA, by rw [eA]; exact H _ h⟩))
theorem tk_xex_1 {post : SX → Prop} {p i w a b : Nat} (hp : p < 6) (hi : i < 64) (hs : sx p = nI i) (hw : w < 512) (hc : cw i = nI w) (ha : w / 32 % 4 = a) (hb : w / 128 = b) (ho : w % 32 = 1) (H : ∀ Q : SX → Prop, Q (Uql, Upc, Uxc, Ulv, Ucw, Ucn, Ust, Usx, Urs, Upa, Urg, Ume, Uds, Upw, Upl, Uqu, Uou) → wpX_compute Q (ql, pc, xc + 1, lv, cw, cn, st, upd sx p (nI i + 1), rs, pa, rg, me, ds, pw, pl, qu, ou) (nI 1) (nI (4 * p + a)) (nI (4 * p + b)) (cn i)) (h : post (Uql, Upc, Uxc, Ulv, Ucw, Ucn, Ust, Usx, Urs, Upa, Urg, Ume, Uds, Upw, Upl, Uqu, Uou)) : wpX_execute post (ql, pc, xc, lv, cw, cn, st, sx, rs, pa, rg, me, ds, pw, pl, qu, ou) (nI p) := by
  have ep : (nI p).toNatClampNeg = p := nI_clamp (by omega)
  have ei : (nI i).toNatClampNeg = i := nI_clamp (by omega)
  have ha4 : a < 4 := by omega
  have hb4 : b < 4 := by omega
  have eA : (nI (4 * p + a)).toNatClampNeg = 4 * p + a := nI_clamp (by omega)
  have eB : (nI (4 * p + b)).toNatClampNeg = 4 * p + b := nI_clamp (by omega)
  have vA : vp_in (nI (4 * p + a)) 24 := vp_in_nI (by omega) (by decide)
  have vB : vp_in (nI (4 * p + b)) 24 := vp_in_nI (by omega) (by decide)
  have v6 : vp_in (nI p) 6 := vp_in_nI hp (by decide)
  have v64 : vp_in (nI i) 64 := vp_in_nI hi (by decide)
  refine nm_e ⟨v6, nm_r (e' := nI i) (by rw [ep]; exact hs) (tk_xSpot1 hi (br_f tk_01 ⟨v64, nm_r (e' := nI w) (by rw [ei]; exact hc) (nm_r (e' := nI (4 * p + a)) (by rw [tk_wa hw, tk_i4, ha]) (nm_r (e' := nI (4 * p + b)) (by rw [tk_wb hw, tk_i4, hb]) ⟨v64, nm_r (e' := cn i) (by rw [ei]) ⟨v6, nm_r (e' := upd sx p (nI i + 1)) (by rw [ep]) (nm_r (e' := nI 1) (by rw [tk_op hw, ho]) ?_)⟩⟩))⟩))⟩
  exact br_f (by decide) (br_f (by decide) (br_f (by decide) (br_t (by decide) (H _ h))))
theorem tk_xex_2 {post : SX → Prop} {p i w a b : Nat} (hp : p < 6) (hi : i < 64) (hs : sx p = nI i) (hw : w < 512) (hc : cw i = nI w) (ha : w / 32 % 4 = a) (hb : w / 128 = b) (ho : w % 32 = 2) (H : ∀ Q : SX → Prop, Q (Uql, Upc, Uxc, Ulv, Ucw, Ucn, Ust, Usx, Urs, Upa, Urg, Ume, Uds, Upw, Upl, Uqu, Uou) → wpX_compute Q (ql, pc, xc + 1, lv, cw, cn, st, upd sx p (nI i + 1), rs, pa, rg, me, ds, pw, pl, qu, ou) (nI 2) (nI (4 * p + a)) (nI (4 * p + b)) (cn i)) (h : post (Uql, Upc, Uxc, Ulv, Ucw, Ucn, Ust, Usx, Urs, Upa, Urg, Ume, Uds, Upw, Upl, Uqu, Uou)) : wpX_execute post (ql, pc, xc, lv, cw, cn, st, sx, rs, pa, rg, me, ds, pw, pl, qu, ou) (nI p) := by
  have ep : (nI p).toNatClampNeg = p := nI_clamp (by omega)
  have ei : (nI i).toNatClampNeg = i := nI_clamp (by omega)
  have ha4 : a < 4 := by omega
  have hb4 : b < 4 := by omega
  have eA : (nI (4 * p + a)).toNatClampNeg = 4 * p + a := nI_clamp (by omega)
  have eB : (nI (4 * p + b)).toNatClampNeg = 4 * p + b := nI_clamp (by omega)
  have vA : vp_in (nI (4 * p + a)) 24 := vp_in_nI (by omega) (by decide)
  have vB : vp_in (nI (4 * p + b)) 24 := vp_in_nI (by omega) (by decide)
  have v6 : vp_in (nI p) 6 := vp_in_nI hp (by decide)
  have v64 : vp_in (nI i) 64 := vp_in_nI hi (by decide)
  refine nm_e ⟨v6, nm_r (e' := nI i) (by rw [ep]; exact hs) (tk_xSpot1 hi (br_f tk_01 ⟨v64, nm_r (e' := nI w) (by rw [ei]; exact hc) (nm_r (e' := nI (4 * p + a)) (by rw [tk_wa hw, tk_i4, ha]) (nm_r (e' := nI (4 * p + b)) (by rw [tk_wb hw, tk_i4, hb]) ⟨v64, nm_r (e' := cn i) (by rw [ei]) ⟨v6, nm_r (e' := upd sx p (nI i + 1)) (by rw [ep]) (nm_r (e' := nI 2) (by rw [tk_op hw, ho]) ?_)⟩⟩))⟩))⟩
  exact br_f (by decide) (br_f (by decide) (br_f (by decide) (br_f (by decide) (br_t (by decide) (H _ h)))))
theorem tk_xex_3 {post : SX → Prop} {p i w a b : Nat} (hp : p < 6) (hi : i < 64) (hs : sx p = nI i) (hw : w < 512) (hc : cw i = nI w) (ha : w / 32 % 4 = a) (hb : w / 128 = b) (ho : w % 32 = 3) (H : ∀ Q : SX → Prop, Q (Uql, Upc, Uxc, Ulv, Ucw, Ucn, Ust, Usx, Urs, Upa, Urg, Ume, Uds, Upw, Upl, Uqu, Uou) → wpX_compute Q (ql, pc, xc + 1, lv, cw, cn, st, upd sx p (nI i + 1), rs, pa, rg, me, ds, pw, pl, qu, ou) (nI 3) (nI (4 * p + a)) (nI (4 * p + b)) (cn i)) (h : post (Uql, Upc, Uxc, Ulv, Ucw, Ucn, Ust, Usx, Urs, Upa, Urg, Ume, Uds, Upw, Upl, Uqu, Uou)) : wpX_execute post (ql, pc, xc, lv, cw, cn, st, sx, rs, pa, rg, me, ds, pw, pl, qu, ou) (nI p) := by
  have ep : (nI p).toNatClampNeg = p := nI_clamp (by omega)
  have ei : (nI i).toNatClampNeg = i := nI_clamp (by omega)
  have ha4 : a < 4 := by omega
  have hb4 : b < 4 := by omega
  have eA : (nI (4 * p + a)).toNatClampNeg = 4 * p + a := nI_clamp (by omega)
  have eB : (nI (4 * p + b)).toNatClampNeg = 4 * p + b := nI_clamp (by omega)
  have vA : vp_in (nI (4 * p + a)) 24 := vp_in_nI (by omega) (by decide)
  have vB : vp_in (nI (4 * p + b)) 24 := vp_in_nI (by omega) (by decide)
  have v6 : vp_in (nI p) 6 := vp_in_nI hp (by decide)
  have v64 : vp_in (nI i) 64 := vp_in_nI hi (by decide)
  refine nm_e ⟨v6, nm_r (e' := nI i) (by rw [ep]; exact hs) (tk_xSpot1 hi (br_f tk_01 ⟨v64, nm_r (e' := nI w) (by rw [ei]; exact hc) (nm_r (e' := nI (4 * p + a)) (by rw [tk_wa hw, tk_i4, ha]) (nm_r (e' := nI (4 * p + b)) (by rw [tk_wb hw, tk_i4, hb]) ⟨v64, nm_r (e' := cn i) (by rw [ei]) ⟨v6, nm_r (e' := upd sx p (nI i + 1)) (by rw [ep]) (nm_r (e' := nI 3) (by rw [tk_op hw, ho]) ?_)⟩⟩))⟩))⟩
  exact br_f (by decide) (br_f (by decide) (br_f (by decide) (br_f (by decide) (br_f (by decide) (br_t (by decide) (H _ h))))))
theorem tk_xex_4 {post : SX → Prop} {p i w a b : Nat} (hp : p < 6) (hi : i < 64) (hs : sx p = nI i) (hw : w < 512) (hc : cw i = nI w) (ha : w / 32 % 4 = a) (hb : w / 128 = b) (ho : w % 32 = 4) (H : ∀ Q : SX → Prop, Q (Uql, Upc, Uxc, Ulv, Ucw, Ucn, Ust, Usx, Urs, Upa, Urg, Ume, Uds, Upw, Upl, Uqu, Uou) → wpX_compute Q (ql, pc, xc + 1, lv, cw, cn, st, upd sx p (nI i + 1), rs, pa, rg, me, ds, pw, pl, qu, ou) (nI 4) (nI (4 * p + a)) (nI (4 * p + b)) (cn i)) (h : post (Uql, Upc, Uxc, Ulv, Ucw, Ucn, Ust, Usx, Urs, Upa, Urg, Ume, Uds, Upw, Upl, Uqu, Uou)) : wpX_execute post (ql, pc, xc, lv, cw, cn, st, sx, rs, pa, rg, me, ds, pw, pl, qu, ou) (nI p) := by
  have ep : (nI p).toNatClampNeg = p := nI_clamp (by omega)
  have ei : (nI i).toNatClampNeg = i := nI_clamp (by omega)
  have ha4 : a < 4 := by omega
  have hb4 : b < 4 := by omega
  have eA : (nI (4 * p + a)).toNatClampNeg = 4 * p + a := nI_clamp (by omega)
  have eB : (nI (4 * p + b)).toNatClampNeg = 4 * p + b := nI_clamp (by omega)
  have vA : vp_in (nI (4 * p + a)) 24 := vp_in_nI (by omega) (by decide)
  have vB : vp_in (nI (4 * p + b)) 24 := vp_in_nI (by omega) (by decide)
  have v6 : vp_in (nI p) 6 := vp_in_nI hp (by decide)
  have v64 : vp_in (nI i) 64 := vp_in_nI hi (by decide)
  refine nm_e ⟨v6, nm_r (e' := nI i) (by rw [ep]; exact hs) (tk_xSpot1 hi (br_f tk_01 ⟨v64, nm_r (e' := nI w) (by rw [ei]; exact hc) (nm_r (e' := nI (4 * p + a)) (by rw [tk_wa hw, tk_i4, ha]) (nm_r (e' := nI (4 * p + b)) (by rw [tk_wb hw, tk_i4, hb]) ⟨v64, nm_r (e' := cn i) (by rw [ei]) ⟨v6, nm_r (e' := upd sx p (nI i + 1)) (by rw [ep]) (nm_r (e' := nI 4) (by rw [tk_op hw, ho]) ?_)⟩⟩))⟩))⟩
  exact br_f (by decide) (br_f (by decide) (br_f (by decide) (br_f (by decide) (br_f (by decide) (br_f (by decide) (br_t (by decide) (H _ h)))))))
theorem tk_xex_5 {post : SX → Prop} {p i w a b : Nat} (hp : p < 6) (hi : i < 64) (hs : sx p = nI i) (hw : w < 512) (hc : cw i = nI w) (ha : w / 32 % 4 = a) (hb : w / 128 = b) (ho : w % 32 = 5) (H : ∀ Q : SX → Prop, Q (Uql, Upc, Uxc, Ulv, Ucw, Ucn, Ust, Usx, Urs, Upa, Urg, Ume, Uds, Upw, Upl, Uqu, Uou) → wpX_compute Q (ql, pc, xc + 1, lv, cw, cn, st, upd sx p (nI i + 1), rs, pa, rg, me, ds, pw, pl, qu, ou) (nI 5) (nI (4 * p + a)) (nI (4 * p + b)) (cn i)) (h : post (Uql, Upc, Uxc, Ulv, Ucw, Ucn, Ust, Usx, Urs, Upa, Urg, Ume, Uds, Upw, Upl, Uqu, Uou)) : wpX_execute post (ql, pc, xc, lv, cw, cn, st, sx, rs, pa, rg, me, ds, pw, pl, qu, ou) (nI p) := by
  have ep : (nI p).toNatClampNeg = p := nI_clamp (by omega)
  have ei : (nI i).toNatClampNeg = i := nI_clamp (by omega)
  have ha4 : a < 4 := by omega
  have hb4 : b < 4 := by omega
  have eA : (nI (4 * p + a)).toNatClampNeg = 4 * p + a := nI_clamp (by omega)
  have eB : (nI (4 * p + b)).toNatClampNeg = 4 * p + b := nI_clamp (by omega)
  have vA : vp_in (nI (4 * p + a)) 24 := vp_in_nI (by omega) (by decide)
  have vB : vp_in (nI (4 * p + b)) 24 := vp_in_nI (by omega) (by decide)
  have v6 : vp_in (nI p) 6 := vp_in_nI hp (by decide)
  have v64 : vp_in (nI i) 64 := vp_in_nI hi (by decide)
  refine nm_e ⟨v6, nm_r (e' := nI i) (by rw [ep]; exact hs) (tk_xSpot1 hi (br_f tk_01 ⟨v64, nm_r (e' := nI w) (by rw [ei]; exact hc) (nm_r (e' := nI (4 * p + a)) (by rw [tk_wa hw, tk_i4, ha]) (nm_r (e' := nI (4 * p + b)) (by rw [tk_wb hw, tk_i4, hb]) ⟨v64, nm_r (e' := cn i) (by rw [ei]) ⟨v6, nm_r (e' := upd sx p (nI i + 1)) (by rw [ep]) (nm_r (e' := nI 5) (by rw [tk_op hw, ho]) ?_)⟩⟩))⟩))⟩
  exact br_f (by decide) (br_f (by decide) (br_f (by decide) (br_f (by decide) (br_f (by decide) (br_f (by decide) (br_f (by decide) (br_t (by decide) (H _ h))))))))
theorem tk_xex_6 {post : SX → Prop} {p i w a b : Nat} (hp : p < 6) (hi : i < 64) (hs : sx p = nI i) (hw : w < 512) (hc : cw i = nI w) (ha : w / 32 % 4 = a) (hb : w / 128 = b) (ho : w % 32 = 6) (H : ∀ Q : SX → Prop, Q (Uql, Upc, Uxc, Ulv, Ucw, Ucn, Ust, Usx, Urs, Upa, Urg, Ume, Uds, Upw, Upl, Uqu, Uou) → wpX_compute Q (ql, pc, xc + 1, lv, cw, cn, st, upd sx p (nI i + 1), rs, pa, rg, me, ds, pw, pl, qu, ou) (nI 6) (nI (4 * p + a)) (nI (4 * p + b)) (cn i)) (h : post (Uql, Upc, Uxc, Ulv, Ucw, Ucn, Ust, Usx, Urs, Upa, Urg, Ume, Uds, Upw, Upl, Uqu, Uou)) : wpX_execute post (ql, pc, xc, lv, cw, cn, st, sx, rs, pa, rg, me, ds, pw, pl, qu, ou) (nI p) := by
  have ep : (nI p).toNatClampNeg = p := nI_clamp (by omega)
  have ei : (nI i).toNatClampNeg = i := nI_clamp (by omega)
  have ha4 : a < 4 := by omega
  have hb4 : b < 4 := by omega
  have eA : (nI (4 * p + a)).toNatClampNeg = 4 * p + a := nI_clamp (by omega)
  have eB : (nI (4 * p + b)).toNatClampNeg = 4 * p + b := nI_clamp (by omega)
  have vA : vp_in (nI (4 * p + a)) 24 := vp_in_nI (by omega) (by decide)
  have vB : vp_in (nI (4 * p + b)) 24 := vp_in_nI (by omega) (by decide)
  have v6 : vp_in (nI p) 6 := vp_in_nI hp (by decide)
  have v64 : vp_in (nI i) 64 := vp_in_nI hi (by decide)
  refine nm_e ⟨v6, nm_r (e' := nI i) (by rw [ep]; exact hs) (tk_xSpot1 hi (br_f tk_01 ⟨v64, nm_r (e' := nI w) (by rw [ei]; exact hc) (nm_r (e' := nI (4 * p + a)) (by rw [tk_wa hw, tk_i4, ha]) (nm_r (e' := nI (4 * p + b)) (by rw [tk_wb hw, tk_i4, hb]) ⟨v64, nm_r (e' := cn i) (by rw [ei]) ⟨v6, nm_r (e' := upd sx p (nI i + 1)) (by rw [ep]) (nm_r (e' := nI 6) (by rw [tk_op hw, ho]) ?_)⟩⟩))⟩))⟩
  exact br_f (by decide) (br_f (by decide) (br_f (by decide) (br_f (by decide) (br_f (by decide) (br_f (by decide) (br_f (by decide) (br_f (by decide) (br_t (by decide) (H _ h)))))))))
theorem tk_xex_7 {post : SX → Prop} {p i w a b : Nat} (hp : p < 6) (hi : i < 64) (hs : sx p = nI i) (hw : w < 512) (hc : cw i = nI w) (ha : w / 32 % 4 = a) (hb : w / 128 = b) (ho : w % 32 = 7) (H : ∀ Q : SX → Prop, Q (Uql, Upc, Uxc, Ulv, Ucw, Ucn, Ust, Usx, Urs, Upa, Urg, Ume, Uds, Upw, Upl, Uqu, Uou) → wpX_compute Q (ql, pc, xc + 1, lv, cw, cn, st, upd sx p (nI i + 1), rs, pa, rg, me, ds, pw, pl, qu, ou) (nI 7) (nI (4 * p + a)) (nI (4 * p + b)) (cn i)) (h : post (Uql, Upc, Uxc, Ulv, Ucw, Ucn, Ust, Usx, Urs, Upa, Urg, Ume, Uds, Upw, Upl, Uqu, Uou)) : wpX_execute post (ql, pc, xc, lv, cw, cn, st, sx, rs, pa, rg, me, ds, pw, pl, qu, ou) (nI p) := by
  have ep : (nI p).toNatClampNeg = p := nI_clamp (by omega)
  have ei : (nI i).toNatClampNeg = i := nI_clamp (by omega)
  have ha4 : a < 4 := by omega
  have hb4 : b < 4 := by omega
  have eA : (nI (4 * p + a)).toNatClampNeg = 4 * p + a := nI_clamp (by omega)
  have eB : (nI (4 * p + b)).toNatClampNeg = 4 * p + b := nI_clamp (by omega)
  have vA : vp_in (nI (4 * p + a)) 24 := vp_in_nI (by omega) (by decide)
  have vB : vp_in (nI (4 * p + b)) 24 := vp_in_nI (by omega) (by decide)
  have v6 : vp_in (nI p) 6 := vp_in_nI hp (by decide)
  have v64 : vp_in (nI i) 64 := vp_in_nI hi (by decide)
  refine nm_e ⟨v6, nm_r (e' := nI i) (by rw [ep]; exact hs) (tk_xSpot1 hi (br_f tk_01 ⟨v64, nm_r (e' := nI w) (by rw [ei]; exact hc) (nm_r (e' := nI (4 * p + a)) (by rw [tk_wa hw, tk_i4, ha]) (nm_r (e' := nI (4 * p + b)) (by rw [tk_wb hw, tk_i4, hb]) ⟨v64, nm_r (e' := cn i) (by rw [ei]) ⟨v6, nm_r (e' := upd sx p (nI i + 1)) (by rw [ep]) (nm_r (e' := nI 7) (by rw [tk_op hw, ho]) ?_)⟩⟩))⟩))⟩
  exact br_f (by decide) (br_f (by decide) (br_f (by decide) (br_f (by decide) (br_f (by decide) (br_f (by decide) (br_f (by decide) (br_f (by decide) (br_f (by decide) (br_t (by decide) (H _ h))))))))))
theorem tk_xex_8 {post : SX → Prop} {p i w a b : Nat} (hp : p < 6) (hi : i < 64) (hs : sx p = nI i) (hw : w < 512) (hc : cw i = nI w) (ha : w / 32 % 4 = a) (hb : w / 128 = b) (ho : w % 32 = 8) (H : ∀ Q : SX → Prop, Q (Uql, Upc, Uxc, Ulv, Ucw, Ucn, Ust, Usx, Urs, Upa, Urg, Ume, Uds, Upw, Upl, Uqu, Uou) → wpX_load Q (ql, pc, xc + 1, lv, cw, cn, st, upd sx p (nI i + 1), rs, pa, rg, me, ds, pw, pl, qu, ou) (nI p) (nI (4 * p + a)) (rg (4 * p + b) + cn i)) (h : post (Uql, Upc, Uxc, Ulv, Ucw, Ucn, Ust, Usx, Urs, Upa, Urg, Ume, Uds, Upw, Upl, Uqu, Uou)) : wpX_execute post (ql, pc, xc, lv, cw, cn, st, sx, rs, pa, rg, me, ds, pw, pl, qu, ou) (nI p) := by
  have ep : (nI p).toNatClampNeg = p := nI_clamp (by omega)
  have ei : (nI i).toNatClampNeg = i := nI_clamp (by omega)
  have ha4 : a < 4 := by omega
  have hb4 : b < 4 := by omega
  have eA : (nI (4 * p + a)).toNatClampNeg = 4 * p + a := nI_clamp (by omega)
  have eB : (nI (4 * p + b)).toNatClampNeg = 4 * p + b := nI_clamp (by omega)
  have vA : vp_in (nI (4 * p + a)) 24 := vp_in_nI (by omega) (by decide)
  have vB : vp_in (nI (4 * p + b)) 24 := vp_in_nI (by omega) (by decide)
  have v6 : vp_in (nI p) 6 := vp_in_nI hp (by decide)
  have v64 : vp_in (nI i) 64 := vp_in_nI hi (by decide)
  refine nm_e ⟨v6, nm_r (e' := nI i) (by rw [ep]; exact hs) (tk_xSpot1 hi (br_f tk_01 ⟨v64, nm_r (e' := nI w) (by rw [ei]; exact hc) (nm_r (e' := nI (4 * p + a)) (by rw [tk_wa hw, tk_i4, ha]) (nm_r (e' := nI (4 * p + b)) (by rw [tk_wb hw, tk_i4, hb]) ⟨v64, nm_r (e' := cn i) (by rw [ei]) ⟨v6, nm_r (e' := upd sx p (nI i + 1)) (by rw [ep]) (nm_r (e' := nI 8) (by rw [tk_op hw, ho]) ?_)⟩⟩))⟩))⟩
  exact br_f (by decide) (br_f (by decide) (br_f (by decide) (br_f (by decide) (br_f (by decide) (br_f (by decide) (br_f (by decide) (br_f (by decide) (br_f (by decide) (br_f (by decide) (br_t (by decide) ⟨vB, by rw [eB]; exact H _ h⟩))))))))))
theorem tk_xex_9 {post : SX → Prop} {p i w a b : Nat} (hp : p < 6) (hi : i < 64) (hs : sx p = nI i) (hw : w < 512) (hc : cw i = nI w) (ha : w / 32 % 4 = a) (hb : w / 128 = b) (ho : w % 32 = 9) (H : ∀ Q : SX → Prop, Q (Uql, Upc, Uxc, Ulv, Ucw, Ucn, Ust, Usx, Urs, Upa, Urg, Ume, Uds, Upw, Upl, Uqu, Uou) → wpX_store Q (ql, pc, xc + 1, lv, cw, cn, st, upd sx p (nI i + 1), rs, pa, rg, me, ds, pw, pl, qu, ou) (nI p) (nI (4 * p + a)) (rg (4 * p + b) + cn i)) (h : post (Uql, Upc, Uxc, Ulv, Ucw, Ucn, Ust, Usx, Urs, Upa, Urg, Ume, Uds, Upw, Upl, Uqu, Uou)) : wpX_execute post (ql, pc, xc, lv, cw, cn, st, sx, rs, pa, rg, me, ds, pw, pl, qu, ou) (nI p) := by
  have ep : (nI p).toNatClampNeg = p := nI_clamp (by omega)
  have ei : (nI i).toNatClampNeg = i := nI_clamp (by omega)
  have ha4 : a < 4 := by omega
  have hb4 : b < 4 := by omega
  have eA : (nI (4 * p + a)).toNatClampNeg = 4 * p + a := nI_clamp (by omega)
  have eB : (nI (4 * p + b)).toNatClampNeg = 4 * p + b := nI_clamp (by omega)
  have vA : vp_in (nI (4 * p + a)) 24 := vp_in_nI (by omega) (by decide)
  have vB : vp_in (nI (4 * p + b)) 24 := vp_in_nI (by omega) (by decide)
  have v6 : vp_in (nI p) 6 := vp_in_nI hp (by decide)
  have v64 : vp_in (nI i) 64 := vp_in_nI hi (by decide)
  refine nm_e ⟨v6, nm_r (e' := nI i) (by rw [ep]; exact hs) (tk_xSpot1 hi (br_f tk_01 ⟨v64, nm_r (e' := nI w) (by rw [ei]; exact hc) (nm_r (e' := nI (4 * p + a)) (by rw [tk_wa hw, tk_i4, ha]) (nm_r (e' := nI (4 * p + b)) (by rw [tk_wb hw, tk_i4, hb]) ⟨v64, nm_r (e' := cn i) (by rw [ei]) ⟨v6, nm_r (e' := upd sx p (nI i + 1)) (by rw [ep]) (nm_r (e' := nI 9) (by rw [tk_op hw, ho]) ?_)⟩⟩))⟩))⟩
  exact br_f (by decide) (br_f (by decide) (br_f (by decide) (br_f (by decide) (br_f (by decide) (br_f (by decide) (br_f (by decide) (br_f (by decide) (br_f (by decide) (br_f (by decide) (br_f (by decide) (br_t (by decide) ⟨vB, by rw [eB]; exact H _ h⟩)))))))))))
theorem tk_xex_13 {post : SX → Prop} {p i w a b : Nat} (hp : p < 6) (hi : i < 64) (hs : sx p = nI i) (hw : w < 512) (hc : cw i = nI w) (ha : w / 32 % 4 = a) (hb : w / 128 = b) (ho : w % 32 = 13) (H : ∀ Q : SX → Prop, Q (Uql, Upc, Uxc, Ulv, Ucw, Ucn, Ust, Usx, Urs, Upa, Urg, Ume, Uds, Upw, Upl, Uqu, Uou) → wpX_fork Q (ql, pc, xc + 1, lv, cw, cn, st, upd sx p (nI i + 1), rs, pa, rg, me, ds, pw, pl, qu, ou) (nI p) (nI (4 * p + a))) (h : post (Uql, Upc, Uxc, Ulv, Ucw, Ucn, Ust, Usx, Urs, Upa, Urg, Ume, Uds, Upw, Upl, Uqu, Uou)) : wpX_execute post (ql, pc, xc, lv, cw, cn, st, sx, rs, pa, rg, me, ds, pw, pl, qu, ou) (nI p) := by
  have ep : (nI p).toNatClampNeg = p := nI_clamp (by omega)
  have ei : (nI i).toNatClampNeg = i := nI_clamp (by omega)
  have ha4 : a < 4 := by omega
  have hb4 : b < 4 := by omega
  have eA : (nI (4 * p + a)).toNatClampNeg = 4 * p + a := nI_clamp (by omega)
  have eB : (nI (4 * p + b)).toNatClampNeg = 4 * p + b := nI_clamp (by omega)
  have vA : vp_in (nI (4 * p + a)) 24 := vp_in_nI (by omega) (by decide)
  have vB : vp_in (nI (4 * p + b)) 24 := vp_in_nI (by omega) (by decide)
  have v6 : vp_in (nI p) 6 := vp_in_nI hp (by decide)
  have v64 : vp_in (nI i) 64 := vp_in_nI hi (by decide)
  refine nm_e ⟨v6, nm_r (e' := nI i) (by rw [ep]; exact hs) (tk_xSpot1 hi (br_f tk_01 ⟨v64, nm_r (e' := nI w) (by rw [ei]; exact hc) (nm_r (e' := nI (4 * p + a)) (by rw [tk_wa hw, tk_i4, ha]) (nm_r (e' := nI (4 * p + b)) (by rw [tk_wb hw, tk_i4, hb]) ⟨v64, nm_r (e' := cn i) (by rw [ei]) ⟨v6, nm_r (e' := upd sx p (nI i + 1)) (by rw [ep]) (nm_r (e' := nI 13) (by rw [tk_op hw, ho]) ?_)⟩⟩))⟩))⟩
  exact br_f (by decide) (br_f (by decide) (br_f (by decide) (br_f (by decide) (br_f (by decide) (br_f (by decide) (br_f (by decide) (br_f (by decide) (br_f (by decide) (br_f (by decide) (br_f (by decide) (br_f (by decide) (br_f (by decide) (br_f (by decide) (br_f (by decide) (br_t (by decide) (H _ h))))))))))))))))
theorem tk_xex_14 {post : SX → Prop} {p i w a b : Nat} (hp : p < 6) (hi : i < 64) (hs : sx p = nI i) (hw : w < 512) (hc : cw i = nI w) (ha : w / 32 % 4 = a) (hb : w / 128 = b) (ho : w % 32 = 14) (H : ∀ Q : SX → Prop, Q (Uql, Upc, Uxc, Ulv, Ucw, Ucn, Ust, Usx, Urs, Upa, Urg, Ume, Uds, Upw, Upl, Uqu, Uou) → wpX_collect Q (ql, pc, xc + 1, lv, cw, cn, st, upd sx p (nI i + 1), rs, pa, rg, me, ds, pw, pl, qu, ou) (nI p) (nI (4 * p + a)) (nI (4 * p + b))) (h : post (Uql, Upc, Uxc, Ulv, Ucw, Ucn, Ust, Usx, Urs, Upa, Urg, Ume, Uds, Upw, Upl, Uqu, Uou)) : wpX_execute post (ql, pc, xc, lv, cw, cn, st, sx, rs, pa, rg, me, ds, pw, pl, qu, ou) (nI p) := by
  have ep : (nI p).toNatClampNeg = p := nI_clamp (by omega)
  have ei : (nI i).toNatClampNeg = i := nI_clamp (by omega)
  have ha4 : a < 4 := by omega
  have hb4 : b < 4 := by omega
  have eA : (nI (4 * p + a)).toNatClampNeg = 4 * p + a := nI_clamp (by omega)
  have eB : (nI (4 * p + b)).toNatClampNeg = 4 * p + b := nI_clamp (by omega)
  have vA : vp_in (nI (4 * p + a)) 24 := vp_in_nI (by omega) (by decide)
  have vB : vp_in (nI (4 * p + b)) 24 := vp_in_nI (by omega) (by decide)
  have v6 : vp_in (nI p) 6 := vp_in_nI hp (by decide)
  have v64 : vp_in (nI i) 64 := vp_in_nI hi (by decide)
  refine nm_e ⟨v6, nm_r (e' := nI i) (by rw [ep]; exact hs) (tk_xSpot1 hi (br_f tk_01 ⟨v64, nm_r (e' := nI w) (by rw [ei]; exact hc) (nm_r (e' := nI (4 * p + a)) (by rw [tk_wa hw, tk_i4, ha]) (nm_r (e' := nI (4 * p + b)) (by rw [tk_wb hw, tk_i4, hb]) ⟨v64, nm_r (e' := cn i) (by rw [ei]) ⟨v6, nm_r (e' := upd sx p (nI i + 1)) (by rw [ep]) (nm_r (e' := nI 14) (by rw [tk_op hw, ho]) ?_)⟩⟩))⟩))⟩
  exact br_f (by decide) (br_f (by decide) (br_f (by decide) (br_f (by decide) (br_f (by decide) (br_f (by decide) (br_f (by decide) (br_f (by decide) (br_f (by decide) (br_f (by decide) (br_f (by decide) (br_f (by decide) (br_f (by decide) (br_f (by decide) (br_f (by decide) (br_f (by decide) (br_t (by decide) (H _ h)))))))))))))))))
theorem tk_xex_15 {post : SX → Prop} {p i w a b : Nat} (hp : p < 6) (hi : i < 64) (hs : sx p = nI i) (hw : w < 512) (hc : cw i = nI w) (ha : w / 32 % 4 = a) (hb : w / 128 = b) (ho : w % 32 = 15) (H : ∀ Q : SX → Prop, Q (Uql, Upc, Uxc, Ulv, Ucw, Ucn, Ust, Usx, Urs, Upa, Urg, Ume, Uds, Upw, Upl, Uqu, Uou) → wpX_openPipe Q (ql, pc, xc + 1, lv, cw, cn, st, upd sx p (nI i + 1), rs, pa, rg, me, ds, pw, pl, qu, ou) (nI p) (nI (4 * p + a)) (nI (4 * p + b))) (h : post (Uql, Upc, Uxc, Ulv, Ucw, Ucn, Ust, Usx, Urs, Upa, Urg, Ume, Uds, Upw, Upl, Uqu, Uou)) : wpX_execute post (ql, pc, xc, lv, cw, cn, st, sx, rs, pa, rg, me, ds, pw, pl, qu, ou) (nI p) := by
  have ep : (nI p).toNatClampNeg = p := nI_clamp (by omega)
  have ei : (nI i).toNatClampNeg = i := nI_clamp (by omega)
  have ha4 : a < 4 := by omega
  have hb4 : b < 4 := by omega
  have eA : (nI (4 * p + a)).toNatClampNeg = 4 * p + a := nI_clamp (by omega)
  have eB : (nI (4 * p + b)).toNatClampNeg = 4 * p + b := nI_clamp (by omega)
  have vA : vp_in (nI (4 * p + a)) 24 := vp_in_nI (by omega) (by decide)
  have vB : vp_in (nI (4 * p + b)) 24 := vp_in_nI (by omega) (by decide)
  have v6 : vp_in (nI p) 6 := vp_in_nI hp (by decide)
  have v64 : vp_in (nI i) 64 := vp_in_nI hi (by decide)
  refine nm_e ⟨v6, nm_r (e' := nI i) (by rw [ep]; exact hs) (tk_xSpot1 hi (br_f tk_01 ⟨v64, nm_r (e' := nI w) (by rw [ei]; exact hc) (nm_r (e' := nI (4 * p + a)) (by rw [tk_wa hw, tk_i4, ha]) (nm_r (e' := nI (4 * p + b)) (by rw [tk_wb hw, tk_i4, hb]) ⟨v64, nm_r (e' := cn i) (by rw [ei]) ⟨v6, nm_r (e' := upd sx p (nI i + 1)) (by rw [ep]) (nm_r (e' := nI 15) (by rw [tk_op hw, ho]) ?_)⟩⟩))⟩))⟩
  exact br_f (by decide) (br_f (by decide) (br_f (by decide) (br_f (by decide) (br_f (by decide) (br_f (by decide) (br_f (by decide) (br_f (by decide) (br_f (by decide) (br_f (by decide) (br_f (by decide) (br_f (by decide) (br_f (by decide) (br_f (by decide) (br_f (by decide) (br_f (by decide) (br_f (by decide) (br_t (by decide) (H _ h))))))))))))))))))
theorem tk_xex_16 {post : SX → Prop} {p i w a b : Nat} (hp : p < 6) (hi : i < 64) (hs : sx p = nI i) (hw : w < 512) (hc : cw i = nI w) (ha : w / 32 % 4 = a) (hb : w / 128 = b) (ho : w % 32 = 16) (H : ∀ Q : SX → Prop, Q (Uql, Upc, Uxc, Ulv, Ucw, Ucn, Ust, Usx, Urs, Upa, Urg, Ume, Uds, Upw, Upl, Uqu, Uou) → wpX_read Q (ql, pc, xc + 1, lv, cw, cn, st, upd sx p (nI i + 1), rs, pa, rg, me, ds, pw, pl, qu, ou) (nI p) (nI (4 * p + a)) (nI (4 * p + b))) (h : post (Uql, Upc, Uxc, Ulv, Ucw, Ucn, Ust, Usx, Urs, Upa, Urg, Ume, Uds, Upw, Upl, Uqu, Uou)) : wpX_execute post (ql, pc, xc, lv, cw, cn, st, sx, rs, pa, rg, me, ds, pw, pl, qu, ou) (nI p) := by
  have ep : (nI p).toNatClampNeg = p := nI_clamp (by omega)
  have ei : (nI i).toNatClampNeg = i := nI_clamp (by omega)
  have ha4 : a < 4 := by omega
  have hb4 : b < 4 := by omega
  have eA : (nI (4 * p + a)).toNatClampNeg = 4 * p + a := nI_clamp (by omega)
  have eB : (nI (4 * p + b)).toNatClampNeg = 4 * p + b := nI_clamp (by omega)
  have vA : vp_in (nI (4 * p + a)) 24 := vp_in_nI (by omega) (by decide)
  have vB : vp_in (nI (4 * p + b)) 24 := vp_in_nI (by omega) (by decide)
  have v6 : vp_in (nI p) 6 := vp_in_nI hp (by decide)
  have v64 : vp_in (nI i) 64 := vp_in_nI hi (by decide)
  refine nm_e ⟨v6, nm_r (e' := nI i) (by rw [ep]; exact hs) (tk_xSpot1 hi (br_f tk_01 ⟨v64, nm_r (e' := nI w) (by rw [ei]; exact hc) (nm_r (e' := nI (4 * p + a)) (by rw [tk_wa hw, tk_i4, ha]) (nm_r (e' := nI (4 * p + b)) (by rw [tk_wb hw, tk_i4, hb]) ⟨v64, nm_r (e' := cn i) (by rw [ei]) ⟨v6, nm_r (e' := upd sx p (nI i + 1)) (by rw [ep]) (nm_r (e' := nI 16) (by rw [tk_op hw, ho]) ?_)⟩⟩))⟩))⟩
  exact br_f (by decide) (br_f (by decide) (br_f (by decide) (br_f (by decide) (br_f (by decide) (br_f (by decide) (br_f (by decide) (br_f (by decide) (br_f (by decide) (br_f (by decide) (br_f (by decide) (br_f (by decide) (br_f (by decide) (br_f (by decide) (br_f (by decide) (br_f (by decide) (br_f (by decide) (br_f (by decide) (br_t (by decide) (H _ h)))))))))))))))))))
theorem tk_xex_17 {post : SX → Prop} {p i w a b : Nat} (hp : p < 6) (hi : i < 64) (hs : sx p = nI i) (hw : w < 512) (hc : cw i = nI w) (ha : w / 32 % 4 = a) (hb : w / 128 = b) (ho : w % 32 = 17) (H : ∀ Q : SX → Prop, Q (Uql, Upc, Uxc, Ulv, Ucw, Ucn, Ust, Usx, Urs, Upa, Urg, Ume, Uds, Upw, Upl, Uqu, Uou) → wpX_write Q (ql, pc, xc + 1, lv, cw, cn, st, upd sx p (nI i + 1), rs, pa, rg, me, ds, pw, pl, qu, ou) (nI p) (nI (4 * p + a)) (nI (4 * p + b))) (h : post (Uql, Upc, Uxc, Ulv, Ucw, Ucn, Ust, Usx, Urs, Upa, Urg, Ume, Uds, Upw, Upl, Uqu, Uou)) : wpX_execute post (ql, pc, xc, lv, cw, cn, st, sx, rs, pa, rg, me, ds, pw, pl, qu, ou) (nI p) := by
  have ep : (nI p).toNatClampNeg = p := nI_clamp (by omega)
  have ei : (nI i).toNatClampNeg = i := nI_clamp (by omega)
  have ha4 : a < 4 := by omega
  have hb4 : b < 4 := by omega
  have eA : (nI (4 * p + a)).toNatClampNeg = 4 * p + a := nI_clamp (by omega)
  have eB : (nI (4 * p + b)).toNatClampNeg = 4 * p + b := nI_clamp (by omega)
  have vA : vp_in (nI (4 * p + a)) 24 := vp_in_nI (by omega) (by decide)
  have vB : vp_in (nI (4 * p + b)) 24 := vp_in_nI (by omega) (by decide)
  have v6 : vp_in (nI p) 6 := vp_in_nI hp (by decide)
  have v64 : vp_in (nI i) 64 := vp_in_nI hi (by decide)
  refine nm_e ⟨v6, nm_r (e' := nI i) (by rw [ep]; exact hs) (tk_xSpot1 hi (br_f tk_01 ⟨v64, nm_r (e' := nI w) (by rw [ei]; exact hc) (nm_r (e' := nI (4 * p + a)) (by rw [tk_wa hw, tk_i4, ha]) (nm_r (e' := nI (4 * p + b)) (by rw [tk_wb hw, tk_i4, hb]) ⟨v64, nm_r (e' := cn i) (by rw [ei]) ⟨v6, nm_r (e' := upd sx p (nI i + 1)) (by rw [ep]) (nm_r (e' := nI 17) (by rw [tk_op hw, ho]) ?_)⟩⟩))⟩))⟩
  exact br_f (by decide) (br_f (by decide) (br_f (by decide) (br_f (by decide) (br_f (by decide) (br_f (by decide) (br_f (by decide) (br_f (by decide) (br_f (by decide) (br_f (by decide) (br_f (by decide) (br_f (by decide) (br_f (by decide) (br_f (by decide) (br_f (by decide) (br_f (by decide) (br_f (by decide) (br_f (by decide) (br_f (by decide) (br_t (by decide) (H _ h))))))))))))))))))))
theorem tk_xex_18 {post : SX → Prop} {p i w a b : Nat} (hp : p < 6) (hi : i < 64) (hs : sx p = nI i) (hw : w < 512) (hc : cw i = nI w) (ha : w / 32 % 4 = a) (hb : w / 128 = b) (ho : w % 32 = 18) (H : ∀ Q : SX → Prop, Q (Uql, Upc, Uxc, Ulv, Ucw, Ucn, Ust, Usx, Urs, Upa, Urg, Ume, Uds, Upw, Upl, Uqu, Uou) → wpX_close Q (ql, pc, xc + 1, lv, cw, cn, st, upd sx p (nI i + 1), rs, pa, rg, me, ds, pw, pl, qu, ou) (nI p) (nI (4 * p + a)) (nI (4 * p + b))) (h : post (Uql, Upc, Uxc, Ulv, Ucw, Ucn, Ust, Usx, Urs, Upa, Urg, Ume, Uds, Upw, Upl, Uqu, Uou)) : wpX_execute post (ql, pc, xc, lv, cw, cn, st, sx, rs, pa, rg, me, ds, pw, pl, qu, ou) (nI p) := by
  have ep : (nI p).toNatClampNeg = p := nI_clamp (by omega)
  have ei : (nI i).toNatClampNeg = i := nI_clamp (by omega)
  have ha4 : a < 4 := by omega
  have hb4 : b < 4 := by omega
  have eA : (nI (4 * p + a)).toNatClampNeg = 4 * p + a := nI_clamp (by omega)
  have eB : (nI (4 * p + b)).toNatClampNeg = 4 * p + b := nI_clamp (by omega)
  have vA : vp_in (nI (4 * p + a)) 24 := vp_in_nI (by omega) (by decide)
  have vB : vp_in (nI (4 * p + b)) 24 := vp_in_nI (by omega) (by decide)
  have v6 : vp_in (nI p) 6 := vp_in_nI hp (by decide)
  have v64 : vp_in (nI i) 64 := vp_in_nI hi (by decide)
  refine nm_e ⟨v6, nm_r (e' := nI i) (by rw [ep]; exact hs) (tk_xSpot1 hi (br_f tk_01 ⟨v64, nm_r (e' := nI w) (by rw [ei]; exact hc) (nm_r (e' := nI (4 * p + a)) (by rw [tk_wa hw, tk_i4, ha]) (nm_r (e' := nI (4 * p + b)) (by rw [tk_wb hw, tk_i4, hb]) ⟨v64, nm_r (e' := cn i) (by rw [ei]) ⟨v6, nm_r (e' := upd sx p (nI i + 1)) (by rw [ep]) (nm_r (e' := nI 18) (by rw [tk_op hw, ho]) ?_)⟩⟩))⟩))⟩
  exact br_f (by decide) (br_f (by decide) (br_f (by decide) (br_f (by decide) (br_f (by decide) (br_f (by decide) (br_f (by decide) (br_f (by decide) (br_f (by decide) (br_f (by decide) (br_f (by decide) (br_f (by decide) (br_f (by decide) (br_f (by decide) (br_f (by decide) (br_f (by decide) (br_f (by decide) (br_f (by decide) (br_f (by decide) (br_f (by decide) (br_t (by decide) (H _ h)))))))))))))))))))))
theorem tk_xex_19 {post : SX → Prop} {p i w a b : Nat} (hp : p < 6) (hi : i < 64) (hs : sx p = nI i) (hw : w < 512) (hc : cw i = nI w) (ha : w / 32 % 4 = a) (hb : w / 128 = b) (ho : w % 32 = 19) (H : ∀ Q : SX → Prop, Q (Uql, Upc, Uxc, Ulv, Ucw, Ucn, Ust, Usx, Urs, Upa, Urg, Ume, Uds, Upw, Upl, Uqu, Uou) → wpX_copyEnd Q (ql, pc, xc + 1, lv, cw, cn, st, upd sx p (nI i + 1), rs, pa, rg, me, ds, pw, pl, qu, ou) (nI p) (nI (4 * p + a)) (nI (4 * p + b))) (h : post (Uql, Upc, Uxc, Ulv, Ucw, Ucn, Ust, Usx, Urs, Upa, Urg, Ume, Uds, Upw, Upl, Uqu, Uou)) : wpX_execute post (ql, pc, xc, lv, cw, cn, st, sx, rs, pa, rg, me, ds, pw, pl, qu, ou) (nI p) := by
  have ep : (nI p).toNatClampNeg = p := nI_clamp (by omega)
  have ei : (nI i).toNatClampNeg = i := nI_clamp (by omega)
  have ha4 : a < 4 := by omega
  have hb4 : b < 4 := by omega
  have eA : (nI (4 * p + a)).toNatClampNeg = 4 * p + a := nI_clamp (by omega)
  have eB : (nI (4 * p + b)).toNatClampNeg = 4 * p + b := nI_clamp (by omega)
  have vA : vp_in (nI (4 * p + a)) 24 := vp_in_nI (by omega) (by decide)
  have vB : vp_in (nI (4 * p + b)) 24 := vp_in_nI (by omega) (by decide)
  have v6 : vp_in (nI p) 6 := vp_in_nI hp (by decide)
  have v64 : vp_in (nI i) 64 := vp_in_nI hi (by decide)
  refine nm_e ⟨v6, nm_r (e' := nI i) (by rw [ep]; exact hs) (tk_xSpot1 hi (br_f tk_01 ⟨v64, nm_r (e' := nI w) (by rw [ei]; exact hc) (nm_r (e' := nI (4 * p + a)) (by rw [tk_wa hw, tk_i4, ha]) (nm_r (e' := nI (4 * p + b)) (by rw [tk_wb hw, tk_i4, hb]) ⟨v64, nm_r (e' := cn i) (by rw [ei]) ⟨v6, nm_r (e' := upd sx p (nI i + 1)) (by rw [ep]) (nm_r (e' := nI 19) (by rw [tk_op hw, ho]) ?_)⟩⟩))⟩))⟩
  exact br_f (by decide) (br_f (by decide) (br_f (by decide) (br_f (by decide) (br_f (by decide) (br_f (by decide) (br_f (by decide) (br_f (by decide) (br_f (by decide) (br_f (by decide) (br_f (by decide) (br_f (by decide) (br_f (by decide) (br_f (by decide) (br_f (by decide) (br_f (by decide) (br_f (by decide) (br_f (by decide) (br_f (by decide) (br_f (by decide) (br_f (by decide) (br_t (by decide) (H _ h))))))))))))))))))))))
theorem tk_xex_21 {post : SX → Prop} {p i w a b : Nat} (hp : p < 6) (hi : i < 64) (hs : sx p = nI i) (hw : w < 512) (hc : cw i = nI w) (ha : w / 32 % 4 = a) (hb : w / 128 = b) (ho : w % 32 = 21) (H : ∀ Q : SX → Prop, Q (Uql, Upc, Uxc, Ulv, Ucw, Ucn, Ust, Usx, Urs, Upa, Urg, Ume, Uds, Upw, Upl, Uqu, Uou) → wpX_print Q (ql, pc, xc + 1, lv, cw, cn, st, upd sx p (nI i + 1), rs, pa, rg, me, ds, pw, pl, qu, ou) (rg (4 * p + a))) (h : post (Uql, Upc, Uxc, Ulv, Ucw, Ucn, Ust, Usx, Urs, Upa, Urg, Ume, Uds, Upw, Upl, Uqu, Uou)) : wpX_execute post (ql, pc, xc, lv, cw, cn, st, sx, rs, pa, rg, me, ds, pw, pl, qu, ou) (nI p) := by
  have ep : (nI p).toNatClampNeg = p := nI_clamp (by omega)
  have ei : (nI i).toNatClampNeg = i := nI_clamp (by omega)
  have ha4 : a < 4 := by omega
  have hb4 : b < 4 := by omega
  have eA : (nI (4 * p + a)).toNatClampNeg = 4 * p + a := nI_clamp (by omega)
  have eB : (nI (4 * p + b)).toNatClampNeg = 4 * p + b := nI_clamp (by omega)
  have vA : vp_in (nI (4 * p + a)) 24 := vp_in_nI (by omega) (by decide)
  have vB : vp_in (nI (4 * p + b)) 24 := vp_in_nI (by omega) (by decide)
  have v6 : vp_in (nI p) 6 := vp_in_nI hp (by decide)
  have v64 : vp_in (nI i) 64 := vp_in_nI hi (by decide)
  refine nm_e ⟨v6, nm_r (e' := nI i) (by rw [ep]; exact hs) (tk_xSpot1 hi (br_f tk_01 ⟨v64, nm_r (e' := nI w) (by rw [ei]; exact hc) (nm_r (e' := nI (4 * p + a)) (by rw [tk_wa hw, tk_i4, ha]) (nm_r (e' := nI (4 * p + b)) (by rw [tk_wb hw, tk_i4, hb]) ⟨v64, nm_r (e' := cn i) (by rw [ei]) ⟨v6, nm_r (e' := upd sx p (nI i + 1)) (by rw [ep]) (nm_r (e' := nI 21) (by rw [tk_op hw, ho]) ?_)⟩⟩))⟩))⟩
  exact br_f (by decide) (br_f (by decide) (br_f (by decide) (br_f (by decide) (br_f (by decide) (br_f (by decide) (br_f (by decide) (br_f (by decide) (br_f (by decide) (br_f (by decide) (br_f (by decide) (br_f (by decide) (br_f (by decide) (br_f (by decide) (br_f (by decide) (br_f (by decide) (br_f (by decide) (br_f (by decide) (br_f (by decide) (br_f (by decide) (br_f (by decide) (br_f (by decide) (br_f (by decide) (br_t (by decide) ⟨vA, by rw [eA]; exact H _ h⟩)))))))))))))))))))))))
theorem tk_xex_24 {post : SX → Prop} {p i w a b : Nat} (hp : p < 6) (hi : i < 64) (hs : sx p = nI i) (hw : w < 512) (hc : cw i = nI w) (ha : w / 32 % 4 = a) (hb : w / 128 = b) (ho : w % 32 = 24) (H : ∀ Q : SX → Prop, Q (Uql, Upc, Uxc, Ulv, Ucw, Ucn, Ust, Usx, Urs, Upa, Urg, Ume, Uds, Upw, Upl, Uqu, Uou) → wpX_killOther Q (ql, pc, xc + 1, lv, cw, cn, st, upd sx p (nI i + 1), rs, pa, rg, me, ds, pw, pl, qu, ou) (nI p) (nI (4 * p + a)) (nI (4 * p + b))) (h : post (Uql, Upc, Uxc, Ulv, Ucw, Ucn, Ust, Usx, Urs, Upa, Urg, Ume, Uds, Upw, Upl, Uqu, Uou)) : wpX_execute post (ql, pc, xc, lv, cw, cn, st, sx, rs, pa, rg, me, ds, pw, pl, qu, ou) (nI p) := by
  have ep : (nI p).toNatClampNeg = p := nI_clamp (by omega)
  have ei : (nI i).toNatClampNeg = i := nI_clamp (by omega)
  have ha4 : a < 4 := by omega
  have hb4 : b < 4 := by omega
  have eA : (nI (4 * p + a)).toNatClampNeg = 4 * p + a := nI_clamp (by omega)
  have eB : (nI (4 * p + b)).toNatClampNeg = 4 * p + b := nI_clamp (by omega)
  have vA : vp_in (nI (4 * p + a)) 24 := vp_in_nI (by omega) (by decide)
  have vB : vp_in (nI (4 * p + b)) 24 := vp_in_nI (by omega) (by decide)
  have v6 : vp_in (nI p) 6 := vp_in_nI hp (by decide)
  have v64 : vp_in (nI i) 64 := vp_in_nI hi (by decide)
  refine nm_e ⟨v6, nm_r (e' := nI i) (by rw [ep]; exact hs) (tk_xSpot1 hi (br_f tk_01 ⟨v64, nm_r (e' := nI w) (by rw [ei]; exact hc) (nm_r (e' := nI (4 * p + a)) (by rw [tk_wa hw, tk_i4, ha]) (nm_r (e' := nI (4 * p + b)) (by rw [tk_wb hw, tk_i4, hb]) ⟨v64, nm_r (e' := cn i) (by rw [ei]) ⟨v6, nm_r (e' := upd sx p (nI i + 1)) (by rw [ep]) (nm_r (e' := nI 24) (by rw [tk_op hw, ho]) ?_)⟩⟩))⟩))⟩
  exact br_f (by decide) (br_f (by decide) (br_f (by decide) (br_f (by decide) (br_f (by decide) (br_f (by decide) (br_f (by decide) (br_f (by decide) (br_f (by decide) (br_f (by decide) (br_f (by decide) (br_f (by decide) (br_f (by decide) (br_f (by decide) (br_f (by decide) (br_f (by decide) (br_f (by decide) (br_f (by decide) (br_f (by decide) (br_f (by decide) (br_f (by decide) (br_f (by decide) (br_f (by decide) (br_f (by decide) (br_f (by decide) (br_f (by decide) (br_t (by decide) (H _ h)))))))))))))))))))))))))))
theorem tk_xex_10t {post : SX → Prop} {p i w a b : Nat} (hp : p < 6) (hi : i < 64) (hs : sx p = nI i) (hw : w < 512) (hc : cw i = nI w) (ha : w / 32 % 4 = a) (hb : w / 128 = b) (ho : w % 32 = 10) (z : rg (4 * p + a) = 0) (h : post (ql, pc, xc + 1, lv, cw, cn, st, upd (upd sx p (nI i + 1)) p (cn i), rs, pa, rg, me, ds, pw, pl, qu, ou)) : wpX_execute post (ql, pc, xc, lv, cw, cn, st, sx, rs, pa, rg, me, ds, pw, pl, qu, ou) (nI p) := by
  have ep : (nI p).toNatClampNeg = p := nI_clamp (by omega)
  have ei : (nI i).toNatClampNeg = i := nI_clamp (by omega)
  have ha4 : a < 4 := by omega
  have hb4 : b < 4 := by omega
  have eA : (nI (4 * p + a)).toNatClampNeg = 4 * p + a := nI_clamp (by omega)
  have eB : (nI (4 * p + b)).toNatClampNeg = 4 * p + b := nI_clamp (by omega)
  have vA : vp_in (nI (4 * p + a)) 24 := vp_in_nI (by omega) (by decide)
  have vB : vp_in (nI (4 * p + b)) 24 := vp_in_nI (by omega) (by decide)
  have v6 : vp_in (nI p) 6 := vp_in_nI hp (by decide)
  have v64 : vp_in (nI i) 64 := vp_in_nI hi (by decide)
  refine nm_e ⟨v6, nm_r (e' := nI i) (by rw [ep]; exact hs) (tk_xSpot1 hi (br_f tk_01 ⟨v64, nm_r (e' := nI w) (by rw [ei]; exact hc) (nm_r (e' := nI (4 * p + a)) (by rw [tk_wa hw, tk_i4, ha]) (nm_r (e' := nI (4 * p + b)) (by rw [tk_wb hw, tk_i4, hb]) ⟨v64, nm_r (e' := cn i) (by rw [ei]) ⟨v6, nm_r (e' := upd sx p (nI i + 1)) (by rw [ep]) (nm_r (e' := nI 10) (by rw [tk_op hw, ho]) ?_)⟩⟩))⟩))⟩
  exact br_f (by decide) (br_f (by decide) (br_f (by decide) (br_f (by decide) (br_f (by decide) (br_f (by decide) (br_f (by decide) (br_f (by decide) (br_f (by decide) (br_f (by decide) (br_f (by decide) (br_f (by decide) (br_t (by decide) ⟨vA, br_t (by rw [eA]; exact z) (br_f tk_01 ⟨v6, nm_r (e' := upd (upd sx p (nI i + 1)) p (cn i)) (by rw [ep]) h⟩)⟩))))))))))))
theorem tk_xex_10f {post : SX → Prop} {p i w a b : Nat} (hp : p < 6) (hi : i < 64) (hs : sx p = nI i) (hw : w < 512) (hc : cw i = nI w) (ha : w / 32 % 4 = a) (hb : w / 128 = b) (ho : w % 32 = 10) (z : ¬ rg (4 * p + a) = 0) (h : post (ql, pc, xc + 1, lv, cw, cn, st, upd sx p (nI i + 1), rs, pa, rg, me, ds, pw, pl, qu, ou)) : wpX_execute post (ql, pc, xc, lv, cw, cn, st, sx, rs, pa, rg, me, ds, pw, pl, qu, ou) (nI p) := by
  have ep : (nI p).toNatClampNeg = p := nI_clamp (by omega)
  have ei : (nI i).toNatClampNeg = i := nI_clamp (by omega)
  have ha4 : a < 4 := by omega
  have hb4 : b < 4 := by omega
  have eA : (nI (4 * p + a)).toNatClampNeg = 4 * p + a := nI_clamp (by omega)
  have eB : (nI (4 * p + b)).toNatClampNeg = 4 * p + b := nI_clamp (by omega)
  have vA : vp_in (nI (4 * p + a)) 24 := vp_in_nI (by omega) (by decide)
  have vB : vp_in (nI (4 * p + b)) 24 := vp_in_nI (by omega) (by decide)
  have v6 : vp_in (nI p) 6 := vp_in_nI hp (by decide)
  have v64 : vp_in (nI i) 64 := vp_in_nI hi (by decide)
  refine nm_e ⟨v6, nm_r (e' := nI i) (by rw [ep]; exact hs) (tk_xSpot1 hi (br_f tk_01 ⟨v64, nm_r (e' := nI w) (by rw [ei]; exact hc) (nm_r (e' := nI (4 * p + a)) (by rw [tk_wa hw, tk_i4, ha]) (nm_r (e' := nI (4 * p + b)) (by rw [tk_wb hw, tk_i4, hb]) ⟨v64, nm_r (e' := cn i) (by rw [ei]) ⟨v6, nm_r (e' := upd sx p (nI i + 1)) (by rw [ep]) (nm_r (e' := nI 10) (by rw [tk_op hw, ho]) ?_)⟩⟩))⟩))⟩
  exact br_f (by decide) (br_f (by decide) (br_f (by decide) (br_f (by decide) (br_f (by decide) (br_f (by decide) (br_f (by decide) (br_f (by decide) (br_f (by decide) (br_f (by decide) (br_f (by decide) (br_f (by decide) (br_t (by decide) ⟨vA, br_f (by rw [eA]; exact z) (br_t rfl h)⟩))))))))))))
theorem tk_xex_11 {post : SX → Prop} {p i w a b : Nat} (hp : p < 6) (hi : i < 64) (hs : sx p = nI i) (hw : w < 512) (hc : cw i = nI w) (ha : w / 32 % 4 = a) (hb : w / 128 = b) (ho : w % 32 = 11) (h : post (ql, pc, xc + 1, lv, cw, cn, st, upd (upd sx p (nI i + 1)) p (cn i), rs, pa, rg, me, ds, pw, pl, qu, ou)) : wpX_execute post (ql, pc, xc, lv, cw, cn, st, sx, rs, pa, rg, me, ds, pw, pl, qu, ou) (nI p) := by
  have ep : (nI p).toNatClampNeg = p := nI_clamp (by omega)
  have ei : (nI i).toNatClampNeg = i := nI_clamp (by omega)
  have ha4 : a < 4 := by omega
  have hb4 : b < 4 := by omega
  have eA : (nI (4 * p + a)).toNatClampNeg = 4 * p + a := nI_clamp (by omega)
  have eB : (nI (4 * p + b)).toNatClampNeg = 4 * p + b := nI_clamp (by omega)
  have vA : vp_in (nI (4 * p + a)) 24 := vp_in_nI (by omega) (by decide)
  have vB : vp_in (nI (4 * p + b)) 24 := vp_in_nI (by omega) (by decide)
  have v6 : vp_in (nI p) 6 := vp_in_nI hp (by decide)
  have v64 : vp_in (nI i) 64 := vp_in_nI hi (by decide)
  refine nm_e ⟨v6, nm_r (e' := nI i) (by rw [ep]; exact hs) (tk_xSpot1 hi (br_f tk_01 ⟨v64, nm_r (e' := nI w) (by rw [ei]; exact hc) (nm_r (e' := nI (4 * p + a)) (by rw [tk_wa hw, tk_i4, ha]) (nm_r (e' := nI (4 * p + b)) (by rw [tk_wb hw, tk_i4, hb]) ⟨v64, nm_r (e' := cn i) (by rw [ei]) ⟨v6, nm_r (e' := upd sx p (nI i + 1)) (by rw [ep]) (nm_r (e' := nI 11) (by rw [tk_op hw, ho]) ?_)⟩⟩))⟩))⟩
  exact br_f (by decide) (br_f (by decide) (br_f (by decide) (br_f (by decide) (br_f (by decide) (br_f (by decide) (br_f (by decide) (br_f (by decide) (br_f (by decide) (br_f (by decide) (br_f (by decide) (br_f (by decide) (br_f (by decide) (br_t (by decide) (br_f tk_01 ⟨v6, nm_r (e' := upd (upd sx p (nI i + 1)) p (cn i)) (by rw [ep]) h⟩))))))))))))))
theorem tk_xex_12f {post : SX → Prop} {p i w a b : Nat} (hp : p < 6) (hi : i < 64) (hs : sx p = nI i) (hw : w < 512) (hc : cw i = nI w) (ha : w / 32 % 4 = a) (hb : w / 128 = b) (ho : w % 32 = 12) (z : rg (4 * p + a) = 0) (h : post (ql, pc, xc + 1, lv, cw, cn, st, upd sx p (nI i + 1), rs, pa, rg, me, ds, pw, pl, qu, ou)) : wpX_execute post (ql, pc, xc, lv, cw, cn, st, sx, rs, pa, rg, me, ds, pw, pl, qu, ou) (nI p) := by
  have ep : (nI p).toNatClampNeg = p := nI_clamp (by omega)
  have ei : (nI i).toNatClampNeg = i := nI_clamp (by omega)
  have ha4 : a < 4 := by omega
  have hb4 : b < 4 := by omega
  have eA : (nI (4 * p + a)).toNatClampNeg = 4 * p + a := nI_clamp (by omega)
  have eB : (nI (4 * p + b)).toNatClampNeg = 4 * p + b := nI_clamp (by omega)
  have vA : vp_in (nI (4 * p + a)) 24 := vp_in_nI (by omega) (by decide)
  have vB : vp_in (nI (4 * p + b)) 24 := vp_in_nI (by omega) (by decide)
  have v6 : vp_in (nI p) 6 := vp_in_nI hp (by decide)
  have v64 : vp_in (nI i) 64 := vp_in_nI hi (by decide)
  refine nm_e ⟨v6, nm_r (e' := nI i) (by rw [ep]; exact hs) (tk_xSpot1 hi (br_f tk_01 ⟨v64, nm_r (e' := nI w) (by rw [ei]; exact hc) (nm_r (e' := nI (4 * p + a)) (by rw [tk_wa hw, tk_i4, ha]) (nm_r (e' := nI (4 * p + b)) (by rw [tk_wb hw, tk_i4, hb]) ⟨v64, nm_r (e' := cn i) (by rw [ei]) ⟨v6, nm_r (e' := upd sx p (nI i + 1)) (by rw [ep]) (nm_r (e' := nI 12) (by rw [tk_op hw, ho]) ?_)⟩⟩))⟩))⟩
  exact br_f (by decide) (br_f (by decide) (br_f (by decide) (br_f (by decide) (br_f (by decide) (br_f (by decide) (br_f (by decide) (br_f (by decide) (br_f (by decide) (br_f (by decide) (br_f (by decide) (br_f (by decide) (br_f (by decide) (br_f (by decide) (br_t (by decide) ⟨vA, br_t (by rw [eA]; exact z) (br_t rfl h)⟩))))))))))))))
theorem tk_xex_12t {post : SX → Prop} {p i w a b : Nat} (hp : p < 6) (hi : i < 64) (hs : sx p = nI i) (hw : w < 512) (hc : cw i = nI w) (ha : w / 32 % 4 = a) (hb : w / 128 = b) (ho : w % 32 = 12) (z : ¬ rg (4 * p + a) = 0) (h : post (ql, pc, xc + 1, lv, cw, cn, st, upd (upd sx p (nI i + 1)) p (cn i), rs, pa, rg, me, ds, pw, pl, qu, ou)) : wpX_execute post (ql, pc, xc, lv, cw, cn, st, sx, rs, pa, rg, me, ds, pw, pl, qu, ou) (nI p) := by
  have ep : (nI p).toNatClampNeg = p := nI_clamp (by omega)
  have ei : (nI i).toNatClampNeg = i := nI_clamp (by omega)
  have ha4 : a < 4 := by omega
  have hb4 : b < 4 := by omega
  have eA : (nI (4 * p + a)).toNatClampNeg = 4 * p + a := nI_clamp (by omega)
  have eB : (nI (4 * p + b)).toNatClampNeg = 4 * p + b := nI_clamp (by omega)
  have vA : vp_in (nI (4 * p + a)) 24 := vp_in_nI (by omega) (by decide)
  have vB : vp_in (nI (4 * p + b)) 24 := vp_in_nI (by omega) (by decide)
  have v6 : vp_in (nI p) 6 := vp_in_nI hp (by decide)
  have v64 : vp_in (nI i) 64 := vp_in_nI hi (by decide)
  refine nm_e ⟨v6, nm_r (e' := nI i) (by rw [ep]; exact hs) (tk_xSpot1 hi (br_f tk_01 ⟨v64, nm_r (e' := nI w) (by rw [ei]; exact hc) (nm_r (e' := nI (4 * p + a)) (by rw [tk_wa hw, tk_i4, ha]) (nm_r (e' := nI (4 * p + b)) (by rw [tk_wb hw, tk_i4, hb]) ⟨v64, nm_r (e' := cn i) (by rw [ei]) ⟨v6, nm_r (e' := upd sx p (nI i + 1)) (by rw [ep]) (nm_r (e' := nI 12) (by rw [tk_op hw, ho]) ?_)⟩⟩))⟩))⟩
  exact br_f (by decide) (br_f (by decide) (br_f (by decide) (br_f (by decide) (br_f (by decide) (br_f (by decide) (br_f (by decide) (br_f (by decide) (br_f (by decide) (br_f (by decide) (br_f (by decide) (br_f (by decide) (br_f (by decide) (br_f (by decide) (br_t (by decide) ⟨vA, br_f (by rw [eA]; exact z) (br_f tk_01 ⟨v6, nm_r (e' := upd (upd sx p (nI i + 1)) p (cn i)) (by rw [ep]) h⟩)⟩))))))))))))))
theorem tk_xex_20 {post : SX → Prop} {p i w a b : Nat} (hp : p < 6) (hi : i < 64) (hs : sx p = nI i) (hw : w < 512) (hc : cw i = nI w) (ha : w / 32 % 4 = a) (hb : w / 128 = b) (ho : w % 32 = 20) (h : post (ql, pc, xc + 1, lv, cw, cn, st, upd sx p (nI i + 1), rs, pa, rg, me, ds, pw, pl, qu, ou)) : wpX_execute post (ql, pc, xc, lv, cw, cn, st, sx, rs, pa, rg, me, ds, pw, pl, qu, ou) (nI p) := by
  have ep : (nI p).toNatClampNeg = p := nI_clamp (by omega)
  have ei : (nI i).toNatClampNeg = i := nI_clamp (by omega)
  have ha4 : a < 4 := by omega
  have hb4 : b < 4 := by omega
  have eA : (nI (4 * p + a)).toNatClampNeg = 4 * p + a := nI_clamp (by omega)
  have eB : (nI (4 * p + b)).toNatClampNeg = 4 * p + b := nI_clamp (by omega)
  have vA : vp_in (nI (4 * p + a)) 24 := vp_in_nI (by omega) (by decide)
  have vB : vp_in (nI (4 * p + b)) 24 := vp_in_nI (by omega) (by decide)
  have v6 : vp_in (nI p) 6 := vp_in_nI hp (by decide)
  have v64 : vp_in (nI i) 64 := vp_in_nI hi (by decide)
  refine nm_e ⟨v6, nm_r (e' := nI i) (by rw [ep]; exact hs) (tk_xSpot1 hi (br_f tk_01 ⟨v64, nm_r (e' := nI w) (by rw [ei]; exact hc) (nm_r (e' := nI (4 * p + a)) (by rw [tk_wa hw, tk_i4, ha]) (nm_r (e' := nI (4 * p + b)) (by rw [tk_wb hw, tk_i4, hb]) ⟨v64, nm_r (e' := cn i) (by rw [ei]) ⟨v6, nm_r (e' := upd sx p (nI i + 1)) (by rw [ep]) (nm_r (e' := nI 20) (by rw [tk_op hw, ho]) ?_)⟩⟩))⟩))⟩
  exact br_f (by decide) (br_f (by decide) (br_f (by decide) (br_f (by decide) (br_f (by decide) (br_f (by decide) (br_f (by decide) (br_f (by decide) (br_f (by decide) (br_f (by decide) (br_f (by decide) (br_f (by decide) (br_f (by decide) (br_f (by decide) (br_f (by decide) (br_f (by decide) (br_f (by decide) (br_f (by decide) (br_f (by decide) (br_f (by decide) (br_f (by decide) (br_f (by decide) (br_t (by decide) h))))))))))))))))))))))
theorem tk_xex_22 {post : SX → Prop} {p i w a b : Nat} (hp : p < 6) (hi : i < 64) (hs : sx p = nI i) (hw : w < 512) (hc : cw i = nI w) (ha : w / 32 % 4 = a) (hb : w / 128 = b) (ho : w % 32 = 22) (h : post (ql, pc, xc + 1, lv, cw, cn, st, upd sx p (nI i + 1), rs, pa, upd rg (4 * p + a) (nI p), me, ds, pw, pl, qu, ou)) : wpX_execute post (ql, pc, xc, lv, cw, cn, st, sx, rs, pa, rg, me, ds, pw, pl, qu, ou) (nI p) := by
  have ep : (nI p).toNatClampNeg = p := nI_clamp (by omega)
  have ei : (nI i).toNatClampNeg = i := nI_clamp (by omega)
  have ha4 : a < 4 := by omega
  have hb4 : b < 4 := by omega
  have eA : (nI (4 * p + a)).toNatClampNeg = 4 * p + a := nI_clamp (by omega)
  have eB : (nI (4 * p + b)).toNatClampNeg = 4 * p + b := nI_clamp (by omega)
  have vA : vp_in (nI (4 * p + a)) 24 := vp_in_nI (by omega) (by decide)
  have vB : vp_in (nI (4 * p + b)) 24 := vp_in_nI (by omega) (by decide)
  have v6 : vp_in (nI p) 6 := vp_in_nI hp (by decide)
  have v64 : vp_in (nI i) 64 := vp_in_nI hi (by decide)
  refine nm_e ⟨v6, nm_r (e' := nI i) (by rw [ep]; exact hs) (tk_xSpot1 hi (br_f tk_01 ⟨v64, nm_r (e' := nI w) (by rw [ei]; exact hc) (nm_r (e' := nI (4 * p + a)) (by rw [tk_wa hw, tk_i4, ha]) (nm_r (e' := nI (4 * p + b)) (by rw [tk_wb hw, tk_i4, hb]) ⟨v64, nm_r (e' := cn i) (by rw [ei]) ⟨v6, nm_r (e' := upd sx p (nI i + 1)) (by rw [ep]) (nm_r (e' := nI 22) (by rw [tk_op hw, ho]) ?_)⟩⟩))⟩))⟩
  exact br_f (by decide) (br_f (by decide) (br_f (by decide) (br_f (by decide) (br_f (by decide) (br_f (by decide) (br_f (by decide) (br_f (by decide) (br_f (by decide) (br_f (by decide) (br_f (by decide) (br_f (by decide) (br_f (by decide) (br_f (by decide) (br_f (by decide) (br_f (by decide) (br_f (by decide) (br_f (by decide) (br_f (by decide) (br_f (by decide) (br_f (by decide) (br_f (by decide) (br_f (by decide) (br_f (by decide) (br_t (by decide) ⟨vA, nm_r (e' := upd rg (4 * p + a) (nI p)) (by rw [eA]) h⟩))))))))))))))))))))))))
theorem tk_xex_23 {post : SX → Prop} {p i w a b : Nat} (hp : p < 6) (hi : i < 64) (hs : sx p = nI i) (hw : w < 512) (hc : cw i = nI w) (ha : w / 32 % 4 = a) (hb : w / 128 = b) (ho : w % 32 = 23) (h : post (ql, pc, xc + 1, lv, cw, cn, st, upd sx p (nI i + 1), rs, pa, upd rg (4 * p + a) (pa p), me, ds, pw, pl, qu, ou)) : wpX_execute post (ql, pc, xc, lv, cw, cn, st, sx, rs, pa, rg, me, ds, pw, pl, qu, ou) (nI p) := by
  have ep : (nI p).toNatClampNeg = p := nI_clamp (by omega)
  have ei : (nI i).toNatClampNeg = i := nI_clamp (by omega)
  have ha4 : a < 4 := by omega
  have hb4 : b < 4 := by omega
  have eA : (nI (4 * p + a)).toNatClampNeg = 4 * p + a := nI_clamp (by omega)
  have eB : (nI (4 * p + b)).toNatClampNeg = 4 * p + b := nI_clamp (by omega)
  have vA : vp_in (nI (4 * p + a)) 24 := vp_in_nI (by omega) (by decide)
  have vB : vp_in (nI (4 * p + b)) 24 := vp_in_nI (by omega) (by decide)
  have v6 : vp_in (nI p) 6 := vp_in_nI hp (by decide)
  have v64 : vp_in (nI i) 64 := vp_in_nI hi (by decide)
  refine nm_e ⟨v6, nm_r (e' := nI i) (by rw [ep]; exact hs) (tk_xSpot1 hi (br_f tk_01 ⟨v64, nm_r (e' := nI w) (by rw [ei]; exact hc) (nm_r (e' := nI (4 * p + a)) (by rw [tk_wa hw, tk_i4, ha]) (nm_r (e' := nI (4 * p + b)) (by rw [tk_wb hw, tk_i4, hb]) ⟨v64, nm_r (e' := cn i) (by rw [ei]) ⟨v6, nm_r (e' := upd sx p (nI i + 1)) (by rw [ep]) (nm_r (e' := nI 23) (by rw [tk_op hw, ho]) ?_)⟩⟩))⟩))⟩
  exact br_f (by decide) (br_f (by decide) (br_f (by decide) (br_f (by decide) (br_f (by decide) (br_f (by decide) (br_f (by decide) (br_f (by decide) (br_f (by decide) (br_f (by decide) (br_f (by decide) (br_f (by decide) (br_f (by decide) (br_f (by decide) (br_f (by decide) (br_f (by decide) (br_f (by decide) (br_f (by decide) (br_f (by decide) (br_f (by decide) (br_f (by decide) (br_f (by decide) (br_f (by decide) (br_f (by decide) (br_f (by decide) (br_t (by decide) ⟨v6, vA, nm_r (e' := upd rg (4 * p + a) (pa p)) (by rw [eA, ep]) h⟩)))))))))))))))))))))))))
theorem tk_xex_out {post : SX → Prop} {p : Nat} (hp : p < 6) (hs : sx p < 0 ∨ (¬ sx p < 0 ∧ nI 64 ≤ sx p)) (H : ∀ Q : SX → Prop, Q (Uql, Upc, Uxc, Ulv, Ucw, Ucn, Ust, Usx, Urs, Upa, Urg, Ume, Uds, Upw, Upl, Uqu, Uou) → wpX_finish Q (ql, pc, xc + 1, lv, cw, cn, st, sx, rs, pa, rg, me, ds, pw, pl, qu, ou) (nI p) (-4)) (h : post (Uql, Upc, Uxc, Ulv, Ucw, Ucn, Ust, Usx, Urs, Upa, Urg, Ume, Uds, Upw, Upl, Uqu, Uou)) : wpX_execute post (ql, pc, xc, lv, cw, cn, st, sx, rs, pa, rg, me, ds, pw, pl, qu, ou) (nI p) := by
  have ep : (nI p).toNatClampNeg = p := nI_clamp (by omega)
  exact nm_e ⟨vp_in_nI hp (by decide), nm_r (e' := sx p) (by rw [ep]) (tk_xSpot0 hs (br_t rfl (H _ h)))⟩
end
