def tk_O (ou : Nat → Int32) (m : Nat) : Prop := ∀ k, m ≤ k → k < 32 → ou k = 0
/-- the two states are related; Bd bounds what was printed; K is what else is known -/
def tk_RK (Bd : Nat) (K : (Nat → Int32) → (Nat → Int32) → Nat → Prop) (u : SX) (v : SY) : Prop := ∃ (n m : Nat) (lv : Int32) (xc : Int64) (cw cn st sx sy rs pa rg me ds pw pl qu ou : Nat → Int32), u = (nI n, nI m, xc, lv, cw, cn, st, sx, rs, pa, rg, me, ds, pw, pl, qu, ou) ∧ v = (nI n, xc, nI m, cw, cn, st, pa, sy, rg, ds, me, pw, pl, qu, ou) ∧ tk_V st pa ds pl qu n ∧ tk_SP 6 st sx rs sy ∧ tk_C cw ∧ m ≤ Bd ∧ tk_O ou m ∧ K st qu n
def tk_K (p : Nat) (g y : Int32) : (Nat → Int32) → (Nat → Int32) → Nat → Prop := fun st qu n => tk_out qu n p ∧ ((st p = 1 ∧ g = y) ∨ (st p ≠ 1 ∧ g = 0))
theorem tk_fs_n1 (st pa : Nat → Int32) (p : Nat) : tk_fs st pa p p ≠ 1 := by
  rcases tk_fs_p st pa p with a | a
  · rw [a]; decide
  · rw [a]; decide
theorem tk_fkrg {rg : Nat → Int32} {p c a : Nat} {x : Int32} (hpc : p ≠ c) (ha : a < 4) : upd (upd (tk_y rg (4 * c) (4 * p) 4) (4 * p + a) x) (4 * c + a) (-1) = upd (tk_y (upd rg (4 * p + a) (-1)) (4 * c) (4 * p) 4) (4 * p + a) x := by
  funext q
  refine tk_uc (P := fun z => z = upd (tk_y (upd rg (4 * p + a) (-1)) (4 * c) (4 * p) 4) (4 * p + a) x q) (fun e => ?_) (fun e => ?_)
  · rw [pk_un (by omega), tk_yin (by omega) (by omega), e]
    have k : 4 * p + (4 * c + a - 4 * c) = 4 * p + a := by omega
    rw [k, pk_us]
  · refine tk_uc (P := fun z => z = upd (tk_y (upd rg (4 * p + a) (-1)) (4 * c) (4 * p) 4) (4 * p + a) x q) (fun e2 => ?_) (fun e2 => ?_)
    · rw [e2, pk_us]
    · rw [pk_un e2]
      by_cases k : 4 * c ≤ q ∧ q < 4 * c + 4
      · rw [tk_yin k.1 k.2, tk_yin k.1 k.2, pk_un (by omega)]
      · rw [tk_yout (by omega), tk_yout (by omega), pk_un e2]
theorem tk_pk1 : ∀ k, k < 3 → (1 : Int32) + 2 * nI k = nI (1 + 2 * k) := by decide +kernel
theorem tk_pk2 : ∀ k, k < 3 → (2 : Int32) + 2 * nI k = nI (2 + 2 * k) := by decide +kernel
section
variable {pc lv : Int32} {xc : Int64} {cw cn st sx sy rs pa rg me ds pw pl qu ou : Nat → Int32}
theorem tk_mk {n m Bd : Nat} {K : (Nat → Int32) → (Nat → Int32) → Nat → Prop} (V : tk_V st pa ds pl qu n) (S : tk_SP 6 st sx rs sy) (C : tk_C cw) (hm : m ≤ Bd) (O : tk_O ou m) (k : K st qu n) : tk_RK Bd K (nI n, nI m, xc, lv, cw, cn, st, sx, rs, pa, rg, me, ds, pw, pl, qu, ou) (nI n, xc, nI m, cw, cn, st, pa, sy, rg, ds, me, pw, pl, qu, ou) := ⟨n, m, lv, xc, cw, cn, st, sx, sy, rs, pa, rg, me, ds, pw, pl, qu, ou, rfl, rfl, V, S, C, hm, O, k⟩
theorem tk_ex_0 {n m p i w Bd : Nat} (hp : p < 6) (V : tk_V st pa ds pl qu n) (S : tk_SP 6 st sx rs sy) (C : tk_C cw) (hm : m ≤ Bd) (hB : Bd < 2 ^ 30) (O : tk_O ou m) (h1 : st p = 1) (ho : tk_out qu n p) (G : tk_G cw sx rg ds pl p) (hi : i < 64) (hs : sx p = nI i) (hw : w < 512) (hc : cw i = nI w) (o : w % 32 = 0) : ∃ u' v' g, (∀ post : SX → Prop, post u' → wpX_execute post (nI n, nI m, xc, lv, cw, cn, st, sx, rs, pa, rg, me, ds, pw, pl, qu, ou) (nI p)) ∧ (∀ post : Int32 → SY → Prop, post g v' → wpY_execute post (nI n, xc, nI m, cw, cn, st, pa, sy, rg, ds, me, pw, pl, qu, ou) (nI p)) ∧ tk_RK (Bd + 1) (tk_K p g 1) u' v' := by
  have vq := V.2.2.2.2.2
  have ve := V.2.2.1
  have vl := V.2.2.2.1
  have hq : n ≤ 6 := tk_Q6 vq
  have h0 : st p ≠ 0 := by rw [h1]; decide
  have hpv := V.2.2.2.2.1 p hp h0
  have hpn : pa p ≠ nI p := tk_VPn V.2.2.2.2.1 hp h0
  have hsy : sy p = nI i := ((S p hp (by omega)).1 (Or.inl h1)).trans hs
  have S1 : tk_SP p st (upd sx p (nI i + 1)) rs sy := tk_SP_x S
  have S2 : tk_SP 6 st (upd sx p (nI i + 1)) rs (upd sy p (sy p + 1)) := tk_SP_set S1 h1 (by rw [pk_us, hsy])
  have hA : (4 * p + w / 32 % 4) < 24 := by omega
  have hB' : (4 * p + w / 128) < 24 := by omega
  have ha : w / 32 % 4 < 4 := by omega
  have hb : w / 128 < 4 := by omega
  exact ⟨(nI (tk_lv qu (nI p) n).2, nI m, xc + 1, lv, cw, cn, tk_fs st pa p, upd sx p (nI i + 1), upd rs p (rg (4 * p + w / 32 % 4)), tk_cp st pa p 6, rg, me, tk_z ds (4 * p) 4, pw, pl, (tk_lv qu (nI p) n).1, ou), (nI (tk_lv qu (nI p) n).2, xc + 1, nI m, cw, cn, tk_fs st pa p, tk_cp st pa p 6, upd sy p (rg (4 * p + w / 32 % 4)), rg, tk_z ds (4 * p) 4, me, pw, pl, (tk_lv qu (nI p) n).1, ou), 0, fun post h => tk_xex_0 hp hi hs hw hc rfl rfl o (fun Q k => tk_xFin hp hq hpn k) h, fun post h => tk_yex_0 hp hi hsy hw hc rfl rfl o (fun Q k => tk_yFin hp hq hpv hpn k) h, tk_mk (tk_V_fin V hp h0) (tk_SP_fin6 S1) C (by omega) O ⟨tk_lo p vq, Or.inr ⟨tk_fs_n1 _ _ _, rfl⟩⟩⟩
theorem tk_ex_1 {n m p i w Bd : Nat} (hp : p < 6) (V : tk_V st pa ds pl qu n) (S : tk_SP 6 st sx rs sy) (C : tk_C cw) (hm : m ≤ Bd) (hB : Bd < 2 ^ 30) (O : tk_O ou m) (h1 : st p = 1) (ho : tk_out qu n p) (G : tk_G cw sx rg ds pl p) (hi : i < 64) (hs : sx p = nI i) (hw : w < 512) (hc : cw i = nI w) (o : w % 32 = 1) : ∃ u' v' g, (∀ post : SX → Prop, post u' → wpX_execute post (nI n, nI m, xc, lv, cw, cn, st, sx, rs, pa, rg, me, ds, pw, pl, qu, ou) (nI p)) ∧ (∀ post : Int32 → SY → Prop, post g v' → wpY_execute post (nI n, xc, nI m, cw, cn, st, pa, sy, rg, ds, me, pw, pl, qu, ou) (nI p)) ∧ tk_RK (Bd + 1) (tk_K p g 1) u' v' := by
  have vq := V.2.2.2.2.2
  have ve := V.2.2.1
  have vl := V.2.2.2.1
  have hq : n ≤ 6 := tk_Q6 vq
  have h0 : st p ≠ 0 := by rw [h1]; decide
  have hpv := V.2.2.2.2.1 p hp h0
  have hpn : pa p ≠ nI p := tk_VPn V.2.2.2.2.1 hp h0
  have hsy : sy p = nI i := ((S p hp (by omega)).1 (Or.inl h1)).trans hs
  have S1 : tk_SP p st (upd sx p (nI i + 1)) rs sy := tk_SP_x S
  have S2 : tk_SP 6 st (upd sx p (nI i + 1)) rs (upd sy p (sy p + 1)) := tk_SP_set S1 h1 (by rw [pk_us, hsy])
  have hA : (4 * p + w / 32 % 4) < 24 := by omega
  have hB' : (4 * p + w / 128) < 24 := by omega
  have ha : w / 32 % 4 < 4 := by omega
  have hb : w / 128 < 4 := by omega
  exact ⟨(nI n, nI m, xc + 1, lv, cw, cn, st, upd sx p (nI i + 1), rs, pa, upd rg (4 * p + w / 32 % 4) (tk_val 1 (rg (4 * p + w / 32 % 4)) (rg (4 * p + w / 128)) (cn i)), me, ds, pw, pl, qu, ou), (nI n, xc + 1, nI m, cw, cn, st, pa, upd sy p (sy p + 1), upd rg (4 * p + w / 32 % 4) (tk_val 1 (rg (4 * p + w / 32 % 4)) (rg (4 * p + w / 128)) (cn i)), ds, me, pw, pl, qu, ou), 1, fun post h => tk_xex_1 hp hi hs hw hc rfl rfl o (fun Q k => tk_xCp (by decide) (by decide) hA hB' k) h, fun post h => tk_yex_1 hp hi hsy hw hc rfl rfl o h, tk_mk V S2 C (by omega) O ⟨ho, Or.inl ⟨h1, rfl⟩⟩⟩
theorem tk_ex_2 {n m p i w Bd : Nat} (hp : p < 6) (V : tk_V st pa ds pl qu n) (S : tk_SP 6 st sx rs sy) (C : tk_C cw) (hm : m ≤ Bd) (hB : Bd < 2 ^ 30) (O : tk_O ou m) (h1 : st p = 1) (ho : tk_out qu n p) (G : tk_G cw sx rg ds pl p) (hi : i < 64) (hs : sx p = nI i) (hw : w < 512) (hc : cw i = nI w) (o : w % 32 = 2) : ∃ u' v' g, (∀ post : SX → Prop, post u' → wpX_execute post (nI n, nI m, xc, lv, cw, cn, st, sx, rs, pa, rg, me, ds, pw, pl, qu, ou) (nI p)) ∧ (∀ post : Int32 → SY → Prop, post g v' → wpY_execute post (nI n, xc, nI m, cw, cn, st, pa, sy, rg, ds, me, pw, pl, qu, ou) (nI p)) ∧ tk_RK (Bd + 1) (tk_K p g 1) u' v' := by
  have vq := V.2.2.2.2.2
  have ve := V.2.2.1
  have vl := V.2.2.2.1
  have hq : n ≤ 6 := tk_Q6 vq
  have h0 : st p ≠ 0 := by rw [h1]; decide
  have hpv := V.2.2.2.2.1 p hp h0
  have hpn : pa p ≠ nI p := tk_VPn V.2.2.2.2.1 hp h0
  have hsy : sy p = nI i := ((S p hp (by omega)).1 (Or.inl h1)).trans hs
  have S1 : tk_SP p st (upd sx p (nI i + 1)) rs sy := tk_SP_x S
  have S2 : tk_SP 6 st (upd sx p (nI i + 1)) rs (upd sy p (sy p + 1)) := tk_SP_set S1 h1 (by rw [pk_us, hsy])
  have hA : (4 * p + w / 32 % 4) < 24 := by omega
  have hB' : (4 * p + w / 128) < 24 := by omega
  have ha : w / 32 % 4 < 4 := by omega
  have hb : w / 128 < 4 := by omega
  exact ⟨(nI n, nI m, xc + 1, lv, cw, cn, st, upd sx p (nI i + 1), rs, pa, upd rg (4 * p + w / 32 % 4) (tk_val 2 (rg (4 * p + w / 32 % 4)) (rg (4 * p + w / 128)) (cn i)), me, ds, pw, pl, qu, ou), (nI n, xc + 1, nI m, cw, cn, st, pa, upd sy p (sy p + 1), upd rg (4 * p + w / 32 % 4) (tk_val 2 (rg (4 * p + w / 32 % 4)) (rg (4 * p + w / 128)) (cn i)), ds, me, pw, pl, qu, ou), 1, fun post h => tk_xex_2 hp hi hs hw hc rfl rfl o (fun Q k => tk_xCp (by decide) (by decide) hA hB' k) h, fun post h => tk_yex_2 hp hi hsy hw hc rfl rfl o h, tk_mk V S2 C (by omega) O ⟨ho, Or.inl ⟨h1, rfl⟩⟩⟩
theorem tk_ex_3 {n m p i w Bd : Nat} (hp : p < 6) (V : tk_V st pa ds pl qu n) (S : tk_SP 6 st sx rs sy) (C : tk_C cw) (hm : m ≤ Bd) (hB : Bd < 2 ^ 30) (O : tk_O ou m) (h1 : st p = 1) (ho : tk_out qu n p) (G : tk_G cw sx rg ds pl p) (hi : i < 64) (hs : sx p = nI i) (hw : w < 512) (hc : cw i = nI w) (o : w % 32 = 3) : ∃ u' v' g, (∀ post : SX → Prop, post u' → wpX_execute post (nI n, nI m, xc, lv, cw, cn, st, sx, rs, pa, rg, me, ds, pw, pl, qu, ou) (nI p)) ∧ (∀ post : Int32 → SY → Prop, post g v' → wpY_execute post (nI n, xc, nI m, cw, cn, st, pa, sy, rg, ds, me, pw, pl, qu, ou) (nI p)) ∧ tk_RK (Bd + 1) (tk_K p g 1) u' v' := by
  have vq := V.2.2.2.2.2
  have ve := V.2.2.1
  have vl := V.2.2.2.1
  have hq : n ≤ 6 := tk_Q6 vq
  have h0 : st p ≠ 0 := by rw [h1]; decide
  have hpv := V.2.2.2.2.1 p hp h0
  have hpn : pa p ≠ nI p := tk_VPn V.2.2.2.2.1 hp h0
  have hsy : sy p = nI i := ((S p hp (by omega)).1 (Or.inl h1)).trans hs
  have S1 : tk_SP p st (upd sx p (nI i + 1)) rs sy := tk_SP_x S
  have S2 : tk_SP 6 st (upd sx p (nI i + 1)) rs (upd sy p (sy p + 1)) := tk_SP_set S1 h1 (by rw [pk_us, hsy])
  have hA : (4 * p + w / 32 % 4) < 24 := by omega
  have hB' : (4 * p + w / 128) < 24 := by omega
  have ha : w / 32 % 4 < 4 := by omega
  have hb : w / 128 < 4 := by omega
  exact ⟨(nI n, nI m, xc + 1, lv, cw, cn, st, upd sx p (nI i + 1), rs, pa, upd rg (4 * p + w / 32 % 4) (tk_val 3 (rg (4 * p + w / 32 % 4)) (rg (4 * p + w / 128)) (cn i)), me, ds, pw, pl, qu, ou), (nI n, xc + 1, nI m, cw, cn, st, pa, upd sy p (sy p + 1), upd rg (4 * p + w / 32 % 4) (tk_val 3 (rg (4 * p + w / 32 % 4)) (rg (4 * p + w / 128)) (cn i)), ds, me, pw, pl, qu, ou), 1, fun post h => tk_xex_3 hp hi hs hw hc rfl rfl o (fun Q k => tk_xCp (by decide) (by decide) hA hB' k) h, fun post h => tk_yex_3 hp hi hsy hw hc rfl rfl o h, tk_mk V S2 C (by omega) O ⟨ho, Or.inl ⟨h1, rfl⟩⟩⟩
theorem tk_ex_4 {n m p i w Bd : Nat} (hp : p < 6) (V : tk_V st pa ds pl qu n) (S : tk_SP 6 st sx rs sy) (C : tk_C cw) (hm : m ≤ Bd) (hB : Bd < 2 ^ 30) (O : tk_O ou m) (h1 : st p = 1) (ho : tk_out qu n p) (G : tk_G cw sx rg ds pl p) (hi : i < 64) (hs : sx p = nI i) (hw : w < 512) (hc : cw i = nI w) (o : w % 32 = 4) : ∃ u' v' g, (∀ post : SX → Prop, post u' → wpX_execute post (nI n, nI m, xc, lv, cw, cn, st, sx, rs, pa, rg, me, ds, pw, pl, qu, ou) (nI p)) ∧ (∀ post : Int32 → SY → Prop, post g v' → wpY_execute post (nI n, xc, nI m, cw, cn, st, pa, sy, rg, ds, me, pw, pl, qu, ou) (nI p)) ∧ tk_RK (Bd + 1) (tk_K p g 1) u' v' := by
  have vq := V.2.2.2.2.2
  have ve := V.2.2.1
  have vl := V.2.2.2.1
  have hq : n ≤ 6 := tk_Q6 vq
  have h0 : st p ≠ 0 := by rw [h1]; decide
  have hpv := V.2.2.2.2.1 p hp h0
  have hpn : pa p ≠ nI p := tk_VPn V.2.2.2.2.1 hp h0
  have hsy : sy p = nI i := ((S p hp (by omega)).1 (Or.inl h1)).trans hs
  have S1 : tk_SP p st (upd sx p (nI i + 1)) rs sy := tk_SP_x S
  have S2 : tk_SP 6 st (upd sx p (nI i + 1)) rs (upd sy p (sy p + 1)) := tk_SP_set S1 h1 (by rw [pk_us, hsy])
  have hA : (4 * p + w / 32 % 4) < 24 := by omega
  have hB' : (4 * p + w / 128) < 24 := by omega
  have ha : w / 32 % 4 < 4 := by omega
  have hb : w / 128 < 4 := by omega
  exact ⟨(nI n, nI m, xc + 1, lv, cw, cn, st, upd sx p (nI i + 1), rs, pa, upd rg (4 * p + w / 32 % 4) (tk_val 4 (rg (4 * p + w / 32 % 4)) (rg (4 * p + w / 128)) (cn i)), me, ds, pw, pl, qu, ou), (nI n, xc + 1, nI m, cw, cn, st, pa, upd sy p (sy p + 1), upd rg (4 * p + w / 32 % 4) (tk_val 4 (rg (4 * p + w / 32 % 4)) (rg (4 * p + w / 128)) (cn i)), ds, me, pw, pl, qu, ou), 1, fun post h => tk_xex_4 hp hi hs hw hc rfl rfl o (fun Q k => tk_xCp (by decide) (by decide) hA hB' k) h, fun post h => tk_yex_4 hp hi hsy hw hc rfl rfl o h, tk_mk V S2 C (by omega) O ⟨ho, Or.inl ⟨h1, rfl⟩⟩⟩
theorem tk_ex_5 {n m p i w Bd : Nat} (hp : p < 6) (V : tk_V st pa ds pl qu n) (S : tk_SP 6 st sx rs sy) (C : tk_C cw) (hm : m ≤ Bd) (hB : Bd < 2 ^ 30) (O : tk_O ou m) (h1 : st p = 1) (ho : tk_out qu n p) (G : tk_G cw sx rg ds pl p) (hi : i < 64) (hs : sx p = nI i) (hw : w < 512) (hc : cw i = nI w) (o : w % 32 = 5) : ∃ u' v' g, (∀ post : SX → Prop, post u' → wpX_execute post (nI n, nI m, xc, lv, cw, cn, st, sx, rs, pa, rg, me, ds, pw, pl, qu, ou) (nI p)) ∧ (∀ post : Int32 → SY → Prop, post g v' → wpY_execute post (nI n, xc, nI m, cw, cn, st, pa, sy, rg, ds, me, pw, pl, qu, ou) (nI p)) ∧ tk_RK (Bd + 1) (tk_K p g 1) u' v' := by
  have vq := V.2.2.2.2.2
  have ve := V.2.2.1
  have vl := V.2.2.2.1
  have hq : n ≤ 6 := tk_Q6 vq
  have h0 : st p ≠ 0 := by rw [h1]; decide
  have hpv := V.2.2.2.2.1 p hp h0
  have hpn : pa p ≠ nI p := tk_VPn V.2.2.2.2.1 hp h0
  have hsy : sy p = nI i := ((S p hp (by omega)).1 (Or.inl h1)).trans hs
  have S1 : tk_SP p st (upd sx p (nI i + 1)) rs sy := tk_SP_x S
  have S2 : tk_SP 6 st (upd sx p (nI i + 1)) rs (upd sy p (sy p + 1)) := tk_SP_set S1 h1 (by rw [pk_us, hsy])
  have hA : (4 * p + w / 32 % 4) < 24 := by omega
  have hB' : (4 * p + w / 128) < 24 := by omega
  have ha : w / 32 % 4 < 4 := by omega
  have hb : w / 128 < 4 := by omega
  exact ⟨(nI n, nI m, xc + 1, lv, cw, cn, st, upd sx p (nI i + 1), rs, pa, upd rg (4 * p + w / 32 % 4) (tk_val 5 (rg (4 * p + w / 32 % 4)) (rg (4 * p + w / 128)) (cn i)), me, ds, pw, pl, qu, ou), (nI n, xc + 1, nI m, cw, cn, st, pa, upd sy p (sy p + 1), upd rg (4 * p + w / 32 % 4) (tk_val 5 (rg (4 * p + w / 32 % 4)) (rg (4 * p + w / 128)) (cn i)), ds, me, pw, pl, qu, ou), 1, fun post h => tk_xex_5 hp hi hs hw hc rfl rfl o (fun Q k => tk_xCp (by decide) (by decide) hA hB' k) h, fun post h => tk_yex_5 hp hi hsy hw hc rfl rfl o h, tk_mk V S2 C (by omega) O ⟨ho, Or.inl ⟨h1, rfl⟩⟩⟩
theorem tk_ex_6 {n m p i w Bd : Nat} (hp : p < 6) (V : tk_V st pa ds pl qu n) (S : tk_SP 6 st sx rs sy) (C : tk_C cw) (hm : m ≤ Bd) (hB : Bd < 2 ^ 30) (O : tk_O ou m) (h1 : st p = 1) (ho : tk_out qu n p) (G : tk_G cw sx rg ds pl p) (hi : i < 64) (hs : sx p = nI i) (hw : w < 512) (hc : cw i = nI w) (o : w % 32 = 6) : ∃ u' v' g, (∀ post : SX → Prop, post u' → wpX_execute post (nI n, nI m, xc, lv, cw, cn, st, sx, rs, pa, rg, me, ds, pw, pl, qu, ou) (nI p)) ∧ (∀ post : Int32 → SY → Prop, post g v' → wpY_execute post (nI n, xc, nI m, cw, cn, st, pa, sy, rg, ds, me, pw, pl, qu, ou) (nI p)) ∧ tk_RK (Bd + 1) (tk_K p g 1) u' v' := by
  have vq := V.2.2.2.2.2
  have ve := V.2.2.1
  have vl := V.2.2.2.1
  have hq : n ≤ 6 := tk_Q6 vq
  have h0 : st p ≠ 0 := by rw [h1]; decide
  have hpv := V.2.2.2.2.1 p hp h0
  have hpn : pa p ≠ nI p := tk_VPn V.2.2.2.2.1 hp h0
  have hsy : sy p = nI i := ((S p hp (by omega)).1 (Or.inl h1)).trans hs
  have S1 : tk_SP p st (upd sx p (nI i + 1)) rs sy := tk_SP_x S
  have S2 : tk_SP 6 st (upd sx p (nI i + 1)) rs (upd sy p (sy p + 1)) := tk_SP_set S1 h1 (by rw [pk_us, hsy])
  have hA : (4 * p + w / 32 % 4) < 24 := by omega
  have hB' : (4 * p + w / 128) < 24 := by omega
  have ha : w / 32 % 4 < 4 := by omega
  have hb : w / 128 < 4 := by omega
  exact ⟨(nI n, nI m, xc + 1, lv, cw, cn, st, upd sx p (nI i + 1), rs, pa, upd rg (4 * p + w / 32 % 4) (tk_val 6 (rg (4 * p + w / 32 % 4)) (rg (4 * p + w / 128)) (cn i)), me, ds, pw, pl, qu, ou), (nI n, xc + 1, nI m, cw, cn, st, pa, upd sy p (sy p + 1), upd rg (4 * p + w / 32 % 4) (tk_val 6 (rg (4 * p + w / 32 % 4)) (rg (4 * p + w / 128)) (cn i)), ds, me, pw, pl, qu, ou), 1, fun post h => tk_xex_6 hp hi hs hw hc rfl rfl o (fun Q k => tk_xCp (by decide) (by decide) hA hB' k) h, fun post h => tk_yex_6 hp hi hsy hw hc rfl rfl o h, tk_mk V S2 C (by omega) O ⟨ho, Or.inl ⟨h1, rfl⟩⟩⟩
theorem tk_ex_7 {n m p i w Bd : Nat} (hp : p < 6) (V : tk_V st pa ds pl qu n) (S : tk_SP 6 st sx rs sy) (C : tk_C cw) (hm : m ≤ Bd) (hB : Bd < 2 ^ 30) (O : tk_O ou m) (h1 : st p = 1) (ho : tk_out qu n p) (G : tk_G cw sx rg ds pl p) (hi : i < 64) (hs : sx p = nI i) (hw : w < 512) (hc : cw i = nI w) (o : w % 32 = 7) : ∃ u' v' g, (∀ post : SX → Prop, post u' → wpX_execute post (nI n, nI m, xc, lv, cw, cn, st, sx, rs, pa, rg, me, ds, pw, pl, qu, ou) (nI p)) ∧ (∀ post : Int32 → SY → Prop, post g v' → wpY_execute post (nI n, xc, nI m, cw, cn, st, pa, sy, rg, ds, me, pw, pl, qu, ou) (nI p)) ∧ tk_RK (Bd + 1) (tk_K p g 1) u' v' := by
  have vq := V.2.2.2.2.2
  have ve := V.2.2.1
  have vl := V.2.2.2.1
  have hq : n ≤ 6 := tk_Q6 vq
  have h0 : st p ≠ 0 := by rw [h1]; decide
  have hpv := V.2.2.2.2.1 p hp h0
  have hpn : pa p ≠ nI p := tk_VPn V.2.2.2.2.1 hp h0
  have hsy : sy p = nI i := ((S p hp (by omega)).1 (Or.inl h1)).trans hs
  have S1 : tk_SP p st (upd sx p (nI i + 1)) rs sy := tk_SP_x S
  have S2 : tk_SP 6 st (upd sx p (nI i + 1)) rs (upd sy p (sy p + 1)) := tk_SP_set S1 h1 (by rw [pk_us, hsy])
  have hA : (4 * p + w / 32 % 4) < 24 := by omega
  have hB' : (4 * p + w / 128) < 24 := by omega
  have ha : w / 32 % 4 < 4 := by omega
  have hb : w / 128 < 4 := by omega
  exact ⟨(nI n, nI m, xc + 1, lv, cw, cn, st, upd sx p (nI i + 1), rs, pa, upd rg (4 * p + w / 32 % 4) (tk_val 7 (rg (4 * p + w / 32 % 4)) (rg (4 * p + w / 128)) (cn i)), me, ds, pw, pl, qu, ou), (nI n, xc + 1, nI m, cw, cn, st, pa, upd sy p (sy p + 1), upd rg (4 * p + w / 32 % 4) (tk_val 7 (rg (4 * p + w / 32 % 4)) (rg (4 * p + w / 128)) (cn i)), ds, me, pw, pl, qu, ou), 1, fun post h => tk_xex_7 hp hi hs hw hc rfl rfl o (fun Q k => tk_xCp (by decide) (by decide) hA hB' k) h, fun post h => tk_yex_7 hp hi hsy hw hc rfl rfl o h, tk_mk V S2 C (by omega) O ⟨ho, Or.inl ⟨h1, rfl⟩⟩⟩
theorem tk_ex_8 {n m p i w Bd : Nat} (hp : p < 6) (V : tk_V st pa ds pl qu n) (S : tk_SP 6 st sx rs sy) (C : tk_C cw) (hm : m ≤ Bd) (hB : Bd < 2 ^ 30) (O : tk_O ou m) (h1 : st p = 1) (ho : tk_out qu n p) (G : tk_G cw sx rg ds pl p) (hi : i < 64) (hs : sx p = nI i) (hw : w < 512) (hc : cw i = nI w) (o : w % 32 = 8) : ∃ u' v' g, (∀ post : SX → Prop, post u' → wpX_execute post (nI n, nI m, xc, lv, cw, cn, st, sx, rs, pa, rg, me, ds, pw, pl, qu, ou) (nI p)) ∧ (∀ post : Int32 → SY → Prop, post g v' → wpY_execute post (nI n, xc, nI m, cw, cn, st, pa, sy, rg, ds, me, pw, pl, qu, ou) (nI p)) ∧ tk_RK (Bd + 1) (tk_K p g 1) u' v' := by
  have vq := V.2.2.2.2.2
  have ve := V.2.2.1
  have vl := V.2.2.2.1
  have hq : n ≤ 6 := tk_Q6 vq
  have h0 : st p ≠ 0 := by rw [h1]; decide
  have hpv := V.2.2.2.2.1 p hp h0
  have hpn : pa p ≠ nI p := tk_VPn V.2.2.2.2.1 hp h0
  have hsy : sy p = nI i := ((S p hp (by omega)).1 (Or.inl h1)).trans hs
  have S1 : tk_SP p st (upd sx p (nI i + 1)) rs sy := tk_SP_x S
  have S2 : tk_SP 6 st (upd sx p (nI i + 1)) rs (upd sy p (sy p + 1)) := tk_SP_set S1 h1 (by rw [pk_us, hsy])
  have hA : (4 * p + w / 32 % 4) < 24 := by omega
  have hB' : (4 * p + w / 128) < 24 := by omega
  have ha : w / 32 % 4 < 4 := by omega
  have hb : w / 128 < 4 := by omega
  rcases tk_ix (rg (4 * p + w / 128) + cn i) (n := 32) (by decide) with z | z | ⟨j, hj, ej⟩
  · exact ⟨(nI (tk_lv qu (nI p) n).2, nI m, xc + 1, lv, cw, cn, tk_fs st pa p, upd sx p (nI i + 1), upd rs p (-1), tk_cp st pa p 6, rg, me, tk_z ds (4 * p) 4, pw, pl, (tk_lv qu (nI p) n).1, ou), (nI (tk_lv qu (nI p) n).2, xc + 1, nI m, cw, cn, tk_fs st pa p, tk_cp st pa p 6, upd sy p (-1), rg, tk_z ds (4 * p) 4, me, pw, pl, (tk_lv qu (nI p) n).1, ou), 0, fun post h => tk_xex_8 hp hi hs hw hc rfl rfl o (fun Q k => tk_xLd0 (Or.inl z) hp hq hpn k) h, fun post h => tk_yex_8o hp hi hsy hw hc rfl rfl o (Or.inl z) (fun Q k => tk_yFin hp hq hpv hpn k) h, tk_mk (tk_V_fin V hp h0) (tk_SP_fin6 S1) C (by omega) O ⟨tk_lo p vq, Or.inr ⟨tk_fs_n1 _ _ _, rfl⟩⟩⟩
  · exact ⟨(nI (tk_lv qu (nI p) n).2, nI m, xc + 1, lv, cw, cn, tk_fs st pa p, upd sx p (nI i + 1), upd rs p (-1), tk_cp st pa p 6, rg, me, tk_z ds (4 * p) 4, pw, pl, (tk_lv qu (nI p) n).1, ou), (nI (tk_lv qu (nI p) n).2, xc + 1, nI m, cw, cn, tk_fs st pa p, tk_cp st pa p 6, upd sy p (-1), rg, tk_z ds (4 * p) 4, me, pw, pl, (tk_lv qu (nI p) n).1, ou), 0, fun post h => tk_xex_8 hp hi hs hw hc rfl rfl o (fun Q k => tk_xLd0 (Or.inr z) hp hq hpn k) h, fun post h => tk_yex_8o hp hi hsy hw hc rfl rfl o (Or.inr z) (fun Q k => tk_yFin hp hq hpv hpn k) h, tk_mk (tk_V_fin V hp h0) (tk_SP_fin6 S1) C (by omega) O ⟨tk_lo p vq, Or.inr ⟨tk_fs_n1 _ _ _, rfl⟩⟩⟩
  · exact ⟨(nI n, nI m, xc + 1, lv, cw, cn, st, upd sx p (nI i + 1), rs, pa, upd rg (4 * p + w / 32 % 4) (me (32 * p + j)), me, ds, pw, pl, qu, ou), (nI n, xc + 1, nI m, cw, cn, st, pa, upd sy p (sy p + 1), upd rg (4 * p + w / 32 % 4) (me (32 * p + j)), ds, me, pw, pl, qu, ou), 1, fun post h => tk_xex_8 hp hi hs hw hc rfl rfl o (fun Q k => by rw [ej]; exact tk_xLd1 hp hA hj k) h, fun post h => tk_yex_8 hp hi hsy hw hc rfl rfl o ej hj h, tk_mk V S2 C (by omega) O ⟨ho, Or.inl ⟨h1, rfl⟩⟩⟩
theorem tk_ex_9 {n m p i w Bd : Nat} (hp : p < 6) (V : tk_V st pa ds pl qu n) (S : tk_SP 6 st sx rs sy) (C : tk_C cw) (hm : m ≤ Bd) (hB : Bd < 2 ^ 30) (O : tk_O ou m) (h1 : st p = 1) (ho : tk_out qu n p) (G : tk_G cw sx rg ds pl p) (hi : i < 64) (hs : sx p = nI i) (hw : w < 512) (hc : cw i = nI w) (o : w % 32 = 9) : ∃ u' v' g, (∀ post : SX → Prop, post u' → wpX_execute post (nI n, nI m, xc, lv, cw, cn, st, sx, rs, pa, rg, me, ds, pw, pl, qu, ou) (nI p)) ∧ (∀ post : Int32 → SY → Prop, post g v' → wpY_execute post (nI n, xc, nI m, cw, cn, st, pa, sy, rg, ds, me, pw, pl, qu, ou) (nI p)) ∧ tk_RK (Bd + 1) (tk_K p g 1) u' v' := by
  have vq := V.2.2.2.2.2
  have ve := V.2.2.1
  have vl := V.2.2.2.1
  have hq : n ≤ 6 := tk_Q6 vq
  have h0 : st p ≠ 0 := by rw [h1]; decide
  have hpv := V.2.2.2.2.1 p hp h0
  have hpn : pa p ≠ nI p := tk_VPn V.2.2.2.2.1 hp h0
  have hsy : sy p = nI i := ((S p hp (by omega)).1 (Or.inl h1)).trans hs
  have S1 : tk_SP p st (upd sx p (nI i + 1)) rs sy := tk_SP_x S
  have S2 : tk_SP 6 st (upd sx p (nI i + 1)) rs (upd sy p (sy p + 1)) := tk_SP_set S1 h1 (by rw [pk_us, hsy])
  have hA : (4 * p + w / 32 % 4) < 24 := by omega
  have hB' : (4 * p + w / 128) < 24 := by omega
  have ha : w / 32 % 4 < 4 := by omega
  have hb : w / 128 < 4 := by omega
  rcases tk_ix (rg (4 * p + w / 128) + cn i) (n := 32) (by decide) with z | z | ⟨j, hj, ej⟩
  · exact ⟨(nI (tk_lv qu (nI p) n).2, nI m, xc + 1, lv, cw, cn, tk_fs st pa p, upd sx p (nI i + 1), upd rs p (-1), tk_cp st pa p 6, rg, me, tk_z ds (4 * p) 4, pw, pl, (tk_lv qu (nI p) n).1, ou), (nI (tk_lv qu (nI p) n).2, xc + 1, nI m, cw, cn, tk_fs st pa p, tk_cp st pa p 6, upd sy p (-1), rg, tk_z ds (4 * p) 4, me, pw, pl, (tk_lv qu (nI p) n).1, ou), 0, fun post h => tk_xex_9 hp hi hs hw hc rfl rfl o (fun Q k => tk_xSt0 (Or.inl z) hp hq hpn k) h, fun post h => tk_yex_9o hp hi hsy hw hc rfl rfl o (Or.inl z) (fun Q k => tk_yFin hp hq hpv hpn k) h, tk_mk (tk_V_fin V hp h0) (tk_SP_fin6 S1) C (by omega) O ⟨tk_lo p vq, Or.inr ⟨tk_fs_n1 _ _ _, rfl⟩⟩⟩
  · exact ⟨(nI (tk_lv qu (nI p) n).2, nI m, xc + 1, lv, cw, cn, tk_fs st pa p, upd sx p (nI i + 1), upd rs p (-1), tk_cp st pa p 6, rg, me, tk_z ds (4 * p) 4, pw, pl, (tk_lv qu (nI p) n).1, ou), (nI (tk_lv qu (nI p) n).2, xc + 1, nI m, cw, cn, tk_fs st pa p, tk_cp st pa p 6, upd sy p (-1), rg, tk_z ds (4 * p) 4, me, pw, pl, (tk_lv qu (nI p) n).1, ou), 0, fun post h => tk_xex_9 hp hi hs hw hc rfl rfl o (fun Q k => tk_xSt0 (Or.inr z) hp hq hpn k) h, fun post h => tk_yex_9o hp hi hsy hw hc rfl rfl o (Or.inr z) (fun Q k => tk_yFin hp hq hpv hpn k) h, tk_mk (tk_V_fin V hp h0) (tk_SP_fin6 S1) C (by omega) O ⟨tk_lo p vq, Or.inr ⟨tk_fs_n1 _ _ _, rfl⟩⟩⟩
  · exact ⟨(nI n, nI m, xc + 1, lv, cw, cn, st, upd sx p (nI i + 1), rs, pa, rg, upd me (32 * p + j) (rg (4 * p + w / 32 % 4)), ds, pw, pl, qu, ou), (nI n, xc + 1, nI m, cw, cn, st, pa, upd sy p (sy p + 1), rg, ds, upd me (32 * p + j) (rg (4 * p + w / 32 % 4)), pw, pl, qu, ou), 1, fun post h => tk_xex_9 hp hi hs hw hc rfl rfl o (fun Q k => by rw [ej]; exact tk_xSt1 hp hA hj k) h, fun post h => tk_yex_9 hp hi hsy hw hc rfl rfl o ej hj h, tk_mk V S2 C (by omega) O ⟨ho, Or.inl ⟨h1, rfl⟩⟩⟩
theorem tk_ex_10 {n m p i w Bd : Nat} (hp : p < 6) (V : tk_V st pa ds pl qu n) (S : tk_SP 6 st sx rs sy) (C : tk_C cw) (hm : m ≤ Bd) (hB : Bd < 2 ^ 30) (O : tk_O ou m) (h1 : st p = 1) (ho : tk_out qu n p) (G : tk_G cw sx rg ds pl p) (hi : i < 64) (hs : sx p = nI i) (hw : w < 512) (hc : cw i = nI w) (o : w % 32 = 10) : ∃ u' v' g, (∀ post : SX → Prop, post u' → wpX_execute post (nI n, nI m, xc, lv, cw, cn, st, sx, rs, pa, rg, me, ds, pw, pl, qu, ou) (nI p)) ∧ (∀ post : Int32 → SY → Prop, post g v' → wpY_execute post (nI n, xc, nI m, cw, cn, st, pa, sy, rg, ds, me, pw, pl, qu, ou) (nI p)) ∧ tk_RK (Bd + 1) (tk_K p g 1) u' v' := by
  have vq := V.2.2.2.2.2
  have ve := V.2.2.1
  have vl := V.2.2.2.1
  have hq : n ≤ 6 := tk_Q6 vq
  have h0 : st p ≠ 0 := by rw [h1]; decide
  have hpv := V.2.2.2.2.1 p hp h0
  have hpn : pa p ≠ nI p := tk_VPn V.2.2.2.2.1 hp h0
  have hsy : sy p = nI i := ((S p hp (by omega)).1 (Or.inl h1)).trans hs
  have S1 : tk_SP p st (upd sx p (nI i + 1)) rs sy := tk_SP_x S
  have S2 : tk_SP 6 st (upd sx p (nI i + 1)) rs (upd sy p (sy p + 1)) := tk_SP_set S1 h1 (by rw [pk_us, hsy])
  have hA : (4 * p + w / 32 % 4) < 24 := by omega
  have hB' : (4 * p + w / 128) < 24 := by omega
  have ha : w / 32 % 4 < 4 := by omega
  have hb : w / 128 < 4 := by omega
  by_cases z : rg (4 * p + w / 32 % 4) = 0
  · exact ⟨(nI n, nI m, xc + 1, lv, cw, cn, st, upd (upd sx p (nI i + 1)) p (cn i), rs, pa, rg, me, ds, pw, pl, qu, ou), (nI n, xc + 1, nI m, cw, cn, st, pa, upd sy p (cn i), rg, ds, me, pw, pl, qu, ou), 1, fun post h => tk_xex_10t hp hi hs hw hc rfl rfl o z h, fun post h => tk_yex_10t hp hi hsy hw hc rfl rfl o z h, tk_mk V (tk_SP_jump S1 h1) C (by omega) O ⟨ho, Or.inl ⟨h1, rfl⟩⟩⟩
  · exact ⟨(nI n, nI m, xc + 1, lv, cw, cn, st, upd sx p (nI i + 1), rs, pa, rg, me, ds, pw, pl, qu, ou), (nI n, xc + 1, nI m, cw, cn, st, pa, upd sy p (sy p + 1), rg, ds, me, pw, pl, qu, ou), 1, fun post h => tk_xex_10f hp hi hs hw hc rfl rfl o z h, fun post h => tk_yex_10f hp hi hsy hw hc rfl rfl o z h, tk_mk V S2 C (by omega) O ⟨ho, Or.inl ⟨h1, rfl⟩⟩⟩
theorem tk_ex_12 {n m p i w Bd : Nat} (hp : p < 6) (V : tk_V st pa ds pl qu n) (S : tk_SP 6 st sx rs sy) (C : tk_C cw) (hm : m ≤ Bd) (hB : Bd < 2 ^ 30) (O : tk_O ou m) (h1 : st p = 1) (ho : tk_out qu n p) (G : tk_G cw sx rg ds pl p) (hi : i < 64) (hs : sx p = nI i) (hw : w < 512) (hc : cw i = nI w) (o : w % 32 = 12) : ∃ u' v' g, (∀ post : SX → Prop, post u' → wpX_execute post (nI n, nI m, xc, lv, cw, cn, st, sx, rs, pa, rg, me, ds, pw, pl, qu, ou) (nI p)) ∧ (∀ post : Int32 → SY → Prop, post g v' → wpY_execute post (nI n, xc, nI m, cw, cn, st, pa, sy, rg, ds, me, pw, pl, qu, ou) (nI p)) ∧ tk_RK (Bd + 1) (tk_K p g 1) u' v' := by
  have vq := V.2.2.2.2.2
  have ve := V.2.2.1
  have vl := V.2.2.2.1
  have hq : n ≤ 6 := tk_Q6 vq
  have h0 : st p ≠ 0 := by rw [h1]; decide
  have hpv := V.2.2.2.2.1 p hp h0
  have hpn : pa p ≠ nI p := tk_VPn V.2.2.2.2.1 hp h0
  have hsy : sy p = nI i := ((S p hp (by omega)).1 (Or.inl h1)).trans hs
  have S1 : tk_SP p st (upd sx p (nI i + 1)) rs sy := tk_SP_x S
  have S2 : tk_SP 6 st (upd sx p (nI i + 1)) rs (upd sy p (sy p + 1)) := tk_SP_set S1 h1 (by rw [pk_us, hsy])
  have hA : (4 * p + w / 32 % 4) < 24 := by omega
  have hB' : (4 * p + w / 128) < 24 := by omega
  have ha : w / 32 % 4 < 4 := by omega
  have hb : w / 128 < 4 := by omega
  by_cases z : rg (4 * p + w / 32 % 4) = 0
  · exact ⟨(nI n, nI m, xc + 1, lv, cw, cn, st, upd sx p (nI i + 1), rs, pa, rg, me, ds, pw, pl, qu, ou), (nI n, xc + 1, nI m, cw, cn, st, pa, upd sy p (sy p + 1), rg, ds, me, pw, pl, qu, ou), 1, fun post h => tk_xex_12f hp hi hs hw hc rfl rfl o z h, fun post h => tk_yex_12f hp hi hsy hw hc rfl rfl o z h, tk_mk V S2 C (by omega) O ⟨ho, Or.inl ⟨h1, rfl⟩⟩⟩
  · exact ⟨(nI n, nI m, xc + 1, lv, cw, cn, st, upd (upd sx p (nI i + 1)) p (cn i), rs, pa, rg, me, ds, pw, pl, qu, ou), (nI n, xc + 1, nI m, cw, cn, st, pa, upd sy p (cn i), rg, ds, me, pw, pl, qu, ou), 1, fun post h => tk_xex_12t hp hi hs hw hc rfl rfl o z h, fun post h => tk_yex_12t hp hi hsy hw hc rfl rfl o z h, tk_mk V (tk_SP_jump S1 h1) C (by omega) O ⟨ho, Or.inl ⟨h1, rfl⟩⟩⟩
theorem tk_ex_11 {n m p i w Bd : Nat} (hp : p < 6) (V : tk_V st pa ds pl qu n) (S : tk_SP 6 st sx rs sy) (C : tk_C cw) (hm : m ≤ Bd) (hB : Bd < 2 ^ 30) (O : tk_O ou m) (h1 : st p = 1) (ho : tk_out qu n p) (G : tk_G cw sx rg ds pl p) (hi : i < 64) (hs : sx p = nI i) (hw : w < 512) (hc : cw i = nI w) (o : w % 32 = 11) : ∃ u' v' g, (∀ post : SX → Prop, post u' → wpX_execute post (nI n, nI m, xc, lv, cw, cn, st, sx, rs, pa, rg, me, ds, pw, pl, qu, ou) (nI p)) ∧ (∀ post : Int32 → SY → Prop, post g v' → wpY_execute post (nI n, xc, nI m, cw, cn, st, pa, sy, rg, ds, me, pw, pl, qu, ou) (nI p)) ∧ tk_RK (Bd + 1) (tk_K p g 1) u' v' := by
  have vq := V.2.2.2.2.2
  have ve := V.2.2.1
  have vl := V.2.2.2.1
  have hq : n ≤ 6 := tk_Q6 vq
  have h0 : st p ≠ 0 := by rw [h1]; decide
  have hpv := V.2.2.2.2.1 p hp h0
  have hpn : pa p ≠ nI p := tk_VPn V.2.2.2.2.1 hp h0
  have hsy : sy p = nI i := ((S p hp (by omega)).1 (Or.inl h1)).trans hs
  have S1 : tk_SP p st (upd sx p (nI i + 1)) rs sy := tk_SP_x S
  have S2 : tk_SP 6 st (upd sx p (nI i + 1)) rs (upd sy p (sy p + 1)) := tk_SP_set S1 h1 (by rw [pk_us, hsy])
  have hA : (4 * p + w / 32 % 4) < 24 := by omega
  have hB' : (4 * p + w / 128) < 24 := by omega
  have ha : w / 32 % 4 < 4 := by omega
  have hb : w / 128 < 4 := by omega
  exact ⟨(nI n, nI m, xc + 1, lv, cw, cn, st, upd (upd sx p (nI i + 1)) p (cn i), rs, pa, rg, me, ds, pw, pl, qu, ou), (nI n, xc + 1, nI m, cw, cn, st, pa, upd sy p (cn i), rg, ds, me, pw, pl, qu, ou), 1, fun post h => tk_xex_11 hp hi hs hw hc rfl rfl o h, fun post h => tk_yex_11 hp hi hsy hw hc rfl rfl o h, tk_mk V (tk_SP_jump S1 h1) C (by omega) O ⟨ho, Or.inl ⟨h1, rfl⟩⟩⟩
theorem tk_ex_13 {n m p i w Bd : Nat} (hp : p < 6) (V : tk_V st pa ds pl qu n) (S : tk_SP 6 st sx rs sy) (C : tk_C cw) (hm : m ≤ Bd) (hB : Bd < 2 ^ 30) (O : tk_O ou m) (h1 : st p = 1) (ho : tk_out qu n p) (G : tk_G cw sx rg ds pl p) (hi : i < 64) (hs : sx p = nI i) (hw : w < 512) (hc : cw i = nI w) (o : w % 32 = 13) : ∃ u' v' g, (∀ post : SX → Prop, post u' → wpX_execute post (nI n, nI m, xc, lv, cw, cn, st, sx, rs, pa, rg, me, ds, pw, pl, qu, ou) (nI p)) ∧ (∀ post : Int32 → SY → Prop, post g v' → wpY_execute post (nI n, xc, nI m, cw, cn, st, pa, sy, rg, ds, me, pw, pl, qu, ou) (nI p)) ∧ tk_RK (Bd + 1) (tk_K p g 1) u' v' := by
  have vq := V.2.2.2.2.2
  have ve := V.2.2.1
  have vl := V.2.2.2.1
  have hq : n ≤ 6 := tk_Q6 vq
  have h0 : st p ≠ 0 := by rw [h1]; decide
  have hpv := V.2.2.2.2.1 p hp h0
  have hpn : pa p ≠ nI p := tk_VPn V.2.2.2.2.1 hp h0
  have hsy : sy p = nI i := ((S p hp (by omega)).1 (Or.inl h1)).trans hs
  have S1 : tk_SP p st (upd sx p (nI i + 1)) rs sy := tk_SP_x S
  have S2 : tk_SP 6 st (upd sx p (nI i + 1)) rs (upd sy p (sy p + 1)) := tk_SP_set S1 h1 (by rw [pk_us, hsy])
  have hA : (4 * p + w / 32 % 4) < 24 := by omega
  have hB' : (4 * p + w / 128) < 24 := by omega
  have ha : w / 32 % 4 < 4 := by omega
  have hb : w / 128 < 4 := by omega
  obtain ⟨e, he, hX, hY, hd, hde⟩ := tk_end (ql := nI n) (pc := nI m) (lv := lv) (xc := xc + 1) (cw := cw) (cn := cn) (st := st) (sx := upd sx p (nI i + 1)) (sy := sy) (rs := rs) (pa := pa) (rg := rg) (me := me) (pw := pw) (pl := pl) (qu := qu) (ou := ou) hp hb ve
  obtain ⟨r, hF⟩ := tk_Fex (fun j => st j = 0) 6 6 0 rfl
  rcases tk_Fc hF with ⟨er, _⟩ | ⟨c, _, hc6, er, hc0⟩
  · rw [er] at hF
    exact ⟨(nI n, nI m, xc + 1, lv, cw, cn, st, upd sx p (nI i + 1), rs, pa, upd rg (4 * p + w / 32 % 4) (-2), me, ds, pw, pl, qu, ou), (nI n, xc + 1, nI m, cw, cn, st, pa, upd sy p (sy p + 1), upd rg (4 * p + w / 32 % 4) (-2), ds, me, pw, pl, qu, ou), 1, fun post h => tk_xex_13 hp hi hs hw hc rfl rfl o (fun Q k => tk_xFk0 hF hA k) h, fun post h => tk_yex_13n hp hi hsy hw hc rfl rfl o hY (fun Q k => tk_yFk0 hF k) h, tk_mk V S2 C (by omega) O ⟨ho, Or.inl ⟨h1, rfl⟩⟩⟩
  · rw [er] at hF
    have hc0' : st c = 0 := hc0
    have hpc : p ≠ c := fun z => h0 (by rw [z]; exact hc0')
    have hc1 : st c ≠ 1 := by rw [hc0']; decide
    have hn5 : n ≤ 5 := tk_Q5 vq hc6 (tk_Qo vq hc6 hc1)
    have hsc : (upd sy c (sy p + 1)) p + 1 = sy p + 1 := by rw [pk_un hpc]
    have T : tk_SP p (upd st c 1) (upd (upd sx p (nI i + 1)) c (upd sx p (nI i + 1) p)) rs (upd sy c (sy p + 1)) := by
      have k : upd sx p (nI i + 1) p = sy p + 1 := by rw [pk_us, hsy]
      rw [k]
      exact tk_SP_new S1
    have st1 : upd st c 1 p = 1 := by rw [pk_un hpc]; exact h1
    have T2 := tk_SP_set T st1 (s := upd sy c (sy p + 1) p + 1) (by rw [hsc, pk_un hpc, pk_us, hsy])
    have VE : tk_VE (tk_y ds (4 * c) (4 * p) 4) := by
      intro j hj
      by_cases k : 4 * c ≤ j ∧ j < 4 * c + 4
      · rw [tk_yin k.1 k.2]; exact ve _ (by omega)
      · rw [tk_yout (by omega)]; exact ve j hj
    exact ⟨(nI (n + 1), nI m, xc + 1, lv, cw, cn, upd st c 1, upd (upd sx p (nI i + 1)) c (upd sx p (nI i + 1) p), rs, upd pa c (nI p), upd (tk_y (upd rg (4 * p + w / 32 % 4) (-1)) (4 * c) (4 * p) 4) (4 * p + w / 32 % 4) (nI c), tk_y me (32 * c) (32 * p) 32, tk_y ds (4 * c) (4 * p) 4, pw, pl, upd qu n (nI c), ou), (nI (n + 1), xc + 1, nI m, cw, cn, upd st c 1, upd pa c (nI p), upd (upd sy c (sy p + 1)) p (upd sy c (sy p + 1) p + 1), upd (tk_y (upd rg (4 * p + w / 32 % 4) (-1)) (4 * c) (4 * p) 4) (4 * p + w / 32 % 4) (nI c), tk_y ds (4 * c) (4 * p) 4, tk_y me (32 * c) (32 * p) 32, pw, pl, upd qu n (nI c), ou), 1, fun post h => tk_xex_13 hp hi hs hw hc rfl rfl o (fun Q k => tk_xFk1 hF hp hc6 hpc hA hn5 k) h, fun post h => tk_yex_13 hp hi hsy hw hc rfl rfl o hY hc6 (fun Q k => tk_yFk1 hF hp hc6 hpc hn5 k) (by rw [tk_fkrg hpc ha]; exact h), tk_mk (tk_V_new V hc6 hc0' (Or.inr ⟨p, hp, hpc, rfl⟩) (fun j _ hj => tk_yout hj) VE) T2 C (by omega) O ⟨tk_oa ho hc6 hp hpc, Or.inl ⟨st1, rfl⟩⟩⟩
theorem tk_ex_14 {n m p i w Bd : Nat} (hp : p < 6) (V : tk_V st pa ds pl qu n) (S : tk_SP 6 st sx rs sy) (C : tk_C cw) (hm : m ≤ Bd) (hB : Bd < 2 ^ 30) (O : tk_O ou m) (h1 : st p = 1) (ho : tk_out qu n p) (G : tk_G cw sx rg ds pl p) (hi : i < 64) (hs : sx p = nI i) (hw : w < 512) (hc : cw i = nI w) (o : w % 32 = 14) : ∃ u' v' g, (∀ post : SX → Prop, post u' → wpX_execute post (nI n, nI m, xc, lv, cw, cn, st, sx, rs, pa, rg, me, ds, pw, pl, qu, ou) (nI p)) ∧ (∀ post : Int32 → SY → Prop, post g v' → wpY_execute post (nI n, xc, nI m, cw, cn, st, pa, sy, rg, ds, me, pw, pl, qu, ou) (nI p)) ∧ tk_RK (Bd + 1) (tk_K p g 1) u' v' := by
  have vq := V.2.2.2.2.2
  have ve := V.2.2.1
  have vl := V.2.2.2.1
  have hq : n ≤ 6 := tk_Q6 vq
  have h0 : st p ≠ 0 := by rw [h1]; decide
  have hpv := V.2.2.2.2.1 p hp h0
  have hpn : pa p ≠ nI p := tk_VPn V.2.2.2.2.1 hp h0
  have hsy : sy p = nI i := ((S p hp (by omega)).1 (Or.inl h1)).trans hs
  have S1 : tk_SP p st (upd sx p (nI i + 1)) rs sy := tk_SP_x S
  have S2 : tk_SP 6 st (upd sx p (nI i + 1)) rs (upd sy p (sy p + 1)) := tk_SP_set S1 h1 (by rw [pk_us, hsy])
  have hA : (4 * p + w / 32 % 4) < 24 := by omega
  have hB' : (4 * p + w / 128) < 24 := by omega
  have ha : w / 32 % 4 < 4 := by omega
  have hb : w / 128 < 4 := by omega
  obtain ⟨e, he, hX, hY, hd, hde⟩ := tk_end (ql := nI n) (pc := nI m) (lv := lv) (xc := xc + 1) (cw := cw) (cn := cn) (st := st) (sx := upd sx p (nI i + 1)) (sy := sy) (rs := rs) (pa := pa) (rg := rg) (me := me) (pw := pw) (pl := pl) (qu := qu) (ou := ou) hp hb ve
  obtain ⟨r, hF⟩ := tk_Fex (fun j => st j = 3 ∧ pa j = nI p) 6 6 0 rfl
  rcases tk_Fc hF with ⟨er, _⟩ | ⟨c, _, hc6, er, hc3⟩
  · rw [er] at hF
    exact ⟨(nI n, nI m, xc + 1, lv, cw, cn, st, upd sx p (nI i + 1), rs, pa, upd rg (4 * p + w / 32 % 4) (-1), me, ds, pw, pl, qu, ou), (nI n, xc + 1, nI m, cw, cn, st, pa, upd sy p (sy p + 1), upd rg (4 * p + w / 32 % 4) (-1), ds, me, pw, pl, qu, ou), 1, fun post h => tk_xex_14 hp hi hs hw hc rfl rfl o (fun Q k => tk_xCo0 hF hA k) h, fun post h => tk_yex_14 hp hi hsy hw hc rfl rfl o hY (fun Q k => tk_yAw0 hF hp ha k) h, tk_mk V S2 C (by omega) O ⟨ho, Or.inl ⟨h1, rfl⟩⟩⟩
  · rw [er] at hF
    have hc3' : st c = 3 ∧ pa c = nI p := hc3
    have hpc : p ≠ c := fun z => absurd (h1.symm.trans (z ▸ hc3'.1)) (by decide)
    have esc : sy c = rs c := (S c hc6 (by omega)).2 hc3'.1
    have st1 : upd st c 0 p = 1 := by rw [pk_un hpc]; exact h1
    have T : tk_SP 6 (upd st c 0) (upd sx p (nI i + 1)) rs (upd sy p (sy p + 1)) := tk_SPm S2 (fun q _ _ => tk_uc (P := fun z => z = 0 ∨ z = st q) (fun _ => Or.inl rfl) (fun _ => Or.inr rfl))
    exact ⟨(nI n, nI m, xc + 1, lv, cw, cn, upd st c 0, upd sx p (nI i + 1), rs, pa, upd (upd rg (4 * p + w / 32 % 4) (rs c)) (4 * p + w / 128) (nI c), me, ds, pw, pl, qu, ou), (nI n, xc + 1, nI m, cw, cn, upd st c 0, pa, upd sy p (sy p + 1), upd (upd rg (4 * p + w / 32 % 4) (rs c)) (4 * p + w / 128) (nI c), ds, me, pw, pl, qu, ou), 1, fun post h => tk_xex_14 hp hi hs hw hc rfl rfl o (fun Q k => tk_xCo1 hF hc6 hA hB' k) h, fun post h => tk_yex_14 hp hi hsy hw hc rfl rfl o hY (fun Q k => tk_yAw1 hF hc6 hc3'.1 hc3'.2 hp ha hb (by rw [esc]; exact k)) h, tk_mk (tk_V_free V hc6 hc3'.1) T C (by omega) O ⟨ho, Or.inl ⟨st1, rfl⟩⟩⟩
theorem tk_ex_15 {n m p i w Bd : Nat} (hp : p < 6) (V : tk_V st pa ds pl qu n) (S : tk_SP 6 st sx rs sy) (C : tk_C cw) (hm : m ≤ Bd) (hB : Bd < 2 ^ 30) (O : tk_O ou m) (h1 : st p = 1) (ho : tk_out qu n p) (G : tk_G cw sx rg ds pl p) (hi : i < 64) (hs : sx p = nI i) (hw : w < 512) (hc : cw i = nI w) (o : w % 32 = 15) : ∃ u' v' g, (∀ post : SX → Prop, post u' → wpX_execute post (nI n, nI m, xc, lv, cw, cn, st, sx, rs, pa, rg, me, ds, pw, pl, qu, ou) (nI p)) ∧ (∀ post : Int32 → SY → Prop, post g v' → wpY_execute post (nI n, xc, nI m, cw, cn, st, pa, sy, rg, ds, me, pw, pl, qu, ou) (nI p)) ∧ tk_RK (Bd + 1) (tk_K p g 1) u' v' := by
  have vq := V.2.2.2.2.2
  have ve := V.2.2.1
  have vl := V.2.2.2.1
  have hq : n ≤ 6 := tk_Q6 vq
  have h0 : st p ≠ 0 := by rw [h1]; decide
  have hpv := V.2.2.2.2.1 p hp h0
  have hpn : pa p ≠ nI p := tk_VPn V.2.2.2.2.1 hp h0
  have hsy : sy p = nI i := ((S p hp (by omega)).1 (Or.inl h1)).trans hs
  have S1 : tk_SP p st (upd sx p (nI i + 1)) rs sy := tk_SP_x S
  have S2 : tk_SP 6 st (upd sx p (nI i + 1)) rs (upd sy p (sy p + 1)) := tk_SP_set S1 h1 (by rw [pk_us, hsy])
  have hA : (4 * p + w / 32 % 4) < 24 := by omega
  have hB' : (4 * p + w / 128) < 24 := by omega
  have ha : w / 32 % 4 < 4 := by omega
  have hb : w / 128 < 4 := by omega
  obtain ⟨e, he, hX, hY, hd, hde⟩ := tk_end (ql := nI n) (pc := nI m) (lv := lv) (xc := xc + 1) (cw := cw) (cn := cn) (st := st) (sx := upd sx p (nI i + 1)) (sy := sy) (rs := rs) (pa := pa) (rg := rg) (me := me) (pw := pw) (pl := pl) (qu := qu) (ou := ou) hp hb ve
  rcases tk_POex ds p with ⟨d1, d2, k, H⟩ | H
  · have V' : tk_V st pa (upd (upd ds (4 * p + d1) (1 + 2 * nI k)) (4 * p + d2) (2 + 2 * nI k)) (upd pl k 0) qu n := by
      rw [tk_pk1 k H.2.2.1, tk_pk2 k H.2.2.1]
      have hk := H.2.2.1
      exact tk_V_pl (l := 0) (tk_V_ds (tk_V_ds V hp h1 H.1 (by omega)) hp h1 H.2.1 (by omega)) (by omega)
    exact ⟨(nI n, nI m, xc + 1, lv, cw, cn, st, upd sx p (nI i + 1), rs, pa, upd (upd rg (4 * p + w / 32 % 4) (nI d1)) (4 * p + w / 128) (nI d2), me, upd (upd ds (4 * p + d1) (1 + 2 * nI k)) (4 * p + d2) (2 + 2 * nI k), pw, upd pl k 0, qu, ou), (nI n, xc + 1, nI m, cw, cn, st, pa, upd sy p (sy p + 1), upd (upd rg (4 * p + w / 32 % 4) (nI d1)) (4 * p + w / 128) (nI d2), upd (upd ds (4 * p + d1) (1 + 2 * nI k)) (4 * p + d2) (2 + 2 * nI k), me, pw, upd pl k 0, qu, ou), 1, fun post h => tk_xex_15 hp hi hs hw hc rfl rfl o (fun Q k => tk_xOp hp hA hB' H k) h, fun post h => tk_yex_15 hp hi hsy hw hc rfl rfl o hY (fun Q k => tk_yMp hp ha hb H k) h, tk_mk V' S2 C (by omega) O ⟨ho, Or.inl ⟨h1, rfl⟩⟩⟩
  · exact ⟨(nI n, nI m, xc + 1, lv, cw, cn, st, upd sx p (nI i + 1), rs, pa, upd rg (4 * p + w / 32 % 4) (-1), me, ds, pw, pl, qu, ou), (nI n, xc + 1, nI m, cw, cn, st, pa, upd sy p (sy p + 1), upd rg (4 * p + w / 32 % 4) (-1), ds, me, pw, pl, qu, ou), 1, fun post h => tk_xex_15 hp hi hs hw hc rfl rfl o (fun Q k => tk_xOpN hp hA H k) h, fun post h => tk_yex_15 hp hi hsy hw hc rfl rfl o hY (fun Q k => tk_yMpN hp ha H k) h, tk_mk V S2 C (by omega) O ⟨ho, Or.inl ⟨h1, rfl⟩⟩⟩
theorem tk_ex_16 {n m p i w Bd : Nat} (hp : p < 6) (V : tk_V st pa ds pl qu n) (S : tk_SP 6 st sx rs sy) (C : tk_C cw) (hm : m ≤ Bd) (hB : Bd < 2 ^ 30) (O : tk_O ou m) (h1 : st p = 1) (ho : tk_out qu n p) (G : tk_G cw sx rg ds pl p) (hi : i < 64) (hs : sx p = nI i) (hw : w < 512) (hc : cw i = nI w) (o : w % 32 = 16) : ∃ u' v' g, (∀ post : SX → Prop, post u' → wpX_execute post (nI n, nI m, xc, lv, cw, cn, st, sx, rs, pa, rg, me, ds, pw, pl, qu, ou) (nI p)) ∧ (∀ post : Int32 → SY → Prop, post g v' → wpY_execute post (nI n, xc, nI m, cw, cn, st, pa, sy, rg, ds, me, pw, pl, qu, ou) (nI p)) ∧ tk_RK (Bd + 1) (tk_K p g 1) u' v' := by
  have vq := V.2.2.2.2.2
  have ve := V.2.2.1
  have vl := V.2.2.2.1
  have hq : n ≤ 6 := tk_Q6 vq
  have h0 : st p ≠ 0 := by rw [h1]; decide
  have hpv := V.2.2.2.2.1 p hp h0
  have hpn : pa p ≠ nI p := tk_VPn V.2.2.2.2.1 hp h0
  have hsy : sy p = nI i := ((S p hp (by omega)).1 (Or.inl h1)).trans hs
  have S1 : tk_SP p st (upd sx p (nI i + 1)) rs sy := tk_SP_x S
  have S2 : tk_SP 6 st (upd sx p (nI i + 1)) rs (upd sy p (sy p + 1)) := tk_SP_set S1 h1 (by rw [pk_us, hsy])
  have hA : (4 * p + w / 32 % 4) < 24 := by omega
  have hB' : (4 * p + w / 128) < 24 := by omega
  have ha : w / 32 % 4 < 4 := by omega
  have hb : w / 128 < 4 := by omega
  obtain ⟨e, he, hX, hY, hd, hde⟩ := tk_end (ql := nI n) (pc := nI m) (lv := lv) (xc := xc + 1) (cw := cw) (cn := cn) (st := st) (sx := upd sx p (nI i + 1)) (sy := sy) (rs := rs) (pa := pa) (rg := rg) (me := me) (pw := pw) (pl := pl) (qu := qu) (ou := ou) hp hb ve
  by_cases odd : e % 2 = 1
  · by_cases z : pl ((e - 1) / 2) = 0
    · exact ⟨(nI n, nI m, xc + 1, lv, cw, cn, st, upd sx p (nI i + 1), rs, pa, upd rg (4 * p + w / 32 % 4) (-2), me, ds, pw, pl, qu, ou), (nI n, xc + 1, nI m, cw, cn, st, pa, upd sy p (sy p + 1), upd rg (4 * p + w / 32 % 4) (-2), ds, me, pw, pl, qu, ou), 1, fun post h => tk_xex_16 hp hi hs hw hc rfl rfl o (fun Q k => tk_xRe1 hA hB' he hX odd z k) h, fun post h => tk_yex_16 hp hi hsy hw hc rfl rfl o hY (fun Q k => tk_yRe1 he odd z k) h, tk_mk V S2 C (by omega) O ⟨ho, Or.inl ⟨h1, rfl⟩⟩⟩
    · obtain ⟨l, hl, el⟩ := vl ((e - 1) / 2) (by omega)
      have l0 : l ≠ 0 := fun y => z (by rw [el, y]; exact nI_0)
      have V' : tk_V st pa ds (upd pl ((e - 1) / 2) (pl ((e - 1) / 2) - 1)) qu n := by
        have y : pl ((e - 1) / 2) - 1 = nI (l - 1) := by rw [el]; exact pk_sub (b := 1) (by omega)
        rw [y]
        exact tk_V_pl V (by omega)
      exact ⟨(nI n, nI m, xc + 1, lv, cw, cn, st, upd sx p (nI i + 1), rs, pa, upd rg (4 * p + w / 32 % 4) (pw (4 * ((e - 1) / 2))), me, ds, tk_sh pw (4 * ((e - 1) / 2)) 3, upd pl ((e - 1) / 2) (pl ((e - 1) / 2) - 1), qu, ou), (nI n, xc + 1, nI m, cw, cn, st, pa, upd sy p (sy p + 1), upd rg (4 * p + w / 32 % 4) (pw (4 * ((e - 1) / 2))), ds, me, tk_sh pw (4 * ((e - 1) / 2)) 3, upd pl ((e - 1) / 2) (pl ((e - 1) / 2) - 1), qu, ou), 1, fun post h => tk_xex_16 hp hi hs hw hc rfl rfl o (fun Q k => tk_xRe2 hA hB' he hX odd z k) h, fun post h => tk_yex_16 hp hi hsy hw hc rfl rfl o hY (fun Q k => tk_yRe2 he odd z k) h, tk_mk V' S2 C (by omega) O ⟨ho, Or.inl ⟨h1, rfl⟩⟩⟩
  · exact ⟨(nI n, nI m, xc + 1, lv, cw, cn, st, upd sx p (nI i + 1), rs, pa, upd rg (4 * p + w / 32 % 4) (-1), me, ds, pw, pl, qu, ou), (nI n, xc + 1, nI m, cw, cn, st, pa, upd sy p (sy p + 1), upd rg (4 * p + w / 32 % 4) (-1), ds, me, pw, pl, qu, ou), 1, fun post h => tk_xex_16 hp hi hs hw hc rfl rfl o (fun Q k => tk_xRe0 hA hB' he hX (by omega) k) h, fun post h => tk_yex_16 hp hi hsy hw hc rfl rfl o hY (fun Q k => tk_yRe0 he (by omega) k) h, tk_mk V S2 C (by omega) O ⟨ho, Or.inl ⟨h1, rfl⟩⟩⟩
theorem tk_ex_17 {n m p i w Bd : Nat} (hp : p < 6) (V : tk_V st pa ds pl qu n) (S : tk_SP 6 st sx rs sy) (C : tk_C cw) (hm : m ≤ Bd) (hB : Bd < 2 ^ 30) (O : tk_O ou m) (h1 : st p = 1) (ho : tk_out qu n p) (G : tk_G cw sx rg ds pl p) (hi : i < 64) (hs : sx p = nI i) (hw : w < 512) (hc : cw i = nI w) (o : w % 32 = 17) : ∃ u' v' g, (∀ post : SX → Prop, post u' → wpX_execute post (nI n, nI m, xc, lv, cw, cn, st, sx, rs, pa, rg, me, ds, pw, pl, qu, ou) (nI p)) ∧ (∀ post : Int32 → SY → Prop, post g v' → wpY_execute post (nI n, xc, nI m, cw, cn, st, pa, sy, rg, ds, me, pw, pl, qu, ou) (nI p)) ∧ tk_RK (Bd + 1) (tk_K p g 1) u' v' := by
  have vq := V.2.2.2.2.2
  have ve := V.2.2.1
  have vl := V.2.2.2.1
  have hq : n ≤ 6 := tk_Q6 vq
  have h0 : st p ≠ 0 := by rw [h1]; decide
  have hpv := V.2.2.2.2.1 p hp h0
  have hpn : pa p ≠ nI p := tk_VPn V.2.2.2.2.1 hp h0
  have hsy : sy p = nI i := ((S p hp (by omega)).1 (Or.inl h1)).trans hs
  have S1 : tk_SP p st (upd sx p (nI i + 1)) rs sy := tk_SP_x S
  have S2 : tk_SP 6 st (upd sx p (nI i + 1)) rs (upd sy p (sy p + 1)) := tk_SP_set S1 h1 (by rw [pk_us, hsy])
  have hA : (4 * p + w / 32 % 4) < 24 := by omega
  have hB' : (4 * p + w / 128) < 24 := by omega
  have ha : w / 32 % 4 < 4 := by omega
  have hb : w / 128 < 4 := by omega
  obtain ⟨e, he, hX, hY, hd, hde⟩ := tk_end (ql := nI n) (pc := nI m) (lv := lv) (xc := xc + 1) (cw := cw) (cn := cn) (st := st) (sx := upd sx p (nI i + 1)) (sy := sy) (rs := rs) (pa := pa) (rg := rg) (me := me) (pw := pw) (pl := pl) (qu := qu) (ou := ou) hp hb ve
  by_cases wr : e = 0 ∨ e % 2 = 1
  · exact ⟨(nI n, nI m, xc + 1, lv, cw, cn, st, upd sx p (nI i + 1), rs, pa, upd rg (4 * p + w / 32 % 4) (-1), me, ds, pw, pl, qu, ou), (nI n, xc + 1, nI m, cw, cn, st, pa, upd sy p (sy p + 1), upd rg (4 * p + w / 32 % 4) (-1), ds, me, pw, pl, qu, ou), 1, fun post h => tk_xex_17 hp hi hs hw hc rfl rfl o (fun Q k => tk_xWt0 hA hB' he hX wr k) h, fun post h => tk_yex_17 hp hi hsy hw hc rfl rfl o hY (fun Q k => tk_yWt0 hp ha he wr k) h, tk_mk V S2 C (by omega) O ⟨ho, Or.inl ⟨h1, rfl⟩⟩⟩
  · have e0 : e ≠ 0 := fun z => wr (Or.inl z)
    have ev : e % 2 = 0 := by
      have z : ¬ e % 2 = 1 := fun z => wr (Or.inr z)
      omega
    obtain ⟨rB, hR⟩ := tk_Bex (fun j => ds j = nI e - 1) 0 24
    rcases tk_B01 hR with y | y
    · rw [y] at hR
      exact ⟨(nI (tk_lv qu (nI p) n).2, nI m, xc + 1, lv, cw, cn, tk_fs st pa p, upd sx p (nI i + 1), upd rs p (-2), tk_cp st pa p 6, rg, me, tk_z ds (4 * p) 4, pw, pl, (tk_lv qu (nI p) n).1, ou), (nI (tk_lv qu (nI p) n).2, xc + 1, nI m, cw, cn, tk_fs st pa p, tk_cp st pa p 6, upd sy p (-2), rg, tk_z ds (4 * p) 4, me, pw, pl, (tk_lv qu (nI p) n).1, ou), 0, fun post h => tk_xex_17 hp hi hs hw hc rfl rfl o (fun Q k => tk_xWt1 hB' he hX e0 ev hR hp hq hpn k) h, fun post h => tk_yex_17o hp hi hsy hw hc rfl rfl o hY (fun Q k => tk_yWt1 he e0 ev hR hp hq hpv hpn k) h, tk_mk (tk_V_fin V hp h0) (tk_SP_fin6 S1) C (by omega) O ⟨tk_lo p vq, Or.inr ⟨tk_fs_n1 _ _ _, rfl⟩⟩⟩
    · rw [y] at hR
      obtain ⟨l, hl, el⟩ := vl ((e - 1) / 2) (by omega)
      obtain ⟨d, hd4, ed⟩ := hde e0
      have l4 : l ≠ 4 := by
        intro z
        rcases hR with ⟨_, x⟩ | ⟨x, _⟩
        · exact G i w d e hi hs hw hc o hd4 ed he e0 ev (hd d hd4 ed) x (by rw [el, z]; rfl)
        · exact absurd x (by decide)
      exact ⟨(nI n, nI m, xc + 1, lv, cw, cn, st, upd sx p (nI i + 1), rs, pa, rg, me, ds, upd pw (4 * ((e - 1) / 2) + l) (rg (4 * p + w / 32 % 4)), upd pl ((e - 1) / 2) (nI (l + 1)), qu, ou), (nI n, xc + 1, nI m, cw, cn, st, pa, upd sy p (sy p + 1), rg, ds, me, upd pw (4 * ((e - 1) / 2) + l) (rg (4 * p + w / 32 % 4)), upd pl ((e - 1) / 2) (nI (l + 1)), qu, ou), 1, fun post h => tk_xex_17 hp hi hs hw hc rfl rfl o (fun Q k => tk_xWt2 hA hB' he hX e0 ev hR (by omega) el k) h, fun post h => tk_yex_17 hp hi hsy hw hc rfl rfl o hY (fun Q k => tk_yWt2 hp ha he e0 ev hR (by omega) el k) h, tk_mk (tk_V_pl V (by omega)) S2 C (by omega) O ⟨ho, Or.inl ⟨h1, rfl⟩⟩⟩
theorem tk_ex_18 {n m p i w Bd : Nat} (hp : p < 6) (V : tk_V st pa ds pl qu n) (S : tk_SP 6 st sx rs sy) (C : tk_C cw) (hm : m ≤ Bd) (hB : Bd < 2 ^ 30) (O : tk_O ou m) (h1 : st p = 1) (ho : tk_out qu n p) (G : tk_G cw sx rg ds pl p) (hi : i < 64) (hs : sx p = nI i) (hw : w < 512) (hc : cw i = nI w) (o : w % 32 = 18) : ∃ u' v' g, (∀ post : SX → Prop, post u' → wpX_execute post (nI n, nI m, xc, lv, cw, cn, st, sx, rs, pa, rg, me, ds, pw, pl, qu, ou) (nI p)) ∧ (∀ post : Int32 → SY → Prop, post g v' → wpY_execute post (nI n, xc, nI m, cw, cn, st, pa, sy, rg, ds, me, pw, pl, qu, ou) (nI p)) ∧ tk_RK (Bd + 1) (tk_K p g 1) u' v' := by
  have vq := V.2.2.2.2.2
  have ve := V.2.2.1
  have vl := V.2.2.2.1
  have hq : n ≤ 6 := tk_Q6 vq
  have h0 : st p ≠ 0 := by rw [h1]; decide
  have hpv := V.2.2.2.2.1 p hp h0
  have hpn : pa p ≠ nI p := tk_VPn V.2.2.2.2.1 hp h0
  have hsy : sy p = nI i := ((S p hp (by omega)).1 (Or.inl h1)).trans hs
  have S1 : tk_SP p st (upd sx p (nI i + 1)) rs sy := tk_SP_x S
  have S2 : tk_SP 6 st (upd sx p (nI i + 1)) rs (upd sy p (sy p + 1)) := tk_SP_set S1 h1 (by rw [pk_us, hsy])
  have hA : (4 * p + w / 32 % 4) < 24 := by omega
  have hB' : (4 * p + w / 128) < 24 := by omega
  have ha : w / 32 % 4 < 4 := by omega
  have hb : w / 128 < 4 := by omega
  obtain ⟨e, he, hX, hY, hd, hde⟩ := tk_end (ql := nI n) (pc := nI m) (lv := lv) (xc := xc + 1) (cw := cw) (cn := cn) (st := st) (sx := upd sx p (nI i + 1)) (sy := sy) (rs := rs) (pa := pa) (rg := rg) (me := me) (pw := pw) (pl := pl) (qu := qu) (ou := ou) hp hb ve
  by_cases e0 : e = 0
  · rw [e0] at hX hY
    exact ⟨(nI n, nI m, xc + 1, lv, cw, cn, st, upd sx p (nI i + 1), rs, pa, upd rg (4 * p + w / 32 % 4) (-1), me, ds, pw, pl, qu, ou), (nI n, xc + 1, nI m, cw, cn, st, pa, upd sy p (sy p + 1), upd rg (4 * p + w / 32 % 4) (-1), ds, me, pw, pl, qu, ou), 1, fun post h => tk_xex_18 hp hi hs hw hc rfl rfl o (fun Q k => tk_xCl0 hA hB' hX k) h, fun post h => tk_yex_18 hp hi hsy hw hc rfl rfl o hY (fun Q k => tk_yCl0 hY k) h, tk_mk V S2 C (by omega) O ⟨ho, Or.inl ⟨h1, rfl⟩⟩⟩
  · obtain ⟨d, hd4, ed⟩ := hde e0
    exact ⟨(nI n, nI m, xc + 1, lv, cw, cn, st, upd sx p (nI i + 1), rs, pa, upd rg (4 * p + w / 32 % 4) 0, me, upd ds (4 * p + d) 0, pw, pl, qu, ou), (nI n, xc + 1, nI m, cw, cn, st, pa, upd sy p (sy p + 1), upd rg (4 * p + w / 32 % 4) 0, upd ds (4 * p + d) 0, me, pw, pl, qu, ou), 1, fun post h => tk_xex_18 hp hi hs hw hc rfl rfl o (fun Q k => tk_xCl1 hp hA hB' he e0 hd4 ed hX k) h, fun post h => tk_yex_18 hp hi hsy hw hc rfl rfl o hY (fun Q k => tk_yCl1 hp hb he e0 hd4 ed hY k) h, tk_mk (tk_V_ds (e := 0) V hp h1 hd4 (by omega)) S2 C (by omega) O ⟨ho, Or.inl ⟨h1, rfl⟩⟩⟩
theorem tk_ex_19 {n m p i w Bd : Nat} (hp : p < 6) (V : tk_V st pa ds pl qu n) (S : tk_SP 6 st sx rs sy) (C : tk_C cw) (hm : m ≤ Bd) (hB : Bd < 2 ^ 30) (O : tk_O ou m) (h1 : st p = 1) (ho : tk_out qu n p) (G : tk_G cw sx rg ds pl p) (hi : i < 64) (hs : sx p = nI i) (hw : w < 512) (hc : cw i = nI w) (o : w % 32 = 19) : ∃ u' v' g, (∀ post : SX → Prop, post u' → wpX_execute post (nI n, nI m, xc, lv, cw, cn, st, sx, rs, pa, rg, me, ds, pw, pl, qu, ou) (nI p)) ∧ (∀ post : Int32 → SY → Prop, post g v' → wpY_execute post (nI n, xc, nI m, cw, cn, st, pa, sy, rg, ds, me, pw, pl, qu, ou) (nI p)) ∧ tk_RK (Bd + 1) (tk_K p g 1) u' v' := by
  have vq := V.2.2.2.2.2
  have ve := V.2.2.1
  have vl := V.2.2.2.1
  have hq : n ≤ 6 := tk_Q6 vq
  have h0 : st p ≠ 0 := by rw [h1]; decide
  have hpv := V.2.2.2.2.1 p hp h0
  have hpn : pa p ≠ nI p := tk_VPn V.2.2.2.2.1 hp h0
  have hsy : sy p = nI i := ((S p hp (by omega)).1 (Or.inl h1)).trans hs
  have S1 : tk_SP p st (upd sx p (nI i + 1)) rs sy := tk_SP_x S
  have S2 : tk_SP 6 st (upd sx p (nI i + 1)) rs (upd sy p (sy p + 1)) := tk_SP_set S1 h1 (by rw [pk_us, hsy])
  have hA : (4 * p + w / 32 % 4) < 24 := by omega
  have hB' : (4 * p + w / 128) < 24 := by omega
  have ha : w / 32 % 4 < 4 := by omega
  have hb : w / 128 < 4 := by omega
  obtain ⟨e, he, hX, hY, hd, hde⟩ := tk_end (ql := nI n) (pc := nI m) (lv := lv) (xc := xc + 1) (cw := cw) (cn := cn) (st := st) (sx := upd sx p (nI i + 1)) (sy := sy) (rs := rs) (pa := pa) (rg := rg) (me := me) (pw := pw) (pl := pl) (qu := qu) (ou := ou) hp hb ve
  obtain ⟨r, hF⟩ := tk_Fex (fun j => ds (4 * p + j) = 0) 4 4 0 rfl
  by_cases no : e = 0 ∨ tk_F (fun j => ds (4 * p + j) = 0) 0 4 (-1)
  · exact ⟨(nI n, nI m, xc + 1, lv, cw, cn, st, upd sx p (nI i + 1), rs, pa, upd rg (4 * p + w / 32 % 4) (-1), me, ds, pw, pl, qu, ou), (nI n, xc + 1, nI m, cw, cn, st, pa, upd sy p (sy p + 1), upd rg (4 * p + w / 32 % 4) (-1), ds, me, pw, pl, qu, ou), 1, fun post h => tk_xex_19 hp hi hs hw hc rfl rfl o (fun Q k => tk_xCe0 hp hA hB' hX no k) h, fun post h => tk_yex_19 hp hi hsy hw hc rfl rfl o hY (fun Q k => tk_yCe0 hp no k) h, tk_mk V S2 C (by omega) O ⟨ho, Or.inl ⟨h1, rfl⟩⟩⟩
  · have e0 : e ≠ 0 := fun z => no (Or.inl z)
    rcases tk_Fc hF with ⟨er, _⟩ | ⟨d, _, hd4, er, _⟩
    · rw [er] at hF; exact absurd (Or.inr hF) no
    · rw [er] at hF
      exact ⟨(nI n, nI m, xc + 1, lv, cw, cn, st, upd sx p (nI i + 1), rs, pa, upd rg (4 * p + w / 32 % 4) (nI d), me, upd ds (4 * p + d) (nI e), pw, pl, qu, ou), (nI n, xc + 1, nI m, cw, cn, st, pa, upd sy p (sy p + 1), upd rg (4 * p + w / 32 % 4) (nI d), upd ds (4 * p + d) (nI e), me, pw, pl, qu, ou), 1, fun post h => tk_xex_19 hp hi hs hw hc rfl rfl o (fun Q k => tk_xCe1 hp hA hB' he e0 hd4 hF hX k) h, fun post h => tk_yex_19 hp hi hsy hw hc rfl rfl o hY (fun Q k => tk_yCe1 hp he e0 hd4 hF k) h, tk_mk (tk_V_ds V hp h1 hd4 he) S2 C (by omega) O ⟨ho, Or.inl ⟨h1, rfl⟩⟩⟩
theorem tk_ex_20 {n m p i w Bd : Nat} (hp : p < 6) (V : tk_V st pa ds pl qu n) (S : tk_SP 6 st sx rs sy) (C : tk_C cw) (hm : m ≤ Bd) (hB : Bd < 2 ^ 30) (O : tk_O ou m) (h1 : st p = 1) (ho : tk_out qu n p) (G : tk_G cw sx rg ds pl p) (hi : i < 64) (hs : sx p = nI i) (hw : w < 512) (hc : cw i = nI w) (o : w % 32 = 20) : ∃ u' v' g, (∀ post : SX → Prop, post u' → wpX_execute post (nI n, nI m, xc, lv, cw, cn, st, sx, rs, pa, rg, me, ds, pw, pl, qu, ou) (nI p)) ∧ (∀ post : Int32 → SY → Prop, post g v' → wpY_execute post (nI n, xc, nI m, cw, cn, st, pa, sy, rg, ds, me, pw, pl, qu, ou) (nI p)) ∧ tk_RK (Bd + 1) (tk_K p g 0) u' v' := by
  have vq := V.2.2.2.2.2
  have ve := V.2.2.1
  have vl := V.2.2.2.1
  have hq : n ≤ 6 := tk_Q6 vq
  have h0 : st p ≠ 0 := by rw [h1]; decide
  have hpv := V.2.2.2.2.1 p hp h0
  have hpn : pa p ≠ nI p := tk_VPn V.2.2.2.2.1 hp h0
  have hsy : sy p = nI i := ((S p hp (by omega)).1 (Or.inl h1)).trans hs
  have S1 : tk_SP p st (upd sx p (nI i + 1)) rs sy := tk_SP_x S
  have S2 : tk_SP 6 st (upd sx p (nI i + 1)) rs (upd sy p (sy p + 1)) := tk_SP_set S1 h1 (by rw [pk_us, hsy])
  have hA : (4 * p + w / 32 % 4) < 24 := by omega
  have hB' : (4 * p + w / 128) < 24 := by omega
  have ha : w / 32 % 4 < 4 := by omega
  have hb : w / 128 < 4 := by omega
  obtain ⟨e, he, hX, hY, hd, hde⟩ := tk_end (ql := nI n) (pc := nI m) (lv := lv) (xc := xc + 1) (cw := cw) (cn := cn) (st := st) (sx := upd sx p (nI i + 1)) (sy := sy) (rs := rs) (pa := pa) (rg := rg) (me := me) (pw := pw) (pl := pl) (qu := qu) (ou := ou) hp hb ve
  exact ⟨(nI n, nI m, xc + 1, lv, cw, cn, st, upd sx p (nI i + 1), rs, pa, rg, me, ds, pw, pl, qu, ou), (nI n, xc + 1, nI m, cw, cn, st, pa, upd sy p (sy p + 1), rg, ds, me, pw, pl, qu, ou), 0, fun post h => tk_xex_20 hp hi hs hw hc rfl rfl o h, fun post h => tk_yex_20 hp hi hsy hw hc rfl rfl o hY (by rw [tk_uid]; exact h), tk_mk V S2 C (by omega) O ⟨ho, Or.inl ⟨h1, rfl⟩⟩⟩
theorem tk_ex_21 {n m p i w Bd : Nat} (hp : p < 6) (V : tk_V st pa ds pl qu n) (S : tk_SP 6 st sx rs sy) (C : tk_C cw) (hm : m ≤ Bd) (hB : Bd < 2 ^ 30) (O : tk_O ou m) (h1 : st p = 1) (ho : tk_out qu n p) (G : tk_G cw sx rg ds pl p) (hi : i < 64) (hs : sx p = nI i) (hw : w < 512) (hc : cw i = nI w) (o : w % 32 = 21) : ∃ u' v' g, (∀ post : SX → Prop, post u' → wpX_execute post (nI n, nI m, xc, lv, cw, cn, st, sx, rs, pa, rg, me, ds, pw, pl, qu, ou) (nI p)) ∧ (∀ post : Int32 → SY → Prop, post g v' → wpY_execute post (nI n, xc, nI m, cw, cn, st, pa, sy, rg, ds, me, pw, pl, qu, ou) (nI p)) ∧ tk_RK (Bd + 1) (tk_K p g 1) u' v' := by
  have vq := V.2.2.2.2.2
  have ve := V.2.2.1
  have vl := V.2.2.2.1
  have hq : n ≤ 6 := tk_Q6 vq
  have h0 : st p ≠ 0 := by rw [h1]; decide
  have hpv := V.2.2.2.2.1 p hp h0
  have hpn : pa p ≠ nI p := tk_VPn V.2.2.2.2.1 hp h0
  have hsy : sy p = nI i := ((S p hp (by omega)).1 (Or.inl h1)).trans hs
  have S1 : tk_SP p st (upd sx p (nI i + 1)) rs sy := tk_SP_x S
  have S2 : tk_SP 6 st (upd sx p (nI i + 1)) rs (upd sy p (sy p + 1)) := tk_SP_set S1 h1 (by rw [pk_us, hsy])
  have hA : (4 * p + w / 32 % 4) < 24 := by omega
  have hB' : (4 * p + w / 128) < 24 := by omega
  have ha : w / 32 % 4 < 4 := by omega
  have hb : w / 128 < 4 := by omega
  obtain ⟨e, he, hX, hY, hd, hde⟩ := tk_end (ql := nI n) (pc := nI m) (lv := lv) (xc := xc + 1) (cw := cw) (cn := cn) (st := st) (sx := upd sx p (nI i + 1)) (sy := sy) (rs := rs) (pa := pa) (rg := rg) (me := me) (pw := pw) (pl := pl) (qu := qu) (ou := ou) hp hb ve
  by_cases z : m < 32
  · have O' : tk_O (upd ou m (rg (4 * p + w / 32 % 4))) (m + 1) := fun k a c => by rw [pk_un (by omega)]; exact O k (by omega) c
    exact ⟨(nI n, nI (m + 1), xc + 1, lv, cw, cn, st, upd sx p (nI i + 1), rs, pa, rg, me, ds, pw, pl, qu, upd ou m (rg (4 * p + w / 32 % 4))), (nI n, xc + 1, nI (m + 1), cw, cn, st, pa, upd sy p (sy p + 1), rg, ds, me, pw, pl, qu, upd ou m (rg (4 * p + w / 32 % 4))), 1, fun post h => tk_xex_21 hp hi hs hw hc rfl rfl o (fun Q k => tk_xPr1 z k) h, fun post h => tk_yex_21 hp hi hsy hw hc rfl rfl o hY (fun Q k => tk_yPr1 z k) (by rw [tk_uid]; exact h), tk_mk V S2 C (by omega) O' ⟨ho, Or.inl ⟨h1, rfl⟩⟩⟩
  · have O' : tk_O ou (m + 1) := fun k a c => by omega
    exact ⟨(nI n, nI (m + 1), xc + 1, lv, cw, cn, st, upd sx p (nI i + 1), rs, pa, rg, me, ds, pw, pl, qu, ou), (nI n, xc + 1, nI (m + 1), cw, cn, st, pa, upd sy p (sy p + 1), rg, ds, me, pw, pl, qu, ou), 1, fun post h => tk_xex_21 hp hi hs hw hc rfl rfl o (fun Q k => tk_xPr0 (by omega) (by omega) k) h, fun post h => tk_yex_21 hp hi hsy hw hc rfl rfl o hY (fun Q k => tk_yPr0 (by omega) (by omega) k) (by rw [tk_uid]; exact h), tk_mk V S2 C (by omega) O' ⟨ho, Or.inl ⟨h1, rfl⟩⟩⟩
theorem tk_ex_22 {n m p i w Bd : Nat} (hp : p < 6) (V : tk_V st pa ds pl qu n) (S : tk_SP 6 st sx rs sy) (C : tk_C cw) (hm : m ≤ Bd) (hB : Bd < 2 ^ 30) (O : tk_O ou m) (h1 : st p = 1) (ho : tk_out qu n p) (G : tk_G cw sx rg ds pl p) (hi : i < 64) (hs : sx p = nI i) (hw : w < 512) (hc : cw i = nI w) (o : w % 32 = 22) : ∃ u' v' g, (∀ post : SX → Prop, post u' → wpX_execute post (nI n, nI m, xc, lv, cw, cn, st, sx, rs, pa, rg, me, ds, pw, pl, qu, ou) (nI p)) ∧ (∀ post : Int32 → SY → Prop, post g v' → wpY_execute post (nI n, xc, nI m, cw, cn, st, pa, sy, rg, ds, me, pw, pl, qu, ou) (nI p)) ∧ tk_RK (Bd + 1) (tk_K p g 1) u' v' := by
  have vq := V.2.2.2.2.2
  have ve := V.2.2.1
  have vl := V.2.2.2.1
  have hq : n ≤ 6 := tk_Q6 vq
  have h0 : st p ≠ 0 := by rw [h1]; decide
  have hpv := V.2.2.2.2.1 p hp h0
  have hpn : pa p ≠ nI p := tk_VPn V.2.2.2.2.1 hp h0
  have hsy : sy p = nI i := ((S p hp (by omega)).1 (Or.inl h1)).trans hs
  have S1 : tk_SP p st (upd sx p (nI i + 1)) rs sy := tk_SP_x S
  have S2 : tk_SP 6 st (upd sx p (nI i + 1)) rs (upd sy p (sy p + 1)) := tk_SP_set S1 h1 (by rw [pk_us, hsy])
  have hA : (4 * p + w / 32 % 4) < 24 := by omega
  have hB' : (4 * p + w / 128) < 24 := by omega
  have ha : w / 32 % 4 < 4 := by omega
  have hb : w / 128 < 4 := by omega
  obtain ⟨e, he, hX, hY, hd, hde⟩ := tk_end (ql := nI n) (pc := nI m) (lv := lv) (xc := xc + 1) (cw := cw) (cn := cn) (st := st) (sx := upd sx p (nI i + 1)) (sy := sy) (rs := rs) (pa := pa) (rg := rg) (me := me) (pw := pw) (pl := pl) (qu := qu) (ou := ou) hp hb ve
  exact ⟨(nI n, nI m, xc + 1, lv, cw, cn, st, upd sx p (nI i + 1), rs, pa, upd rg (4 * p + w / 32 % 4) (nI p), me, ds, pw, pl, qu, ou), (nI n, xc + 1, nI m, cw, cn, st, pa, upd sy p (sy p + 1), upd rg (4 * p + w / 32 % 4) (nI p), ds, me, pw, pl, qu, ou), 1, fun post h => tk_xex_22 hp hi hs hw hc rfl rfl o h, fun post h => tk_yex_22 hp hi hsy hw hc rfl rfl o hY h, tk_mk V S2 C (by omega) O ⟨ho, Or.inl ⟨h1, rfl⟩⟩⟩
theorem tk_ex_23 {n m p i w Bd : Nat} (hp : p < 6) (V : tk_V st pa ds pl qu n) (S : tk_SP 6 st sx rs sy) (C : tk_C cw) (hm : m ≤ Bd) (hB : Bd < 2 ^ 30) (O : tk_O ou m) (h1 : st p = 1) (ho : tk_out qu n p) (G : tk_G cw sx rg ds pl p) (hi : i < 64) (hs : sx p = nI i) (hw : w < 512) (hc : cw i = nI w) (o : w % 32 = 23) : ∃ u' v' g, (∀ post : SX → Prop, post u' → wpX_execute post (nI n, nI m, xc, lv, cw, cn, st, sx, rs, pa, rg, me, ds, pw, pl, qu, ou) (nI p)) ∧ (∀ post : Int32 → SY → Prop, post g v' → wpY_execute post (nI n, xc, nI m, cw, cn, st, pa, sy, rg, ds, me, pw, pl, qu, ou) (nI p)) ∧ tk_RK (Bd + 1) (tk_K p g 1) u' v' := by
  have vq := V.2.2.2.2.2
  have ve := V.2.2.1
  have vl := V.2.2.2.1
  have hq : n ≤ 6 := tk_Q6 vq
  have h0 : st p ≠ 0 := by rw [h1]; decide
  have hpv := V.2.2.2.2.1 p hp h0
  have hpn : pa p ≠ nI p := tk_VPn V.2.2.2.2.1 hp h0
  have hsy : sy p = nI i := ((S p hp (by omega)).1 (Or.inl h1)).trans hs
  have S1 : tk_SP p st (upd sx p (nI i + 1)) rs sy := tk_SP_x S
  have S2 : tk_SP 6 st (upd sx p (nI i + 1)) rs (upd sy p (sy p + 1)) := tk_SP_set S1 h1 (by rw [pk_us, hsy])
  have hA : (4 * p + w / 32 % 4) < 24 := by omega
  have hB' : (4 * p + w / 128) < 24 := by omega
  have ha : w / 32 % 4 < 4 := by omega
  have hb : w / 128 < 4 := by omega
  obtain ⟨e, he, hX, hY, hd, hde⟩ := tk_end (ql := nI n) (pc := nI m) (lv := lv) (xc := xc + 1) (cw := cw) (cn := cn) (st := st) (sx := upd sx p (nI i + 1)) (sy := sy) (rs := rs) (pa := pa) (rg := rg) (me := me) (pw := pw) (pl := pl) (qu := qu) (ou := ou) hp hb ve
  exact ⟨(nI n, nI m, xc + 1, lv, cw, cn, st, upd sx p (nI i + 1), rs, pa, upd rg (4 * p + w / 32 % 4) (pa p), me, ds, pw, pl, qu, ou), (nI n, xc + 1, nI m, cw, cn, st, pa, upd sy p (sy p + 1), upd rg (4 * p + w / 32 % 4) (pa p), ds, me, pw, pl, qu, ou), 1, fun post h => tk_xex_23 hp hi hs hw hc rfl rfl o h, fun post h => tk_yex_23 hp hi hsy hw hc rfl rfl o hY h, tk_mk V S2 C (by omega) O ⟨ho, Or.inl ⟨h1, rfl⟩⟩⟩
theorem tk_ex_24 {n m p i w Bd : Nat} (hp : p < 6) (V : tk_V st pa ds pl qu n) (S : tk_SP 6 st sx rs sy) (C : tk_C cw) (hm : m ≤ Bd) (hB : Bd < 2 ^ 30) (O : tk_O ou m) (h1 : st p = 1) (ho : tk_out qu n p) (G : tk_G cw sx rg ds pl p) (hi : i < 64) (hs : sx p = nI i) (hw : w < 512) (hc : cw i = nI w) (o : w % 32 = 24) : ∃ u' v' g, (∀ post : SX → Prop, post u' → wpX_execute post (nI n, nI m, xc, lv, cw, cn, st, sx, rs, pa, rg, me, ds, pw, pl, qu, ou) (nI p)) ∧ (∀ post : Int32 → SY → Prop, post g v' → wpY_execute post (nI n, xc, nI m, cw, cn, st, pa, sy, rg, ds, me, pw, pl, qu, ou) (nI p)) ∧ tk_RK (Bd + 1) (tk_K p g 1) u' v' := by
  have vq := V.2.2.2.2.2
  have ve := V.2.2.1
  have vl := V.2.2.2.1
  have hq : n ≤ 6 := tk_Q6 vq
  have h0 : st p ≠ 0 := by rw [h1]; decide
  have hpv := V.2.2.2.2.1 p hp h0
  have hpn : pa p ≠ nI p := tk_VPn V.2.2.2.2.1 hp h0
  have hsy : sy p = nI i := ((S p hp (by omega)).1 (Or.inl h1)).trans hs
  have S1 : tk_SP p st (upd sx p (nI i + 1)) rs sy := tk_SP_x S
  have S2 : tk_SP 6 st (upd sx p (nI i + 1)) rs (upd sy p (sy p + 1)) := tk_SP_set S1 h1 (by rw [pk_us, hsy])
  have hA : (4 * p + w / 32 % 4) < 24 := by omega
  have hB' : (4 * p + w / 128) < 24 := by omega
  have ha : w / 32 % 4 < 4 := by omega
  have hb : w / 128 < 4 := by omega
  obtain ⟨e, he, hX, hY, hd, hde⟩ := tk_end (ql := nI n) (pc := nI m) (lv := lv) (xc := xc + 1) (cw := cw) (cn := cn) (st := st) (sx := upd sx p (nI i + 1)) (sy := sy) (rs := rs) (pa := pa) (rg := rg) (me := me) (pw := pw) (pl := pl) (qu := qu) (ou := ou) hp hb ve
  by_cases no : rg (4 * p + w / 128) = nI p ∨ rg (4 * p + w / 128) < 0 ∨ (¬ rg (4 * p + w / 128) < 0 ∧ nI 6 ≤ rg (4 * p + w / 128)) ∨ ∃ v, v < 6 ∧ rg (4 * p + w / 128) = nI v ∧ ¬ (st v = 1 ∨ st v = 2)
  · exact ⟨(nI n, nI m, xc + 1, lv, cw, cn, st, upd sx p (nI i + 1), rs, pa, upd rg (4 * p + w / 32 % 4) (-1), me, ds, pw, pl, qu, ou), (nI n, xc + 1, nI m, cw, cn, st, pa, upd sy p (sy p + 1), upd rg (4 * p + w / 32 % 4) (-1), ds, me, pw, pl, qu, ou), 1, fun post h => tk_xex_24 hp hi hs hw hc rfl rfl o (fun Q k => tk_xKo0 hA hB' no k) h, fun post h => tk_yex_24 hp hi hsy hw hc rfl rfl o hY (fun Q k => tk_yKo0 no k) h, tk_mk V S2 C (by omega) O ⟨ho, Or.inl ⟨h1, rfl⟩⟩⟩
  · rcases tk_ix (rg (4 * p + w / 128)) (n := 6) (by decide) with z | z | ⟨v, hv, ev⟩
    · exact absurd (Or.inr (Or.inl z)) no
    · exact absurd (Or.inr (Or.inr (Or.inl z))) no
    · have hvp : v ≠ p := fun z => no (Or.inl (by rw [ev, z]))
      have hl : st v = 1 ∨ st v = 2 := by
        by_cases y : st v = 1 ∨ st v = 2
        · exact y
        · exact absurd (Or.inr (Or.inr (Or.inr ⟨v, hv, ev, y⟩))) no
      have hv0 : st v ≠ 0 := by
        rcases hl with y | y
        · rw [y]; decide
        · rw [y]; decide
      have hvv := V.2.2.2.2.1 v hv hv0
      have hvn : pa v ≠ nI v := tk_VPn V.2.2.2.2.1 hv hv0
      have hpv' : p ≠ v := fun z => hvp z.symm
      have st1 : tk_fs st pa v p = 1 := tk_fs_1 hpv' h1
      have T := tk_SP_set (tk_SP_fin (p := v) (pa := pa) (r := -3) S1) st1 (s := upd sy v (-3) p + 1) (by rw [pk_us, pk_un hpv', hsy])
      exact ⟨(nI (tk_lv qu (nI v) n).2, nI m, xc + 1, lv, cw, cn, tk_fs st pa v, upd sx p (nI i + 1), upd rs v (-3), tk_cp st pa v 6, upd rg (4 * p + w / 32 % 4) 0, me, tk_z ds (4 * v) 4, pw, pl, (tk_lv qu (nI v) n).1, ou), (nI (tk_lv qu (nI v) n).2, xc + 1, nI m, cw, cn, tk_fs st pa v, tk_cp st pa v 6, upd (upd sy v (-3)) p (upd sy v (-3) p + 1), upd rg (4 * p + w / 32 % 4) 0, tk_z ds (4 * v) 4, me, pw, pl, (tk_lv qu (nI v) n).1, ou), 1, fun post h => tk_xex_24 hp hi hs hw hc rfl rfl o (fun Q k => tk_xKo1 hp hA hB' ev hv hvp hl hq hvn k) h, fun post h => tk_yex_24 hp hi hsy hw hc rfl rfl o hY (fun Q k => by rw [ev]; exact tk_yKo1 hp hv hvp hl hq hvv hvn k) h, tk_mk (tk_V_fin V hv hv0) T C (by omega) O ⟨tk_lo' v vq ho, Or.inl ⟨st1, rfl⟩⟩⟩
theorem tk_ex_out {n m p Bd : Nat} (hp : p < 6) (V : tk_V st pa ds pl qu n) (S : tk_SP 6 st sx rs sy) (C : tk_C cw) (hm : m ≤ Bd) (hB : Bd < 2 ^ 30) (O : tk_O ou m) (h1 : st p = 1) (ho : tk_out qu n p) (hs : sx p < 0 ∨ (¬ sx p < 0 ∧ nI 64 ≤ sx p)) (y : Int32) : ∃ u' v' g, (∀ post : SX → Prop, post u' → wpX_execute post (nI n, nI m, xc, lv, cw, cn, st, sx, rs, pa, rg, me, ds, pw, pl, qu, ou) (nI p)) ∧ (∀ post : Int32 → SY → Prop, post g v' → wpY_execute post (nI n, xc, nI m, cw, cn, st, pa, sy, rg, ds, me, pw, pl, qu, ou) (nI p)) ∧ tk_RK (Bd + 1) (tk_K p g y) u' v' := by
  have vq := V.2.2.2.2.2
  have hq : n ≤ 6 := tk_Q6 vq
  have h0 : st p ≠ 0 := by rw [h1]; decide
  have hpv := V.2.2.2.2.1 p hp h0
  have hpn : pa p ≠ nI p := tk_VPn V.2.2.2.2.1 hp h0
  have hsy : sy p = sx p := (S p hp (by omega)).1 (Or.inl h1)
  have S1 : tk_SP p st sx rs sy := fun q a _ => S q a (by omega)
  exact ⟨(nI (tk_lv qu (nI p) n).2, nI m, xc + 1, lv, cw, cn, tk_fs st pa p, sx, upd rs p (-4), tk_cp st pa p 6, rg, me, tk_z ds (4 * p) 4, pw, pl, (tk_lv qu (nI p) n).1, ou), (nI (tk_lv qu (nI p) n).2, xc + 1, nI m, cw, cn, tk_fs st pa p, tk_cp st pa p 6, upd sy p (-4), rg, tk_z ds (4 * p) 4, me, pw, pl, (tk_lv qu (nI p) n).1, ou), 0, fun post h => tk_xex_out hp hs (fun Q k => tk_xFin hp hq hpn k) h, fun post h => tk_yex_out hp (by rw [hsy]; exact hs) (fun Q k => tk_yFin hp hq hpv hpn k) h, tk_mk (tk_V_fin V hp h0) (tk_SP_fin6 S1) C (by omega) O ⟨tk_lo p vq, Or.inr ⟨tk_fs_n1 _ _ _, rfl⟩⟩⟩
theorem tk_ex {n m p i w Bd : Nat} (hp : p < 6) (V : tk_V st pa ds pl qu n) (S : tk_SP 6 st sx rs sy) (C : tk_C cw) (hm : m ≤ Bd) (hB : Bd < 2 ^ 30) (O : tk_O ou m) (h1 : st p = 1) (ho : tk_out qu n p) (G : tk_G cw sx rg ds pl p) (hi : i < 64) (hs : sx p = nI i) (hw : w < 512) (hc : cw i = nI w) (h24 : w % 32 ≤ 24) : ∃ u' v' g, (∀ post : SX → Prop, post u' → wpX_execute post (nI n, nI m, xc, lv, cw, cn, st, sx, rs, pa, rg, me, ds, pw, pl, qu, ou) (nI p)) ∧ (∀ post : Int32 → SY → Prop, post g v' → wpY_execute post (nI n, xc, nI m, cw, cn, st, pa, sy, rg, ds, me, pw, pl, qu, ou) (nI p)) ∧ tk_RK (Bd + 1) (tk_K p g (if w % 32 = 20 then 0 else 1)) u' v' := by
  have k : w % 32 = 0 ∨ w % 32 = 1 ∨ w % 32 = 2 ∨ w % 32 = 3 ∨ w % 32 = 4 ∨ w % 32 = 5 ∨ w % 32 = 6 ∨ w % 32 = 7 ∨ w % 32 = 8 ∨ w % 32 = 9 ∨ w % 32 = 10 ∨ w % 32 = 11 ∨ w % 32 = 12 ∨ w % 32 = 13 ∨ w % 32 = 14 ∨ w % 32 = 15 ∨ w % 32 = 16 ∨ w % 32 = 17 ∨ w % 32 = 18 ∨ w % 32 = 19 ∨ w % 32 = 20 ∨ w % 32 = 21 ∨ w % 32 = 22 ∨ w % 32 = 23 ∨ w % 32 = 24 := by omega
  rcases k with o | o | o | o | o | o | o | o | o | o | o | o | o | o | o | o | o | o | o | o | o | o | o | o | o
  · rw [if_neg (show ¬ w % 32 = 20 by omega)]; exact tk_ex_0 hp V S C hm hB O h1 ho G hi hs hw hc o
  · rw [if_neg (show ¬ w % 32 = 20 by omega)]; exact tk_ex_1 hp V S C hm hB O h1 ho G hi hs hw hc o
  · rw [if_neg (show ¬ w % 32 = 20 by omega)]; exact tk_ex_2 hp V S C hm hB O h1 ho G hi hs hw hc o
  · rw [if_neg (show ¬ w % 32 = 20 by omega)]; exact tk_ex_3 hp V S C hm hB O h1 ho G hi hs hw hc o
  · rw [if_neg (show ¬ w % 32 = 20 by omega)]; exact tk_ex_4 hp V S C hm hB O h1 ho G hi hs hw hc o
  · rw [if_neg (show ¬ w % 32 = 20 by omega)]; exact tk_ex_5 hp V S C hm hB O h1 ho G hi hs hw hc o
  · rw [if_neg (show ¬ w % 32 = 20 by omega)]; exact tk_ex_6 hp V S C hm hB O h1 ho G hi hs hw hc o
  · rw [if_neg (show ¬ w % 32 = 20 by omega)]; exact tk_ex_7 hp V S C hm hB O h1 ho G hi hs hw hc o
  · rw [if_neg (show ¬ w % 32 = 20 by omega)]; exact tk_ex_8 hp V S C hm hB O h1 ho G hi hs hw hc o
  · rw [if_neg (show ¬ w % 32 = 20 by omega)]; exact tk_ex_9 hp V S C hm hB O h1 ho G hi hs hw hc o
  · rw [if_neg (show ¬ w % 32 = 20 by omega)]; exact tk_ex_10 hp V S C hm hB O h1 ho G hi hs hw hc o
  · rw [if_neg (show ¬ w % 32 = 20 by omega)]; exact tk_ex_11 hp V S C hm hB O h1 ho G hi hs hw hc o
  · rw [if_neg (show ¬ w % 32 = 20 by omega)]; exact tk_ex_12 hp V S C hm hB O h1 ho G hi hs hw hc o
  · rw [if_neg (show ¬ w % 32 = 20 by omega)]; exact tk_ex_13 hp V S C hm hB O h1 ho G hi hs hw hc o
  · rw [if_neg (show ¬ w % 32 = 20 by omega)]; exact tk_ex_14 hp V S C hm hB O h1 ho G hi hs hw hc o
  · rw [if_neg (show ¬ w % 32 = 20 by omega)]; exact tk_ex_15 hp V S C hm hB O h1 ho G hi hs hw hc o
  · rw [if_neg (show ¬ w % 32 = 20 by omega)]; exact tk_ex_16 hp V S C hm hB O h1 ho G hi hs hw hc o
  · rw [if_neg (show ¬ w % 32 = 20 by omega)]; exact tk_ex_17 hp V S C hm hB O h1 ho G hi hs hw hc o
  · rw [if_neg (show ¬ w % 32 = 20 by omega)]; exact tk_ex_18 hp V S C hm hB O h1 ho G hi hs hw hc o
  · rw [if_neg (show ¬ w % 32 = 20 by omega)]; exact tk_ex_19 hp V S C hm hB O h1 ho G hi hs hw hc o
  · rw [if_pos o]; exact tk_ex_20 hp V S C hm hB O h1 ho G hi hs hw hc o
  · rw [if_neg (show ¬ w % 32 = 20 by omega)]; exact tk_ex_21 hp V S C hm hB O h1 ho G hi hs hw hc o
  · rw [if_neg (show ¬ w % 32 = 20 by omega)]; exact tk_ex_22 hp V S C hm hB O h1 ho G hi hs hw hc o
  · rw [if_neg (show ¬ w % 32 = 20 by omega)]; exact tk_ex_23 hp V S C hm hB O h1 ho G hi hs hw hc o
  · rw [if_neg (show ¬ w % 32 = 20 by omega)]; exact tk_ex_24 hp V S C hm hB O h1 ho G hi hs hw hc o
end
