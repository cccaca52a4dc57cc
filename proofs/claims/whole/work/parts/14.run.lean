def tk_T : (Nat → Int32) → (Nat → Int32) → Nat → Prop := fun _ _ _ => True
theorem tk_u1 {st : Nat → Int32} {p : Nat} (h1 : st p = 1) : upd st p 1 = st := by
  have k := tk_uid st p
  rw [h1] at k
  exact k
/-- one instruction: what X looks up first, and the step on both sides -/
theorem tk_step {pc lv : Int32} {xc : Int64} {cw cn st sx sy rs pa rg me ds pw pl qu ou : Nat → Int32} {n m p Bd : Nat} (hp : p < 6) (V : tk_V st pa ds pl qu n) (S : tk_SP 6 st sx rs sy) (C : tk_C cw) (hm : m ≤ Bd) (hB : Bd < 2 ^ 30) (O : tk_O ou m) (h1 : st p = 1) (ho : tk_out qu n p) (G : tk_G cw sx rg ds pl p) : ∃ o y : Int32, ((o = 20 ∧ y = 0) ∨ (¬ o = 20 ∧ y = 1)) ∧ (∀ Q : Int32 → Prop, Q o → wpX_opAt Q (nI n, nI m, xc, lv, cw, cn, st, sx, rs, pa, rg, me, ds, pw, pl, qu, ou) (nI p)) ∧ ∃ u' v' g, (∀ post : SX → Prop, post u' → wpX_execute post (nI n, nI m, xc, lv, cw, cn, st, sx, rs, pa, rg, me, ds, pw, pl, qu, ou) (nI p)) ∧ (∀ post : Int32 → SY → Prop, post g v' → wpY_execute post (nI n, xc, nI m, cw, cn, st, pa, sy, rg, ds, me, pw, pl, qu, ou) (nI p)) ∧ tk_RK (Bd + 1) (tk_K p g y) u' v' := by
  rcases tk_ix (sx p) (n := 64) (by decide) with a | a | ⟨i, hi, hs⟩
  · exact ⟨-1, 1, Or.inr ⟨by decide, rfl⟩, fun Q h => tk_xOp0 hp (Or.inl a) h, tk_ex_out hp V S C hm hB O h1 ho (Or.inl a) 1⟩
  · exact ⟨-1, 1, Or.inr ⟨by decide, rfl⟩, fun Q h => tk_xOp0 hp (Or.inr a) h, tk_ex_out hp V S C hm hB O h1 ho (Or.inr a) 1⟩
  · obtain ⟨w, hw, h24, hc⟩ := C i hi
    have k := tk_ex (lv := lv) (xc := xc) (cn := cn) (me := me) (pw := pw) hp V S C hm hB O h1 ho G hi hs hw hc h24
    by_cases z : w % 32 = 20
    · rw [if_pos z] at k
      exact ⟨nI (w % 32), 0, Or.inl ⟨by rw [z]; rfl, rfl⟩, fun Q h => tk_xOp1 hp hi hs hw hc h, k⟩
    · rw [if_neg z] at k
      exact ⟨nI (w % 32), 1, Or.inr ⟨tk_ne (b := 20) (by omega) (by decide) z, rfl⟩, fun Q h => tk_xOp1 hp hi hs hw hc h, k⟩
theorem tk_work {p : Nat} (hp : p < 6) : ∀ (d j Bd n m : Nat) (lv : Int32) (xc : Int64) (cw cn st sx sy rs pa rg me ds pw pl qu ou : Nat → Int32), j + d = 3 → tk_V st pa ds pl qu n → tk_SP 6 st sx rs sy → tk_C cw → m ≤ Bd → Bd + d < 2 ^ 30 → tk_O ou m → st p = 1 → tk_out qu n p → ∃ u' v', (∀ post : SX → Prop, post u' → wX_work_2 post (nI p) (d + 1) (nI j) (nI n) (nI m) xc lv cw cn st sx rs pa rg me ds pw pl qu ou) ∧ (∀ post : SY → Prop, post v' → wY_turn_16 post (nI p) (d + 1) 1 (nI j) (nI n) xc (nI m) cw cn st pa sy rg ds me pw pl qu ou) ∧ tk_RK (Bd + d) tk_T u' v' := by
  have v6 : vp_in (nI p) 6 := vp_in_nI hp (by decide)
  have ep : (nI p).toNatClampNeg = p := nI_clamp (by omega)
  intro d
  induction d with
  | zero =>
    intro j Bd n m lv xc cw cn st sx sy rs pa rg me ds pw pl qu ou hj V S C hm hB O h1 ho
    have h0 : st p ≠ 0 := by rw [h1]; decide
    have hn5 : n ≤ 5 := tk_Q5 V.2.2.2.2.2 hp ho
    have hj3 : (3 : Int32) ≤ nI j := nI_le (a := 3) (by omega) (by omega)
    refine ⟨(nI (n + 1), nI m, xc, lv, cw, cn, upd st p 1, sx, rs, pa, rg, me, ds, pw, pl, upd qu n (nI p), ou), (nI (n + 1), xc, nI m, cw, cn, upd st p 1, pa, sy, rg, ds, me, pw, pl, upd qu n (nI p), ou), fun post h => br_t hj3 (by unfold wX_work_68; exact tk_xJoin hp hn5 h), fun post h => br_t hj3 ⟨v6, br_t (by rw [ep]; exact h1) (tk_yJoin hp hn5 h)⟩, tk_mk (tk_V_join V hp h0 ho) (by rw [tk_u1 h1]; exact S) C (by omega) O trivial⟩
  | succ d ih =>
    intro j Bd n m lv xc cw cn st sx sy rs pa rg me ds pw pl qu ou hj V S C hm hB O h1 ho
    have h0 : st p ≠ 0 := by rw [h1]; decide
    have hj3 : ¬ (3 : Int32) ≤ nI j := nI_ge (b := 3) (by omega) (by decide)
    obtain ⟨r, hr, wX, wY, hG⟩ := tk_wait (ql := nI n) (pc := nI m) (lv := lv) (xc := xc) (cw := cw) (cn := cn) (st := st) (sx := sx) (sy := sy) (rs := rs) (pa := pa) (rg := rg) (me := me) (ds := ds) (pw := pw) (pl := pl) (qu := qu) (ou := ou) hp C V.2.2.1 ((S p hp (by omega)).1 (Or.inl h1))
    rcases hr with hr | hr
    · rw [hr] at wX wY hG
      obtain ⟨o, y, hoy, hop, u1, v1, g, fX, fY, R⟩ := tk_step (pc := nI m) (lv := lv) (xc := xc) (cn := cn) (me := me) (pw := pw) hp V S C hm (by omega) O h1 ho (hG rfl)
      obtain ⟨n1, m1, lv1, xc1, cw1, cn1, st1, sx1, sy1, rs1, pa1, rg1, me1, ds1, pw1, pl1, qu1, ou1, rfl, rfl, V1, S1, C1, hm1, O1, K1⟩ := R
      obtain ⟨ho1, hk⟩ := K1
      rcases hk with ⟨s1, eg⟩ | ⟨s1, eg⟩
      · have hn5 : n1 ≤ 5 := tk_Q5 V1.2.2.2.2.2 hp ho1
        have h01 : st1 p ≠ 0 := by rw [s1]; decide
        rcases hoy with ⟨o20, y0⟩ | ⟨o20, y1⟩
        · rw [y0] at eg
          rw [eg] at fY
          refine ⟨(nI (n1 + 1), nI m1, xc1, lv1, cw1, cn1, upd st1 p 1, sx1, rs1, pa1, rg1, me1, ds1, pw1, pl1, upd qu1 n1 (nI p), ou1), (nI (n1 + 1), xc1, nI m1, cw1, cn1, upd st1 p 1, pa1, sy1, rg1, ds1, me1, pw1, pl1, upd qu1 n1 (nI p), ou1), fun post h => br_f hj3 (wX _ (br_t rfl (hop _ (br_t o20 ?_)))), fun post h => br_f hj3 (br_f tk_01 (wY _ (br_t rfl (fY _ (nm_r (nI_1 j) ?_))))), tk_mk (tk_V_join V1 hp h01 ho1) (by rw [tk_u1 s1]; exact S1) C1 (by omega) O1 trivial⟩
          · unfold wX_work_38
            refine fX _ ⟨v6, br_t (by rw [ep]; exact s1) (br_f tk_01 ?_)⟩
            unfold wX_work_68
            exact tk_xJoin hp hn5 h
          · have F : wY_turn_53 post (nI p) (nI n1) xc1 (nI m1) cw1 cn1 st1 pa1 sy1 rg1 ds1 me1 pw1 pl1 qu1 ou1 := ⟨v6, br_t (by rw [ep]; exact s1) (tk_yJoin hp hn5 h)⟩
            exact br_c (fun _ => F) (fun _ => br_t rfl F)
        · rw [y1] at eg
          rw [eg] at fY
          obtain ⟨u2, v2, gX, gY, R2⟩ := ih (j + 1) (Bd + 1) n1 m1 lv1 xc1 cw1 cn1 st1 sx1 sy1 rs1 pa1 rg1 me1 ds1 pw1 pl1 qu1 ou1 (by omega) V1 S1 C1 hm1 (by omega) O1 s1 ho1
          have eB : Bd + 1 + d = Bd + (d + 1) := by omega
          rw [eB] at R2
          refine ⟨u2, v2, fun post h => br_f hj3 (wX _ (br_t rfl (hop _ (br_f o20 ?_)))), fun post h => br_f hj3 (br_f tk_01 (wY _ (br_t rfl (fY _ (nm_r (nI_1 j) (gY post h)))))), R2⟩
          unfold wX_work_38
          exact fX _ ⟨v6, br_t (by rw [ep]; exact s1) (br_t rfl (nm_r (nI_1 j) (gX post h)))⟩
      · rw [eg] at fY
        refine ⟨(nI n1, nI m1, xc1, lv1, cw1, cn1, st1, sx1, rs1, pa1, rg1, me1, ds1, pw1, pl1, qu1, ou1), (nI n1, xc1, nI m1, cw1, cn1, st1, pa1, sy1, rg1, ds1, me1, pw1, pl1, qu1, ou1), fun post h => br_f hj3 (wX _ (br_t rfl (hop _ ?_))), fun post h => br_f hj3 (br_f tk_01 (wY _ (br_t rfl (fY _ (nm_r (nI_1 j) ?_))))), tk_mk V1 S1 C1 (by omega) O1 trivial⟩
        · refine br_c (fun _ => ?_) (fun _ => ?_)
          · unfold wX_work_38
            exact fX _ ⟨v6, br_f (by rw [ep]; exact s1) h⟩
          · unfold wX_work_38
            exact fX _ ⟨v6, br_f (by rw [ep]; exact s1) h⟩
        · have F : wY_turn_53 post (nI p) (nI n1) xc1 (nI m1) cw1 cn1 st1 pa1 sy1 rg1 ds1 me1 pw1 pl1 qu1 ou1 := ⟨v6, br_f (by rw [ep]; exact s1) h⟩
          exact br_c (fun _ => F) (fun _ => br_t rfl F)
    · rw [hr] at wX wY
      refine ⟨(nI n, nI m, xc, lv, cw, cn, upd st p 2, sx, rs, pa, rg, me, ds, pw, pl, qu, ou), (nI n, xc, nI m, cw, cn, upd st p 2, pa, sy, rg, ds, me, pw, pl, qu, ou), fun post h => br_f hj3 (wX _ (br_f tk_01 ⟨v6, nm_r (e' := upd st p 2) (by rw [ep]) h⟩)), fun post h => br_f hj3 (br_f tk_01 (wY _ (br_f tk_01 ⟨v6, nm_r (e' := upd st p 2) (by rw [ep]) h⟩))), tk_mk (tk_V_wait V hp h0 ho) (tk_SPl S (fun q hq _ => ?_)) C (by omega) O trivial⟩
      by_cases z : q = p
      · rw [z, pk_us]; exact Or.inr ⟨Or.inl h1, Or.inr rfl⟩
      · rw [pk_un z]; exact Or.inl rfl
theorem tk_wake : ∀ (d j n m : Nat) (lv : Int32) (xc : Int64) (cw cn st sx sy rs pa rg me ds pw pl qu ou : Nat → Int32), j + d = 6 → tk_V st pa ds pl qu n → tk_SP 6 st sx rs sy → tk_C cw → ∃ (n' : Nat) (st' qu' : Nat → Int32), tk_V st' pa ds pl qu' n' ∧ tk_SP 6 st' sx rs sy ∧ (∀ post : SX → Prop, post (nI n', nI m, xc, lv, cw, cn, st', sx, rs, pa, rg, me, ds, pw, pl, qu', ou) → wX_wakeWaiting_2 post (d + 1) (nI j) (nI n) (nI m) xc lv cw cn st sx rs pa rg me ds pw pl qu ou) ∧ (∀ (post : Int32 → SY → Prop) (J : Int32 → Int32 → Int64 → Int32 → (Nat → Int32) → (Nat → Int32) → (Nat → Int32) → (Nat → Int32) → (Nat → Int32) → (Nat → Int32) → (Nat → Int32) → (Nat → Int32) → (Nat → Int32) → (Nat → Int32) → (Nat → Int32) → (Nat → Int32) → Prop) (x2 x3 : Int32), wY_run_31 post J x2 x3 (0 + 1) (nI 6) (nI n') xc (nI m) cw cn (st') pa sy rg ds me pw pl (qu') ou → wY_run_31 post J x2 x3 (d + 1) (nI j) (nI n) xc (nI m) cw cn st pa sy rg ds me pw pl qu ou) := by
  intro d
  induction d with
  | zero =>
    intro j n m lv xc cw cn st sx sy rs pa rg me ds pw pl qu ou hj V S C
    have e : j = 6 := by omega
    rw [e]
    exact ⟨n, st, qu, V, S, fun post h => br_t (nI_le (a := 6) (by omega) (by decide)) h, fun post J x2 x3 h => h⟩
  | succ d ih =>
    intro j n m lv xc cw cn st sx sy rs pa rg me ds pw pl qu ou hj V S C
    have hj6 : j < 6 := by omega
    have v6 : vp_in (nI j) 6 := vp_in_nI hj6 (by decide)
    have ej : (nI j).toNatClampNeg = j := nI_clamp (by omega)
    have hj3 : ¬ (6 : Int32) ≤ nI j := nI_ge (b := 6) hj6 (by decide)
    have vq := V.2.2.2.2.2
    by_cases z : st j = 2
    · obtain ⟨r, hr, wX, wY, _⟩ := tk_wait (ql := nI n) (pc := nI m) (lv := lv) (xc := xc) (cw := cw) (cn := cn) (st := st) (sx := sx) (sy := sy) (rs := rs) (pa := pa) (rg := rg) (me := me) (ds := ds) (pw := pw) (pl := pl) (qu := qu) (ou := ou) hj6 C V.2.2.1 ((S j hj6 (by omega)).1 (Or.inr z))
      rcases hr with hr | hr
      · rw [hr] at wX wY
        have h0 : st j ≠ 0 := by rw [z]; decide
        have hx : st j ≠ 1 := by rw [z]; decide
        have ho := tk_Qo vq hj6 hx
        have hn5 : n ≤ 5 := tk_Q5 vq hj6 ho
        have S' : tk_SP 6 (upd st j 1) sx rs sy := tk_SPl S (fun q hq _ => by
          by_cases y : q = j
          · rw [y, pk_us]; exact Or.inr ⟨Or.inr z, Or.inl rfl⟩
          · rw [pk_un y]; exact Or.inl rfl)
        obtain ⟨n', st', qu', V', S'', fX, fY⟩ := ih (j + 1) (n + 1) m lv xc cw cn (upd st j 1) sx sy rs pa rg me ds pw pl (upd qu n (nI j)) ou (by omega) (tk_V_join V hj6 h0 ho) S' C
        exact ⟨n', st', qu', V', S'', fun post h => br_f hj3 ⟨v6, br_t (by rw [ej]; exact z) (wX _ (br_t rfl (tk_xJoin hj6 hn5 (nm_r (nI_1 j) (fX post h)))))⟩, fun post J x2 x3 h => br_f hj3 ⟨v6, br_t (by rw [ej]; exact z) (wY _ (br_t rfl (tk_yJoin hj6 hn5 (nm_r (nI_1 j) (fY post J x2 x3 h)))))⟩⟩
      · rw [hr] at wX wY
        obtain ⟨n', st', qu', V', S'', fX, fY⟩ := ih (j + 1) n m lv xc cw cn st sx sy rs pa rg me ds pw pl qu ou (by omega) V S C
        exact ⟨n', st', qu', V', S'', fun post h => br_f hj3 ⟨v6, br_t (by rw [ej]; exact z) (wX _ (br_f tk_01 (nm_r (nI_1 j) (fX post h))))⟩, fun post J x2 x3 h => br_f hj3 ⟨v6, br_t (by rw [ej]; exact z) (wY _ (br_f tk_01 (nm_r (nI_1 j) (fY post J x2 x3 h))))⟩⟩
    · obtain ⟨n', st', qu', V', S'', fX, fY⟩ := ih (j + 1) n m lv xc cw cn st sx sy rs pa rg me ds pw pl qu ou (by omega) V S C
      exact ⟨n', st', qu', V', S'', fun post h => br_f hj3 ⟨v6, br_f (by rw [ej]; exact z) (nm_r (nI_1 j) (fX post h))⟩, fun post J x2 x3 h => br_f hj3 ⟨v6, br_f (by rw [ej]; exact z) (nm_r (nI_1 j) (fY post J x2 x3 h))⟩⟩
theorem tk_run {c : Nat} (hc : c ≤ 80) : ∀ (d t Bd n m : Nat) (lv : Int32) (xc : Int64) (cw cn st sx sy rs pa rg me ds pw pl qu ou : Nat → Int32), t + d = c → tk_V st pa ds pl qu n → tk_SP 6 st sx rs sy → tk_C cw → m ≤ Bd → Bd + 3 * d < 2 ^ 30 → tk_O ou m → ∃ (r : Int32) (u' : SX) (v' : SY), (∀ post : Int32 → SX → Prop, post r u' → wX_run_15 post (nI c) (d + 1) (nI t) (nI n) (nI m) xc lv cw cn st sx rs pa rg me ds pw pl qu ou) ∧ (∀ post : Int32 → SY → Prop, post r v' → wY_run_23 post (nI c) (d + 1) (nI t) (nI n) xc (nI m) cw cn st pa sy rg ds me pw pl qu ou) ∧ tk_RK (Bd + 3 * d) tk_T u' v' := by
  intro d
  induction d with
  | zero =>
    intro t Bd n m lv xc cw cn st sx sy rs pa rg me ds pw pl qu ou ht V S C hm hB O
    have e : t = c := by omega
    rw [e]
    exact ⟨nI c, (nI n, nI m, xc, lv, cw, cn, st, sx, rs, pa, rg, me, ds, pw, pl, qu, ou), (nI n, xc, nI m, cw, cn, st, pa, sy, rg, ds, me, pw, pl, qu, ou), fun post h => br_t (nI_le (Nat.le_refl _) (by omega)) h, fun post h => br_t (nI_le (Nat.le_refl _) (by omega)) h, tk_mk V S C (by omega) O trivial⟩
  | succ d ih =>
    intro t Bd n m lv xc cw cn st sx sy rs pa rg me ds pw pl qu ou ht V S C hm hB O
    have htc : ¬ nI c ≤ nI t := nI_ge (by omega) (by omega)
    obtain ⟨n', st', qu', V', S', fX, fY⟩ := tk_wake 6 0 n m lv xc cw cn st sx sy rs pa rg me ds pw pl qu ou rfl V S C
    have vq := V'.2.2.2.2.2
    have hq6 : n' ≤ 6 := tk_Q6 vq
    by_cases z : n' = 0
    · rw [z] at fX fY V'
      have z0 : nI 0 = 0 := nI_0
      exact ⟨nI t, (nI 0, nI m, xc, lv, cw, cn, st', sx, rs, pa, rg, me, ds, pw, pl, qu', ou), (nI 0, xc, nI m, cw, cn, st', pa, sy, rg, ds, me, pw, pl, qu', ou), fun post h => br_f htc ⟨7, fX _ (br_t z0 h)⟩, fun post h => br_f htc ⟨7, fY _ _ _ _ (br_t (nI_le (a := 6) (by omega) (by decide)) (br_t z0 h))⟩, tk_mk V' S' C (by omega) O trivial⟩
    · obtain ⟨p, hp, eq, s1⟩ := vq.1 0 (by omega)
      have zn : ¬ nI n' = 0 := nI_ne0 (by omega) (by omega)
      obtain ⟨u1, v1, gX, gY, R⟩ := tk_work hp 3 0 Bd (tk_lv qu' (nI p) n').2 m lv xc cw cn st' sx sy rs pa rg me ds pw pl (tk_lv qu' (nI p) n').1 ou rfl (tk_V_leave p V') S' C hm (by omega) O s1 (tk_lo p vq)
      obtain ⟨n1, m1, lv1, xc1, cw1, cn1, st1, sx1, sy1, rs1, pa1, rg1, me1, ds1, pw1, pl1, qu1, ou1, rfl, rfl, V1, S1, C1, hm1, O1, _⟩ := R
      obtain ⟨r, u2, v2, hX, hY, R2⟩ := ih (t + 1) (Bd + 3) n1 m1 lv1 xc1 cw1 cn1 st1 sx1 sy1 rs1 pa1 rg1 me1 ds1 pw1 pl1 qu1 ou1 (by omega) V1 S1 C1 hm1 (by omega) O1
      have eB : Bd + 3 + 3 * d = Bd + 3 * (d + 1) := by omega
      rw [eB] at R2
      refine ⟨r, u2, v2, fun post h => br_f htc ⟨7, fX _ (br_f zn (nm_r (e' := nI p) eq (tk_xLv hq6 ⟨4, gX _ (nm_r (nI_1 t) (hX post h))⟩)))⟩, fun post h => br_f htc ⟨7, fY _ _ _ _ (br_t (nI_le (a := 6) (by omega) (by decide)) (br_f zn (nm_r (e' := nI p) eq (tk_yLv hq6 ⟨4, gY _ (nm_r (nI_1 t) (hY post h))⟩))))⟩, R2⟩
