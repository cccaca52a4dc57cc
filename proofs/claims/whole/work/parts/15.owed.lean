def i_Rel (k : Nat) (u : SX) (v : SY) : Prop := tk_RK (60 * k) tk_T u v
theorem i_up {k : Nat} {u : SX} {v : SY} (h : i_Rel k u v) : i_Rel (k + 4) u v := by
  obtain ⟨n, m, lv, xc, cw, cn, st, sx, sy, rs, pa, rg, me, ds, pw, pl, qu, ou, rfl, rfl, V, S, C, hm, O, _⟩ := h
  exact tk_mk V S C (by omega) O trivial
theorem tk_init : tk_RK (60 * 0) tk_T (nI 0, nI 0, 0, 2, (fun _ => 0), (fun _ => 0), (fun _ => 0), (fun _ => 0), (fun _ => 0), (fun _ => 0), (fun _ => 0), (fun _ => 0), (fun _ => 0), (fun _ => 0), (fun _ => 0), (fun _ => 0), (fun _ => 0)) (nI 0, 0, nI 0, (fun _ => 0), (fun _ => 0), (fun _ => 0), (fun _ => 0), (fun _ => 0), (fun _ => 0), (fun _ => 0), (fun _ => 0), (fun _ => 0), (fun _ => 0), (fun _ => 0), (fun _ => 0)) := by
  refine tk_mk ⟨?_, ?_, ?_, ?_, ?_, ?_⟩ ?_ ?_ (Nat.le_refl _) ?_ trivial
  · intro p _; exact Or.inl rfl
  · intro p _ _ d _; rfl
  · intro i _; exact ⟨0, by omega, nI_0.symm⟩
  · intro i _; exact ⟨0, by omega, nI_0.symm⟩
  · intro p _ h; exact absurd rfl h
  · exact ⟨fun i h => absurd h (Nat.not_lt_zero i), fun i j _ h => absurd h (Nat.not_lt_zero j)⟩
  · intro q _ _
    refine ⟨fun h => ?_, fun h => ?_⟩
    · have z : (0 : Int32) = 1 ∨ (0 : Int32) = 2 := h
      exact absurd z (by decide)
    · have z : (0 : Int32) = 3 := h
      exact absurd z (by decide)
  · intro i _; exact ⟨0, by omega, by omega, nI_0.symm⟩
  · intro k _ _; rfl
theorem i_vc0 : wpX_init (fun u => wpY_init (fun v => i_Rel 0 u v)) := by
  exact tk_init
theorem i_vc_code {k : Nat} {u : SX} {v : SY} (I : i_Rel k u v) (hk : k + 4 ≤ 2048) (v1 : Int32) (v2 : Int32) (v3 : Int32) : wpX_code (fun r u' => wpY_code (fun r' v' => r' = r ∧ i_Rel (k + 4) u' v') v v1 v2 v3) u v1 v2 v3 := by
  obtain ⟨n, m, lv, xc, cw, cn, st, sx, sy, rs, pa, rg, me, ds, pw, pl, qu, ou, rfl, rfl, V, S, C, hm, O, _⟩ := I
  have R : i_Rel (k + 4) (nI n, nI m, xc, lv, cw, cn, st, sx, rs, pa, rg, me, ds, pw, pl, qu, ou) (nI n, xc, nI m, cw, cn, st, pa, sy, rg, ds, me, pw, pl, qu, ou) := tk_mk V S C (by omega) O trivial
  unfold wpX_code
  rcases tk_ix v1 (n := 64) (by decide) with a | a | ⟨j, hj, rfl⟩
  · refine tk_xSpot0 (Or.inl a) (br_t rfl ?_)
    unfold wpY_code
    exact tk_yIn0 63 (Or.inl a) (br_t rfl ⟨rfl, R⟩)
  · refine tk_xSpot0 (Or.inr a) (br_t rfl ?_)
    unfold wpY_code
    exact tk_yIn0 63 (Or.inr a) (br_t rfl ⟨rfl, R⟩)
  · have v64 : vp_in (nI j) 64 := vp_in_nI hj (by decide)
    have ej : (nI j).toNatClampNeg = j := nI_clamp (by omega)
    refine tk_xSpot1 hj (br_f tk_01 ?_)
    rcases tk_ix v2 (n := 512) (by decide) with a | a | ⟨w, hw, rfl⟩
    · refine br_t a ?_
      unfold wpY_code
      exact tk_yIn1 63 (by omega) (br_f tk_01 (tk_yIn0 511 (Or.inl a) (br_t rfl ⟨rfl, R⟩)))
    · refine br_f a.1 (br_t (Int32.lt_of_lt_of_le (nI_lt (a := 511) (b := 512) (by decide) (by decide)) a.2) ?_)
      unfold wpY_code
      exact tk_yIn1 63 (by omega) (br_f tk_01 (tk_yIn0 511 (Or.inr a) (br_t rfl ⟨rfl, R⟩)))
    · refine br_f (nI_pos (by omega)) (br_f (nI_nlt (a := 511) (by omega) (by decide)) ?_)
      by_cases z : (nI w &&& 31) ≤ 24
      · refine br_t z ⟨v64, nm_r (e' := upd cw j (nI w)) (by rw [ej]) ⟨v64, nm_r (e' := upd cn j v3) (by rw [ej]) ?_⟩⟩
        have hz : w % 32 ≤ 24 := by
          rw [tk_op hw] at z
          exact (nI_leI (b := 24) (by omega) (by decide)).mp z
        have C' : tk_C (upd cw j (nI w)) := by
          intro q hq
          exact tk_uc (P := fun x => ∃ w, w < 512 ∧ w % 32 ≤ 24 ∧ x = nI w) (fun _ => ⟨w, hw, hz, rfl⟩) (fun _ => C q hq)
        unfold wpY_code
        exact tk_yIn1 63 (by omega) (br_f tk_01 (tk_yIn1 511 (by omega) (br_f tk_01 (br_t z ⟨v64, nm_r (e' := upd cw j (nI w)) (by rw [ej]) ⟨v64, nm_r (e' := upd cn j v3) (by rw [ej]) ⟨rfl, tk_mk V S C' (by omega) O trivial⟩⟩⟩))))
      · refine br_f z ?_
        unfold wpY_code
        exact tk_yIn1 63 (by omega) (br_f tk_01 (tk_yIn1 511 (by omega) (br_f tk_01 (br_f z ⟨rfl, R⟩))))
theorem i_vc_spawn {k : Nat} {u : SX} {v : SY} (I : i_Rel k u v) (hk : k + 4 ≤ 2048) (v1 : Int32) (v2 : Int32) : wpX_spawn (fun r u' => wpY_spawn (fun r' v' => r' = r ∧ i_Rel (k + 4) u' v') v v1 v2) u v1 v2 := by
  obtain ⟨n, m, lv, xc, cw, cn, st, sx, sy, rs, pa, rg, me, ds, pw, pl, qu, ou, rfl, rfl, V, S, C, hm, O, _⟩ := I
  have R : i_Rel (k + 4) (nI n, nI m, xc, lv, cw, cn, st, sx, rs, pa, rg, me, ds, pw, pl, qu, ou) (nI n, xc, nI m, cw, cn, st, pa, sy, rg, ds, me, pw, pl, qu, ou) := tk_mk V S C (by omega) O trivial
  obtain ⟨r, hF⟩ := tk_Fex (fun j => st j = 0) 6 6 0 rfl
  rcases tk_Fc hF with ⟨er, _⟩ | ⟨c, _, hc, er, hc0⟩
  · rw [er] at hF
    unfold wpX_spawn
    refine tk_xFree hF (br_t rfl ?_)
    unfold wpY_spawn
    exact tk_yFree hF (br_f (by decide) ⟨rfl, R⟩)
  · rw [er] at hF
    have hc0' : st c = 0 := hc0
    have vq := V.2.2.2.2.2
    have hc1 : st c ≠ 1 := by rw [hc0']; decide
    have hn5 : n ≤ 5 := tk_Q5 vq hc (tk_Qo vq hc hc1)
    have ez : tk_z ds (4 * c) 4 = ds := tk_zid (fun i a b => by
      have k := V.2.1 c hc (Or.inl hc0') (i - 4 * c) (by omega)
      have e : 4 * c + (i - 4 * c) = i := by omega
      rw [e] at k
      exact k)
    refine tk_xSp1 hF hc hn5 (tk_ySp1 hF hc hn5 ?_)
    rw [ez]
    exact ⟨rfl, tk_mk (tk_V_new V hc hc0' (Or.inl rfl) (fun _ _ _ => rfl) V.2.2.1) (tk_SP_new S) C (by omega) O trivial⟩
theorem i_vc_run {k : Nat} {u : SX} {v : SY} (I : i_Rel k u v) (hk : k + 4 ≤ 2048) (v1 : Int32) : wpX_run (fun r u' => wpY_run (fun r' v' => r' = r ∧ i_Rel (k + 4) u' v') v v1) u v1 := by
  obtain ⟨n, m, lv, xc, cw, cn, st, sx, sy, rs, pa, rg, me, ds, pw, pl, qu, ou, rfl, rfl, V, S, C, hm, O, _⟩ := I
  have key : ∀ c, c ≤ 80 → ∃ (r : Int32) (u' : SX) (v' : SY), (∀ post : Int32 → SX → Prop, post r u' → wX_run_15 post (nI c) (c + 1) (nI 0) (nI n) (nI m) xc lv cw cn st sx rs pa rg me ds pw pl qu ou) ∧ (∀ post : Int32 → SY → Prop, post r v' → wY_run_23 post (nI c) (c + 1) (nI 0) (nI n) xc (nI m) cw cn st pa sy rg ds me pw pl qu ou) ∧ i_Rel (k + 4) u' v' := by
    intro c hc
    obtain ⟨r, u', v', hX, hY, R⟩ := tk_run hc c 0 (60 * k) n m lv xc cw cn st sx sy rs pa rg me ds pw pl qu ou (by omega) V S C hm (by omega) O
    obtain ⟨n1, m1, lv1, xc1, cw1, cn1, st1, sx1, sy1, rs1, pa1, rg1, me1, ds1, pw1, pl1, qu1, ou1, rfl, rfl, V1, S1, C1, hm1, O1, _⟩ := R
    exact ⟨r, _, _, hX, hY, tk_mk V1 S1 C1 (by omega) O1 trivial⟩
  rcases tk_ix v1 (n := 81) (by decide) with a | a | ⟨c, hc, rfl⟩
  · have e80 : v1 ≤ 80 := Int32.le_trans (Int32.le_of_lt a) (by decide)
    exact br_t e80 ⟨1, br_t (Int32.le_of_lt a) (br_f (tk_lt0 a) ⟨1, br_t (Int32.le_refl _) ⟨rfl, tk_mk V S C (by omega) O trivial⟩⟩)⟩
  · obtain ⟨r, u', v', hX, hY, R⟩ := key 80 (Nat.le_refl _)
    have e80 : ¬ v1 ≤ 80 := Int32.not_le.mpr (Int32.lt_of_lt_of_le (nI_lt (a := 80) (b := 81) (by decide) (by decide)) a.2)
    exact br_f e80 ⟨81, hX _ (br_t (tk_ge0 a.1) (br_f e80 ⟨81, hY _ ⟨rfl, R⟩⟩))⟩
  · obtain ⟨r, u', v', hX, hY, R⟩ := key c (by omega)
    have e80 : nI c ≤ 80 := nI_le (b := 80) (by omega) (by decide)
    exact br_t e80 ⟨c + 1, hX _ (br_t (nI_pos' (by omega)) (br_t e80 ⟨c + 1, hY _ ⟨rfl, R⟩⟩))⟩
theorem i_vc_state {k : Nat} {u : SX} {v : SY} (I : i_Rel k u v) (hk : k + 4 ≤ 2048) (v1 : Int32) : wpX_state (fun r => wpY_state (fun r' => r' = r ∧ i_Rel (k + 4) u v) v v1) u v1 := by
  obtain ⟨n, m, lv, xc, cw, cn, st, sx, sy, rs, pa, rg, me, ds, pw, pl, qu, ou, rfl, rfl, V, S, C, hm, O, _⟩ := I
  have R : i_Rel (k + 4) (nI n, nI m, xc, lv, cw, cn, st, sx, rs, pa, rg, me, ds, pw, pl, qu, ou) (nI n, xc, nI m, cw, cn, st, pa, sy, rg, ds, me, pw, pl, qu, ou) := tk_mk V S C (by omega) O trivial
  unfold wpX_state
  rcases tk_ix v1 (n := 6) (by decide) with a | a | ⟨j, hj, rfl⟩
  · refine tk_xProc0 (Or.inl a) (br_t rfl ?_)
    unfold wpY_state
    exact tk_yIn0 5 (Or.inl a) (br_t rfl ⟨rfl, R⟩)
  · refine tk_xProc0 (Or.inr a) (br_t rfl ?_)
    unfold wpY_state
    exact tk_yIn0 5 (Or.inr a) (br_t rfl ⟨rfl, R⟩)
  · refine tk_xProc1 hj (br_f tk_01 ?_)
    have v6 : vp_in (nI j) 6 := vp_in_nI hj (by decide)
    have ej : (nI j).toNatClampNeg = j := nI_clamp (by omega)
    refine ⟨v6, ?_⟩
    unfold wpY_state
    exact tk_yIn1 5 (by omega) (br_f tk_01 ⟨v6, rfl, R⟩)
theorem i_vc_parent {k : Nat} {u : SX} {v : SY} (I : i_Rel k u v) (hk : k + 4 ≤ 2048) (v1 : Int32) : wpX_parent (fun r => wpY_parent (fun r' => r' = r ∧ i_Rel (k + 4) u v) v v1) u v1 := by
  obtain ⟨n, m, lv, xc, cw, cn, st, sx, sy, rs, pa, rg, me, ds, pw, pl, qu, ou, rfl, rfl, V, S, C, hm, O, _⟩ := I
  have R : i_Rel (k + 4) (nI n, nI m, xc, lv, cw, cn, st, sx, rs, pa, rg, me, ds, pw, pl, qu, ou) (nI n, xc, nI m, cw, cn, st, pa, sy, rg, ds, me, pw, pl, qu, ou) := tk_mk V S C (by omega) O trivial
  unfold wpX_parent
  rcases tk_ix v1 (n := 6) (by decide) with a | a | ⟨j, hj, rfl⟩
  · refine tk_xProc0 (Or.inl a) (br_t rfl ?_)
    unfold wpY_parent
    exact tk_yIn0 5 (Or.inl a) (br_t rfl ⟨rfl, R⟩)
  · refine tk_xProc0 (Or.inr a) (br_t rfl ?_)
    unfold wpY_parent
    exact tk_yIn0 5 (Or.inr a) (br_t rfl ⟨rfl, R⟩)
  · refine tk_xProc1 hj (br_f tk_01 ?_)
    have v6 : vp_in (nI j) 6 := vp_in_nI hj (by decide)
    have ej : (nI j).toNatClampNeg = j := nI_clamp (by omega)
    refine ⟨v6, ?_⟩
    by_cases z : st (nI j).toNatClampNeg = 0
    · refine br_t z ?_
      unfold wpY_parent
      exact tk_yIn1 5 (by omega) (br_f tk_01 ⟨v6, br_t z ⟨rfl, R⟩⟩)
    · refine br_f z ⟨v6, ?_⟩
      unfold wpY_parent
      exact tk_yIn1 5 (by omega) (br_f tk_01 ⟨v6, br_f z ⟨v6, rfl, R⟩⟩)
theorem i_vc_spot {k : Nat} {u : SX} {v : SY} (I : i_Rel k u v) (hk : k + 4 ≤ 2048) (v1 : Int32) : wpX_spot (fun r => wpY_spot (fun r' => r' = r ∧ i_Rel (k + 4) u v) v v1) u v1 := by
  obtain ⟨n, m, lv, xc, cw, cn, st, sx, sy, rs, pa, rg, me, ds, pw, pl, qu, ou, rfl, rfl, V, S, C, hm, O, _⟩ := I
  have R : i_Rel (k + 4) (nI n, nI m, xc, lv, cw, cn, st, sx, rs, pa, rg, me, ds, pw, pl, qu, ou) (nI n, xc, nI m, cw, cn, st, pa, sy, rg, ds, me, pw, pl, qu, ou) := tk_mk V S C (by omega) O trivial
  unfold wpX_spot
  rcases tk_ix v1 (n := 6) (by decide) with a | a | ⟨j, hj, rfl⟩
  · refine tk_xAliveO (Or.inl a) (br_t rfl (tk_xProc0 (Or.inl a) (br_t rfl ?_)))
    unfold wpY_spot
    exact tk_yIn0 5 (Or.inl a) (br_t rfl ⟨rfl, R⟩)
  · refine tk_xAliveO (Or.inr a) (br_t rfl (tk_xProc0 (Or.inr a) (br_t rfl ?_)))
    unfold wpY_spot
    exact tk_yIn0 5 (Or.inr a) (br_t rfl ⟨rfl, R⟩)
  · have v6 : vp_in (nI j) 6 := vp_in_nI hj (by decide)
    have ej : (nI j).toNatClampNeg = j := nI_clamp (by omega)
    by_cases al : st j = 1 ∨ st j = 2
    · have z : ¬ st (nI j).toNatClampNeg = 0 := by
        rw [ej]
        rcases al with y | y
        · rw [y]; decide
        · rw [y]; decide
      refine tk_xAlive1 hj al (br_f tk_01 ⟨v6, ?_⟩)
      unfold wpY_spot
      exact tk_yIn1 5 (by omega) (br_f tk_01 ⟨v6, br_f z ⟨v6, by rw [ej]; exact (S j hj (by omega)).1 al, R⟩⟩)
    · refine tk_xAlive0 hj al (br_t rfl (tk_xProc1 hj (br_f tk_01 ⟨v6, ?_⟩)))
      by_cases t : st j = 3
      · have z : ¬ st (nI j).toNatClampNeg = 0 := by rw [ej, t]; decide
        refine br_t (by rw [ej]; exact t) ⟨v6, ?_⟩
        unfold wpY_spot
        exact tk_yIn1 5 (by omega) (br_f tk_01 ⟨v6, br_f z ⟨v6, by rw [ej]; exact (S j hj (by omega)).2 t, R⟩⟩)
      · have z : st j = 0 := by
          rcases V.1 j hj with y | y | y | y
          · exact y
          · exact absurd (Or.inl y) al
          · exact absurd (Or.inr y) al
          · exact absurd y t
        refine br_f (by rw [ej]; exact t) ?_
        unfold wpY_spot
        exact tk_yIn1 5 (by omega) (br_f tk_01 ⟨v6, br_t (by rw [ej]; exact z) ⟨rfl, R⟩⟩)
theorem i_vc_register {k : Nat} {u : SX} {v : SY} (I : i_Rel k u v) (hk : k + 4 ≤ 2048) (v1 : Int32) (v2 : Int32) : wpX_register (fun r => wpY_register (fun r' => r' = r ∧ i_Rel (k + 4) u v) v v1 v2) u v1 v2 := by
  obtain ⟨n, m, lv, xc, cw, cn, st, sx, sy, rs, pa, rg, me, ds, pw, pl, qu, ou, rfl, rfl, V, S, C, hm, O, _⟩ := I
  have R : i_Rel (k + 4) (nI n, nI m, xc, lv, cw, cn, st, sx, rs, pa, rg, me, ds, pw, pl, qu, ou) (nI n, xc, nI m, cw, cn, st, pa, sy, rg, ds, me, pw, pl, qu, ou) := tk_mk V S C (by omega) O trivial
  unfold wpX_register
  rcases tk_ix v1 (n := 6) (by decide) with a | a | ⟨j, hj, rfl⟩
  · refine tk_xAliveO (Or.inl a) (br_t rfl ?_)
    unfold wpY_register
    exact tk_yLiveO (Or.inl a) (br_t rfl ⟨rfl, R⟩)
  · refine tk_xAliveO (Or.inr a) (br_t rfl ?_)
    unfold wpY_register
    exact tk_yLiveO (Or.inr a) (br_t rfl ⟨rfl, R⟩)
  · by_cases al : st j = 1 ∨ st j = 2
    · refine tk_xAlive1 hj al (br_f tk_01 ?_)
      rcases tk_ix v2 (n := 4) (by decide) with a | a | ⟨d, hd, rfl⟩
      · refine br_t a ?_
        unfold wpY_register
        exact tk_yLive1 hj al (br_f tk_01 (tk_yIn0 3 (Or.inl a) (br_t rfl ⟨rfl, R⟩)))
      · refine br_f a.1 (br_t a.2 ?_)
        unfold wpY_register
        exact tk_yLive1 hj al (br_f tk_01 (tk_yIn0 3 (Or.inr a) (br_t rfl ⟨rfl, R⟩)))
      · have e1 : (nI j * 4 + nI d).toNatClampNeg = 4 * j + d := by rw [tk_i4, nI_clamp (by omega)]
        have e2 : (4 * nI j + nI d).toNatClampNeg = 4 * j + d := by rw [tk_i4', nI_clamp (by omega)]
        have w1 : vp_in (nI j * 4 + nI d) 24 := by rw [tk_i4]; exact vp_in_nI (by omega) (by decide)
        have w2 : vp_in (4 * nI j + nI d) 24 := by rw [tk_i4']; exact vp_in_nI (by omega) (by decide)
        refine br_f (nI_pos (by omega)) (br_f (nI_ge (b := 4) hd (by decide)) ⟨w1, ?_⟩)
        unfold wpY_register
        exact tk_yLive1 hj al (br_f tk_01 (tk_yIn1 3 (by omega) (br_f tk_01 ⟨w2, by rw [e1, e2], R⟩)))
    · refine tk_xAlive0 hj al (br_t rfl ?_)
      unfold wpY_register
      exact tk_yLive0 hj al (br_t rfl ⟨rfl, R⟩)
theorem i_vc_word {k : Nat} {u : SX} {v : SY} (I : i_Rel k u v) (hk : k + 4 ≤ 2048) (v1 : Int32) (v2 : Int32) : wpX_word (fun r => wpY_word (fun r' => r' = r ∧ i_Rel (k + 4) u v) v v1 v2) u v1 v2 := by
  obtain ⟨n, m, lv, xc, cw, cn, st, sx, sy, rs, pa, rg, me, ds, pw, pl, qu, ou, rfl, rfl, V, S, C, hm, O, _⟩ := I
  have R : i_Rel (k + 4) (nI n, nI m, xc, lv, cw, cn, st, sx, rs, pa, rg, me, ds, pw, pl, qu, ou) (nI n, xc, nI m, cw, cn, st, pa, sy, rg, ds, me, pw, pl, qu, ou) := tk_mk V S C (by omega) O trivial
  unfold wpX_word
  rcases tk_ix v1 (n := 6) (by decide) with a | a | ⟨j, hj, rfl⟩
  · refine tk_xAliveO (Or.inl a) (br_t rfl ?_)
    unfold wpY_word
    exact tk_yLiveO (Or.inl a) (br_t rfl ⟨rfl, R⟩)
  · refine tk_xAliveO (Or.inr a) (br_t rfl ?_)
    unfold wpY_word
    exact tk_yLiveO (Or.inr a) (br_t rfl ⟨rfl, R⟩)
  · by_cases al : st j = 1 ∨ st j = 2
    · refine tk_xAlive1 hj al (br_f tk_01 ?_)
      rcases tk_ix v2 (n := 32) (by decide) with a | a | ⟨d, hd, rfl⟩
      · refine tk_xWord0 (Or.inl a) (br_t rfl ?_)
        unfold wpY_word
        exact tk_yLive1 hj al (br_f tk_01 (tk_yIn0 31 (Or.inl a) (br_t rfl ⟨rfl, R⟩)))
      · refine tk_xWord0 (Or.inr a) (br_t rfl ?_)
        unfold wpY_word
        exact tk_yLive1 hj al (br_f tk_01 (tk_yIn0 31 (Or.inr a) (br_t rfl ⟨rfl, R⟩)))
      · have e1 : (nI j * 32 + nI d).toNatClampNeg = 32 * j + d := by rw [tk_i5, nI_clamp (by omega)]
        have e2 : (32 * nI j + nI d).toNatClampNeg = 32 * j + d := by rw [tk_i5', nI_clamp (by omega)]
        have w1 : vp_in (nI j * 32 + nI d) 192 := by rw [tk_i5]; exact vp_in_nI (by omega) (by decide)
        have w2 : vp_in (32 * nI j + nI d) 192 := by rw [tk_i5']; exact vp_in_nI (by omega) (by decide)
        refine tk_xWord1 hd (br_f tk_01 ⟨w1, ?_⟩)
        unfold wpY_word
        exact tk_yLive1 hj al (br_f tk_01 (tk_yIn1 31 (by omega) (br_f tk_01 ⟨w2, by rw [e1, e2], R⟩)))
    · refine tk_xAlive0 hj al (br_t rfl ?_)
      unfold wpY_word
      exact tk_yLive0 hj al (br_t rfl ⟨rfl, R⟩)
theorem i_vc_descriptor {k : Nat} {u : SX} {v : SY} (I : i_Rel k u v) (hk : k + 4 ≤ 2048) (v1 : Int32) (v2 : Int32) : wpX_descriptor (fun r => wpY_descriptor (fun r' => r' = r ∧ i_Rel (k + 4) u v) v v1 v2) u v1 v2 := by
  obtain ⟨n, m, lv, xc, cw, cn, st, sx, sy, rs, pa, rg, me, ds, pw, pl, qu, ou, rfl, rfl, V, S, C, hm, O, _⟩ := I
  have R : i_Rel (k + 4) (nI n, nI m, xc, lv, cw, cn, st, sx, rs, pa, rg, me, ds, pw, pl, qu, ou) (nI n, xc, nI m, cw, cn, st, pa, sy, rg, ds, me, pw, pl, qu, ou) := tk_mk V S C (by omega) O trivial
  unfold wpX_descriptor
  rcases tk_ix v1 (n := 6) (by decide) with a | a | ⟨j, hj, rfl⟩
  · refine tk_xAliveO (Or.inl a) (br_t rfl ?_)
    unfold wpY_descriptor
    exact tk_yLiveO (Or.inl a) (br_t rfl ⟨rfl, R⟩)
  · refine tk_xAliveO (Or.inr a) (br_t rfl ?_)
    unfold wpY_descriptor
    exact tk_yLiveO (Or.inr a) (br_t rfl ⟨rfl, R⟩)
  · by_cases al : st j = 1 ∨ st j = 2
    · refine tk_xAlive1 hj al (br_f tk_01 ?_)
      rcases tk_ix v2 (n := 4) (by decide) with a | a | ⟨d, hd, rfl⟩
      · refine br_t a ?_
        unfold wpY_descriptor
        exact tk_yLive1 hj al (br_f tk_01 (tk_yIn0 3 (Or.inl a) (br_t rfl ⟨rfl, R⟩)))
      · refine br_f a.1 (br_t a.2 ?_)
        unfold wpY_descriptor
        exact tk_yLive1 hj al (br_f tk_01 (tk_yIn0 3 (Or.inr a) (br_t rfl ⟨rfl, R⟩)))
      · have e1 : (nI j * 4 + nI d).toNatClampNeg = 4 * j + d := by rw [tk_i4, nI_clamp (by omega)]
        have e2 : (4 * nI j + nI d).toNatClampNeg = 4 * j + d := by rw [tk_i4', nI_clamp (by omega)]
        have w1 : vp_in (nI j * 4 + nI d) 24 := by rw [tk_i4]; exact vp_in_nI (by omega) (by decide)
        have w2 : vp_in (4 * nI j + nI d) 24 := by rw [tk_i4']; exact vp_in_nI (by omega) (by decide)
        refine br_f (nI_pos (by omega)) (br_f (nI_ge (b := 4) hd (by decide)) ⟨w1, ?_⟩)
        unfold wpY_descriptor
        exact tk_yLive1 hj al (br_f tk_01 (tk_yIn1 3 (by omega) (br_f tk_01 ⟨w2, by rw [e1, e2], R⟩)))
    · refine tk_xAlive0 hj al (br_t rfl ?_)
      unfold wpY_descriptor
      exact tk_yLive0 hj al (br_t rfl ⟨rfl, R⟩)
theorem i_vc_pipe {k : Nat} {u : SX} {v : SY} (I : i_Rel k u v) (hk : k + 4 ≤ 2048) (v1 : Int32) : wpX_pipe (fun r => wpY_pipe (fun r' => r' = r ∧ i_Rel (k + 4) u v) v v1) u v1 := by
  obtain ⟨n, m, lv, xc, cw, cn, st, sx, sy, rs, pa, rg, me, ds, pw, pl, qu, ou, rfl, rfl, V, S, C, hm, O, _⟩ := I
  have R : i_Rel (k + 4) (nI n, nI m, xc, lv, cw, cn, st, sx, rs, pa, rg, me, ds, pw, pl, qu, ou) (nI n, xc, nI m, cw, cn, st, pa, sy, rg, ds, me, pw, pl, qu, ou) := tk_mk V S C (by omega) O trivial
  rcases tk_ix v1 (n := 3) (by decide) with a | a | ⟨j, hj, rfl⟩
  · refine br_t a ?_
    unfold wpY_pipe
    exact tk_yIn0 2 (Or.inl a) (br_t rfl ⟨rfl, R⟩)
  · refine br_f a.1 (br_f (Int32.not_lt.mpr a.2) ?_)
    unfold wpY_pipe
    exact tk_yIn0 2 (Or.inr a) (br_t rfl ⟨rfl, R⟩)
  · have v3 : vp_in (nI j) 3 := vp_in_nI hj (by decide)
    obtain ⟨r, hr⟩ := tk_Bex (fun i => ds i = 1 + 2 * nI j ∨ ds i = 2 + 2 * nI j) 0 24
    refine br_f (nI_pos (by omega)) (br_t (nI_lt (b := 3) hj (by decide)) (tk_xThere hr ?_))
    by_cases z : r = 0
    · refine br_t z ?_
      unfold wpY_pipe
      exact tk_yIn1 2 (by omega) (br_f tk_01 (tk_yThere hr (br_t z ⟨rfl, R⟩)))
    · refine br_f z ⟨v3, ?_⟩
      unfold wpY_pipe
      exact tk_yIn1 2 (by omega) (br_f tk_01 (tk_yThere hr (br_f z ⟨v3, rfl, R⟩)))
theorem i_vc_executed {k : Nat} {u : SX} {v : SY} (I : i_Rel k u v) (hk : k + 4 ≤ 2048) : wpX_executed (fun r => wpY_executed (fun r' => r' = r ∧ i_Rel (k + 4) u v) v) u := by
  obtain ⟨n, m, lv, xc, cw, cn, st, sx, sy, rs, pa, rg, me, ds, pw, pl, qu, ou, rfl, rfl, V, S, C, hm, O, _⟩ := I
  have R : i_Rel (k + 4) (nI n, nI m, xc, lv, cw, cn, st, sx, rs, pa, rg, me, ds, pw, pl, qu, ou) (nI n, xc, nI m, cw, cn, st, pa, sy, rg, ds, me, pw, pl, qu, ou) := tk_mk V S C (by omega) O trivial
  exact ⟨rfl, R⟩
theorem i_vc_printed {k : Nat} {u : SX} {v : SY} (I : i_Rel k u v) (hk : k + 4 ≤ 2048) : wpX_printed (fun r => wpY_printed (fun r' => r' = r ∧ i_Rel (k + 4) u v) v) u := by
  obtain ⟨n, m, lv, xc, cw, cn, st, sx, sy, rs, pa, rg, me, ds, pw, pl, qu, ou, rfl, rfl, V, S, C, hm, O, _⟩ := I
  have R : i_Rel (k + 4) (nI n, nI m, xc, lv, cw, cn, st, sx, rs, pa, rg, me, ds, pw, pl, qu, ou) (nI n, xc, nI m, cw, cn, st, pa, sy, rg, ds, me, pw, pl, qu, ou) := tk_mk V S C (by omega) O trivial
  exact ⟨rfl, R⟩
theorem i_vc_output {k : Nat} {u : SX} {v : SY} (I : i_Rel k u v) (hk : k + 4 ≤ 2048) (v1 : Int32) : wpX_output (fun r => wpY_output (fun r' => r' = r ∧ i_Rel (k + 4) u v) v v1) u v1 := by
  obtain ⟨n, m, lv, xc, cw, cn, st, sx, sy, rs, pa, rg, me, ds, pw, pl, qu, ou, rfl, rfl, V, S, C, hm, O, _⟩ := I
  have R : i_Rel (k + 4) (nI n, nI m, xc, lv, cw, cn, st, sx, rs, pa, rg, me, ds, pw, pl, qu, ou) (nI n, xc, nI m, cw, cn, st, pa, sy, rg, ds, me, pw, pl, qu, ou) := tk_mk V S C (by omega) O trivial
  rcases tk_ix v1 (n := 32) (by decide) with a | a | ⟨j, hj, rfl⟩
  · refine br_t a ?_
    unfold wpY_output
    exact tk_yIn0 31 (Or.inl a) (br_t rfl ⟨rfl, R⟩)
  · refine br_f a.1 (br_t a.2 ?_)
    unfold wpY_output
    exact tk_yIn0 31 (Or.inr a) (br_t rfl ⟨rfl, R⟩)
  · have v32 : vp_in (nI j) 32 := vp_in_nI hj (by decide)
    have ej : (nI j).toNatClampNeg = j := nI_clamp (by omega)
    refine br_f (nI_pos (by omega)) (br_f (nI_ge (b := 32) hj (by decide)) ⟨v32, ?_⟩)
    unfold wpY_output
    refine tk_yIn1 31 (by omega) (br_f tk_01 ?_)
    by_cases z : m ≤ j
    · exact br_t (nI_le z (by omega)) ⟨by rw [ej, O j z hj], R⟩
    · exact br_f (nI_ge (by omega) (by omega)) ⟨v32, rfl, R⟩
theorem i_vc_kill {k : Nat} {u : SX} {v : SY} (I : i_Rel k u v) (hk : k + 4 ≤ 2048) (v1 : Int32) (v2 : Int32) : wpX_kill (fun r u' => wpY_kill (fun r' v' => r' = r ∧ i_Rel (k + 4) u' v') v v1 v2) u v1 v2 := by
  obtain ⟨n, m, lv, xc, cw, cn, st, sx, sy, rs, pa, rg, me, ds, pw, pl, qu, ou, rfl, rfl, V, S, C, hm, O, _⟩ := I
  have R : i_Rel (k + 4) (nI n, nI m, xc, lv, cw, cn, st, sx, rs, pa, rg, me, ds, pw, pl, qu, ou) (nI n, xc, nI m, cw, cn, st, pa, sy, rg, ds, me, pw, pl, qu, ou) := tk_mk V S C (by omega) O trivial
  unfold wpX_kill
  rcases tk_ix v1 (n := 6) (by decide) with a | a | ⟨j, hj, rfl⟩
  · refine tk_xAliveO (Or.inl a) (br_t rfl ?_)
    unfold wpY_kill
    exact tk_yLiveO (Or.inl a) (br_t rfl ⟨rfl, R⟩)
  · refine tk_xAliveO (Or.inr a) (br_t rfl ?_)
    unfold wpY_kill
    exact tk_yLiveO (Or.inr a) (br_t rfl ⟨rfl, R⟩)
  · by_cases al : st j = 1 ∨ st j = 2
    · have h0 : st j ≠ 0 := by
        rcases al with y | y
        · rw [y]; decide
        · rw [y]; decide
      have hq : n ≤ 6 := tk_Q6 V.2.2.2.2.2
      have hv := V.2.2.2.2.1 j hj h0
      have hn : pa j ≠ nI j := tk_VPn V.2.2.2.2.1 hj h0
      refine tk_xAlive1 hj al (br_f tk_01 (tk_xFin hj hq hn ?_))
      unfold wpY_kill
      exact tk_yLive1 hj al (br_f tk_01 (tk_yFin hj hq hv hn ⟨rfl, tk_mk (tk_V_fin V hj h0) (tk_SP_fin S) C (by omega) O trivial⟩))
    · refine tk_xAlive0 hj al (br_t rfl ?_)
      unfold wpY_kill
      exact tk_yLive0 hj al (br_t rfl ⟨rfl, R⟩)
theorem i_vc_level {k : Nat} {u : SX} {v : SY} (I : i_Rel k u v) (hk : k + 4 ≤ 2048) (v1 : Int32) : wpX_level (fun r u' => wpY_level (fun r' => r' = r ∧ i_Rel (k + 4) u' v) v v1) u v1 := by
  obtain ⟨n, m, lv, xc, cw, cn, st, sx, sy, rs, pa, rg, me, ds, pw, pl, qu, ou, rfl, rfl, V, S, C, hm, O, _⟩ := I
  have R : i_Rel (k + 4) (nI n, nI m, xc, lv, cw, cn, st, sx, rs, pa, rg, me, ds, pw, pl, qu, ou) (nI n, xc, nI m, cw, cn, st, pa, sy, rg, ds, me, pw, pl, qu, ou) := tk_mk V S C (by omega) O trivial
  rcases tk_ix v1 (n := 3) (by decide) with a | a | ⟨j, hj, rfl⟩
  · refine br_t a ?_
    unfold wpY_level
    exact tk_yIn0 2 (Or.inl a) ⟨rfl, rfl, R⟩
  · refine br_f a.1 (br_f (Int32.not_lt.mpr a.2) ?_)
    unfold wpY_level
    exact tk_yIn0 2 (Or.inr a) ⟨rfl, rfl, R⟩
  · refine br_f (nI_pos (by omega)) (br_t (nI_lt (b := 3) hj (by decide)) ?_)
    unfold wpY_level
    exact tk_yIn1 2 (by omega) ⟨rfl, rfl, tk_mk V S C (by omega) O trivial⟩
