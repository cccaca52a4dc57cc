section
variable {ql pc lv : Int32} {xc : Int64} {cw cn st sx sy rs pa rg me ds pw pl qu ou : Nat → Int32}
theorem tk_xSpot1 {post : Int32 → Prop} {i : Nat} (hi : i < 64) (h : post 1) : wpX_isSpot post (ql, pc, xc, lv, cw, cn, st, sx, rs, pa, rg, me, ds, pw, pl, qu, ou) (nI i) := br_f (nI_pos (by omega)) (br_f (nI_ge (b := 64) hi (by decide)) h)
theorem tk_xSpot0 {post : Int32 → Prop} {s : Int32} (hs : s < 0 ∨ (¬ s < 0 ∧ nI 64 ≤ s)) (h : post 0) : wpX_isSpot post (ql, pc, xc, lv, cw, cn, st, sx, rs, pa, rg, me, ds, pw, pl, qu, ou) s := by
  rcases hs with a | ⟨a, b⟩
  · exact br_t a h
  · exact br_f a (br_t b h)
theorem tk_xWord1 {post : Int32 → Prop} {i : Nat} (hi : i < 32) (h : post 1) : wpX_isWord post (ql, pc, xc, lv, cw, cn, st, sx, rs, pa, rg, me, ds, pw, pl, qu, ou) (nI i) := br_f (nI_pos (by omega)) (br_f (nI_ge (b := 32) hi (by decide)) h)
theorem tk_xWord0 {post : Int32 → Prop} {s : Int32} (hs : s < 0 ∨ (¬ s < 0 ∧ nI 32 ≤ s)) (h : post 0) : wpX_isWord post (ql, pc, xc, lv, cw, cn, st, sx, rs, pa, rg, me, ds, pw, pl, qu, ou) s := by
  rcases hs with a | ⟨a, b⟩
  · exact br_t a h
  · exact br_f a (br_t b h)
theorem tk_xProc1 {post : Int32 → Prop} {i : Nat} (hi : i < 6) (h : post 1) : wpX_isProcess post (ql, pc, xc, lv, cw, cn, st, sx, rs, pa, rg, me, ds, pw, pl, qu, ou) (nI i) := br_f (nI_pos (by omega)) (br_f (nI_ge (b := 6) hi (by decide)) h)
theorem tk_xProc0 {post : Int32 → Prop} {s : Int32} (hs : s < 0 ∨ (¬ s < 0 ∧ nI 6 ≤ s)) (h : post 0) : wpX_isProcess post (ql, pc, xc, lv, cw, cn, st, sx, rs, pa, rg, me, ds, pw, pl, qu, ou) s := by
  rcases hs with a | ⟨a, b⟩
  · exact br_t a h
  · exact br_f a (br_t b h)
theorem tk_yIn1 {post : Int32 → Prop} {hi : Int32} {j : Nat} (b : Nat) (h : j ≤ b) (hp : post 1) (hb : b < 2 ^ 31 := by decide) (e : hi = nI b := by rfl) : wpY_in post (ql, xc, pc, cw, cn, st, pa, sy, rg, ds, me, pw, pl, qu, ou) (nI j) 0 hi := by
  subst e
  exact br_f (nI_pos (by omega)) (br_f (nI_nlt h hb) hp)
theorem tk_yIn0 {post : Int32 → Prop} {hi s : Int32} (b : Nat) (hs : s < 0 ∨ (¬ s < 0 ∧ nI (b + 1) ≤ s)) (hp : post 0) (hb : b + 1 < 2 ^ 31 := by decide) (e : hi = nI b := by rfl) : wpY_in post (ql, xc, pc, cw, cn, st, pa, sy, rg, ds, me, pw, pl, qu, ou) s 0 hi := by
  subst e
  rcases hs with a | ⟨a, c⟩
  · exact br_t a hp
  · exact br_f a (br_t (Int32.lt_of_lt_of_le (nI_lt (by omega) hb) c) hp)
theorem tk_xFreeL {post : Int32 → Prop} {r : Int32} (hp : post r) : ∀ d j, j + d = 6 → tk_F (fun j => st j = 0) j 6 r → wX_smallestFree_2 post ql pc xc lv cw cn st sx rs pa rg me ds pw pl qu ou (d + 1) (nI j) := by
  intro d
  induction d with
  | zero => intro j hj h; exact br_t (nI_le (a := 6) (by omega) (by omega)) (by rw [← tk_Fz h (by omega)]; exact hp)
  | succ d ih =>
    intro j hj h
    have hi : vp_in (nI j) 6 := vp_in_nI (by omega) (by decide)
    have hc : (nI j).toNatClampNeg = j := nI_clamp (by omega)
    refine br_f (nI_ge (b := 6) (by omega) (by decide)) ⟨hi, ?_⟩
    by_cases z : st j = 0
    · exact br_t (by rw [hc]; exact z) (by rw [← tk_Ft h (by omega) z]; exact hp)
    · exact br_f (by rw [hc]; exact z) (nm_r (nI_1 j) (ih (j + 1) (by omega) (tk_Fn h z)))
theorem tk_xFree {post : Int32 → Prop} {r : Int32} (h : tk_F (fun j => st j = 0) 0 6 r) (hp : post r) : wpX_smallestFree post (ql, pc, xc, lv, cw, cn, st, sx, rs, pa, rg, me, ds, pw, pl, qu, ou) := ⟨7, tk_xFreeL hp 6 0 rfl h⟩
theorem tk_yFreeL {post : Int32 → Prop} {r : Int32} (hp : post r) : ∀ d j, j + d = 6 → tk_F (fun j => st j = 0) j 6 r → wY_smallestFree_2 post ql xc pc cw cn st pa sy rg ds me pw pl qu ou (d + 1) (nI j) := by
  intro d
  induction d with
  | zero => intro j hj h; exact br_t (nI_le (a := 6) (by omega) (by omega)) (by rw [← tk_Fz h (by omega)]; exact hp)
  | succ d ih =>
    intro j hj h
    have hi : vp_in (nI j) 6 := vp_in_nI (by omega) (by decide)
    have hc : (nI j).toNatClampNeg = j := nI_clamp (by omega)
    refine br_f (nI_ge (b := 6) (by omega) (by decide)) ⟨hi, ?_⟩
    by_cases z : st j = 0
    · exact br_t (by rw [hc]; exact z) (by rw [← tk_Ft h (by omega) z]; exact hp)
    · exact br_f (by rw [hc]; exact z) (nm_r (nI_1 j) (ih (j + 1) (by omega) (tk_Fn h z)))
theorem tk_yFree {post : Int32 → Prop} {r : Int32} (h : tk_F (fun j => st j = 0) 0 6 r) (hp : post r) : wpY_smallestFree post (ql, xc, pc, cw, cn, st, pa, sy, rg, ds, me, pw, pl, qu, ou) := ⟨7, tk_yFreeL hp 6 0 rfl h⟩
theorem tk_xChild1 {post : Int32 → Prop} {c : Nat} {q : Int32} (hc : c < 6) (h0 : st c ≠ 0) (h : pa c = q) (hp : post 1) : wpX_isChild post (ql, pc, xc, lv, cw, cn, st, sx, rs, pa, rg, me, ds, pw, pl, qu, ou) (nI c) q := by
  have hi : vp_in (nI c) 6 := vp_in_nI hc (by decide)
  have e : (nI c).toNatClampNeg = c := nI_clamp (by omega)
  exact ⟨hi, br_f (by rw [e]; exact h0) ⟨hi, br_t (by rw [e]; exact h) hp⟩⟩
theorem tk_xChild0 {post : Int32 → Prop} {c : Nat} {q : Int32} (hc : c < 6) (h : ¬ (st c ≠ 0 ∧ pa c = q)) (hp : post 0) : wpX_isChild post (ql, pc, xc, lv, cw, cn, st, sx, rs, pa, rg, me, ds, pw, pl, qu, ou) (nI c) q := by
  have hi : vp_in (nI c) 6 := vp_in_nI hc (by decide)
  have e : (nI c).toNatClampNeg = c := nI_clamp (by omega)
  refine ⟨hi, ?_⟩
  by_cases z : st c = 0
  · exact br_t (by rw [e]; exact z) hp
  · exact br_f (by rw [e]; exact z) ⟨hi, br_f (by rw [e]; exact fun y => h ⟨z, y⟩) hp⟩
theorem tk_xHasL {post : Int32 → Prop} {r q : Int32} (hp : post r) : ∀ d j, j + d = 6 → tk_B (fun j => st j ≠ 0 ∧ pa j = q) j 6 r → wX_hasChild_2 post q ql pc xc lv cw cn st sx rs pa rg me ds pw pl qu ou (d + 1) (nI j) := by
  intro d
  induction d with
  | zero => intro j hj h; exact br_t (nI_le (a := 6) (by omega) (by omega)) (by rw [← tk_Bz h (by omega)]; exact hp)
  | succ d ih =>
    intro j hj h
    refine br_f (nI_ge (b := 6) (by omega) (by decide)) ?_
    by_cases z : st j ≠ 0 ∧ pa j = q
    · exact tk_xChild1 (by omega) z.1 z.2 (br_f (by decide) (by rw [← tk_Bt h (by omega) z]; exact hp))
    · exact tk_xChild0 (by omega) z (br_t rfl (nm_r (nI_1 j) (ih (j + 1) (by omega) (tk_Bn h z))))
theorem tk_xHas {post : Int32 → Prop} {r q : Int32} (h : tk_B (fun j => st j ≠ 0 ∧ pa j = q) 0 6 r) (hp : post r) : wpX_hasChild post (ql, pc, xc, lv, cw, cn, st, sx, rs, pa, rg, me, ds, pw, pl, qu, ou) q := ⟨7, tk_xHasL hp 6 0 rfl h⟩
theorem tk_xEndL {post : Int32 → Prop} {r q : Int32} (hp : post r) : ∀ d j, j + d = 6 → tk_F (fun j => st j = 3 ∧ pa j = q) j 6 r → wX_smallestEndedChild_2 post q ql pc xc lv cw cn st sx rs pa rg me ds pw pl qu ou (d + 1) (nI j) := by
  intro d
  induction d with
  | zero => intro j hj h; exact br_t (nI_le (a := 6) (by omega) (by omega)) (by rw [← tk_Fz h (by omega)]; exact hp)
  | succ d ih =>
    intro j hj h
    have hi : vp_in (nI j) 6 := vp_in_nI (by omega) (by decide)
    have hc : (nI j).toNatClampNeg = j := nI_clamp (by omega)
    refine br_f (nI_ge (b := 6) (by omega) (by decide)) ⟨hi, ?_⟩
    by_cases z : st j = 3
    · refine br_t (by rw [hc]; exact z) ?_
      have z0 : st j ≠ 0 := by rw [z]; decide
      by_cases y : pa j = q
      · exact tk_xChild1 (by omega) z0 y (br_f (by decide) (by rw [← tk_Ft h (by omega) ⟨z, y⟩]; exact hp))
      · exact tk_xChild0 (by omega) (fun k => y k.2) (br_t rfl (nm_r (nI_1 j) (ih (j + 1) (by omega) (tk_Fn h (fun k => y k.2)))))
    · exact br_f (by rw [hc]; exact z) (nm_r (nI_1 j) (ih (j + 1) (by omega) (tk_Fn h (fun k => z k.1))))
theorem tk_xEnd {post : Int32 → Prop} {r q : Int32} (h : tk_F (fun j => st j = 3 ∧ pa j = q) 0 6 r) (hp : post r) : wpX_smallestEndedChild post (ql, pc, xc, lv, cw, cn, st, sx, rs, pa, rg, me, ds, pw, pl, qu, ou) q := ⟨7, tk_xEndL hp 6 0 rfl h⟩
/-- what Y's downward search for an ended child holds when it has looked at lo .. 5 -/
def tk_E (st pa : Nat → Int32) (q : Int32) (lo : Nat) (r : Int32) : Prop := (tk_F (fun j => st j = 3 ∧ pa j = q) lo 6 r ∧ (r = -1 → ∃ j, lo ≤ j ∧ j < 6 ∧ st j ≠ 0 ∧ pa j = q)) ∨ (r = -2 ∧ ∀ j, lo ≤ j → j < 6 → ¬ (st j ≠ 0 ∧ pa j = q))
theorem tk_Ek {q r : Int32} {c : Nat} (hn : ¬ (st c ≠ 0 ∧ pa c = q)) (h : tk_E st pa q (c + 1) r) : tk_E st pa q c r := by
  rcases h with ⟨a, b⟩ | ⟨a, b⟩
  · refine Or.inl ⟨tk_Fk (fun z => hn ⟨by rw [z.1]; decide, z.2⟩) a, fun e => ?_⟩
    obtain ⟨j, x, y⟩ := b e
    exact ⟨j, by omega, y⟩
  · exact Or.inr ⟨a, tk_ge (P := fun j => st j ≠ 0 ∧ pa j = q) hn b⟩
theorem tk_yEndL {post : Int32 → Prop} {q : Int32} (hp : ∀ r, tk_E st pa q 0 r → post r) : ∀ c r, c ≤ 6 → tk_E st pa q c r → wY_endedChild_5 post q ql xc pc cw cn st pa sy rg ds me pw pl qu ou (c + 1) r (nI c + (-1)) := by
  intro c
  induction c with
  | zero => intro r _ h; exact br_t (by decide) (hp r h)
  | succ c ih =>
    intro r hc6 h
    rw [pk_m1]
    have hi : vp_in (nI c) 6 := vp_in_nI (by omega) (by decide)
    have hc : (nI c).toNatClampNeg = c := nI_clamp (by omega)
    refine br_f (nI_pos (by omega)) ⟨hi, ?_⟩
    by_cases z : st c = 0
    · exact br_t (by rw [hc]; exact z) (nm_e (ih r (by omega) (tk_Ek (fun k => k.1 z) h)))
    · refine br_f (by rw [hc]; exact z) ⟨hi, ?_⟩
      by_cases y : pa c = q
      · refine br_t (by rw [hc]; exact y) ⟨hi, ?_⟩
        by_cases x : st c = 3
        · exact br_t (by rw [hc]; exact x) (nm_e (ih (nI c) (by omega) (Or.inl ⟨tk_Fd ⟨x, y⟩ (by omega), fun e => absurd e (tk_nm1 (by omega))⟩)))
        · refine br_f (by rw [hc]; exact x) ?_
          by_cases w : r = -2
          · refine br_t w (nm_e (ih (-1) (by omega) (Or.inl ⟨Or.inl ⟨rfl, ?_⟩, fun _ => ⟨c, Nat.le_refl _, by omega, z, y⟩⟩)))
            rcases h with ⟨a, _⟩ | ⟨_, b⟩
            · exfalso
              rw [w] at a
              rcases tk_Fc a with ⟨e, _⟩ | ⟨j, _, l, e, _⟩
              · exact absurd e (by decide)
              · exact tk_nm2 (by omega) e.symm
            · exact tk_ge (P := fun j => st j = 3 ∧ pa j = q) (fun k => x k.1) (fun j e f k => b j e f ⟨by rw [k.1]; decide, k.2⟩)
          · refine br_f w (nm_e (ih r (by omega) ?_))
            rcases h with ⟨a, b⟩ | ⟨a, _⟩
            · refine Or.inl ⟨tk_Fk (fun k => x k.1) a, fun e => ?_⟩
              obtain ⟨j, m, o⟩ := b e
              exact ⟨j, by omega, o⟩
            · exact absurd a w
      · exact br_f (by rw [hc]; exact y) (nm_e (ih r (by omega) (tk_Ek (fun k => y k.2) h)))
theorem tk_yEnd {post : Int32 → Prop} {q : Int32} (hp : ∀ r, tk_E st pa q 0 r → post r) : wpY_endedChild post (ql, xc, pc, cw, cn, st, pa, sy, rg, ds, me, pw, pl, qu, ou) q := ⟨7, tk_yEndL hp 6 (-2) (Nat.le_refl _) (Or.inr ⟨rfl, fun j a b => by omega⟩)⟩
theorem tk_xHeldL {post : Int32 → Prop} {r q : Int32} (hp : post r) : ∀ d j, j + d = 24 → tk_B (fun j => ds j = q) j 24 r → wX_isHeld_2 post q ql pc xc lv cw cn st sx rs pa rg me ds pw pl qu ou (d + 1) (nI j) := by
  intro d
  induction d with
  | zero => intro j hj h; exact br_t (nI_le (a := 24) (by omega) (by omega)) (by rw [← tk_Bz h (by omega)]; exact hp)
  | succ d ih =>
    intro j hj h
    have hi : vp_in (nI j) 24 := vp_in_nI (by omega) (by decide)
    have hc : (nI j).toNatClampNeg = j := nI_clamp (by omega)
    refine br_f (nI_ge (b := 24) (by omega) (by decide)) ⟨hi, ?_⟩
    by_cases z : ds j = q
    · exact br_t (by rw [hc]; exact z) (by rw [← tk_Bt h (by omega) z]; exact hp)
    · exact br_f (by rw [hc]; exact z) (nm_r (nI_1 j) (ih (j + 1) (by omega) (tk_Bn h z)))
theorem tk_xHeld {post : Int32 → Prop} {r q : Int32} (h : tk_B (fun j => ds j = q) 0 24 r) (hp : post r) : wpX_isHeld post (ql, pc, xc, lv, cw, cn, st, sx, rs, pa, rg, me, ds, pw, pl, qu, ou) q := ⟨25, tk_xHeldL hp 24 0 rfl h⟩
theorem tk_yHasL {post : Int32 → Prop} {r q : Int32} (hp : post r) : ∀ d j, j + d = 24 → tk_B (fun j => ds j = q) j 24 r → wY_has_2 post q ql xc pc cw cn st pa sy rg ds me pw pl qu ou (d + 1) (nI j) := by
  intro d
  induction d with
  | zero => intro j hj h; exact br_t (nI_le (a := 24) (by omega) (by omega)) (by rw [← tk_Bz h (by omega)]; exact hp)
  | succ d ih =>
    intro j hj h
    have hi : vp_in (nI j) 24 := vp_in_nI (by omega) (by decide)
    have hc : (nI j).toNatClampNeg = j := nI_clamp (by omega)
    refine br_f (nI_ge (b := 24) (by omega) (by decide)) ⟨hi, ?_⟩
    by_cases z : ds j = q
    · exact br_t (by rw [hc]; exact z) (by rw [← tk_Bt h (by omega) z]; exact hp)
    · exact br_f (by rw [hc]; exact z) (nm_r (nI_1 j) (ih (j + 1) (by omega) (tk_Bn h z)))
theorem tk_yHas {post : Int32 → Prop} {r q : Int32} (h : tk_B (fun j => ds j = q) 0 24 r) (hp : post r) : wpY_has post (ql, xc, pc, cw, cn, st, pa, sy, rg, ds, me, pw, pl, qu, ou) q := ⟨25, tk_yHasL hp 24 0 rfl h⟩
theorem tk_xThereL {post : Int32 → Prop} {r q : Int32} (hp : post r) : ∀ d j, j + d = 24 → tk_B (fun j => ds j = 1 + 2 * q ∨ ds j = 2 + 2 * q) j 24 r → wX_isThere_2 post q ql pc xc lv cw cn st sx rs pa rg me ds pw pl qu ou (d + 1) (nI j) := by
  intro d
  induction d with
  | zero => intro j hj h; exact br_t (nI_le (a := 24) (by omega) (by omega)) (by rw [← tk_Bz h (by omega)]; exact hp)
  | succ d ih =>
    intro j hj h
    have hi : vp_in (nI j) 24 := vp_in_nI (by omega) (by decide)
    have hc : (nI j).toNatClampNeg = j := nI_clamp (by omega)
    refine br_f (nI_ge (b := 24) (by omega) (by decide)) ⟨hi, ?_⟩
    by_cases z : ds j = 1 + 2 * q
    · exact br_t (by rw [hc]; exact z) (by rw [← tk_Bt h (by omega) (Or.inl z)]; exact hp)
    · refine br_f (by rw [hc]; exact z) ⟨hi, ?_⟩
      by_cases y : ds j = 2 + 2 * q
      · exact br_t (by rw [hc]; exact y) (by rw [← tk_Bt h (by omega) (Or.inr y)]; exact hp)
      · exact br_f (by rw [hc]; exact y) (nm_r (nI_1 j) (ih (j + 1) (by omega) (tk_Bn h (fun k => k.elim z y))))
theorem tk_xThere {post : Int32 → Prop} {r q : Int32} (h : tk_B (fun j => ds j = 1 + 2 * q ∨ ds j = 2 + 2 * q) 0 24 r) (hp : post r) : wpX_isThere post (ql, pc, xc, lv, cw, cn, st, sx, rs, pa, rg, me, ds, pw, pl, qu, ou) q := ⟨25, tk_xThereL hp 24 0 rfl h⟩
theorem tk_yThere {post : Int32 → Prop} {r q : Int32} (h : tk_B (fun j => ds j = 1 + 2 * q ∨ ds j = 2 + 2 * q) 0 24 r) (hp : post r) : wpY_isThere post (ql, xc, pc, cw, cn, st, pa, sy, rg, ds, me, pw, pl, qu, ou) q := by
  obtain ⟨r1, h1⟩ := tk_Bex (fun j => ds j = 1 + 2 * q) 0 24
  refine tk_yHas h1 ?_
  rcases h1 with ⟨e1, j, a, b, c⟩ | ⟨e1, n1⟩
  · refine br_f (by rw [e1]; decide) ?_
    rcases h with ⟨e, _⟩ | ⟨e, n⟩
    · rw [← e]; exact hp
    · exact absurd (Or.inl c) (n j a b)
  · refine br_t e1 ?_
    obtain ⟨r2, h2⟩ := tk_Bex (fun j => ds j = 2 + 2 * q) 0 24
    refine tk_yHas h2 ?_
    rcases h2 with ⟨e2, j, a, b, c⟩ | ⟨e2, n2⟩
    · refine br_f (by rw [e2]; decide) ?_
      rcases h with ⟨e, _⟩ | ⟨e, n⟩
      · rw [← e]; exact hp
      · exact absurd (Or.inr c) (n j a b)
    · refine br_t e2 ?_
      rcases h with ⟨e, j, a, b, c⟩ | ⟨e, n⟩
      · rcases c with c | c
        · exact absurd c (n1 j a b)
        · exact absurd c (n2 j a b)
      · rw [← e]; exact hp
end
