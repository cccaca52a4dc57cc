def tk_cp (st pa : Nat → Int32) (p i : Nat) : Nat → Int32 := fun c => if c < i ∧ st c ≠ 0 ∧ pa c = nI p then -1 else pa c
def tk_cs (st pa : Nat → Int32) (p i : Nat) : Nat → Int32 := fun c => if c < i ∧ st c = 3 ∧ pa c = nI p then 0 else st c
theorem tk_cs_or (st pa : Nat → Int32) (p i q : Nat) : tk_cs st pa p i q = st q ∨ (tk_cs st pa p i q = 0 ∧ st q = 3) := by
  by_cases h : q < i ∧ st q = 3 ∧ pa q = nI p
  · exact Or.inr ⟨if_pos h, h.2.1⟩
  · exact Or.inl (if_neg h)
theorem tk_cp_or (st pa : Nat → Int32) (p i q : Nat) : tk_cp st pa p i q = pa q ∨ tk_cp st pa p i q = -1 := by
  by_cases h : q < i ∧ st q ≠ 0 ∧ pa q = nI p
  · exact Or.inr (if_pos h)
  · exact Or.inl (if_neg h)
theorem tk_cs_k {st pa : Nat → Int32} {p i q : Nat} (h : i ≤ q) : tk_cs st pa p i q = st q := if_neg (fun z => by have := z.1; omega)
theorem tk_cp_k {st pa : Nat → Int32} {p i q : Nat} (h : i ≤ q) : tk_cp st pa p i q = pa q := if_neg (fun z => by have := z.1; omega)
theorem tk_cs_n {st pa : Nat → Int32} {p i q : Nat} (h : pa q ≠ nI p) : tk_cs st pa p i q = st q := if_neg (fun z => h z.2.2)
theorem tk_cp_n {st pa : Nat → Int32} {p i q : Nat} (h : pa q ≠ nI p) : tk_cp st pa p i q = pa q := if_neg (fun z => h z.2.2)
theorem tk_cp0 (st pa : Nat → Int32) (p : Nat) : tk_cp st pa p 0 = pa := by funext q; exact tk_cp_k (Nat.zero_le _)
theorem tk_cs0 (st pa : Nat → Int32) (p : Nat) : tk_cs st pa p 0 = st := by funext q; exact tk_cs_k (Nat.zero_le _)
theorem tk_cp_y {st pa : Nat → Int32} {p i : Nat} (h : st i ≠ 0) (h2 : pa i = nI p) : upd (tk_cp st pa p i) i (-1) = tk_cp st pa p (i + 1) := by
  funext q
  refine tk_uc (P := fun y => y = tk_cp st pa p (i + 1) q) (fun e => ?_) (fun e => ?_)
  · exact (if_pos (by rw [e]; exact ⟨by omega, h, h2⟩)).symm
  · by_cases c : q < i ∧ st q ≠ 0 ∧ pa q = nI p
    · exact (if_pos c).trans (if_pos (by obtain ⟨a, b⟩ := c; exact ⟨by omega, b⟩)).symm
    · exact (if_neg c).trans (if_neg (fun z => c (by obtain ⟨a, b⟩ := z; exact ⟨by omega, b⟩))).symm
theorem tk_cp_z {st pa : Nat → Int32} {p i : Nat} (h : ¬ (st i ≠ 0 ∧ pa i = nI p)) : tk_cp st pa p i = tk_cp st pa p (i + 1) := by
  funext q
  by_cases c : q < i ∧ st q ≠ 0 ∧ pa q = nI p
  · exact (if_pos c).trans (if_pos (by obtain ⟨a, b⟩ := c; exact ⟨by omega, b⟩)).symm
  · refine (if_neg c).trans (if_neg (fun z => ?_)).symm
    obtain ⟨a, b⟩ := z
    rcases Nat.lt_or_ge q i with k | k
    · exact c ⟨k, b⟩
    · have e : q = i := by omega
      rw [e] at b; exact h b
theorem tk_cs_y {st pa : Nat → Int32} {p i : Nat} (h : st i = 3) (h2 : pa i = nI p) : upd (tk_cs st pa p i) i 0 = tk_cs st pa p (i + 1) := by
  funext q
  refine tk_uc (P := fun y => y = tk_cs st pa p (i + 1) q) (fun e => ?_) (fun e => ?_)
  · exact (if_pos (by rw [e]; exact ⟨by omega, h, h2⟩)).symm
  · by_cases c : q < i ∧ st q = 3 ∧ pa q = nI p
    · exact (if_pos c).trans (if_pos (by obtain ⟨a, b⟩ := c; exact ⟨by omega, b⟩)).symm
    · exact (if_neg c).trans (if_neg (fun z => c (by obtain ⟨a, b⟩ := z; exact ⟨by omega, b⟩))).symm
theorem tk_cs_z {st pa : Nat → Int32} {p i : Nat} (h : ¬ (st i = 3 ∧ pa i = nI p)) : tk_cs st pa p i = tk_cs st pa p (i + 1) := by
  funext q
  by_cases c : q < i ∧ st q = 3 ∧ pa q = nI p
  · exact (if_pos c).trans (if_pos (by obtain ⟨a, b⟩ := c; exact ⟨by omega, b⟩)).symm
  · refine (if_neg c).trans (if_neg (fun z => ?_)).symm
    obtain ⟨a, b⟩ := z
    rcases Nat.lt_or_ge q i with k | k
    · exact c ⟨k, b⟩
    · have e : q = i := by omega
      rw [e] at b; exact h b
/-- zero from lo on, j cells -/
def tk_z (f : Nat → Int32) (lo j : Nat) : Nat → Int32 := fun i => if lo ≤ i ∧ i < lo + j then 0 else f i
theorem tk_z0 (f : Nat → Int32) (lo : Nat) : tk_z f lo 0 = f := by funext i; exact if_neg (by omega)
theorem tk_zs (f : Nat → Int32) (lo j : Nat) : upd (tk_z f lo j) (lo + j) 0 = tk_z f lo (j + 1) := by
  funext q
  refine tk_uc (P := fun y => y = tk_z f lo (j + 1) q) (fun e => ?_) (fun e => ?_)
  · exact (if_pos (by omega)).symm
  · by_cases c : lo ≤ q ∧ q < lo + j
    · exact (if_pos c).trans (if_pos (by omega)).symm
    · exact (if_neg c).trans (if_neg (by omega)).symm
theorem tk_zin {f : Nat → Int32} {lo j i : Nat} (h : lo ≤ i) (h2 : i < lo + j) : tk_z f lo j i = 0 := if_pos ⟨h, h2⟩
theorem tk_zout {f : Nat → Int32} {lo j i : Nat} (h : i < lo ∨ lo + j ≤ i) : tk_z f lo j i = f i := if_neg (by omega)
theorem tk_zid {f : Nat → Int32} {lo : Nat} {j : Nat} (h : ∀ i, lo ≤ i → i < lo + j → f i = 0) : tk_z f lo j = f := by
  funext i
  by_cases c : lo ≤ i ∧ i < lo + j
  · exact (if_pos c).trans (h i c.1 c.2).symm
  · exact if_neg c
/-- j cells from fr copied to to -/
def tk_y (f : Nat → Int32) (to fr j : Nat) : Nat → Int32 := fun i => if to ≤ i ∧ i < to + j then f (fr + (i - to)) else f i
theorem tk_y0 (f : Nat → Int32) (to fr : Nat) : tk_y f to fr 0 = f := by funext i; exact if_neg (by omega)
theorem tk_yin {f : Nat → Int32} {to fr j i : Nat} (h : to ≤ i) (h2 : i < to + j) : tk_y f to fr j i = f (fr + (i - to)) := if_pos ⟨h, h2⟩
theorem tk_yout {f : Nat → Int32} {to fr j i : Nat} (h : i < to ∨ to + j ≤ i) : tk_y f to fr j i = f i := if_neg (by omega)
theorem tk_ys {f : Nat → Int32} {to fr j L : Nat} (hj : j < L) (hd : fr + L ≤ to ∨ to + L ≤ fr) : upd (tk_y f to fr j) (to + j) (tk_y f to fr j (fr + j)) = tk_y f to fr (j + 1) := by
  funext q
  rw [tk_yout (i := fr + j) (by omega)]
  refine tk_uc (P := fun y => y = tk_y f to fr (j + 1) q) (fun e => ?_) (fun e => ?_)
  · rw [e, tk_yin (by omega) (by omega)]
    exact congrArg f (by omega)
  · by_cases c : to ≤ q ∧ q < to + j
    · exact (if_pos c).trans (if_pos (by omega)).symm
    · exact (if_neg c).trans (if_neg (by omega)).symm
/-- j cells from lo on taken from the next cell -/
def tk_sh (f : Nat → Int32) (lo j : Nat) : Nat → Int32 := fun i => if lo ≤ i ∧ i < lo + j then f (i + 1) else f i
theorem tk_sh0 (f : Nat → Int32) (lo : Nat) : tk_sh f lo 0 = f := by funext i; exact if_neg (by omega)
theorem tk_shs (f : Nat → Int32) (lo j : Nat) : upd (tk_sh f lo j) (lo + j) (tk_sh f lo j (lo + j + 1)) = tk_sh f lo (j + 1) := by
  funext q
  have e0 : tk_sh f lo j (lo + j + 1) = f (lo + j + 1) := if_neg (by omega)
  rw [e0]
  refine tk_uc (P := fun y => y = tk_sh f lo (j + 1) q) (fun e => ?_) (fun e => ?_)
  · rw [e]; exact (if_pos (by omega)).symm
  · by_cases c : lo ≤ q ∧ q < lo + j
    · exact (if_pos c).trans (if_pos (by omega)).symm
    · exact (if_neg c).trans (if_neg (by omega)).symm
def tk_VS (st : Nat → Int32) : Prop := ∀ p, p < 6 → st p = 0 ∨ st p = 1 ∨ st p = 2 ∨ st p = 3
def tk_VD (st ds : Nat → Int32) : Prop := ∀ p, p < 6 → (st p = 0 ∨ st p = 3) → ∀ d, d < 4 → ds (4 * p + d) = 0
def tk_VE (ds : Nat → Int32) : Prop := ∀ i, i < 24 → ∃ e, e ≤ 6 ∧ ds i = nI e
def tk_VL (pl : Nat → Int32) : Prop := ∀ k, k < 3 → ∃ l, l ≤ 4 ∧ pl k = nI l
def tk_VP (st pa : Nat → Int32) : Prop := ∀ p, p < 6 → st p ≠ 0 → pa p = -1 ∨ ∃ j, j < 6 ∧ j ≠ p ∧ pa p = nI j
def tk_V (st pa ds pl qu : Nat → Int32) (n : Nat) : Prop := tk_VS st ∧ tk_VD st ds ∧ tk_VE ds ∧ tk_VL pl ∧ tk_VP st pa ∧ tk_Q st qu n
theorem tk_VPn {st pa : Nat → Int32} {p : Nat} (h : tk_VP st pa) (hp : p < 6) (h0 : st p ≠ 0) : pa p ≠ nI p := by
  intro e
  rcases h p hp h0 with a | ⟨j, a, b, c⟩
  · rw [a] at e; exact tk_nm1 (by omega) e.symm
  · rw [c] at e; exact b (tk_ni (by omega) (by omega) e)
/-- the states after process p is finished -/
def tk_fs (st pa : Nat → Int32) (p : Nat) : Nat → Int32 := upd (tk_cs st pa p 6) p (if pa p = -1 then 0 else 3)
theorem tk_fs_p (st pa : Nat → Int32) (p : Nat) : tk_fs st pa p p = 0 ∨ tk_fs st pa p p = 3 := by
  unfold tk_fs
  rw [pk_us]
  by_cases h : pa p = -1
  · exact Or.inl (if_pos h)
  · exact Or.inr (if_neg h)
theorem tk_fs_q {st pa : Nat → Int32} {p q : Nat} (h : q ≠ p) : tk_fs st pa p q = st q ∨ (tk_fs st pa p q = 0 ∧ st q = 3) := by
  unfold tk_fs
  rw [pk_un h]
  exact tk_cs_or _ _ _ _ _
theorem tk_fs_1 {st pa : Nat → Int32} {p q : Nat} (h : q ≠ p) (h1 : st q = 1) : tk_fs st pa p q = 1 := by
  rcases tk_fs_q (st := st) (pa := pa) h with a | ⟨_, b⟩
  · rw [a]; exact h1
  · rw [h1] at b; exact absurd b (by decide)
theorem tk_V_fin {st pa ds pl qu : Nat → Int32} {n p : Nat} (V : tk_V st pa ds pl qu n) (hp : p < 6) (h0 : st p ≠ 0) : tk_V (tk_fs st pa p) (tk_cp st pa p 6) (tk_z ds (4 * p) 4) pl (tk_lv qu (nI p) n).1 (tk_lv qu (nI p) n).2 := by
  obtain ⟨vs, vd, ve, vl, vp, vq⟩ := V
  refine ⟨?_, ?_, ?_, vl, ?_, ?_⟩
  · intro q hq
    by_cases e : q = p
    · rw [e]
      rcases tk_fs_p st pa p with a | a
      · exact Or.inl a
      · exact Or.inr (Or.inr (Or.inr a))
    · rcases tk_fs_q (st := st) (pa := pa) e with a | ⟨a, _⟩
      · rw [a]; exact vs q hq
      · exact Or.inl a
  · intro q hq hs d hd
    by_cases e : q = p
    · rw [e]; exact tk_zin (by omega) (by omega)
    · rw [tk_zout (by omega)]
      refine vd q hq ?_ d hd
      rcases tk_fs_q (st := st) (pa := pa) e with a | ⟨_, b⟩
      · rw [a] at hs; exact hs
      · exact Or.inr b
  · intro i hi
    by_cases c : 4 * p ≤ i ∧ i < 4 * p + 4
    · exact ⟨0, by omega, by rw [tk_zin c.1 c.2, nI_0]⟩
    · rw [tk_zout (by omega)]; exact ve i hi
  · intro q hq hs
    have k : st q ≠ 0 := by
      by_cases e : q = p
      · rw [e]; exact h0
      · rcases tk_fs_q (st := st) (pa := pa) e with a | ⟨a, _⟩
        · rw [a] at hs; exact hs
        · exact absurd a hs
    rcases tk_cp_or st pa p 6 q with a | a
    · rw [a]; exact vp q hq k
    · exact Or.inl a
  · refine tk_Qm (tk_Ql p vq) (fun j hj sj => ?_)
    by_cases e : j = p
    · rw [e]; exact Or.inl (tk_lo p vq)
    · exact Or.inr (tk_fs_1 e sj)
theorem tk_V_join {st pa ds pl qu : Nat → Int32} {n p : Nat} (V : tk_V st pa ds pl qu n) (hp : p < 6) (h0 : st p ≠ 0) (ho : tk_out qu n p) : tk_V (upd st p 1) pa ds pl (upd qu n (nI p)) (n + 1) := by
  obtain ⟨vs, vd, ve, vl, vp, vq⟩ := V
  refine ⟨?_, ?_, ve, vl, ?_, tk_Qa vq hp ho⟩
  · intro q hq
    exact tk_uc (P := fun y => y = 0 ∨ y = 1 ∨ y = 2 ∨ y = 3) (fun _ => Or.inr (Or.inl rfl)) (fun _ => vs q hq)
  · intro q hq hs
    by_cases e : q = p
    · rw [e, pk_us] at hs; exact absurd hs (by decide)
    · rw [pk_un e] at hs; exact vd q hq hs
  · intro q hq hs
    by_cases e : q = p
    · rw [e]; exact vp p hp h0
    · rw [pk_un e] at hs; exact vp q hq hs
theorem tk_V_wait {st pa ds pl qu : Nat → Int32} {n p : Nat} (V : tk_V st pa ds pl qu n) (hp : p < 6) (h0 : st p ≠ 0) (ho : tk_out qu n p) : tk_V (upd st p 2) pa ds pl qu n := by
  obtain ⟨vs, vd, ve, vl, vp, vq⟩ := V
  refine ⟨?_, ?_, ve, vl, ?_, ?_⟩
  · intro q hq
    exact tk_uc (P := fun y => y = 0 ∨ y = 1 ∨ y = 2 ∨ y = 3) (fun _ => Or.inr (Or.inr (Or.inl rfl))) (fun _ => vs q hq)
  · intro q hq hs
    by_cases e : q = p
    · rw [e, pk_us] at hs; exact absurd hs (by decide)
    · rw [pk_un e] at hs; exact vd q hq hs
  · intro q hq hs
    by_cases e : q = p
    · rw [e]; exact vp p hp h0
    · rw [pk_un e] at hs; exact vp q hq hs
  · refine tk_Qm vq (fun j hj sj => ?_)
    by_cases e : j = p
    · rw [e]; exact Or.inl ho
    · exact Or.inr (by rw [pk_un e]; exact sj)
theorem tk_V_new {st pa ds ds' pl qu : Nat → Int32} {n c : Nat} {x : Int32} (V : tk_V st pa ds pl qu n) (hc : c < 6) (h0 : st c = 0) (hx : x = -1 ∨ ∃ j, j < 6 ∧ j ≠ c ∧ x = nI j) (hd : ∀ i, i < 24 → i < 4 * c ∨ 4 * c + 4 ≤ i → ds' i = ds i) (he : tk_VE ds') : tk_V (upd st c 1) (upd pa c x) ds' pl (upd qu n (nI c)) (n + 1) := by
  obtain ⟨vs, vd, ve, vl, vp, vq⟩ := V
  refine ⟨?_, ?_, he, vl, ?_, tk_Qa vq hc (tk_Qo vq hc (by rw [h0]; decide))⟩
  · intro q hq
    exact tk_uc (P := fun y => y = 0 ∨ y = 1 ∨ y = 2 ∨ y = 3) (fun _ => Or.inr (Or.inl rfl)) (fun _ => vs q hq)
  · intro q hq hs d hdd
    by_cases e : q = c
    · rw [e, pk_us] at hs; exact absurd hs (by decide)
    · rw [pk_un e] at hs
      rw [hd _ (by omega) (by omega)]; exact vd q hq hs d hdd
  · intro q hq hs
    by_cases e : q = c
    · rw [e, pk_us]; exact hx
    · rw [pk_un e] at hs ⊢; exact vp q hq hs
theorem tk_V_free {st pa ds pl qu : Nat → Int32} {n c : Nat} (V : tk_V st pa ds pl qu n) (hc : c < 6) (h3 : st c = 3) : tk_V (upd st c 0) pa ds pl qu n := by
  obtain ⟨vs, vd, ve, vl, vp, vq⟩ := V
  refine ⟨?_, ?_, ve, vl, ?_, ?_⟩
  · intro q hq
    exact tk_uc (P := fun y => y = 0 ∨ y = 1 ∨ y = 2 ∨ y = 3) (fun _ => Or.inl rfl) (fun _ => vs q hq)
  · intro q hq hs
    by_cases e : q = c
    · rw [e]; exact vd c hc (Or.inr h3)
    · rw [pk_un e] at hs; exact vd q hq hs
  · intro q hq hs
    by_cases e : q = c
    · rw [e, pk_us] at hs; exact absurd rfl hs
    · rw [pk_un e] at hs; exact vp q hq hs
  · refine tk_Qm vq (fun j hj sj => ?_)
    by_cases e : j = c
    · rw [e, h3] at sj; exact absurd sj (by decide)
    · exact Or.inr (by rw [pk_un e]; exact sj)
theorem tk_V_ds {st pa ds pl qu : Nat → Int32} {n p d e : Nat} (V : tk_V st pa ds pl qu n) (hp : p < 6) (h1 : st p = 1) (hd : d < 4) (he : e ≤ 6) : tk_V st pa (upd ds (4 * p + d) (nI e)) pl qu n := by
  obtain ⟨vs, vd, ve, vl, vp, vq⟩ := V
  refine ⟨vs, ?_, ?_, vl, vp, vq⟩
  · intro q hq hs d' hd'
    by_cases z : q = p
    · rw [z, h1] at hs; exact absurd hs (by decide)
    · rw [pk_un (by omega)]; exact vd q hq hs d' hd'
  · intro i hi
    exact tk_uc (P := fun y => ∃ e, e ≤ 6 ∧ y = nI e) (fun _ => ⟨e, he, rfl⟩) (fun _ => ve i hi)
theorem tk_V_pl {st pa ds pl qu : Nat → Int32} {n k l : Nat} (V : tk_V st pa ds pl qu n) (hl : l ≤ 4) : tk_V st pa ds (upd pl k (nI l)) qu n := by
  obtain ⟨vs, vd, ve, vl, vp, vq⟩ := V
  refine ⟨vs, vd, ve, ?_, vp, vq⟩
  intro i hi
  exact tk_uc (P := fun y => ∃ e, e ≤ 4 ∧ y = nI e) (fun _ => ⟨l, hl, rfl⟩) (fun _ => vl i hi)
theorem tk_V_leave {st pa ds pl qu : Nat → Int32} {n : Nat} (p : Nat) (V : tk_V st pa ds pl qu n) : tk_V st pa ds pl (tk_lv qu (nI p) n).1 (tk_lv qu (nI p) n).2 := by
  obtain ⟨vs, vd, ve, vl, vp, vq⟩ := V
  exact ⟨vs, vd, ve, vl, vp, tk_Ql p vq⟩
/-- the spots: X keeps a live process's spot and an ended one's result apart, Y in one array; x is left out (6: none) -/
def tk_SP (x : Nat) (st sx rs sy : Nat → Int32) : Prop := ∀ q, q < 6 → q ≠ x → ((st q = 1 ∨ st q = 2) → sy q = sx q) ∧ (st q = 3 → sy q = rs q)
theorem tk_SPm {x : Nat} {st st' sx rs sy : Nat → Int32} (h : tk_SP x st sx rs sy) (hs : ∀ q, q < 6 → q ≠ x → st' q = 0 ∨ st' q = st q) : tk_SP x st' sx rs sy := by
  intro q hq hn
  rcases hs q hq hn with a | a
  · rw [a]; exact ⟨fun z => absurd z (by decide), fun z => absurd z (by decide)⟩
  · rw [a]; exact h q hq hn
theorem tk_SPl {x : Nat} {st st' sx rs sy : Nat → Int32} (h : tk_SP x st sx rs sy) (hs : ∀ q, q < 6 → q ≠ x → st' q = st q ∨ ((st q = 1 ∨ st q = 2) ∧ (st' q = 1 ∨ st' q = 2))) : tk_SP x st' sx rs sy := by
  intro q hq hn
  rcases hs q hq hn with a | ⟨a, b⟩
  · rw [a]; exact h q hq hn
  · exact ⟨fun _ => (h q hq hn).1 a, fun z => by rw [z] at b; exact absurd b (by decide)⟩
theorem tk_SP_fin {x p : Nat} {st pa sx rs sy : Nat → Int32} {r : Int32} (h : tk_SP x st sx rs sy) : tk_SP x (tk_fs st pa p) sx (upd rs p r) (upd sy p r) := by
  intro q hq hn
  by_cases e : q = p
  · rw [e, pk_us, pk_us]
    refine ⟨fun z => ?_, fun _ => rfl⟩
    rcases tk_fs_p st pa p with a | a
    · rw [a] at z; exact absurd z (by decide)
    · rw [a] at z; exact absurd z (by decide)
  · rw [pk_un e, pk_un e]
    rcases tk_fs_q (st := st) (pa := pa) e with a | ⟨a, _⟩
    · rw [a]; exact h q hq hn
    · rw [a]; exact ⟨fun z => absurd z (by decide), fun z => absurd z (by decide)⟩
theorem tk_SP_fin6 {p : Nat} {st pa sx rs sy : Nat → Int32} {r : Int32} (h : tk_SP p st sx rs sy) : tk_SP 6 (tk_fs st pa p) sx (upd rs p r) (upd sy p r) := by
  intro q hq hn
  by_cases e : q = p
  · rw [e, pk_us, pk_us]
    refine ⟨fun z => ?_, fun _ => rfl⟩
    rcases tk_fs_p st pa p with a | a
    · rw [a] at z; exact absurd z (by decide)
    · rw [a] at z; exact absurd z (by decide)
  · exact tk_SP_fin h q hq e
/-- a new process c, live, with the same spot on both sides -/
theorem tk_SP_new {x c : Nat} {st sx rs sy : Nat → Int32} {s : Int32} (h : tk_SP x st sx rs sy) : tk_SP x (upd st c 1) (upd sx c s) rs (upd sy c s) := by
  intro q hq hn
  by_cases e : q = c
  · rw [e, pk_us, pk_us, pk_us]
    exact ⟨fun _ => rfl, fun z => absurd z (by decide)⟩
  · rw [pk_un e, pk_un e, pk_un e]; exact h q hq hn
/-- one process's spot set alike on both sides while it is left out -/
theorem tk_SP_set {p : Nat} {st sx rs sy : Nat → Int32} {s : Int32} (h : tk_SP p st sx rs sy) (h1 : st p = 1) (es : sx p = s) : tk_SP 6 st sx rs (upd sy p s) := by
  intro q hq hn
  by_cases e : q = p
  · rw [e, pk_us, es, h1]
    exact ⟨fun _ => rfl, fun z => absurd z (by decide)⟩
  · rw [pk_un e]; exact h q hq e
theorem tk_SP_x {p : Nat} {st sx rs sy : Nat → Int32} {s : Int32} (h : tk_SP 6 st sx rs sy) : tk_SP p st (upd sx p s) rs sy := by
  intro q hq hn
  rw [pk_un hn]
  exact h q hq (by omega)
theorem tk_SP_jump {p : Nat} {st sx rs sy : Nat → Int32} {s : Int32} (h : tk_SP p st sx rs sy) (h1 : st p = 1) : tk_SP 6 st (upd sx p s) rs (upd sy p s) := by
  intro q hq hn
  by_cases e : q = p
  · rw [e, pk_us, pk_us, h1]
    exact ⟨fun _ => rfl, fun z => absurd z (by decide)⟩
  · rw [pk_un e, pk_un e]; exact h q hq e
